/-! printed by wip/gen35/build.py out of the decode rows: do not edit by hand -/
set_option maxHeartbeats 4000000 in
set_option maxRecDepth 100000 in
theorem c_Jxf58ca_isNaN_12338 (l : Launch) {G : va_G} {Λ : Lay} {μ : Mem} (hOK : LayOK Λ) {a0 : UInt32} {r : Int32} (hs : sJxf58ca_isNaN_12338 Λ μ a0 = some r) : CM l G Λ yJxf58ca_isNaN_12338 cJxf58ca_isNaN_12338 1 (some .boolean) 0 μ [.float a0] (QI G Λ r μ) := by
  refine ofM (own := RJxf58ca) (by decide +kernel) rfl (Nat.le_of_ble_eq_true rfl) (fun p e s m args below meth c ls hF hKK hW hr hlocks hl => ?_)
  have hx := hF.1
  have hb := hF.2.1
  have hA : ∀ q, inL Λ q → inL Λ q := fun _ h => h
  have hS : va_S (inL Λ) s.heap s.heap [] := va_S.rf
  have hl : lv_has ls 1 [(0, .float a0)] := hl
  unfold sJxf58ca_isNaN_12338 at hs
  refine lv_fload_n hx hb dJxf58ca_isNaN_12338_0 rfl (lv_at hl 0 rfl) ?_
  refine lv_fload_n hx hb dJxf58ca_isNaN_12338_1 rfl (lv_at hl 0 rfl) ?_
  refine lv_fcmp hx hb dJxf58ca_isNaN_12338_2 ?_
  refine lv_if_eq (tgt := 10) hx hb dJxf58ca_isNaN_12338_3 (by decide) (fun c1 => ?_) (fun c1 => ?_)
  · have hs := ite_t hs c1
    refine lv_iconst (v := (0 : Int32)) hx hb dJxf58ca_isNaN_12338_10 (by decide) ?_
    have h9 := Option.some.inj hs
    rw [← h9]
    exact wr_i hF hr hlocks (isB_nar (Or.inl rfl)) hW hS dJxf58ca_isNaN_12338_11
  · have hs := ite_f hs c1
    refine lv_iconst (v := (1 : Int32)) hx hb dJxf58ca_isNaN_12338_6 (by decide) ?_
    refine lv_goto (tgt := 11) hx hb dJxf58ca_isNaN_12338_7 (by decide) ?_
    have h9 := Option.some.inj hs
    rw [← h9]
    exact wr_i hF hr hlocks (isB_nar (Or.inr rfl)) hW hS dJxf58ca_isNaN_12338_11

set_option maxHeartbeats 4000000 in
set_option maxRecDepth 100000 in
theorem c_Jxf58ca_floatToIntBits_5c35a (l : Launch) {G : va_G} {Λ : Lay} {μ : Mem} (hOK : LayOK Λ) {a0 : UInt32} {r : Int32} (hs : sJxf58ca_floatToIntBits_5c35a Λ μ a0 = some r) : CM l G Λ yJxf58ca_floatToIntBits_5c35a cJxf58ca_floatToIntBits_5c35a 1 (some .int) 1 μ [.float a0] (QI G Λ r μ) := by
  refine ofM (own := RJxf58ca) (by decide +kernel) rfl (Nat.le_of_ble_eq_true rfl) (fun p e s m args below meth c ls hF hKK hW hr hlocks hl => ?_)
  have hx := hF.1
  have hb := hF.2.1
  have hA : ∀ q, inL Λ q → inL Λ q := fun _ h => h
  have hS : va_S (inL Λ) s.heap s.heap [] := va_S.rf
  have hl : lv_has ls 1 [(0, .float a0)] := hl
  unfold sJxf58ca_floatToIntBits_5c35a at hs
  refine lv_fload_n hx hb dJxf58ca_floatToIntBits_5c35a_0 rfl (lv_at hl 0 rfl) ?_
  obtain ⟨q1, hq1, hs⟩ := obind_e hs
  refine end_i (run_S hF hKK hW hS hl.1 (c_Jxf58ca_isNaN_12338 l hOK  hq1) (kw_Jxf58ca_59 hF.2.2.2.2 ⟨Nat.le_of_ble_eq_true rfl, Nat.le_of_ble_eq_true rfl⟩) rfl rfl (Nat.le_of_ble_eq_true rfl) dJxf58ca_floatToIntBits_5c35a_1 ⟨Nat.zero_le _, Nat.zero_le _⟩) hS (fun H locs hW hS => ?_)
  refine lv_if_ne (tgt := 12) hx hb dJxf58ca_floatToIntBits_5c35a_4 (by decide) (fun c2 => ?_) (fun c2 => ?_)
  · have hs := ite_f hs c2
    refine lv_ldc (v := (2143289344 : Int32)) hx hb hF.2.2.2.1 (hF.2.2.2.2 _ wd_766) dJxf58ca_floatToIntBits_5c35a_12 ?_
    have h9 := Option.some.inj hs
    rw [← h9]
    exact wr_i hF hr hlocks (vp_nar_int _) hW hS dJxf58ca_floatToIntBits_5c35a_14
  · have hs := ite_t hs c2
    refine lv_fload_n hx hb dJxf58ca_floatToIntBits_5c35a_7 rfl (lv_at hl 0 rfl) ?_
    refine vn_f2i hx hb (hF.2.2.1.trans hl.1.symm) hF.2.2.2.1 (hF.2.2.2.2 _ wd_763) (hF.2.2.2.2 _ wd_765) (hF.2.2.2.2 _ wd_764) (hF.2.2.2.2 _ wd_28) (Nat.le_of_ble_eq_true rfl) (Nat.le_of_ble_eq_true rfl) dJxf58ca_floatToIntBits_5c35a_8 ?_
    have h9 := Option.some.inj hs
    rw [← h9]
    exact wr_i hF hr hlocks (vp_nar_int _) hW hS dJxf58ca_floatToIntBits_5c35a_11
