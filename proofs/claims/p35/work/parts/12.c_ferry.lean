/-! printed by wip/gen35/build.py out of the decode rows: do not edit by hand -/
set_option maxHeartbeats 4000000 in
set_option maxRecDepth 100000 in
theorem c_X0_confirm (l : Launch) {G : va_G} {Λ : Lay} {μ : Mem} (hOK : LayOK Λ) {a0 : Nat} (k0 : inK Λ a0 0) {r : Mem} (hs : sX0_confirm Λ μ a0 = some r) : CM l G Λ yX0_confirm cX0_confirm 1 none 1 μ [.ref a0] (QV G Λ r) := by
  refine ofM (own := RX0) (by decide +kernel) rfl (Nat.le_of_ble_eq_true rfl) (fun p e s m args below meth c ls hF hKK hW hr hlocks hl => ?_)
  have hx := hF.1
  have hb := hF.2.1
  have hA : ∀ q, inL Λ q → inL Λ q := fun _ h => h
  have hS : va_S (inL Λ) s.heap s.heap [] := va_S.rf
  have hl : lv_has ls 1 [(0, .ref a0)] := hl
  unfold sX0_confirm at hs
  refine lv_aload_n hx hb dX0_confirm_0 rfl (lv_at hl 0 rfl) ?_
  refine lv_aload_n hx hb dX0_confirm_1 rfl (lv_at hl 0 rfl) ?_
  refine gf_0_1 hF hKK hW k0 dX0_confirm_2 ?_
  refine lv_iconst (v := (1 : Int32)) hx hb dX0_confirm_5 (by decide) ?_
  refine lv_iadd hx hb dX0_confirm_6 ?_
  refine lv_bipush (v := (9 : Int32)) hx hb dX0_confirm_7 (by decide) ?_
  refine lv_irem hx hb dX0_confirm_9 (by decide) ?_
  obtain ⟨μ1, eμ1, hs⟩ := bnd_e hs
  refine pf_0_1 hOK hF hKK hW hS hA k0 eμ1 dX0_confirm_10 (fun H locs hW hS => ?_)
  refine lv_aload_n hx hb dX0_confirm_13 rfl (lv_at hl 0 rfl) ?_
  refine lv_bipush (v := (8 : Int32)) hx hb dX0_confirm_14 (by decide) ?_
  refine lv_aload_n hx hb dX0_confirm_16 rfl (lv_at hl 0 rfl) ?_
  refine gf_0_2 hF hKK hW k0 dX0_confirm_17 ?_
  refine lv_iconst (v := (1 : Int32)) hx hb dX0_confirm_20 (by decide) ?_
  refine lv_iadd hx hb dX0_confirm_21 ?_
  refine va_mmin hx hb (hF.2.2.1.trans hl.1.symm) hF.2.2.2.1 (hF.2.2.2.2 _ wd_216) (hF.2.2.2.2 _ wd_217) (hF.2.2.2.2 _ wd_22) (hF.2.2.2.2 _ wd_218) (Nat.le_of_ble_eq_true rfl) (Nat.le_of_ble_eq_true rfl) (Nat.zero_le _) (Nat.zero_le _) dX0_confirm_22 ?_
  obtain ⟨μ2, eμ2, hs⟩ := bnd_e hs
  refine pf_0_2 hOK hF hKK hW hS hA k0 eμ2 dX0_confirm_25 (fun H locs hW hS => ?_)
  have h9 := Option.some.inj hs
  rw [← h9]
  exact wr_v hF hr hlocks hW hS dX0_confirm_28

set_option maxHeartbeats 4000000 in
set_option maxRecDepth 100000 in
theorem c_X0_count (l : Launch) {G : va_G} {Λ : Lay} {μ : Mem} (hOK : LayOK Λ) {a0 : Nat} (k0 : inK Λ a0 0) {r : Int32} (hs : sX0_count Λ μ a0 = some r) : CM l G Λ yX0_count cX0_count 1 (some .int) 0 μ [.ref a0] (QI G Λ r μ) := by
  refine ofM (own := RX0) (by decide +kernel) rfl (Nat.le_of_ble_eq_true rfl) (fun p e s m args below meth c ls hF hKK hW hr hlocks hl => ?_)
  have hx := hF.1
  have hb := hF.2.1
  have hA : ∀ q, inL Λ q → inL Λ q := fun _ h => h
  have hS : va_S (inL Λ) s.heap s.heap [] := va_S.rf
  have hl : lv_has ls 1 [(0, .ref a0)] := hl
  unfold sX0_count at hs
  refine lv_aload_n hx hb dX0_count_0 rfl (lv_at hl 0 rfl) ?_
  refine gf_0_2 hF hKK hW k0 dX0_count_1 ?_
  have h9 := Option.some.inj hs
  rw [← h9]
  exact wr_i hF hr hlocks (vp_nar_int _) hW hS dX0_count_4

set_option maxHeartbeats 4000000 in
set_option maxRecDepth 100000 in
theorem c_X0_forget (l : Launch) {G : va_G} {Λ : Lay} {μ : Mem} (hOK : LayOK Λ) {a0 : Nat} (k0 : inK Λ a0 0) {r : Mem} (hs : sX0_forget Λ μ a0 = some r) : CM l G Λ yX0_forget cX0_forget 1 none 0 μ [.ref a0] (QV G Λ r) := by
  refine ofM (own := RX0) (by decide +kernel) rfl (Nat.le_of_ble_eq_true rfl) (fun p e s m args below meth c ls hF hKK hW hr hlocks hl => ?_)
  have hx := hF.1
  have hb := hF.2.1
  have hA : ∀ q, inL Λ q → inL Λ q := fun _ h => h
  have hS : va_S (inL Λ) s.heap s.heap [] := va_S.rf
  have hl : lv_has ls 1 [(0, .ref a0)] := hl
  unfold sX0_forget at hs
  refine lv_aload_n hx hb dX0_forget_0 rfl (lv_at hl 0 rfl) ?_
  refine lv_iconst (v := (0 : Int32)) hx hb dX0_forget_1 (by decide) ?_
  obtain ⟨μ1, eμ1, hs⟩ := bnd_e hs
  refine pf_0_2 hOK hF hKK hW hS hA k0 eμ1 dX0_forget_2 (fun H locs hW hS => ?_)
  have h9 := Option.some.inj hs
  rw [← h9]
  exact wr_v hF hr hlocks hW hS dX0_forget_5

set_option maxHeartbeats 4000000 in
set_option maxRecDepth 100000 in
theorem c_X0_takeBack (l : Launch) {G : va_G} {Λ : Lay} {μ : Mem} (hOK : LayOK Λ) {a0 : Nat} (k0 : inK Λ a0 0) {a1 : Nat} (k1 : inK Λ a1 1) {r : Mem} (hs : sX0_takeBack Λ μ a0 a1 = some r) : CM l G Λ yX0_takeBack cX0_takeBack 2 none 3 μ [.ref a0, .ref a1] (QV G Λ r) := by
  refine ofM (own := RX0) (by decide +kernel) rfl (Nat.le_of_ble_eq_true rfl) (fun p e s m args below meth c ls hF hKK hW hr hlocks hl => ?_)
  have hx := hF.1
  have hb := hF.2.1
  have hA : ∀ q, inL Λ q → inL Λ q := fun _ h => h
  have hS : va_S (inL Λ) s.heap s.heap [] := va_S.rf
  have hl : lv_has ls 2 [(0, .ref a0), (1, .ref a1)] := hl
  unfold sX0_takeBack at hs
  refine lv_aload_n hx hb dX0_takeBack_0 rfl (lv_at hl 1 rfl) ?_
  refine lv_ifnull hx hb dX0_takeBack_1 ?_
  refine lv_aload_n hx hb dX0_takeBack_4 rfl (lv_at hl 0 rfl) ?_
  refine gf_0_1 hF hKK hW k0 dX0_takeBack_5 ?_
  refine lv_if_lt (tgt := 36) hx hb dX0_takeBack_8 (by decide) (fun c1 => ?_) (fun c1 => ?_)
  · have hs := ite_t hs c1
    have h9 := Option.some.inj hs
    rw [← h9]
    exact wr_v hF hr hlocks hW hS dX0_takeBack_36
  · have hs := ite_f hs c1
    refine lv_aload_n hx hb dX0_takeBack_11 rfl (lv_at hl 0 rfl) ?_
    refine gf_0_1 hF hKK hW k0 dX0_takeBack_12 ?_
    refine lv_aload_n hx hb dX0_takeBack_15 rfl (lv_at hl 0 rfl) ?_
    refine gf_0_0 hF hKK hW k0 dX0_takeBack_16 ?_
    refine ga_len9 hF hKK hW (lk_0_0 hOK k0) dX0_takeBack_19 ?_
    refine lv_icmp_ge (tgt := 36) hx hb dX0_takeBack_20 (by decide) (fun c2 => ?_) (fun c2 => ?_)
    · have hs := ite_t hs c2
      have h9 := Option.some.inj hs
      rw [← h9]
      exact wr_v hF hr hlocks hW hS dX0_takeBack_36
    · have hs := ite_f hs c2
      refine lv_aload_n hx hb dX0_takeBack_23 rfl (lv_at hl 1 rfl) ?_
      refine lv_aload_n hx hb dX0_takeBack_24 rfl (lv_at hl 0 rfl) ?_
      refine gf_0_0 hF hKK hW k0 dX0_takeBack_25 ?_
      refine lv_aload_n hx hb dX0_takeBack_28 rfl (lv_at hl 0 rfl) ?_
      refine gf_0_1 hF hKK hW k0 dX0_takeBack_29 ?_
      obtain ⟨g3, hs⟩ := gd_some hs
      refine gq_ld9 hF hKK hW (lk_0_0 hOK k0) g3 dX0_takeBack_32 ?_
      obtain ⟨q4, hq4, hs⟩ := obind_e hs
      refine end_v (run_V (q := (RX1, TX1, 7)) (ci := 1) hF hKK hW hS hl.1 k1 (by decide) rfl (c_X1_copyFrom l hOK k1 (lk_9 hOK (lk_0_0 hOK k0) (inb_lt g3)) hq4) (kw_X0_25 hF.2.2.2.2 ⟨Nat.le_of_ble_eq_true rfl, Nat.le_of_ble_eq_true rfl⟩) rfl rfl (Nat.le_of_ble_eq_true rfl) dX0_takeBack_33 ⟨Nat.zero_le _, Nat.zero_le _⟩) hS (fun H locs hW hS => ?_)
      have h9 := Option.some.inj hs
      rw [← h9]
      exact wr_v hF hr hlocks hW hS dX0_takeBack_36

set_option maxHeartbeats 4000000 in
set_option maxRecDepth 100000 in
theorem c_X0_goBack (l : Launch) {G : va_G} {Λ : Lay} {μ : Mem} (hOK : LayOK Λ) {a0 : Nat} (k0 : inK Λ a0 0) {a1 : Nat} (k1 : inK Λ a1 1) {r : (Int32 × Mem)} (hs : sX0_goBack Λ μ a0 a1 = some r) : CM l G Λ yX0_goBack cX0_goBack 2 (some .boolean) 4 μ [.ref a0, .ref a1] (QI G Λ r.1 r.2) := by
  refine ofM (own := RX0) (by decide +kernel) rfl (Nat.le_of_ble_eq_true rfl) (fun p e s m args below meth c ls hF hKK hW hr hlocks hl => ?_)
  have hx := hF.1
  have hb := hF.2.1
  have hA : ∀ q, inL Λ q → inL Λ q := fun _ h => h
  have hS : va_S (inL Λ) s.heap s.heap [] := va_S.rf
  have hl : lv_has ls 2 [(0, .ref a0), (1, .ref a1)] := hl
  unfold sX0_goBack at hs
  refine lv_aload_n hx hb dX0_goBack_0 rfl (lv_at hl 0 rfl) ?_
  refine gf_0_2 hF hKK hW k0 dX0_goBack_1 ?_
  refine lv_if_gt (tgt := 9) hx hb dX0_goBack_4 (by decide) (fun c1 => ?_) (fun c1 => ?_)
  · have hs := ite_t hs c1
    refine lv_aload_n hx hb dX0_goBack_9 rfl (lv_at hl 0 rfl) ?_
    refine lv_dup hx hb dX0_goBack_10 rfl ?_
    refine gf_0_2 hF hKK hW k0 dX0_goBack_11 ?_
    refine lv_iconst (v := (1 : Int32)) hx hb dX0_goBack_14 (by decide) ?_
    refine lv_isub hx hb dX0_goBack_15 ?_
    obtain ⟨μ2, eμ2, hs⟩ := bnd_e hs
    refine pf_0_2 hOK hF hKK hW hS hA k0 eμ2 dX0_goBack_16 (fun H locs hW hS => ?_)
    refine lv_aload_n hx hb dX0_goBack_19 rfl (lv_at hl 0 rfl) ?_
    refine lv_aload_n hx hb dX0_goBack_20 rfl (lv_at hl 0 rfl) ?_
    refine gf_0_1 hF hKK hW k0 dX0_goBack_21 ?_
    refine lv_bipush (v := (9 : Int32)) hx hb dX0_goBack_24 (by decide) ?_
    refine lv_iadd hx hb dX0_goBack_26 ?_
    refine lv_iconst (v := (1 : Int32)) hx hb dX0_goBack_27 (by decide) ?_
    refine lv_isub hx hb dX0_goBack_28 ?_
    refine lv_bipush (v := (9 : Int32)) hx hb dX0_goBack_29 (by decide) ?_
    refine lv_irem hx hb dX0_goBack_31 (by decide) ?_
    obtain ⟨μ3, eμ3, hs⟩ := bnd_e hs
    refine pf_0_1 hOK hF hKK hW hS hA k0 eμ3 dX0_goBack_32 (fun H locs hW hS => ?_)
    refine lv_aload_n hx hb dX0_goBack_35 rfl (lv_at hl 0 rfl) ?_
    refine lv_aload_n hx hb dX0_goBack_36 rfl (lv_at hl 1 rfl) ?_
    obtain ⟨q4, hq4, hs⟩ := obind_e hs
    refine end_v (run_V (q := (RX0, TX0, 3)) (ci := 0) hF hKK hW hS hl.1 k0 (by decide) rfl (c_X0_takeBack l hOK k0 k1 hq4) (kw_X0_35 hF.2.2.2.2 ⟨Nat.le_of_ble_eq_true rfl, Nat.le_of_ble_eq_true rfl⟩) rfl rfl (Nat.le_of_ble_eq_true rfl) dX0_goBack_37 ⟨Nat.zero_le _, Nat.zero_le _⟩) hS (fun H locs hW hS => ?_)
    refine lv_iconst (v := (1 : Int32)) hx hb dX0_goBack_40 (by decide) ?_
    have h9 := Option.some.inj hs
    rw [← h9]
    exact wr_i hF hr hlocks (isB_nar (Or.inr rfl)) hW hS dX0_goBack_41
  · have hs := ite_f hs c1
    refine lv_iconst (v := (0 : Int32)) hx hb dX0_goBack_7 (by decide) ?_
    have h9 := Option.some.inj hs
    rw [← h9]
    exact wr_i hF hr hlocks (isB_nar (Or.inl rfl)) hW hS dX0_goBack_8

set_option maxHeartbeats 4000000 in
set_option maxRecDepth 100000 in
theorem c_X0_note (l : Launch) {G : va_G} {Λ : Lay} {μ : Mem} (hOK : LayOK Λ) {a0 : Nat} (k0 : inK Λ a0 0) {a1 : Nat} (k1 : inK Λ a1 1) {r : Mem} (hs : sX0_note Λ μ a0 a1 = some r) : CM l G Λ yX0_note cX0_note 3 none 3 μ [.ref a0, .ref a1] (QV G Λ r) := by
  refine ofM (own := RX0) (by decide +kernel) rfl (Nat.le_of_ble_eq_true rfl) (fun p e s m args below meth c ls hF hKK hW hr hlocks hl => ?_)
  have hx := hF.1
  have hb := hF.2.1
  have hA : ∀ q, inL Λ q → inL Λ q := fun _ h => h
  have hS : va_S (inL Λ) s.heap s.heap [] := va_S.rf
  have hl : lv_has ls 3 [(0, .ref a0), (1, .ref a1)] := hl
  unfold sX0_note at hs
  refine lv_aload_n hx hb dX0_note_0 rfl (lv_at hl 0 rfl) ?_
  refine gf_0_1 hF hKK hW k0 dX0_note_1 ?_
  refine lv_if_lt (tgt := 19) hx hb dX0_note_4 (by decide) (fun c1 => ?_) (fun c1 => ?_)
  · have hs := ite_t hs c1
    have h9 := Option.some.inj hs
    rw [← h9]
    exact wr_v hF hr hlocks hW hS dX0_note_19
  · have hs := ite_f hs c1
    refine lv_aload_n hx hb dX0_note_7 rfl (lv_at hl 0 rfl) ?_
    refine gf_0_1 hF hKK hW k0 dX0_note_8 ?_
    refine lv_aload_n hx hb dX0_note_11 rfl (lv_at hl 0 rfl) ?_
    refine gf_0_0 hF hKK hW k0 dX0_note_12 ?_
    refine ga_len9 hF hKK hW (lk_0_0 hOK k0) dX0_note_15 ?_
    refine lv_icmp_lt (tgt := 20) hx hb dX0_note_16 (by decide) (fun c2 => ?_) (fun c2 => ?_)
    · have hs := ite_t hs c2
      refine lv_aload_n hx hb dX0_note_20 rfl (lv_at hl 0 rfl) ?_
      refine gf_0_0 hF hKK hW k0 dX0_note_21 ?_
      refine lv_aload_n hx hb dX0_note_24 rfl (lv_at hl 0 rfl) ?_
      refine gf_0_1 hF hKK hW k0 dX0_note_25 ?_
      obtain ⟨g3, hs⟩ := gd_some hs
      refine gq_ld9 hF hKK hW (lk_0_0 hOK k0) g3 dX0_note_28 ?_
      refine lv_astore_n (lv' := [(2, .ref (lyE Λ (lyR Λ a0 0) (mI μ a0 1).toNatClampNeg)), (0, .ref a0), (1, .ref a1)]) hx hb dX0_note_29 rfl hl (by decide) rfl (fun ls hl => ?_)
      refine lv_aload_n hx hb dX0_note_30 rfl (lv_at hl 0 rfl) ?_
      refine lv_ifnull hx hb dX0_note_31 ?_
      refine lv_aload_n hx hb dX0_note_34 rfl (lv_at hl 0 rfl) ?_
      refine lv_aload_n hx hb dX0_note_35 rfl (lv_at hl 2 rfl) ?_
      obtain ⟨q4, hq4, hs⟩ := obind_e hs
      refine end_v (run_V (q := (RX1, TX1, 7)) (ci := 1) hF hKK hW hS hl.1 (lk_9 hOK (lk_0_0 hOK k0) (inb_lt g3)) (by decide) rfl (c_X1_copyFrom l hOK (lk_9 hOK (lk_0_0 hOK k0) (inb_lt g3)) k1 hq4) (kw_X0_25 hF.2.2.2.2 ⟨Nat.le_of_ble_eq_true rfl, Nat.le_of_ble_eq_true rfl⟩) rfl rfl (Nat.le_of_ble_eq_true rfl) dX0_note_36 ⟨Nat.zero_le _, Nat.zero_le _⟩) hS (fun H locs hW hS => ?_)
      have h9 := Option.some.inj hs
      rw [← h9]
      exact wr_v hF hr hlocks hW hS dX0_note_39
    · have hs := ite_f hs c2
      have h9 := Option.some.inj hs
      rw [← h9]
      exact wr_v hF hr hlocks hW hS dX0_note_19

set_option maxHeartbeats 4000000 in
set_option maxRecDepth 100000 in
theorem c_X3_commands (l : Launch) {G : va_G} {Λ : Lay} {μ : Mem} (hOK : LayOK Λ) {a0 : Nat} (k0 : inK Λ a0 3) {r : Int32} (hs : sX3_commands Λ μ a0 = some r) : CM l G Λ yX3_commands cX3_commands 1 (some .int) 1 μ [.ref a0] (QI G Λ r μ) := by
  refine ofM (own := RX3) (by decide +kernel) rfl (Nat.le_of_ble_eq_true rfl) (fun p e s m args below meth c ls hF hKK hW hr hlocks hl => ?_)
  have hx := hF.1
  have hb := hF.2.1
  have hA : ∀ q, inL Λ q → inL Λ q := fun _ h => h
  have hS : va_S (inL Λ) s.heap s.heap [] := va_S.rf
  have hl : lv_has ls 1 [(0, .ref a0)] := hl
  unfold sX3_commands at hs
  refine lv_aload_n hx hb dX3_commands_0 rfl (lv_at hl 0 rfl) ?_
  refine gf_3_0 hF hKK hW k0 dX3_commands_1 ?_
  obtain ⟨q1, hq1, hs⟩ := obind_e hs
  refine end_i (run_V (q := (RX2, TX2, 2)) (ci := 2) hF hKK hW hS hl.1 (lk_3_0 hOK k0) (by decide) rfl (c_X2_length l hOK (lk_3_0 hOK k0) hq1) (kw_X3_26 hF.2.2.2.2 ⟨Nat.le_of_ble_eq_true rfl, Nat.le_of_ble_eq_true rfl⟩) rfl rfl (Nat.le_of_ble_eq_true rfl) dX3_commands_4 ⟨Nat.zero_le _, Nat.zero_le _⟩) hS (fun H locs hW hS => ?_)
  have h9 := Option.some.inj hs
  rw [← h9]
  exact wr_i hF hr hlocks (vp_nar_int _) hW hS dX3_commands_7

set_option maxHeartbeats 4000000 in
set_option maxRecDepth 100000 in
theorem c_X3_fits (l : Launch) {G : va_G} {Λ : Lay} {μ : Mem} (hOK : LayOK Λ) {a0 : Int32} {a1 : Int32} {r : Int32} (hs : sX3_fits Λ μ a0 a1 = some r) : CM l G Λ yX3_fits cX3_fits 2 (some .boolean) 0 μ [.int a0, .int a1] (QI G Λ r μ) := by
  refine ofM (own := RX3) (by decide +kernel) rfl (Nat.le_of_ble_eq_true rfl) (fun p e s m args below meth c ls hF hKK hW hr hlocks hl => ?_)
  have hx := hF.1
  have hb := hF.2.1
  have hA : ∀ q, inL Λ q → inL Λ q := fun _ h => h
  have hS : va_S (inL Λ) s.heap s.heap [] := va_S.rf
  have hl : lv_has ls 2 [(0, .int a0), (1, .int a1)] := hl
  unfold sX3_fits at hs
  refine lv_iload_n hx hb dX3_fits_0 rfl (lv_at hl 0 rfl) ?_
  by_cases c1 : a0 = (117 : Int32)
  · have hs := ite_t hs c1
    refine lv_lookup (off := 39) (tgt := 40) hx hb dX3_fits_1 (by decide) (by rw [c1]; decide) (by decide) ?_
    refine lv_iload_n hx hb dX3_fits_40 rfl (lv_at hl 1 rfl) ?_
    refine lv_bipush (v := (43 : Int32)) hx hb dX3_fits_41 (by decide) ?_
    refine lv_icmp_eq (tgt := 52) hx hb dX3_fits_43 (by decide) (fun c2 => ?_) (fun c2 => ?_)
    · have hs := ite_t hs c2
      refine lv_iconst (v := (1 : Int32)) hx hb dX3_fits_52 (by decide) ?_
      refine lv_goto (tgt := 57) hx hb dX3_fits_53 (by decide) ?_
      have h9 := Option.some.inj hs
      rw [← h9]
      exact wr_i hF hr hlocks (isB_nar (Or.inr rfl)) hW hS dX3_fits_57
    · have hs := ite_f hs c2
      refine lv_iload_n hx hb dX3_fits_46 rfl (lv_at hl 1 rfl) ?_
      refine lv_bipush (v := (45 : Int32)) hx hb dX3_fits_47 (by decide) ?_
      refine lv_icmp_ne (tgt := 56) hx hb dX3_fits_49 (by decide) (fun c3 => ?_) (fun c3 => ?_)
      · have hs := ite_f hs c3
        refine lv_iconst (v := (0 : Int32)) hx hb dX3_fits_56 (by decide) ?_
        have h9 := Option.some.inj hs
        rw [← h9]
        exact wr_i hF hr hlocks (isB_nar (Or.inl rfl)) hW hS dX3_fits_57
      · have hs := ite_t hs c3
        refine lv_iconst (v := (1 : Int32)) hx hb dX3_fits_52 (by decide) ?_
        refine lv_goto (tgt := 57) hx hb dX3_fits_53 (by decide) ?_
        have h9 := Option.some.inj hs
        rw [← h9]
        exact wr_i hF hr hlocks (isB_nar (Or.inr rfl)) hW hS dX3_fits_57
  have hs := ite_f hs c1
  by_cases c4 : a0 = (119 : Int32)
  · have hs := ite_t hs c4
    refine lv_lookup (off := 27) (tgt := 28) hx hb dX3_fits_1 (by decide) (by rw [c4]; decide) (by decide) ?_
    refine lv_iload_n hx hb dX3_fits_28 rfl (lv_at hl 1 rfl) ?_
    refine lv_bipush (v := (61 : Int32)) hx hb dX3_fits_29 (by decide) ?_
    refine lv_icmp_ne (tgt := 38) hx hb dX3_fits_31 (by decide) (fun c5 => ?_) (fun c5 => ?_)
    · have hs := ite_f hs c5
      refine lv_iconst (v := (0 : Int32)) hx hb dX3_fits_38 (by decide) ?_
      have h9 := Option.some.inj hs
      rw [← h9]
      exact wr_i hF hr hlocks (isB_nar (Or.inl rfl)) hW hS dX3_fits_39
    · have hs := ite_t hs c5
      refine lv_iconst (v := (1 : Int32)) hx hb dX3_fits_34 (by decide) ?_
      refine lv_goto (tgt := 39) hx hb dX3_fits_35 (by decide) ?_
      have h9 := Option.some.inj hs
      rw [← h9]
      exact wr_i hF hr hlocks (isB_nar (Or.inr rfl)) hW hS dX3_fits_39
  have hs := ite_f hs c4
  refine lv_lookup (off := 57) (tgt := 58) hx hb dX3_fits_1 (by decide) ((lv_osw c1 (by decide)).trans ((lv_osw c4 (by decide)).trans rfl)) (by decide) ?_
  refine lv_iload_n hx hb dX3_fits_58 rfl (lv_at hl 1 rfl) ?_
  refine lv_bipush (v := (126 : Int32)) hx hb dX3_fits_59 (by decide) ?_
  refine lv_icmp_ne (tgt := 68) hx hb dX3_fits_61 (by decide) (fun c6 => ?_) (fun c6 => ?_)
  · have hs := ite_f hs c6
    refine lv_iconst (v := (0 : Int32)) hx hb dX3_fits_68 (by decide) ?_
    have h9 := Option.some.inj hs
    rw [← h9]
    exact wr_i hF hr hlocks (isB_nar (Or.inl rfl)) hW hS dX3_fits_69
  · have hs := ite_t hs c6
    refine lv_iconst (v := (1 : Int32)) hx hb dX3_fits_64 (by decide) ?_
    refine lv_goto (tgt := 69) hx hb dX3_fits_65 (by decide) ?_
    have h9 := Option.some.inj hs
    rw [← h9]
    exact wr_i hF hr hlocks (isB_nar (Or.inr rfl)) hW hS dX3_fits_69

set_option maxHeartbeats 4000000 in
set_option maxRecDepth 100000 in
theorem c_X3_isKind (l : Launch) {G : va_G} {Λ : Lay} {μ : Mem} (hOK : LayOK Λ) {a0 : Int32} {r : Int32} (hs : sX3_isKind Λ μ a0 = some r) : CM l G Λ yX3_isKind cX3_isKind 1 (some .boolean) 0 μ [.int a0] (QI G Λ r μ) := by
  refine ofM (own := RX3) (by decide +kernel) rfl (Nat.le_of_ble_eq_true rfl) (fun p e s m args below meth c ls hF hKK hW hr hlocks hl => ?_)
  have hx := hF.1
  have hb := hF.2.1
  have hA : ∀ q, inL Λ q → inL Λ q := fun _ h => h
  have hS : va_S (inL Λ) s.heap s.heap [] := va_S.rf
  have hl : lv_has ls 1 [(0, .int a0)] := hl
  unfold sX3_isKind at hs
  refine lv_iload_n hx hb dX3_isKind_0 rfl (lv_at hl 0 rfl) ?_
  refine lv_bipush (v := (98 : Int32)) hx hb dX3_isKind_1 (by decide) ?_
  refine lv_icmp_eq (tgt := 36) hx hb dX3_isKind_3 (by decide) (fun c1 => ?_) (fun c1 => ?_)
  · have hs := ite_t hs c1
    refine lv_iconst (v := (1 : Int32)) hx hb dX3_isKind_36 (by decide) ?_
    refine lv_goto (tgt := 41) hx hb dX3_isKind_37 (by decide) ?_
    have h9 := Option.some.inj hs
    rw [← h9]
    exact wr_i hF hr hlocks (isB_nar (Or.inr rfl)) hW hS dX3_isKind_41
  · have hs := ite_f hs c1
    refine lv_iload_n hx hb dX3_isKind_6 rfl (lv_at hl 0 rfl) ?_
    refine lv_bipush (v := (119 : Int32)) hx hb dX3_isKind_7 (by decide) ?_
    refine lv_icmp_eq (tgt := 36) hx hb dX3_isKind_9 (by decide) (fun c2 => ?_) (fun c2 => ?_)
    · have hs := ite_t hs c2
      refine lv_iconst (v := (1 : Int32)) hx hb dX3_isKind_36 (by decide) ?_
      refine lv_goto (tgt := 41) hx hb dX3_isKind_37 (by decide) ?_
      have h9 := Option.some.inj hs
      rw [← h9]
      exact wr_i hF hr hlocks (isB_nar (Or.inr rfl)) hW hS dX3_isKind_41
    · have hs := ite_f hs c2
      refine lv_iload_n hx hb dX3_isKind_12 rfl (lv_at hl 0 rfl) ?_
      refine lv_bipush (v := (106 : Int32)) hx hb dX3_isKind_13 (by decide) ?_
      refine lv_icmp_eq (tgt := 36) hx hb dX3_isKind_15 (by decide) (fun c3 => ?_) (fun c3 => ?_)
      · have hs := ite_t hs c3
        refine lv_iconst (v := (1 : Int32)) hx hb dX3_isKind_36 (by decide) ?_
        refine lv_goto (tgt := 41) hx hb dX3_isKind_37 (by decide) ?_
        have h9 := Option.some.inj hs
        rw [← h9]
        exact wr_i hF hr hlocks (isB_nar (Or.inr rfl)) hW hS dX3_isKind_41
      · have hs := ite_f hs c3
        refine lv_iload_n hx hb dX3_isKind_18 rfl (lv_at hl 0 rfl) ?_
        refine lv_bipush (v := (99 : Int32)) hx hb dX3_isKind_19 (by decide) ?_
        refine lv_icmp_eq (tgt := 36) hx hb dX3_isKind_21 (by decide) (fun c4 => ?_) (fun c4 => ?_)
        · have hs := ite_t hs c4
          refine lv_iconst (v := (1 : Int32)) hx hb dX3_isKind_36 (by decide) ?_
          refine lv_goto (tgt := 41) hx hb dX3_isKind_37 (by decide) ?_
          have h9 := Option.some.inj hs
          rw [← h9]
          exact wr_i hF hr hlocks (isB_nar (Or.inr rfl)) hW hS dX3_isKind_41
        · have hs := ite_f hs c4
          refine lv_iload_n hx hb dX3_isKind_24 rfl (lv_at hl 0 rfl) ?_
          refine lv_bipush (v := (116 : Int32)) hx hb dX3_isKind_25 (by decide) ?_
          refine lv_icmp_eq (tgt := 36) hx hb dX3_isKind_27 (by decide) (fun c5 => ?_) (fun c5 => ?_)
          · have hs := ite_t hs c5
            refine lv_iconst (v := (1 : Int32)) hx hb dX3_isKind_36 (by decide) ?_
            refine lv_goto (tgt := 41) hx hb dX3_isKind_37 (by decide) ?_
            have h9 := Option.some.inj hs
            rw [← h9]
            exact wr_i hF hr hlocks (isB_nar (Or.inr rfl)) hW hS dX3_isKind_41
          · have hs := ite_f hs c5
            refine lv_iload_n hx hb dX3_isKind_30 rfl (lv_at hl 0 rfl) ?_
            refine lv_bipush (v := (117 : Int32)) hx hb dX3_isKind_31 (by decide) ?_
            refine lv_icmp_ne (tgt := 40) hx hb dX3_isKind_33 (by decide) (fun c6 => ?_) (fun c6 => ?_)
            · have hs := ite_f hs c6
              refine lv_iconst (v := (0 : Int32)) hx hb dX3_isKind_40 (by decide) ?_
              have h9 := Option.some.inj hs
              rw [← h9]
              exact wr_i hF hr hlocks (isB_nar (Or.inl rfl)) hW hS dX3_isKind_41
            · have hs := ite_t hs c6
              refine lv_iconst (v := (1 : Int32)) hx hb dX3_isKind_36 (by decide) ?_
              refine lv_goto (tgt := 41) hx hb dX3_isKind_37 (by decide) ?_
              have h9 := Option.some.inj hs
              rw [← h9]
              exact wr_i hF hr hlocks (isB_nar (Or.inr rfl)) hW hS dX3_isKind_41

set_option maxHeartbeats 4000000 in
set_option maxRecDepth 100000 in
theorem c_X3_isDigit (l : Launch) {G : va_G} {Λ : Lay} {μ : Mem} (hOK : LayOK Λ) {a0 : Int32} {r : Int32} (hs : sX3_isDigit Λ μ a0 = some r) : CM l G Λ yX3_isDigit cX3_isDigit 1 (some .boolean) 0 μ [.int a0] (QI G Λ r μ) := by
  refine ofM (own := RX3) (by decide +kernel) rfl (Nat.le_of_ble_eq_true rfl) (fun p e s m args below meth c ls hF hKK hW hr hlocks hl => ?_)
  have hx := hF.1
  have hb := hF.2.1
  have hA : ∀ q, inL Λ q → inL Λ q := fun _ h => h
  have hS : va_S (inL Λ) s.heap s.heap [] := va_S.rf
  have hl : lv_has ls 1 [(0, .int a0)] := hl
  unfold sX3_isDigit at hs
  refine lv_iload_n hx hb dX3_isDigit_0 rfl (lv_at hl 0 rfl) ?_
  refine lv_bipush (v := (48 : Int32)) hx hb dX3_isDigit_1 (by decide) ?_
  refine lv_icmp_lt (tgt := 16) hx hb dX3_isDigit_3 (by decide) (fun c1 => ?_) (fun c1 => ?_)
  · have hs := ite_t hs c1
    refine lv_iconst (v := (0 : Int32)) hx hb dX3_isDigit_16 (by decide) ?_
    have h9 := Option.some.inj hs
    rw [← h9]
    exact wr_i hF hr hlocks (isB_nar (Or.inl rfl)) hW hS dX3_isDigit_17
  · have hs := ite_f hs c1
    refine lv_iload_n hx hb dX3_isDigit_6 rfl (lv_at hl 0 rfl) ?_
    refine lv_bipush (v := (57 : Int32)) hx hb dX3_isDigit_7 (by decide) ?_
    refine lv_icmp_gt (tgt := 16) hx hb dX3_isDigit_9 (by decide) (fun c2 => ?_) (fun c2 => ?_)
    · have hs := ite_t hs c2
      refine lv_iconst (v := (0 : Int32)) hx hb dX3_isDigit_16 (by decide) ?_
      have h9 := Option.some.inj hs
      rw [← h9]
      exact wr_i hF hr hlocks (isB_nar (Or.inl rfl)) hW hS dX3_isDigit_17
    · have hs := ite_f hs c2
      refine lv_iconst (v := (1 : Int32)) hx hb dX3_isDigit_12 (by decide) ?_
      refine lv_goto (tgt := 17) hx hb dX3_isDigit_13 (by decide) ?_
      have h9 := Option.some.inj hs
      rw [← h9]
      exact wr_i hF hr hlocks (isB_nar (Or.inr rfl)) hW hS dX3_isDigit_17

set_option maxHeartbeats 4000000 in
set_option maxRecDepth 100000 in
theorem c_X3_takeNumber (l : Launch) {G : va_G} {Λ : Lay} {μ : Mem} (hOK : LayOK Λ) {a0 : Nat} (k0 : inK Λ a0 3) {a1 : Nat} (k1 : inK Λ a1 2) {r : (Int32 × Mem)} (hs : sX3_takeNumber Λ μ a0 a1 = some r) : CM l G Λ yX3_takeNumber cX3_takeNumber 2 (some .boolean) 1 μ [.ref a0, .ref a1] (QI G Λ r.1 r.2) := by
  refine ofM (own := RX3) (by decide +kernel) rfl (Nat.le_of_ble_eq_true rfl) (fun p e s m args below meth c ls hF hKK hW hr hlocks hl => ?_)
  have hx := hF.1
  have hb := hF.2.1
  have hA : ∀ q, inL Λ q → inL Λ q := fun _ h => h
  have hS : va_S (inL Λ) s.heap s.heap [] := va_S.rf
  have hl : lv_has ls 2 [(0, .ref a0), (1, .ref a1)] := hl
  unfold sX3_takeNumber at hs
  refine lv_aload_n hx hb dX3_takeNumber_0 rfl (lv_at hl 1 rfl) ?_
  refine lv_aload_n hx hb dX3_takeNumber_1 rfl (lv_at hl 0 rfl) ?_
  refine gf_3_3 hF hKK hW k0 dX3_takeNumber_2 ?_
  obtain ⟨q1, hq1, hs⟩ := obind_e hs
  refine end_i (run_V (q := (RX2, TX2, 2)) (ci := 2) hF hKK hW hS hl.1 k1 (by decide) rfl (c_X2_get l hOK k1 hq1) (kw_X3_30 hF.2.2.2.2 ⟨Nat.le_of_ble_eq_true rfl, Nat.le_of_ble_eq_true rfl⟩) rfl rfl (Nat.le_of_ble_eq_true rfl) dX3_takeNumber_5 ⟨Nat.zero_le _, Nat.zero_le _⟩) hS (fun H locs hW hS => ?_)
  obtain ⟨q2, hq2, hs⟩ := obind_e hs
  refine end_i (run_S hF hKK hW hS hl.1 (c_X3_isDigit l hOK  hq2) (kw_X3_62 hF.2.2.2.2 ⟨Nat.le_of_ble_eq_true rfl, Nat.le_of_ble_eq_true rfl⟩) rfl rfl (Nat.le_of_ble_eq_true rfl) dX3_takeNumber_8 ⟨Nat.zero_le _, Nat.zero_le _⟩) hS (fun H locs hW hS => ?_)
  refine lv_if_ne (tgt := 16) hx hb dX3_takeNumber_11 (by decide) (fun c3 => ?_) (fun c3 => ?_)
  · have hs := ite_f hs c3
    refine lv_aload_n hx hb dX3_takeNumber_16 rfl (lv_at hl 0 rfl) ?_
    refine lv_aload_n hx hb dX3_takeNumber_17 rfl (lv_at hl 1 rfl) ?_
    refine lv_aload_n hx hb dX3_takeNumber_18 rfl (lv_at hl 0 rfl) ?_
    refine gf_3_3 hF hKK hW k0 dX3_takeNumber_19 ?_
    obtain ⟨q4, hq4, hs⟩ := obind_e hs
    refine end_i (run_V (q := (RX2, TX2, 2)) (ci := 2) hF hKK hW hS hl.1 k1 (by decide) rfl (c_X2_get l hOK k1 hq4) (kw_X3_30 hF.2.2.2.2 ⟨Nat.le_of_ble_eq_true rfl, Nat.le_of_ble_eq_true rfl⟩) rfl rfl (Nat.le_of_ble_eq_true rfl) dX3_takeNumber_22 ⟨Nat.zero_le _, Nat.zero_le _⟩) hS (fun H locs hW hS => ?_)
    refine lv_bipush (v := (48 : Int32)) hx hb dX3_takeNumber_25 (by decide) ?_
    refine lv_isub hx hb dX3_takeNumber_27 ?_
    obtain ⟨μ5, eμ5, hs⟩ := bnd_e hs
    refine pf_3_4 hOK hF hKK hW hS hA k0 eμ5 dX3_takeNumber_28 (fun H locs hW hS => ?_)
    refine lv_aload_n hx hb dX3_takeNumber_31 rfl (lv_at hl 0 rfl) ?_
    refine lv_dup hx hb dX3_takeNumber_32 rfl ?_
    refine gf_3_3 hF hKK hW k0 dX3_takeNumber_33 ?_
    refine lv_iconst (v := (1 : Int32)) hx hb dX3_takeNumber_36 (by decide) ?_
    refine lv_iadd hx hb dX3_takeNumber_37 ?_
    obtain ⟨μ6, eμ6, hs⟩ := bnd_e hs
    refine pf_3_3 hOK hF hKK hW hS hA k0 eμ6 dX3_takeNumber_38 (fun H locs hW hS => ?_)
    refine lv_aload_n hx hb dX3_takeNumber_41 rfl (lv_at hl 1 rfl) ?_
    refine lv_aload_n hx hb dX3_takeNumber_42 rfl (lv_at hl 0 rfl) ?_
    refine gf_3_3 hF hKK hW k0 dX3_takeNumber_43 ?_
    obtain ⟨q7, hq7, hs⟩ := obind_e hs
    refine end_i (run_V (q := (RX2, TX2, 2)) (ci := 2) hF hKK hW hS hl.1 k1 (by decide) rfl (c_X2_get l hOK k1 hq7) (kw_X3_30 hF.2.2.2.2 ⟨Nat.le_of_ble_eq_true rfl, Nat.le_of_ble_eq_true rfl⟩) rfl rfl (Nat.le_of_ble_eq_true rfl) dX3_takeNumber_46 ⟨Nat.zero_le _, Nat.zero_le _⟩) hS (fun H locs hW hS => ?_)
    obtain ⟨q8, hq8, hs⟩ := obind_e hs
    refine end_i (run_S hF hKK hW hS hl.1 (c_X3_isDigit l hOK  hq8) (kw_X3_62 hF.2.2.2.2 ⟨Nat.le_of_ble_eq_true rfl, Nat.le_of_ble_eq_true rfl⟩) rfl rfl (Nat.le_of_ble_eq_true rfl) dX3_takeNumber_49 ⟨Nat.zero_le _, Nat.zero_le _⟩) hS (fun H locs hW hS => ?_)
    refine lv_if_eq (tgt := 88) hx hb dX3_takeNumber_52 (by decide) (fun c9 => ?_) (fun c9 => ?_)
    · have hs := ite_t hs c9
      refine lv_iconst (v := (1 : Int32)) hx hb dX3_takeNumber_88 (by decide) ?_
      have h9 := Option.some.inj hs
      rw [← h9]
      exact wr_i hF hr hlocks (isB_nar (Or.inr rfl)) hW hS dX3_takeNumber_89
    · have hs := ite_f hs c9
      refine lv_aload_n hx hb dX3_takeNumber_55 rfl (lv_at hl 0 rfl) ?_
      refine lv_bipush (v := (10 : Int32)) hx hb dX3_takeNumber_56 (by decide) ?_
      refine lv_aload_n hx hb dX3_takeNumber_58 rfl (lv_at hl 0 rfl) ?_
      refine gf_3_4 hF hKK hW k0 dX3_takeNumber_59 ?_
      refine lv_imul hx hb dX3_takeNumber_62 ?_
      refine lv_aload_n hx hb dX3_takeNumber_63 rfl (lv_at hl 1 rfl) ?_
      refine lv_aload_n hx hb dX3_takeNumber_64 rfl (lv_at hl 0 rfl) ?_
      refine gf_3_3 hF hKK hW k0 dX3_takeNumber_65 ?_
      obtain ⟨q10, hq10, hs⟩ := obind_e hs
      refine end_i (run_V (q := (RX2, TX2, 2)) (ci := 2) hF hKK hW hS hl.1 k1 (by decide) rfl (c_X2_get l hOK k1 hq10) (kw_X3_30 hF.2.2.2.2 ⟨Nat.le_of_ble_eq_true rfl, Nat.le_of_ble_eq_true rfl⟩) rfl rfl (Nat.le_of_ble_eq_true rfl) dX3_takeNumber_68 ⟨Nat.zero_le _, Nat.zero_le _⟩) hS (fun H locs hW hS => ?_)
      refine lv_iadd hx hb dX3_takeNumber_71 ?_
      refine lv_bipush (v := (48 : Int32)) hx hb dX3_takeNumber_72 (by decide) ?_
      refine lv_isub hx hb dX3_takeNumber_74 ?_
      obtain ⟨μ11, eμ11, hs⟩ := bnd_e hs
      refine pf_3_4 hOK hF hKK hW hS hA k0 eμ11 dX3_takeNumber_75 (fun H locs hW hS => ?_)
      refine lv_aload_n hx hb dX3_takeNumber_78 rfl (lv_at hl 0 rfl) ?_
      refine lv_dup hx hb dX3_takeNumber_79 rfl ?_
      refine gf_3_3 hF hKK hW k0 dX3_takeNumber_80 ?_
      refine lv_iconst (v := (1 : Int32)) hx hb dX3_takeNumber_83 (by decide) ?_
      refine lv_iadd hx hb dX3_takeNumber_84 ?_
      obtain ⟨μ12, eμ12, hs⟩ := bnd_e hs
      refine pf_3_3 hOK hF hKK hW hS hA k0 eμ12 dX3_takeNumber_85 (fun H locs hW hS => ?_)
      refine lv_iconst (v := (1 : Int32)) hx hb dX3_takeNumber_88 (by decide) ?_
      have h9 := Option.some.inj hs
      rw [← h9]
      exact wr_i hF hr hlocks (isB_nar (Or.inr rfl)) hW hS dX3_takeNumber_89
  · have hs := ite_t hs c3
    refine lv_iconst (v := (0 : Int32)) hx hb dX3_takeNumber_14 (by decide) ?_
    have h9 := Option.some.inj hs
    rw [← h9]
    exact wr_i hF hr hlocks (isB_nar (Or.inl rfl)) hW hS dX3_takeNumber_15

set_option maxHeartbeats 4000000 in
set_option maxRecDepth 100000 in
theorem c_X3_takeCommand (l : Launch) {G : va_G} {Λ : Lay} {μ : Mem} (hOK : LayOK Λ) {a0 : Nat} (k0 : inK Λ a0 3) {a1 : Nat} (k1 : inK Λ a1 2) {r : (Int32 × Mem)} (hs : sX3_takeCommand Λ μ a0 a1 = some r) : CM l G Λ yX3_takeCommand cX3_takeCommand 6 (some .boolean) 2 μ [.ref a0, .ref a1] (QI G Λ r.1 r.2) := by
  refine ofM (own := RX3) (by decide +kernel) rfl (Nat.le_of_ble_eq_true rfl) (fun p e s m args below meth c ls hF hKK hW hr hlocks hl => ?_)
  have hx := hF.1
  have hb := hF.2.1
  have hA : ∀ q, inL Λ q → inL Λ q := fun _ h => h
  have hS : va_S (inL Λ) s.heap s.heap [] := va_S.rf
  have hl : lv_has ls 6 [(0, .ref a0), (1, .ref a1)] := hl
  unfold sX3_takeCommand at hs
  refine lv_aload_n hx hb dX3_takeCommand_0 rfl (lv_at hl 1 rfl) ?_
  refine lv_aload_n hx hb dX3_takeCommand_1 rfl (lv_at hl 0 rfl) ?_
  refine gf_3_3 hF hKK hW k0 dX3_takeCommand_2 ?_
  obtain ⟨q1, hq1, hs⟩ := obind_e hs
  refine end_i (run_V (q := (RX2, TX2, 2)) (ci := 2) hF hKK hW hS hl.1 k1 (by decide) rfl (c_X2_get l hOK k1 hq1) (kw_X3_30 hF.2.2.2.2 ⟨Nat.le_of_ble_eq_true rfl, Nat.le_of_ble_eq_true rfl⟩) rfl rfl (Nat.le_of_ble_eq_true rfl) dX3_takeCommand_5 ⟨Nat.zero_le _, Nat.zero_le _⟩) hS (fun H locs hW hS => ?_)
  refine lv_istore_n (lv' := [(2, .int q1), (0, .ref a0), (1, .ref a1)]) hx hb dX3_takeCommand_8 rfl hl (by decide) rfl (fun ls hl => ?_)
  refine lv_iload_n hx hb dX3_takeCommand_9 rfl (lv_at hl 0 rfl) ?_
  obtain ⟨q2, hq2, hs⟩ := obind_e hs
  refine end_i (run_S hF hKK hW hS hl.1 (c_X3_isKind l hOK  hq2) (kw_X3_45 hF.2.2.2.2 ⟨Nat.le_of_ble_eq_true rfl, Nat.le_of_ble_eq_true rfl⟩) rfl rfl (Nat.le_of_ble_eq_true rfl) dX3_takeCommand_10 ⟨Nat.zero_le _, Nat.zero_le _⟩) hS (fun H locs hW hS => ?_)
  refine lv_if_ne (tgt := 18) hx hb dX3_takeCommand_13 (by decide) (fun c3 => ?_) (fun c3 => ?_)
  · have hs := ite_f hs c3
    refine lv_aload_n hx hb dX3_takeCommand_18 rfl (lv_at hl 1 rfl) ?_
    refine lv_dup hx hb dX3_takeCommand_19 rfl ?_
    refine gf_3_3 hF hKK hW k0 dX3_takeCommand_20 ?_
    refine lv_iconst (v := (1 : Int32)) hx hb dX3_takeCommand_23 (by decide) ?_
    refine lv_iadd hx hb dX3_takeCommand_24 ?_
    obtain ⟨μ4, eμ4, hs⟩ := bnd_e hs
    refine pf_3_3 hOK hF hKK hW hS hA k0 eμ4 dX3_takeCommand_25 (fun H locs hW hS => ?_)
    refine lv_aload_n hx hb dX3_takeCommand_28 rfl (lv_at hl 1 rfl) ?_
    refine lv_aload_n hx hb dX3_takeCommand_29 rfl (lv_at hl 2 rfl) ?_
    obtain ⟨q5, hq5, hs⟩ := obind_e hs
    refine end_i (run_V (q := (RX3, TX3, 5)) (ci := 3) hF hKK hW hS hl.1 k0 (by decide) rfl (c_X3_takeNumber l hOK k0 k1 hq5) (kw_X3_49 hF.2.2.2.2 ⟨Nat.le_of_ble_eq_true rfl, Nat.le_of_ble_eq_true rfl⟩) rfl rfl (Nat.le_of_ble_eq_true rfl) dX3_takeCommand_30 ⟨Nat.zero_le _, Nat.zero_le _⟩) hS (fun H locs hW hS => ?_)
    refine lv_if_ne (tgt := 38) hx hb dX3_takeCommand_33 (by decide) (fun c6 => ?_) (fun c6 => ?_)
    · have hs := ite_f hs c6
      refine lv_aload_n hx hb dX3_takeCommand_38 rfl (lv_at hl 1 rfl) ?_
      refine gf_3_4 hF hKK hW k0 dX3_takeCommand_39 ?_
      obtain ⟨v7, ev7, hs⟩ := bnd_e hs
      refine top_i ev7 ?_
      refine lv_istore_n (lv' := [(3, .int v7), (2, .int q1), (0, .ref a0), (1, .ref a1)]) hx hb dX3_takeCommand_42 rfl hl (by decide) rfl (fun ls hl => ?_)
      refine lv_iconst (v := (0 : Int32)) hx hb dX3_takeCommand_43 (by decide) ?_
      refine lv_istore (lv' := [(4, .int (0 : Int32)), (3, .int v7), (2, .int q1), (0, .ref a0), (1, .ref a1)]) hx hb dX3_takeCommand_44 hl (by decide) rfl (fun ls hl => ?_)
      refine lv_iload_n hx hb dX3_takeCommand_46 rfl (lv_at hl 2 rfl) ?_
      refine lv_bipush (v := (98 : Int32)) hx hb dX3_takeCommand_47 (by decide) ?_
      refine lv_icmp_eq (tgt := 120) hx hb dX3_takeCommand_49 (by decide) (fun c8 => ?_) (fun c8 => ?_)
      · have hs := ite_t hs c8
        refine lv_aload_n hx hb dX3_takeCommand_120 rfl (lv_at hl 3 rfl) ?_
        refine gf_3_0 hF hKK hW k0 dX3_takeCommand_121 ?_
        refine lv_iload_n hx hb dX3_takeCommand_124 rfl (lv_at hl 2 rfl) ?_
        obtain ⟨q9, hq9, hs⟩ := obind_e hs
        refine end_v (run_V (q := (RX2, TX2, 2)) (ci := 2) hF hKK hW hS hl.1 (lk_3_0 hOK k0) (by decide) rfl (c_X2_add l hOK (lk_3_0 hOK k0) hq9) (kw_X3_59 hF.2.2.2.2 ⟨Nat.le_of_ble_eq_true rfl, Nat.le_of_ble_eq_true rfl⟩) rfl rfl (Nat.le_of_ble_eq_true rfl) dX3_takeCommand_125 ⟨Nat.zero_le _, Nat.zero_le _⟩) hS (fun H locs hW hS => ?_)
        refine lv_aload_n hx hb dX3_takeCommand_128 rfl (lv_at hl 3 rfl) ?_
        refine gf_3_1 hF hKK hW k0 dX3_takeCommand_129 ?_
        refine lv_iload_n hx hb dX3_takeCommand_132 rfl (lv_at hl 1 rfl) ?_
        obtain ⟨q10, hq10, hs⟩ := obind_e hs
        refine end_v (run_V (q := (RX2, TX2, 2)) (ci := 2) hF hKK hW hS hl.1 (lk_3_1 hOK k0) (by decide) rfl (c_X2_add l hOK (lk_3_1 hOK k0) hq10) (kw_X3_59 hF.2.2.2.2 ⟨Nat.le_of_ble_eq_true rfl, Nat.le_of_ble_eq_true rfl⟩) rfl rfl (Nat.le_of_ble_eq_true rfl) dX3_takeCommand_133 ⟨Nat.zero_le _, Nat.zero_le _⟩) hS (fun H locs hW hS => ?_)
        refine lv_aload_n hx hb dX3_takeCommand_136 rfl (lv_at hl 3 rfl) ?_
        refine gf_3_2 hF hKK hW k0 dX3_takeCommand_137 ?_
        refine lv_iload hx hb dX3_takeCommand_140 (lv_at hl 0 rfl) ?_
        obtain ⟨q11, hq11, hs⟩ := obind_e hs
        refine end_v (run_V (q := (RX2, TX2, 2)) (ci := 2) hF hKK hW hS hl.1 (lk_3_2 hOK k0) (by decide) rfl (c_X2_add l hOK (lk_3_2 hOK k0) hq11) (kw_X3_59 hF.2.2.2.2 ⟨Nat.le_of_ble_eq_true rfl, Nat.le_of_ble_eq_true rfl⟩) rfl rfl (Nat.le_of_ble_eq_true rfl) dX3_takeCommand_142 ⟨Nat.zero_le _, Nat.zero_le _⟩) hS (fun H locs hW hS => ?_)
        refine lv_iconst (v := (1 : Int32)) hx hb dX3_takeCommand_145 (by decide) ?_
        have h9 := Option.some.inj hs
        rw [← h9]
        exact wr_i hF hr hlocks (isB_nar (Or.inr rfl)) hW hS dX3_takeCommand_146
      · have hs := ite_f hs c8
        refine lv_iload_n hx hb dX3_takeCommand_52 rfl (lv_at hl 2 rfl) ?_
        refine lv_bipush (v := (116 : Int32)) hx hb dX3_takeCommand_53 (by decide) ?_
        refine lv_icmp_eq (tgt := 120) hx hb dX3_takeCommand_55 (by decide) (fun c12 => ?_) (fun c12 => ?_)
        · have hs := ite_t hs c12
          refine lv_aload_n hx hb dX3_takeCommand_120 rfl (lv_at hl 3 rfl) ?_
          refine gf_3_0 hF hKK hW k0 dX3_takeCommand_121 ?_
          refine lv_iload_n hx hb dX3_takeCommand_124 rfl (lv_at hl 2 rfl) ?_
          obtain ⟨q13, hq13, hs⟩ := obind_e hs
          refine end_v (run_V (q := (RX2, TX2, 2)) (ci := 2) hF hKK hW hS hl.1 (lk_3_0 hOK k0) (by decide) rfl (c_X2_add l hOK (lk_3_0 hOK k0) hq13) (kw_X3_59 hF.2.2.2.2 ⟨Nat.le_of_ble_eq_true rfl, Nat.le_of_ble_eq_true rfl⟩) rfl rfl (Nat.le_of_ble_eq_true rfl) dX3_takeCommand_125 ⟨Nat.zero_le _, Nat.zero_le _⟩) hS (fun H locs hW hS => ?_)
          refine lv_aload_n hx hb dX3_takeCommand_128 rfl (lv_at hl 3 rfl) ?_
          refine gf_3_1 hF hKK hW k0 dX3_takeCommand_129 ?_
          refine lv_iload_n hx hb dX3_takeCommand_132 rfl (lv_at hl 1 rfl) ?_
          obtain ⟨q14, hq14, hs⟩ := obind_e hs
          refine end_v (run_V (q := (RX2, TX2, 2)) (ci := 2) hF hKK hW hS hl.1 (lk_3_1 hOK k0) (by decide) rfl (c_X2_add l hOK (lk_3_1 hOK k0) hq14) (kw_X3_59 hF.2.2.2.2 ⟨Nat.le_of_ble_eq_true rfl, Nat.le_of_ble_eq_true rfl⟩) rfl rfl (Nat.le_of_ble_eq_true rfl) dX3_takeCommand_133 ⟨Nat.zero_le _, Nat.zero_le _⟩) hS (fun H locs hW hS => ?_)
          refine lv_aload_n hx hb dX3_takeCommand_136 rfl (lv_at hl 3 rfl) ?_
          refine gf_3_2 hF hKK hW k0 dX3_takeCommand_137 ?_
          refine lv_iload hx hb dX3_takeCommand_140 (lv_at hl 0 rfl) ?_
          obtain ⟨q15, hq15, hs⟩ := obind_e hs
          refine end_v (run_V (q := (RX2, TX2, 2)) (ci := 2) hF hKK hW hS hl.1 (lk_3_2 hOK k0) (by decide) rfl (c_X2_add l hOK (lk_3_2 hOK k0) hq15) (kw_X3_59 hF.2.2.2.2 ⟨Nat.le_of_ble_eq_true rfl, Nat.le_of_ble_eq_true rfl⟩) rfl rfl (Nat.le_of_ble_eq_true rfl) dX3_takeCommand_142 ⟨Nat.zero_le _, Nat.zero_le _⟩) hS (fun H locs hW hS => ?_)
          refine lv_iconst (v := (1 : Int32)) hx hb dX3_takeCommand_145 (by decide) ?_
          have h9 := Option.some.inj hs
          rw [← h9]
          exact wr_i hF hr hlocks (isB_nar (Or.inr rfl)) hW hS dX3_takeCommand_146
        · have hs := ite_f hs c12
          refine lv_aload_n hx hb dX3_takeCommand_58 rfl (lv_at hl 4 rfl) ?_
          refine lv_aload_n hx hb dX3_takeCommand_59 rfl (lv_at hl 3 rfl) ?_
          refine gf_3_3 hF hKK hW k0 dX3_takeCommand_60 ?_
          obtain ⟨q16, hq16, hs⟩ := obind_e hs
          refine end_i (run_V (q := (RX2, TX2, 2)) (ci := 2) hF hKK hW hS hl.1 k1 (by decide) rfl (c_X2_get l hOK k1 hq16) (kw_X3_30 hF.2.2.2.2 ⟨Nat.le_of_ble_eq_true rfl, Nat.le_of_ble_eq_true rfl⟩) rfl rfl (Nat.le_of_ble_eq_true rfl) dX3_takeCommand_63 ⟨Nat.zero_le _, Nat.zero_le _⟩) hS (fun H locs hW hS => ?_)
          refine lv_istore (lv' := [(5, .int q16), (4, .int (0 : Int32)), (3, .int v7), (2, .int q1), (0, .ref a0), (1, .ref a1)]) hx hb dX3_takeCommand_66 hl (by decide) rfl (fun ls hl => ?_)
          refine lv_iload_n hx hb dX3_takeCommand_68 rfl (lv_at hl 3 rfl) ?_
          refine lv_iload hx hb dX3_takeCommand_69 (lv_at hl 0 rfl) ?_
          obtain ⟨q17, hq17, hs⟩ := obind_e hs
          refine end_i (run_S hF hKK hW hS hl.1 (c_X3_fits l hOK  hq17) (kw_X3_55 hF.2.2.2.2 ⟨Nat.le_of_ble_eq_true rfl, Nat.le_of_ble_eq_true rfl⟩) rfl rfl (Nat.le_of_ble_eq_true rfl) dX3_takeCommand_71 ⟨Nat.zero_le _, Nat.zero_le _⟩) hS (fun H locs hW hS => ?_)
          refine lv_if_ne (tgt := 79) hx hb dX3_takeCommand_74 (by decide) (fun c18 => ?_) (fun c18 => ?_)
          · have hs := ite_f hs c18
            refine lv_aload_n hx hb dX3_takeCommand_79 rfl (lv_at hl 4 rfl) ?_
            refine lv_dup hx hb dX3_takeCommand_80 rfl ?_
            refine gf_3_3 hF hKK hW k0 dX3_takeCommand_81 ?_
            refine lv_iconst (v := (1 : Int32)) hx hb dX3_takeCommand_84 (by decide) ?_
            refine lv_iadd hx hb dX3_takeCommand_85 ?_
            obtain ⟨μ19, eμ19, hs⟩ := bnd_e hs
            refine pf_3_3 hOK hF hKK hW hS hA k0 eμ19 dX3_takeCommand_86 (fun H locs hW hS => ?_)
            refine lv_aload_n hx hb dX3_takeCommand_89 rfl (lv_at hl 4 rfl) ?_
            refine lv_aload_n hx hb dX3_takeCommand_90 rfl (lv_at hl 5 rfl) ?_
            obtain ⟨q20, hq20, hs⟩ := obind_e hs
            refine end_i (run_V (q := (RX3, TX3, 5)) (ci := 3) hF hKK hW hS hl.1 k0 (by decide) rfl (c_X3_takeNumber l hOK k0 k1 hq20) (kw_X3_49 hF.2.2.2.2 ⟨Nat.le_of_ble_eq_true rfl, Nat.le_of_ble_eq_true rfl⟩) rfl rfl (Nat.le_of_ble_eq_true rfl) dX3_takeCommand_91 ⟨Nat.zero_le _, Nat.zero_le _⟩) hS (fun H locs hW hS => ?_)
            refine lv_if_ne (tgt := 99) hx hb dX3_takeCommand_94 (by decide) (fun c21 => ?_) (fun c21 => ?_)
            · have hs := ite_f hs c21
              refine lv_iload hx hb dX3_takeCommand_99 (lv_at hl 0 rfl) ?_
              refine lv_bipush (v := (45 : Int32)) hx hb dX3_takeCommand_101 (by decide) ?_
              refine lv_icmp_ne (tgt := 114) hx hb dX3_takeCommand_103 (by decide) (fun c22 => ?_) (fun c22 => ?_)
              · have hs := ite_f hs c22
                refine lv_aload_n hx hb dX3_takeCommand_114 rfl (lv_at hl 4 rfl) ?_
                refine gf_3_4 hF hKK hW k0 dX3_takeCommand_115 ?_
                obtain ⟨v23, ev23, hs⟩ := bnd_e hs
                refine top_i ev23 ?_
                refine lv_istore (lv' := [(4, .int v23), (5, .int q16), (3, .int v7), (2, .int q1), (0, .ref a0), (1, .ref a1)]) hx hb dX3_takeCommand_118 hl (by decide) rfl (fun ls hl => ?_)
                refine lv_aload_n hx hb dX3_takeCommand_120 rfl (lv_at hl 4 rfl) ?_
                refine gf_3_0 hF hKK hW k0 dX3_takeCommand_121 ?_
                refine lv_iload_n hx hb dX3_takeCommand_124 rfl (lv_at hl 3 rfl) ?_
                obtain ⟨q24, hq24, hs⟩ := obind_e hs
                refine end_v (run_V (q := (RX2, TX2, 2)) (ci := 2) hF hKK hW hS hl.1 (lk_3_0 hOK k0) (by decide) rfl (c_X2_add l hOK (lk_3_0 hOK k0) hq24) (kw_X3_59 hF.2.2.2.2 ⟨Nat.le_of_ble_eq_true rfl, Nat.le_of_ble_eq_true rfl⟩) rfl rfl (Nat.le_of_ble_eq_true rfl) dX3_takeCommand_125 ⟨Nat.zero_le _, Nat.zero_le _⟩) hS (fun H locs hW hS => ?_)
                refine lv_aload_n hx hb dX3_takeCommand_128 rfl (lv_at hl 4 rfl) ?_
                refine gf_3_1 hF hKK hW k0 dX3_takeCommand_129 ?_
                refine lv_iload_n hx hb dX3_takeCommand_132 rfl (lv_at hl 2 rfl) ?_
                obtain ⟨q25, hq25, hs⟩ := obind_e hs
                refine end_v (run_V (q := (RX2, TX2, 2)) (ci := 2) hF hKK hW hS hl.1 (lk_3_1 hOK k0) (by decide) rfl (c_X2_add l hOK (lk_3_1 hOK k0) hq25) (kw_X3_59 hF.2.2.2.2 ⟨Nat.le_of_ble_eq_true rfl, Nat.le_of_ble_eq_true rfl⟩) rfl rfl (Nat.le_of_ble_eq_true rfl) dX3_takeCommand_133 ⟨Nat.zero_le _, Nat.zero_le _⟩) hS (fun H locs hW hS => ?_)
                refine lv_aload_n hx hb dX3_takeCommand_136 rfl (lv_at hl 4 rfl) ?_
                refine gf_3_2 hF hKK hW k0 dX3_takeCommand_137 ?_
                refine lv_iload hx hb dX3_takeCommand_140 (lv_at hl 0 rfl) ?_
                obtain ⟨q26, hq26, hs⟩ := obind_e hs
                refine end_v (run_V (q := (RX2, TX2, 2)) (ci := 2) hF hKK hW hS hl.1 (lk_3_2 hOK k0) (by decide) rfl (c_X2_add l hOK (lk_3_2 hOK k0) hq26) (kw_X3_59 hF.2.2.2.2 ⟨Nat.le_of_ble_eq_true rfl, Nat.le_of_ble_eq_true rfl⟩) rfl rfl (Nat.le_of_ble_eq_true rfl) dX3_takeCommand_142 ⟨Nat.zero_le _, Nat.zero_le _⟩) hS (fun H locs hW hS => ?_)
                refine lv_iconst (v := (1 : Int32)) hx hb dX3_takeCommand_145 (by decide) ?_
                have h9 := Option.some.inj hs
                rw [← h9]
                exact wr_i hF hr hlocks (isB_nar (Or.inr rfl)) hW hS dX3_takeCommand_146
              · have hs := ite_t hs c22
                refine lv_aload_n hx hb dX3_takeCommand_106 rfl (lv_at hl 4 rfl) ?_
                refine gf_3_4 hF hKK hW k0 dX3_takeCommand_107 ?_
                refine lv_ineg hx hb dX3_takeCommand_110 ?_
                refine lv_goto (tgt := 118) hx hb dX3_takeCommand_111 (by decide) ?_
                obtain ⟨v27, ev27, hs⟩ := bnd_e hs
                refine top_i ev27 ?_
                refine lv_istore (lv' := [(4, .int v27), (5, .int q16), (3, .int v7), (2, .int q1), (0, .ref a0), (1, .ref a1)]) hx hb dX3_takeCommand_118 hl (by decide) rfl (fun ls hl => ?_)
                refine lv_aload_n hx hb dX3_takeCommand_120 rfl (lv_at hl 4 rfl) ?_
                refine gf_3_0 hF hKK hW k0 dX3_takeCommand_121 ?_
                refine lv_iload_n hx hb dX3_takeCommand_124 rfl (lv_at hl 3 rfl) ?_
                obtain ⟨q28, hq28, hs⟩ := obind_e hs
                refine end_v (run_V (q := (RX2, TX2, 2)) (ci := 2) hF hKK hW hS hl.1 (lk_3_0 hOK k0) (by decide) rfl (c_X2_add l hOK (lk_3_0 hOK k0) hq28) (kw_X3_59 hF.2.2.2.2 ⟨Nat.le_of_ble_eq_true rfl, Nat.le_of_ble_eq_true rfl⟩) rfl rfl (Nat.le_of_ble_eq_true rfl) dX3_takeCommand_125 ⟨Nat.zero_le _, Nat.zero_le _⟩) hS (fun H locs hW hS => ?_)
                refine lv_aload_n hx hb dX3_takeCommand_128 rfl (lv_at hl 4 rfl) ?_
                refine gf_3_1 hF hKK hW k0 dX3_takeCommand_129 ?_
                refine lv_iload_n hx hb dX3_takeCommand_132 rfl (lv_at hl 2 rfl) ?_
                obtain ⟨q29, hq29, hs⟩ := obind_e hs
                refine end_v (run_V (q := (RX2, TX2, 2)) (ci := 2) hF hKK hW hS hl.1 (lk_3_1 hOK k0) (by decide) rfl (c_X2_add l hOK (lk_3_1 hOK k0) hq29) (kw_X3_59 hF.2.2.2.2 ⟨Nat.le_of_ble_eq_true rfl, Nat.le_of_ble_eq_true rfl⟩) rfl rfl (Nat.le_of_ble_eq_true rfl) dX3_takeCommand_133 ⟨Nat.zero_le _, Nat.zero_le _⟩) hS (fun H locs hW hS => ?_)
                refine lv_aload_n hx hb dX3_takeCommand_136 rfl (lv_at hl 4 rfl) ?_
                refine gf_3_2 hF hKK hW k0 dX3_takeCommand_137 ?_
                refine lv_iload hx hb dX3_takeCommand_140 (lv_at hl 0 rfl) ?_
                obtain ⟨q30, hq30, hs⟩ := obind_e hs
                refine end_v (run_V (q := (RX2, TX2, 2)) (ci := 2) hF hKK hW hS hl.1 (lk_3_2 hOK k0) (by decide) rfl (c_X2_add l hOK (lk_3_2 hOK k0) hq30) (kw_X3_59 hF.2.2.2.2 ⟨Nat.le_of_ble_eq_true rfl, Nat.le_of_ble_eq_true rfl⟩) rfl rfl (Nat.le_of_ble_eq_true rfl) dX3_takeCommand_142 ⟨Nat.zero_le _, Nat.zero_le _⟩) hS (fun H locs hW hS => ?_)
                refine lv_iconst (v := (1 : Int32)) hx hb dX3_takeCommand_145 (by decide) ?_
                have h9 := Option.some.inj hs
                rw [← h9]
                exact wr_i hF hr hlocks (isB_nar (Or.inr rfl)) hW hS dX3_takeCommand_146
            · have hs := ite_t hs c21
              refine lv_iconst (v := (0 : Int32)) hx hb dX3_takeCommand_97 (by decide) ?_
              have h9 := Option.some.inj hs
              rw [← h9]
              exact wr_i hF hr hlocks (isB_nar (Or.inl rfl)) hW hS dX3_takeCommand_98
          · have hs := ite_t hs c18
            refine lv_iconst (v := (0 : Int32)) hx hb dX3_takeCommand_77 (by decide) ?_
            have h9 := Option.some.inj hs
            rw [← h9]
            exact wr_i hF hr hlocks (isB_nar (Or.inl rfl)) hW hS dX3_takeCommand_78
    · have hs := ite_t hs c6
      refine lv_iconst (v := (0 : Int32)) hx hb dX3_takeCommand_36 (by decide) ?_
      have h9 := Option.some.inj hs
      rw [← h9]
      exact wr_i hF hr hlocks (isB_nar (Or.inl rfl)) hW hS dX3_takeCommand_37
  · have hs := ite_t hs c3
    refine lv_iconst (v := (0 : Int32)) hx hb dX3_takeCommand_16 (by decide) ?_
    have h9 := Option.some.inj hs
    rw [← h9]
    exact wr_i hF hr hlocks (isB_nar (Or.inl rfl)) hW hS dX3_takeCommand_17

set_option maxHeartbeats 4000000 in
set_option maxRecDepth 100000 in
theorem cl_X3_faultIn_37 {p : Program} {l : Launch} {e : Env} {s : State} {m : MethodId} {args : Array Value} {below : List Frame} {meth : Method} {c : Code} {G : va_G} {Λ : Lay} {r : (Int32 × Mem)} (hOK : LayOK Λ) (hF : CallFix p m c cX3_faultIn 3 s args tw RX3) (hKK : KK G Λ s) (hr : meth.sig.returnType = (some .int)) (hlocks : meth.locks = false) {x0 : Nat} (kx0 : inK Λ x0 3) {x1 : Nat} (kx1 : inK Λ x1 2) : ∀ (n : Nat) (μ : Mem) (x2 : Int32) (H : Heap) (locs : List Loc) (ls : Array Slot), lpX3_faultIn_37 Λ x0 x1 n μ x2 = some r → Wd G Λ μ H → va_S (inL Λ) s.heap H locs → lv_has ls 3 [(0, .ref x0), (1, .ref x1), (2, .int x2)] → W p l e (rmd 3) s m args below meth c H locs 0 0 (MQ below (QI G Λ r.1 r.2) args s 0 0 (inL Λ)) (F0 m 37 ls []) := by
  have hx := hF.1
  have hb := hF.2.1
  have hA : ∀ q, inL Λ q → inL Λ q := fun _ h => h
  intro n
  induction n with
  | zero =>
    intro μ x2 H locs ls hs hW hS hl
    cases hs
  | succ n37 ih37 =>
    intro μ x2 H locs ls hs hW hS hl
    rw [lpX3_faultIn_37_s] at hs
    refine lv_iload_n hx hb dX3_faultIn_37 rfl (lv_at hl 2 rfl) ?_
    refine lv_bipush (v := (70 : Int32)) hx hb dX3_faultIn_38 (by decide) ?_
    refine lv_icmp_ge (tgt := 98) hx hb dX3_faultIn_40 (by decide) (fun c5 => ?_) (fun c5 => ?_)
    · have hs := ite_t hs c5
      refine lv_aload_n hx hb dX3_faultIn_98 rfl (lv_at hl 0 rfl) ?_
      refine gf_3_3 hF hKK hW kx0 dX3_faultIn_99 ?_
      have h9 := Option.some.inj hs
      rw [← h9]
      exact wr_i hF hr hlocks (vp_nar_int _) hW hS dX3_faultIn_102
    · have hs := ite_f hs c5
      refine lv_aload_n hx hb dX3_faultIn_43 rfl (lv_at hl 0 rfl) ?_
      refine lv_aload_n hx hb dX3_faultIn_44 rfl (lv_at hl 1 rfl) ?_
      obtain ⟨q6, hq6, hs⟩ := obind_e hs
      refine end_i (run_V (q := (RX3, TX3, 5)) (ci := 3) hF hKK hW hS hl.1 kx0 (by decide) rfl (c_X3_takeCommand l hOK kx0 kx1 hq6) (kw_X3_41 hF.2.2.2.2 ⟨Nat.le_of_ble_eq_true rfl, Nat.le_of_ble_eq_true rfl⟩) rfl rfl (Nat.le_of_ble_eq_true rfl) dX3_faultIn_45 ⟨Nat.zero_le _, Nat.zero_le _⟩) hS (fun H locs hW hS => ?_)
      refine lv_if_eq (tgt := 98) hx hb dX3_faultIn_48 (by decide) (fun c7 => ?_) (fun c7 => ?_)
      · have hs := ite_t hs c7
        refine lv_aload_n hx hb dX3_faultIn_98 rfl (lv_at hl 0 rfl) ?_
        refine gf_3_3 hF hKK hW kx0 dX3_faultIn_99 ?_
        have h9 := Option.some.inj hs
        rw [← h9]
        exact wr_i hF hr hlocks (vp_nar_int _) hW hS dX3_faultIn_102
      · have hs := ite_f hs c7
        refine lv_aload_n hx hb dX3_faultIn_51 rfl (lv_at hl 0 rfl) ?_
        refine gf_3_3 hF hKK hW kx0 dX3_faultIn_52 ?_
        refine lv_aload_n hx hb dX3_faultIn_55 rfl (lv_at hl 1 rfl) ?_
        obtain ⟨q8, hq8, hs⟩ := obind_e hs
        refine end_i (run_V (q := (RX2, TX2, 2)) (ci := 2) hF hKK hW hS hl.1 kx1 (by decide) rfl (c_X2_length l hOK kx1 hq8) (kw_X3_26 hF.2.2.2.2 ⟨Nat.le_of_ble_eq_true rfl, Nat.le_of_ble_eq_true rfl⟩) rfl rfl (Nat.le_of_ble_eq_true rfl) dX3_faultIn_56 ⟨Nat.zero_le _, Nat.zero_le _⟩) hS (fun H locs hW hS => ?_)
        refine lv_icmp_ne (tgt := 64) hx hb dX3_faultIn_59 (by decide) (fun c9 => ?_) (fun c9 => ?_)
        · have hs := ite_f hs c9
          refine lv_aload_n hx hb dX3_faultIn_64 rfl (lv_at hl 1 rfl) ?_
          refine lv_aload_n hx hb dX3_faultIn_65 rfl (lv_at hl 0 rfl) ?_
          refine gf_3_3 hF hKK hW kx0 dX3_faultIn_66 ?_
          obtain ⟨q10, hq10, hs⟩ := obind_e hs
          refine end_i (run_V (q := (RX2, TX2, 2)) (ci := 2) hF hKK hW hS hl.1 kx1 (by decide) rfl (c_X2_get l hOK kx1 hq10) (kw_X3_30 hF.2.2.2.2 ⟨Nat.le_of_ble_eq_true rfl, Nat.le_of_ble_eq_true rfl⟩) rfl rfl (Nat.le_of_ble_eq_true rfl) dX3_faultIn_69 ⟨Nat.zero_le _, Nat.zero_le _⟩) hS (fun H locs hW hS => ?_)
          refine lv_bipush (v := (59 : Int32)) hx hb dX3_faultIn_72 (by decide) ?_
          refine lv_icmp_eq (tgt := 82) hx hb dX3_faultIn_74 (by decide) (fun c11 => ?_) (fun c11 => ?_)
          · have hs := ite_t hs c11
            refine lv_aload_n hx hb dX3_faultIn_82 rfl (lv_at hl 0 rfl) ?_
            refine lv_dup hx hb dX3_faultIn_83 rfl ?_
            refine gf_3_3 hF hKK hW kx0 dX3_faultIn_84 ?_
            refine lv_iconst (v := (1 : Int32)) hx hb dX3_faultIn_87 (by decide) ?_
            refine lv_iadd hx hb dX3_faultIn_88 ?_
            obtain ⟨μ12, eμ12, hs⟩ := bnd_e hs
            refine pf_3_3 hOK hF hKK hW hS hA kx0 eμ12 dX3_faultIn_89 (fun H locs hW hS => ?_)
            obtain ⟨v13, ev13, hs⟩ := bnd_e hs
            refine lv_iinc (v := v13) (lv' := [(2, .int v13), (0, .ref x0), (1, .ref x1)]) hx hb dX3_faultIn_92 hl (k := 2) rfl (by rw [ev13]; rfl) (by decide) rfl (fun ls hl => ?_)
            refine lv_goto (tgt := 37) hx hb dX3_faultIn_95 (by decide) ?_
            exact ih37 μ12 v13 _ _ _ hs hW hS (lv_sub hl [1, 2, 0] rfl)
          · have hs := ite_f hs c11
            refine lv_aload_n hx hb dX3_faultIn_77 rfl (lv_at hl 0 rfl) ?_
            refine gf_3_3 hF hKK hW kx0 dX3_faultIn_78 ?_
            have h9 := Option.some.inj hs
            rw [← h9]
            exact wr_i hF hr hlocks (vp_nar_int _) hW hS dX3_faultIn_81
        · have hs := ite_t hs c9
          refine lv_iconst (v := (-1 : Int32)) hx hb dX3_faultIn_62 (by decide) ?_
          have h9 := Option.some.inj hs
          rw [← h9]
          exact wr_i hF hr hlocks (vp_nar_int _) hW hS dX3_faultIn_63

set_option maxHeartbeats 4000000 in
set_option maxRecDepth 100000 in
theorem c_X3_faultIn (l : Launch) {G : va_G} {Λ : Lay} {μ : Mem} (hOK : LayOK Λ) {a0 : Nat} (k0 : inK Λ a0 3) {a1 : Nat} (k1 : inK Λ a1 2) {r : (Int32 × Mem)} (hs : sX3_faultIn Λ μ a0 a1 = some r) : CM l G Λ yX3_faultIn cX3_faultIn 3 (some .int) 3 μ [.ref a0, .ref a1] (QI G Λ r.1 r.2) := by
  refine ofM (own := RX3) (by decide +kernel) rfl (Nat.le_of_ble_eq_true rfl) (fun p e s m args below meth c ls hF hKK hW hr hlocks hl => ?_)
  have hx := hF.1
  have hb := hF.2.1
  have hA : ∀ q, inL Λ q → inL Λ q := fun _ h => h
  have hS : va_S (inL Λ) s.heap s.heap [] := va_S.rf
  have hl : lv_has ls 3 [(0, .ref a0), (1, .ref a1)] := hl
  unfold sX3_faultIn at hs
  refine lv_aload_n hx hb dX3_faultIn_0 rfl (lv_at hl 0 rfl) ?_
  refine gf_3_0 hF hKK hW k0 dX3_faultIn_1 ?_
  obtain ⟨q1, hq1, hs⟩ := obind_e hs
  refine end_v (run_V (q := (RX2, TX2, 2)) (ci := 2) hF hKK hW hS hl.1 (lk_3_0 hOK k0) (by decide) rfl (c_X2_clear l hOK (lk_3_0 hOK k0) hq1) (kw_X3_34 hF.2.2.2.2 ⟨Nat.le_of_ble_eq_true rfl, Nat.le_of_ble_eq_true rfl⟩) rfl rfl (Nat.le_of_ble_eq_true rfl) dX3_faultIn_4 ⟨Nat.zero_le _, Nat.zero_le _⟩) hS (fun H locs hW hS => ?_)
  refine lv_aload_n hx hb dX3_faultIn_7 rfl (lv_at hl 0 rfl) ?_
  refine gf_3_1 hF hKK hW k0 dX3_faultIn_8 ?_
  obtain ⟨q2, hq2, hs⟩ := obind_e hs
  refine end_v (run_V (q := (RX2, TX2, 2)) (ci := 2) hF hKK hW hS hl.1 (lk_3_1 hOK k0) (by decide) rfl (c_X2_clear l hOK (lk_3_1 hOK k0) hq2) (kw_X3_34 hF.2.2.2.2 ⟨Nat.le_of_ble_eq_true rfl, Nat.le_of_ble_eq_true rfl⟩) rfl rfl (Nat.le_of_ble_eq_true rfl) dX3_faultIn_11 ⟨Nat.zero_le _, Nat.zero_le _⟩) hS (fun H locs hW hS => ?_)
  refine lv_aload_n hx hb dX3_faultIn_14 rfl (lv_at hl 0 rfl) ?_
  refine gf_3_2 hF hKK hW k0 dX3_faultIn_15 ?_
  obtain ⟨q3, hq3, hs⟩ := obind_e hs
  refine end_v (run_V (q := (RX2, TX2, 2)) (ci := 2) hF hKK hW hS hl.1 (lk_3_2 hOK k0) (by decide) rfl (c_X2_clear l hOK (lk_3_2 hOK k0) hq3) (kw_X3_34 hF.2.2.2.2 ⟨Nat.le_of_ble_eq_true rfl, Nat.le_of_ble_eq_true rfl⟩) rfl rfl (Nat.le_of_ble_eq_true rfl) dX3_faultIn_18 ⟨Nat.zero_le _, Nat.zero_le _⟩) hS (fun H locs hW hS => ?_)
  refine lv_aload_n hx hb dX3_faultIn_21 rfl (lv_at hl 0 rfl) ?_
  refine lv_iconst (v := (0 : Int32)) hx hb dX3_faultIn_22 (by decide) ?_
  obtain ⟨μ4, eμ4, hs⟩ := bnd_e hs
  refine pf_3_3 hOK hF hKK hW hS hA k0 eμ4 dX3_faultIn_23 (fun H locs hW hS => ?_)
  refine lv_aload_n hx hb dX3_faultIn_26 rfl (lv_at hl 1 rfl) ?_
  refine lv_ifnonnull (tgt := 35) hx hb dX3_faultIn_27 (by decide) ?_
  refine lv_iconst (v := (0 : Int32)) hx hb dX3_faultIn_35 (by decide) ?_
  refine lv_istore_n (lv' := [(2, .int (0 : Int32)), (0, .ref a0), (1, .ref a1)]) hx hb dX3_faultIn_36 rfl hl (by decide) rfl (fun ls hl => ?_)
  exact cl_X3_faultIn_37 hOK hF hKK hr hlocks k0 k1 fuel μ4 (0 : Int32) _ _ _ hs hW hS (lv_sub hl [1, 2, 0] rfl)

set_option maxHeartbeats 4000000 in
set_option maxRecDepth 100000 in
theorem c_X3_firstOf (l : Launch) {G : va_G} {Λ : Lay} {μ : Mem} (hOK : LayOK Λ) {a0 : Nat} (k0 : inK Λ a0 3) {a1 : Int32} {r : Int32} (hs : sX3_firstOf Λ μ a0 a1 = some r) : CM l G Λ yX3_firstOf cX3_firstOf 2 (some .int) 1 μ [.ref a0, .int a1] (QI G Λ r μ) := by
  refine ofM (own := RX3) (by decide +kernel) rfl (Nat.le_of_ble_eq_true rfl) (fun p e s m args below meth c ls hF hKK hW hr hlocks hl => ?_)
  have hx := hF.1
  have hb := hF.2.1
  have hA : ∀ q, inL Λ q → inL Λ q := fun _ h => h
  have hS : va_S (inL Λ) s.heap s.heap [] := va_S.rf
  have hl : lv_has ls 2 [(0, .ref a0), (1, .int a1)] := hl
  unfold sX3_firstOf at hs
  refine lv_aload_n hx hb dX3_firstOf_0 rfl (lv_at hl 0 rfl) ?_
  refine gf_3_1 hF hKK hW k0 dX3_firstOf_1 ?_
  refine lv_iload_n hx hb dX3_firstOf_4 rfl (lv_at hl 1 rfl) ?_
  obtain ⟨q1, hq1, hs⟩ := obind_e hs
  refine end_i (run_V (q := (RX2, TX2, 2)) (ci := 2) hF hKK hW hS hl.1 (lk_3_1 hOK k0) (by decide) rfl (c_X2_get l hOK (lk_3_1 hOK k0) hq1) (kw_X3_30 hF.2.2.2.2 ⟨Nat.le_of_ble_eq_true rfl, Nat.le_of_ble_eq_true rfl⟩) rfl rfl (Nat.le_of_ble_eq_true rfl) dX3_firstOf_5 ⟨Nat.zero_le _, Nat.zero_le _⟩) hS (fun H locs hW hS => ?_)
  have h9 := Option.some.inj hs
  rw [← h9]
  exact wr_i hF hr hlocks (vp_nar_int _) hW hS dX3_firstOf_8

set_option maxHeartbeats 4000000 in
set_option maxRecDepth 100000 in
theorem c_X3_kindOf (l : Launch) {G : va_G} {Λ : Lay} {μ : Mem} (hOK : LayOK Λ) {a0 : Nat} (k0 : inK Λ a0 3) {a1 : Int32} {r : Int32} (hs : sX3_kindOf Λ μ a0 a1 = some r) : CM l G Λ yX3_kindOf cX3_kindOf 2 (some .int) 1 μ [.ref a0, .int a1] (QI G Λ r μ) := by
  refine ofM (own := RX3) (by decide +kernel) rfl (Nat.le_of_ble_eq_true rfl) (fun p e s m args below meth c ls hF hKK hW hr hlocks hl => ?_)
  have hx := hF.1
  have hb := hF.2.1
  have hA : ∀ q, inL Λ q → inL Λ q := fun _ h => h
  have hS : va_S (inL Λ) s.heap s.heap [] := va_S.rf
  have hl : lv_has ls 2 [(0, .ref a0), (1, .int a1)] := hl
  unfold sX3_kindOf at hs
  refine lv_aload_n hx hb dX3_kindOf_0 rfl (lv_at hl 0 rfl) ?_
  refine gf_3_0 hF hKK hW k0 dX3_kindOf_1 ?_
  refine lv_iload_n hx hb dX3_kindOf_4 rfl (lv_at hl 1 rfl) ?_
  obtain ⟨q1, hq1, hs⟩ := obind_e hs
  refine end_i (run_V (q := (RX2, TX2, 2)) (ci := 2) hF hKK hW hS hl.1 (lk_3_0 hOK k0) (by decide) rfl (c_X2_get l hOK (lk_3_0 hOK k0) hq1) (kw_X3_30 hF.2.2.2.2 ⟨Nat.le_of_ble_eq_true rfl, Nat.le_of_ble_eq_true rfl⟩) rfl rfl (Nat.le_of_ble_eq_true rfl) dX3_kindOf_5 ⟨Nat.zero_le _, Nat.zero_le _⟩) hS (fun H locs hW hS => ?_)
  have h9 := Option.some.inj hs
  rw [← h9]
  exact wr_i hF hr hlocks (vp_nar_int _) hW hS dX3_kindOf_8

set_option maxHeartbeats 4000000 in
set_option maxRecDepth 100000 in
theorem c_X3_secondOf (l : Launch) {G : va_G} {Λ : Lay} {μ : Mem} (hOK : LayOK Λ) {a0 : Nat} (k0 : inK Λ a0 3) {a1 : Int32} {r : Int32} (hs : sX3_secondOf Λ μ a0 a1 = some r) : CM l G Λ yX3_secondOf cX3_secondOf 2 (some .int) 1 μ [.ref a0, .int a1] (QI G Λ r μ) := by
  refine ofM (own := RX3) (by decide +kernel) rfl (Nat.le_of_ble_eq_true rfl) (fun p e s m args below meth c ls hF hKK hW hr hlocks hl => ?_)
  have hx := hF.1
  have hb := hF.2.1
  have hA : ∀ q, inL Λ q → inL Λ q := fun _ h => h
  have hS : va_S (inL Λ) s.heap s.heap [] := va_S.rf
  have hl : lv_has ls 2 [(0, .ref a0), (1, .int a1)] := hl
  unfold sX3_secondOf at hs
  refine lv_aload_n hx hb dX3_secondOf_0 rfl (lv_at hl 0 rfl) ?_
  refine gf_3_2 hF hKK hW k0 dX3_secondOf_1 ?_
  refine lv_iload_n hx hb dX3_secondOf_4 rfl (lv_at hl 1 rfl) ?_
  obtain ⟨q1, hq1, hs⟩ := obind_e hs
  refine end_i (run_V (q := (RX2, TX2, 2)) (ci := 2) hF hKK hW hS hl.1 (lk_3_2 hOK k0) (by decide) rfl (c_X2_get l hOK (lk_3_2 hOK k0) hq1) (kw_X3_30 hF.2.2.2.2 ⟨Nat.le_of_ble_eq_true rfl, Nat.le_of_ble_eq_true rfl⟩) rfl rfl (Nat.le_of_ble_eq_true rfl) dX3_secondOf_5 ⟨Nat.zero_le _, Nat.zero_le _⟩) hS (fun H locs hW hS => ?_)
  have h9 := Option.some.inj hs
  rw [← h9]
  exact wr_i hF hr hlocks (vp_nar_int _) hW hS dX3_secondOf_8

set_option maxHeartbeats 4000000 in
set_option maxRecDepth 100000 in
theorem c_X4_account (l : Launch) {G : va_G} {Λ : Lay} {μ : Mem} (hOK : LayOK Λ) {a0 : Nat} (k0 : inK Λ a0 4) {a1 : Int32} {r : Int32} (hs : sX4_account Λ μ a0 a1 = some r) : CM l G Λ yX4_account cX4_account 2 (some .int) 6 μ [.ref a0, .int a1] (QI G Λ r μ) := by
  refine ofM (own := RX4) (by decide +kernel) rfl (Nat.le_of_ble_eq_true rfl) (fun p e s m args below meth c ls hF hKK hW hr hlocks hl => ?_)
  have hx := hF.1
  have hb := hF.2.1
  have hA : ∀ q, inL Λ q → inL Λ q := fun _ h => h
  have hS : va_S (inL Λ) s.heap s.heap [] := va_S.rf
  have hl : lv_has ls 2 [(0, .ref a0), (1, .int a1)] := hl
  unfold sX4_account at hs
  refine lv_iload_n hx hb dX4_account_0 rfl (lv_at hl 1 rfl) ?_
  by_cases c1 : a1 = (0 : Int32)
  · have hs := ite_t hs c1
    refine lv_tableIn (off := 59) (tgt := 60) hx hb dX4_account_1 (by rw [c1]; decide) (by rw [c1]; decide) (by rw [c1]; decide) (by decide) ?_
    refine lv_aload_n hx hb dX4_account_60 rfl (lv_at hl 0 rfl) ?_
    refine gf_4_0 hF hKK hW k0 dX4_account_61 ?_
    obtain ⟨q2, hq2, hs⟩ := obind_e hs
    refine end_i (run_V (q := (RX1, TX1, 7)) (ci := 1) hF hKK hW hS hl.1 (lk_4_0 hOK k0) (by decide) rfl (c_X1_banks l hOK (lk_4_0 hOK k0) hq2) (kw_X4_205 hF.2.2.2.2 ⟨Nat.le_of_ble_eq_true rfl, Nat.le_of_ble_eq_true rfl⟩) rfl rfl (Nat.le_of_ble_eq_true rfl) dX4_account_64 ⟨Nat.zero_le _, Nat.zero_le _⟩) hS (fun H locs hW hS => ?_)
    have h9 := Option.some.inj hs
    rw [← h9]
    exact wr_i hF hr hlocks (vp_nar_int _) hW hS dX4_account_67
  have hs := ite_f hs c1
  by_cases c3 : a1 = (1 : Int32)
  · have hs := ite_t hs c3
    refine lv_tableIn (off := 67) (tgt := 68) hx hb dX4_account_1 (by rw [c3]; decide) (by rw [c3]; decide) (by rw [c3]; decide) (by decide) ?_
    refine lv_aload_n hx hb dX4_account_68 rfl (lv_at hl 0 rfl) ?_
    refine gf_4_0 hF hKK hW k0 dX4_account_69 ?_
    obtain ⟨q4, hq4, hs⟩ := obind_e hs
    refine end_i (run_V (q := (RX1, TX1, 7)) (ci := 1) hF hKK hW hS hl.1 (lk_4_0 hOK k0) (by decide) rfl (c_X1_ropes l hOK (lk_4_0 hOK k0) hq4) (kw_X4_208 hF.2.2.2.2 ⟨Nat.le_of_ble_eq_true rfl, Nat.le_of_ble_eq_true rfl⟩) rfl rfl (Nat.le_of_ble_eq_true rfl) dX4_account_72 ⟨Nat.zero_le _, Nat.zero_le _⟩) hS (fun H locs hW hS => ?_)
    have h9 := Option.some.inj hs
    rw [← h9]
    exact wr_i hF hr hlocks (vp_nar_int _) hW hS dX4_account_75
  have hs := ite_f hs c3
  by_cases c5 : a1 = (2 : Int32)
  · have hs := ite_t hs c5
    refine lv_tableIn (off := 75) (tgt := 76) hx hb dX4_account_1 (by rw [c5]; decide) (by rw [c5]; decide) (by rw [c5]; decide) (by decide) ?_
    refine lv_aload_n hx hb dX4_account_76 rfl (lv_at hl 0 rfl) ?_
    refine gf_4_0 hF hKK hW k0 dX4_account_77 ?_
    obtain ⟨q6, hq6, hs⟩ := obind_e hs
    refine end_i (run_V (q := (RX1, TX1, 7)) (ci := 1) hF hKK hW hS hl.1 (lk_4_0 hOK k0) (by decide) rfl (c_X1_parts l hOK (lk_4_0 hOK k0) hq6) (kw_X4_211 hF.2.2.2.2 ⟨Nat.le_of_ble_eq_true rfl, Nat.le_of_ble_eq_true rfl⟩) rfl rfl (Nat.le_of_ble_eq_true rfl) dX4_account_80 ⟨Nat.zero_le _, Nat.zero_le _⟩) hS (fun H locs hW hS => ?_)
    have h9 := Option.some.inj hs
    rw [← h9]
    exact wr_i hF hr hlocks (vp_nar_int _) hW hS dX4_account_83
  have hs := ite_f hs c5
  by_cases c7 : a1 = (3 : Int32)
  · have hs := ite_t hs c7
    refine lv_tableIn (off := 83) (tgt := 84) hx hb dX4_account_1 (by rw [c7]; decide) (by rw [c7]; decide) (by rw [c7]; decide) (by decide) ?_
    refine lv_aload_n hx hb dX4_account_84 rfl (lv_at hl 0 rfl) ?_
    refine gf_4_0 hF hKK hW k0 dX4_account_85 ?_
    refine lv_aload_n hx hb dX4_account_88 rfl (lv_at hl 0 rfl) ?_
    refine gf_4_0 hF hKK hW k0 dX4_account_89 ?_
    obtain ⟨q8, hq8, hs⟩ := obind_e hs
    refine end_i (run_V (q := (RX1, TX1, 7)) (ci := 1) hF hKK hW hS hl.1 (lk_4_0 hOK k0) (by decide) rfl (c_X1_allBanks l hOK (lk_4_0 hOK k0) hq8) (kw_X4_214 hF.2.2.2.2 ⟨Nat.le_of_ble_eq_true rfl, Nat.le_of_ble_eq_true rfl⟩) rfl rfl (Nat.le_of_ble_eq_true rfl) dX4_account_92 ⟨Nat.zero_le _, Nat.zero_le _⟩) hS (fun H locs hW hS => ?_)
    obtain ⟨q9, hq9, hs⟩ := obind_e hs
    refine end_i (run_V (q := (RX1, TX1, 7)) (ci := 1) hF hKK hW hS hl.1 (lk_4_0 hOK k0) (by decide) rfl (c_X1_weightOfAll l hOK (lk_4_0 hOK k0) hq9) (kw_X4_126 hF.2.2.2.2 ⟨Nat.le_of_ble_eq_true rfl, Nat.le_of_ble_eq_true rfl⟩) rfl rfl (Nat.le_of_ble_eq_true rfl) dX4_account_95 ⟨Nat.zero_le _, Nat.zero_le _⟩) hS (fun H locs hW hS => ?_)
    have h9 := Option.some.inj hs
    rw [← h9]
    exact wr_i hF hr hlocks (vp_nar_int _) hW hS dX4_account_98
  have hs := ite_f hs c7
  by_cases c10 : a1 = (4 : Int32)
  · have hs := ite_t hs c10
    refine lv_tableIn (off := 98) (tgt := 99) hx hb dX4_account_1 (by rw [c10]; decide) (by rw [c10]; decide) (by rw [c10]; decide) (by decide) ?_
    refine lv_aload_n hx hb dX4_account_99 rfl (lv_at hl 0 rfl) ?_
    refine gf_4_0 hF hKK hW k0 dX4_account_100 ?_
    obtain ⟨q11, hq11, hs⟩ := obind_e hs
    refine end_i (run_V (q := (RX1, TX1, 7)) (ci := 1) hF hKK hW hS hl.1 (lk_4_0 hOK k0) (by decide) rfl (c_X1_places l hOK (lk_4_0 hOK k0) hq11) (kw_X4_217 hF.2.2.2.2 ⟨Nat.le_of_ble_eq_true rfl, Nat.le_of_ble_eq_true rfl⟩) rfl rfl (Nat.le_of_ble_eq_true rfl) dX4_account_103 ⟨Nat.zero_le _, Nat.zero_le _⟩) hS (fun H locs hW hS => ?_)
    have h9 := Option.some.inj hs
    rw [← h9]
    exact wr_i hF hr hlocks (vp_nar_int _) hW hS dX4_account_106
  have hs := ite_f hs c10
  by_cases c12 : a1 = (5 : Int32)
  · have hs := ite_t hs c12
    refine lv_tableIn (off := 106) (tgt := 107) hx hb dX4_account_1 (by rw [c12]; decide) (by rw [c12]; decide) (by rw [c12]; decide) (by decide) ?_
    refine lv_aload_n hx hb dX4_account_107 rfl (lv_at hl 0 rfl) ?_
    refine gf_4_0 hF hKK hW k0 dX4_account_108 ?_
    obtain ⟨q13, hq13, hs⟩ := obind_e hs
    refine end_i (run_V (q := (RX1, TX1, 7)) (ci := 1) hF hKK hW hS hl.1 (lk_4_0 hOK k0) (by decide) rfl (c_X1_joinsSoFar l hOK (lk_4_0 hOK k0) hq13) (kw_X4_220 hF.2.2.2.2 ⟨Nat.le_of_ble_eq_true rfl, Nat.le_of_ble_eq_true rfl⟩) rfl rfl (Nat.le_of_ble_eq_true rfl) dX4_account_111 ⟨Nat.zero_le _, Nat.zero_le _⟩) hS (fun H locs hW hS => ?_)
    have h9 := Option.some.inj hs
    rw [← h9]
    exact wr_i hF hr hlocks (vp_nar_int _) hW hS dX4_account_114
  have hs := ite_f hs c12
  by_cases c14 : a1 = (6 : Int32)
  · have hs := ite_t hs c14
    refine lv_tableIn (off := 114) (tgt := 115) hx hb dX4_account_1 (by rw [c14]; decide) (by rw [c14]; decide) (by rw [c14]; decide) (by decide) ?_
    refine lv_aload_n hx hb dX4_account_115 rfl (lv_at hl 0 rfl) ?_
    refine gf_4_0 hF hKK hW k0 dX4_account_116 ?_
    obtain ⟨q15, hq15, hs⟩ := obind_e hs
    refine end_i (run_V (q := (RX1, TX1, 7)) (ci := 1) hF hKK hW hS hl.1 (lk_4_0 hOK k0) (by decide) rfl (c_X1_cutsSoFar l hOK (lk_4_0 hOK k0) hq15) (kw_X4_223 hF.2.2.2.2 ⟨Nat.le_of_ble_eq_true rfl, Nat.le_of_ble_eq_true rfl⟩) rfl rfl (Nat.le_of_ble_eq_true rfl) dX4_account_119 ⟨Nat.zero_le _, Nat.zero_le _⟩) hS (fun H locs hW hS => ?_)
    have h9 := Option.some.inj hs
    rw [← h9]
    exact wr_i hF hr hlocks (vp_nar_int _) hW hS dX4_account_122
  have hs := ite_f hs c14
  by_cases c16 : a1 = (7 : Int32)
  · have hs := ite_t hs c16
    refine lv_tableIn (off := 122) (tgt := 123) hx hb dX4_account_1 (by rw [c16]; decide) (by rw [c16]; decide) (by rw [c16]; decide) (by decide) ?_
    refine lv_aload_n hx hb dX4_account_123 rfl (lv_at hl 0 rfl) ?_
    refine gf_4_0 hF hKK hW k0 dX4_account_124 ?_
    obtain ⟨q17, hq17, hs⟩ := obind_e hs
    refine end_i (run_V (q := (RX1, TX1, 7)) (ci := 1) hF hKK hW hS hl.1 (lk_4_0 hOK k0) (by decide) rfl (c_X1_turnsSoFar l hOK (lk_4_0 hOK k0) hq17) (kw_X4_226 hF.2.2.2.2 ⟨Nat.le_of_ble_eq_true rfl, Nat.le_of_ble_eq_true rfl⟩) rfl rfl (Nat.le_of_ble_eq_true rfl) dX4_account_127 ⟨Nat.zero_le _, Nat.zero_le _⟩) hS (fun H locs hW hS => ?_)
    have h9 := Option.some.inj hs
    rw [← h9]
    exact wr_i hF hr hlocks (vp_nar_int _) hW hS dX4_account_130
  have hs := ite_f hs c16
  by_cases c18 : a1 = (8 : Int32)
  · have hs := ite_t hs c18
    refine lv_tableIn (off := 130) (tgt := 131) hx hb dX4_account_1 (by rw [c18]; decide) (by rw [c18]; decide) (by rw [c18]; decide) (by decide) ?_
    refine lv_aload_n hx hb dX4_account_131 rfl (lv_at hl 0 rfl) ?_
    refine gf_4_0 hF hKK hW k0 dX4_account_132 ?_
    refine lv_aload_n hx hb dX4_account_135 rfl (lv_at hl 0 rfl) ?_
    refine gf_4_0 hF hKK hW k0 dX4_account_136 ?_
    obtain ⟨q19, hq19, hs⟩ := obind_e hs
    refine end_i (run_V (q := (RX1, TX1, 7)) (ci := 1) hF hKK hW hS hl.1 (lk_4_0 hOK k0) (by decide) rfl (c_X1_allBanks l hOK (lk_4_0 hOK k0) hq19) (kw_X4_214 hF.2.2.2.2 ⟨Nat.le_of_ble_eq_true rfl, Nat.le_of_ble_eq_true rfl⟩) rfl rfl (Nat.le_of_ble_eq_true rfl) dX4_account_139 ⟨Nat.zero_le _, Nat.zero_le _⟩) hS (fun H locs hW hS => ?_)
    obtain ⟨q20, hq20, hs⟩ := obind_e hs
    refine end_i (run_V (q := (RX1, TX1, 7)) (ci := 1) hF hKK hW hS hl.1 (lk_4_0 hOK k0) (by decide) rfl (c_X1_greatestDepth l hOK (lk_4_0 hOK k0) hq20) (kw_X4_142 hF.2.2.2.2 ⟨Nat.le_of_ble_eq_true rfl, Nat.le_of_ble_eq_true rfl⟩) rfl rfl (Nat.le_of_ble_eq_true rfl) dX4_account_142 ⟨Nat.zero_le _, Nat.zero_le _⟩) hS (fun H locs hW hS => ?_)
    have h9 := Option.some.inj hs
    rw [← h9]
    exact wr_i hF hr hlocks (vp_nar_int _) hW hS dX4_account_145
  have hs := ite_f hs c18
  by_cases c21 : a1 = (9 : Int32)
  · have hs := ite_t hs c21
    refine lv_tableIn (off := 145) (tgt := 146) hx hb dX4_account_1 (by rw [c21]; decide) (by rw [c21]; decide) (by rw [c21]; decide) (by decide) ?_
    refine lv_aload_n hx hb dX4_account_146 rfl (lv_at hl 0 rfl) ?_
    refine gf_4_4 hF hKK hW k0 dX4_account_147 ?_
    obtain ⟨q22, hq22, hs⟩ := obind_e hs
    refine end_i (run_V (q := (RX2, TX2, 2)) (ci := 2) hF hKK hW hS hl.1 (lk_4_4 hOK k0) (by decide) rfl (c_X2_length l hOK (lk_4_4 hOK k0) hq22) (kw_X4_138 hF.2.2.2.2 ⟨Nat.le_of_ble_eq_true rfl, Nat.le_of_ble_eq_true rfl⟩) rfl rfl (Nat.le_of_ble_eq_true rfl) dX4_account_150 ⟨Nat.zero_le _, Nat.zero_le _⟩) hS (fun H locs hW hS => ?_)
    have h9 := Option.some.inj hs
    rw [← h9]
    exact wr_i hF hr hlocks (vp_nar_int _) hW hS dX4_account_153
  have hs := ite_f hs c21
  by_cases c23 : a1 = (10 : Int32)
  · have hs := ite_t hs c23
    refine lv_tableIn (off := 153) (tgt := 154) hx hb dX4_account_1 (by rw [c23]; decide) (by rw [c23]; decide) (by rw [c23]; decide) (by decide) ?_
    refine lv_aload_n hx hb dX4_account_154 rfl (lv_at hl 0 rfl) ?_
    refine gf_4_2 hF hKK hW k0 dX4_account_155 ?_
    obtain ⟨q24, hq24, hs⟩ := obind_e hs
    refine end_i (run_V (q := (RX0, TX0, 3)) (ci := 0) hF hKK hW hS hl.1 (lk_4_2 hOK k0) (by decide) rfl (c_X0_count l hOK (lk_4_2 hOK k0) hq24) (kw_X4_229 hF.2.2.2.2 ⟨Nat.le_of_ble_eq_true rfl, Nat.le_of_ble_eq_true rfl⟩) rfl rfl (Nat.le_of_ble_eq_true rfl) dX4_account_158 ⟨Nat.zero_le _, Nat.zero_le _⟩) hS (fun H locs hW hS => ?_)
    have h9 := Option.some.inj hs
    rw [← h9]
    exact wr_i hF hr hlocks (vp_nar_int _) hW hS dX4_account_161
  have hs := ite_f hs c23
  refine lv_tableOut (tgt := 162) hx hb dX4_account_1 (by have := lv_neT c1 (a := 0) (by decide); have := lv_neT c3 (a := 1) (by decide); have := lv_neT c5 (a := 2) (by decide); have := lv_neT c7 (a := 3) (by decide); have := lv_neT c10 (a := 4) (by decide); have := lv_neT c12 (a := 5) (by decide); have := lv_neT c14 (a := 6) (by decide); have := lv_neT c16 (a := 7) (by decide); have := lv_neT c18 (a := 8) (by decide); have := lv_neT c21 (a := 9) (by decide); have := lv_neT c23 (a := 10) (by decide); omega) (by decide) ?_
  refine lv_bipush (v := (-2 : Int32)) hx hb dX4_account_162 (by decide) ?_
  have h9 := Option.some.inj hs
  rw [← h9]
  exact wr_i hF hr hlocks (vp_nar_int _) hW hS dX4_account_164

set_option maxHeartbeats 4000000 in
set_option maxRecDepth 100000 in
theorem c_X4_refuse (l : Launch) {G : va_G} {Λ : Lay} {μ : Mem} (hOK : LayOK Λ) {a0 : Nat} (k0 : inK Λ a0 4) {a1 : Int32} {a2 : Int32} {r : (Int32 × Mem)} (hs : sX4_refuse Λ μ a0 a1 a2 = some r) : CM l G Λ yX4_refuse cX4_refuse 3 (some .int) 0 μ [.ref a0, .int a1, .int a2] (QI G Λ r.1 r.2) := by
  refine ofM (own := RX4) (by decide +kernel) rfl (Nat.le_of_ble_eq_true rfl) (fun p e s m args below meth c ls hF hKK hW hr hlocks hl => ?_)
  have hx := hF.1
  have hb := hF.2.1
  have hA : ∀ q, inL Λ q → inL Λ q := fun _ h => h
  have hS : va_S (inL Λ) s.heap s.heap [] := va_S.rf
  have hl : lv_has ls 3 [(0, .ref a0), (1, .int a1), (2, .int a2)] := hl
  unfold sX4_refuse at hs
  refine lv_aload_n hx hb dX4_refuse_0 rfl (lv_at hl 0 rfl) ?_
  refine lv_iload_n hx hb dX4_refuse_1 rfl (lv_at hl 1 rfl) ?_
  obtain ⟨μ1, eμ1, hs⟩ := bnd_e hs
  refine pf_4_7 hOK hF hKK hW hS hA k0 eμ1 dX4_refuse_2 (fun H locs hW hS => ?_)
  refine lv_aload_n hx hb dX4_refuse_5 rfl (lv_at hl 0 rfl) ?_
  refine lv_iload_n hx hb dX4_refuse_6 rfl (lv_at hl 2 rfl) ?_
  obtain ⟨μ2, eμ2, hs⟩ := bnd_e hs
  refine pf_4_8 hOK hF hKK hW hS hA k0 eμ2 dX4_refuse_7 (fun H locs hW hS => ?_)
  refine lv_aload_n hx hb dX4_refuse_10 rfl (lv_at hl 0 rfl) ?_
  refine lv_aload_n hx hb dX4_refuse_11 rfl (lv_at hl 0 rfl) ?_
  refine gf_4_10 hF hKK hW k0 dX4_refuse_12 ?_
  obtain ⟨μ3, eμ3, hs⟩ := bnd_e hs
  refine pf_4_9 hOK hF hKK hW hS hA k0 eμ3 dX4_refuse_15 (fun H locs hW hS => ?_)
  refine lv_bipush (v := (-3 : Int32)) hx hb dX4_refuse_18 (by decide) ?_
  have h9 := Option.some.inj hs
  rw [← h9]
  exact wr_i hF hr hlocks (vp_nar_int _) hW hS dX4_refuse_20

set_option maxHeartbeats 4000000 in
set_option maxRecDepth 100000 in
theorem c_X4_addBank (l : Launch) {G : va_G} {Λ : Lay} {μ : Mem} (hOK : LayOK Λ) {a0 : Nat} (k0 : inK Λ a0 4) {a1 : Int32} {r : (Int32 × Mem)} (hs : sX4_addBank Λ μ a0 a1 = some r) : CM l G Λ yX4_addBank cX4_addBank 2 (some .int) 2 μ [.ref a0, .int a1] (QI G Λ r.1 r.2) := by
  refine ofM (own := RX4) (by decide +kernel) rfl (Nat.le_of_ble_eq_true rfl) (fun p e s m args below meth c ls hF hKK hW hr hlocks hl => ?_)
  have hx := hF.1
  have hb := hF.2.1
  have hA : ∀ q, inL Λ q → inL Λ q := fun _ h => h
  have hS : va_S (inL Λ) s.heap s.heap [] := va_S.rf
  have hl : lv_has ls 2 [(0, .ref a0), (1, .int a1)] := hl
  unfold sX4_addBank at hs
  refine lv_iload_n hx hb dX4_addBank_0 rfl (lv_at hl 1 rfl) ?_
  refine lv_if_lt (tgt := 10) hx hb dX4_addBank_1 (by decide) (fun c1 => ?_) (fun c1 => ?_)
  · have hs := ite_t hs c1
    refine lv_bipush (v := (-2 : Int32)) hx hb dX4_addBank_10 (by decide) ?_
    have h9 := Option.some.inj hs
    rw [← h9]
    exact wr_i hF hr hlocks (vp_nar_int _) hW hS dX4_addBank_12
  · have hs := ite_f hs c1
    refine lv_iload_n hx hb dX4_addBank_4 rfl (lv_at hl 1 rfl) ?_
    refine lv_bipush (v := (99 : Int32)) hx hb dX4_addBank_5 (by decide) ?_
    refine lv_icmp_le (tgt := 13) hx hb dX4_addBank_7 (by decide) (fun c2 => ?_) (fun c2 => ?_)
    · have hs := ite_t hs c2
      refine lv_aload_n hx hb dX4_addBank_13 rfl (lv_at hl 0 rfl) ?_
      refine gf_4_0 hF hKK hW k0 dX4_addBank_14 ?_
      obtain ⟨q3, hq3, hs⟩ := obind_e hs
      refine end_i (run_V (q := (RX1, TX1, 7)) (ci := 1) hF hKK hW hS hl.1 (lk_4_0 hOK k0) (by decide) rfl (c_X1_banks l hOK (lk_4_0 hOK k0) hq3) (kw_X4_205 hF.2.2.2.2 ⟨Nat.le_of_ble_eq_true rfl, Nat.le_of_ble_eq_true rfl⟩) rfl rfl (Nat.le_of_ble_eq_true rfl) dX4_addBank_17 ⟨Nat.zero_le _, Nat.zero_le _⟩) hS (fun H locs hW hS => ?_)
      refine lv_bipush (v := (12 : Int32)) hx hb dX4_addBank_20 (by decide) ?_
      refine lv_icmp_lt (tgt := 33) hx hb dX4_addBank_22 (by decide) (fun c4 => ?_) (fun c4 => ?_)
      · have hs := ite_t hs c4
        refine lv_aload_n hx hb dX4_addBank_33 rfl (lv_at hl 0 rfl) ?_
        refine gf_4_0 hF hKK hW k0 dX4_addBank_34 ?_
        refine lv_iload_n hx hb dX4_addBank_37 rfl (lv_at hl 1 rfl) ?_
        obtain ⟨q5, hq5, hs⟩ := obind_e hs
        refine end_i (run_V (q := (RX1, TX1, 7)) (ci := 1) hF hKK hW hS hl.1 (lk_4_0 hOK k0) (by decide) rfl (c_X1_addBankOf l hOK (lk_4_0 hOK k0) hq5) (kw_X4_260 hF.2.2.2.2 ⟨Nat.le_of_ble_eq_true rfl, Nat.le_of_ble_eq_true rfl⟩) rfl rfl (Nat.le_of_ble_eq_true rfl) dX4_addBank_38 ⟨Nat.zero_le _, Nat.zero_le _⟩) hS (fun H locs hW hS => ?_)
        have h9 := Option.some.inj hs
        rw [← h9]
        exact wr_i hF hr hlocks (vp_nar_int _) hW hS dX4_addBank_41
      · have hs := ite_f hs c4
        refine lv_aload_n hx hb dX4_addBank_25 rfl (lv_at hl 0 rfl) ?_
        refine lv_iconst (v := (1 : Int32)) hx hb dX4_addBank_26 (by decide) ?_
        refine lv_bipush (v := (12 : Int32)) hx hb dX4_addBank_27 (by decide) ?_
        obtain ⟨q6, hq6, hs⟩ := obind_e hs
        refine end_i (run_V (q := (RX4, TX4, 11)) (ci := 4) hF hKK hW hS hl.1 k0 (by decide) rfl (c_X4_refuse l hOK k0 hq6) (kw_X4_257 hF.2.2.2.2 ⟨Nat.le_of_ble_eq_true rfl, Nat.le_of_ble_eq_true rfl⟩) rfl rfl (Nat.le_of_ble_eq_true rfl) dX4_addBank_29 ⟨Nat.zero_le _, Nat.zero_le _⟩) hS (fun H locs hW hS => ?_)
        have h9 := Option.some.inj hs
        rw [← h9]
        exact wr_i hF hr hlocks (vp_nar_int _) hW hS dX4_addBank_32
    · have hs := ite_f hs c2
      refine lv_bipush (v := (-2 : Int32)) hx hb dX4_addBank_10 (by decide) ?_
      have h9 := Option.some.inj hs
      rw [← h9]
      exact wr_i hF hr hlocks (vp_nar_int _) hW hS dX4_addBank_12

set_option maxHeartbeats 4000000 in
set_option maxRecDepth 100000 in
theorem c_X4_append (l : Launch) {G : va_G} {Λ : Lay} {μ : Mem} (hOK : LayOK Λ) {a0 : Nat} (k0 : inK Λ a0 4) {a1 : Int32} {r : (Int32 × Mem)} (hs : sX4_append Λ μ a0 a1 = some r) : CM l G Λ yX4_append cX4_append 2 (some .int) 1 μ [.ref a0, .int a1] (QI G Λ r.1 r.2) := by
  refine ofM (own := RX4) (by decide +kernel) rfl (Nat.le_of_ble_eq_true rfl) (fun p e s m args below meth c ls hF hKK hW hr hlocks hl => ?_)
  have hx := hF.1
  have hb := hF.2.1
  have hA : ∀ q, inL Λ q → inL Λ q := fun _ h => h
  have hS : va_S (inL Λ) s.heap s.heap [] := va_S.rf
  have hl : lv_has ls 2 [(0, .ref a0), (1, .int a1)] := hl
  unfold sX4_append at hs
  refine lv_iload_n hx hb dX4_append_0 rfl (lv_at hl 1 rfl) ?_
  refine lv_bipush (v := (32 : Int32)) hx hb dX4_append_1 (by decide) ?_
  refine lv_icmp_lt (tgt := 24) hx hb dX4_append_3 (by decide) (fun c1 => ?_) (fun c1 => ?_)
  · have hs := ite_t hs c1
    refine lv_bipush (v := (-2 : Int32)) hx hb dX4_append_24 (by decide) ?_
    have h9 := Option.some.inj hs
    rw [← h9]
    exact wr_i hF hr hlocks (vp_nar_int _) hW hS dX4_append_26
  · have hs := ite_f hs c1
    refine lv_iload_n hx hb dX4_append_6 rfl (lv_at hl 1 rfl) ?_
    refine lv_bipush (v := (126 : Int32)) hx hb dX4_append_7 (by decide) ?_
    refine lv_icmp_gt (tgt := 24) hx hb dX4_append_9 (by decide) (fun c2 => ?_) (fun c2 => ?_)
    · have hs := ite_t hs c2
      refine lv_bipush (v := (-2 : Int32)) hx hb dX4_append_24 (by decide) ?_
      have h9 := Option.some.inj hs
      rw [← h9]
      exact wr_i hF hr hlocks (vp_nar_int _) hW hS dX4_append_26
    · have hs := ite_f hs c2
      refine lv_aload_n hx hb dX4_append_12 rfl (lv_at hl 0 rfl) ?_
      refine gf_4_4 hF hKK hW k0 dX4_append_13 ?_
      obtain ⟨q3, hq3, hs⟩ := obind_e hs
      refine end_i (run_V (q := (RX2, TX2, 2)) (ci := 2) hF hKK hW hS hl.1 (lk_4_4 hOK k0) (by decide) rfl (c_X2_length l hOK (lk_4_4 hOK k0) hq3) (kw_X4_138 hF.2.2.2.2 ⟨Nat.le_of_ble_eq_true rfl, Nat.le_of_ble_eq_true rfl⟩) rfl rfl (Nat.le_of_ble_eq_true rfl) dX4_append_16 ⟨Nat.zero_le _, Nat.zero_le _⟩) hS (fun H locs hW hS => ?_)
      refine lv_bipush (v := (70 : Int32)) hx hb dX4_append_19 (by decide) ?_
      refine lv_icmp_lt (tgt := 27) hx hb dX4_append_21 (by decide) (fun c4 => ?_) (fun c4 => ?_)
      · have hs := ite_t hs c4
        refine lv_aload_n hx hb dX4_append_27 rfl (lv_at hl 0 rfl) ?_
        refine gf_4_4 hF hKK hW k0 dX4_append_28 ?_
        refine lv_iload_n hx hb dX4_append_31 rfl (lv_at hl 1 rfl) ?_
        obtain ⟨q5, hq5, hs⟩ := obind_e hs
        refine end_v (run_V (q := (RX2, TX2, 2)) (ci := 2) hF hKK hW hS hl.1 (lk_4_4 hOK k0) (by decide) rfl (c_X2_add l hOK (lk_4_4 hOK k0) hq5) (kw_X4_180 hF.2.2.2.2 ⟨Nat.le_of_ble_eq_true rfl, Nat.le_of_ble_eq_true rfl⟩) rfl rfl (Nat.le_of_ble_eq_true rfl) dX4_append_32 ⟨Nat.zero_le _, Nat.zero_le _⟩) hS (fun H locs hW hS => ?_)
        refine lv_aload_n hx hb dX4_append_35 rfl (lv_at hl 0 rfl) ?_
        refine gf_4_4 hF hKK hW k0 dX4_append_36 ?_
        obtain ⟨q6, hq6, hs⟩ := obind_e hs
        refine end_i (run_V (q := (RX2, TX2, 2)) (ci := 2) hF hKK hW hS hl.1 (lk_4_4 hOK k0) (by decide) rfl (c_X2_length l hOK (lk_4_4 hOK k0) hq6) (kw_X4_138 hF.2.2.2.2 ⟨Nat.le_of_ble_eq_true rfl, Nat.le_of_ble_eq_true rfl⟩) rfl rfl (Nat.le_of_ble_eq_true rfl) dX4_append_39 ⟨Nat.zero_le _, Nat.zero_le _⟩) hS (fun H locs hW hS => ?_)
        have h9 := Option.some.inj hs
        rw [← h9]
        exact wr_i hF hr hlocks (vp_nar_int _) hW hS dX4_append_42
      · have hs := ite_f hs c4
        refine lv_bipush (v := (-2 : Int32)) hx hb dX4_append_24 (by decide) ?_
        have h9 := Option.some.inj hs
        rw [← h9]
        exact wr_i hF hr hlocks (vp_nar_int _) hW hS dX4_append_26

set_option maxHeartbeats 4000000 in
set_option maxRecDepth 100000 in
theorem c_X4_areThere (l : Launch) {G : va_G} {Λ : Lay} {μ : Mem} (hOK : LayOK Λ) {a0 : Nat} (k0 : inK Λ a0 4) {a1 : Int32} {a2 : Int32} {r : Int32} (hs : sX4_areThere Λ μ a0 a1 a2 = some r) : CM l G Λ yX4_areThere cX4_areThere 3 (some .boolean) 2 μ [.ref a0, .int a1, .int a2] (QI G Λ r μ) := by
  refine ofM (own := RX4) (by decide +kernel) rfl (Nat.le_of_ble_eq_true rfl) (fun p e s m args below meth c ls hF hKK hW hr hlocks hl => ?_)
  have hx := hF.1
  have hb := hF.2.1
  have hA : ∀ q, inL Λ q → inL Λ q := fun _ h => h
  have hS : va_S (inL Λ) s.heap s.heap [] := va_S.rf
  have hl : lv_has ls 3 [(0, .ref a0), (1, .int a1), (2, .int a2)] := hl
  unfold sX4_areThere at hs
  refine lv_aload_n hx hb dX4_areThere_0 rfl (lv_at hl 0 rfl) ?_
  refine gf_4_0 hF hKK hW k0 dX4_areThere_1 ?_
  refine lv_iload_n hx hb dX4_areThere_4 rfl (lv_at hl 1 rfl) ?_
  obtain ⟨q1, hq1, hs⟩ := obind_e hs
  refine end_i (run_V (q := (RX1, TX1, 7)) (ci := 1) hF hKK hW hS hl.1 (lk_4_0 hOK k0) (by decide) rfl (c_X1_has l hOK (lk_4_0 hOK k0) hq1) (kw_X4_89 hF.2.2.2.2 ⟨Nat.le_of_ble_eq_true rfl, Nat.le_of_ble_eq_true rfl⟩) rfl rfl (Nat.le_of_ble_eq_true rfl) dX4_areThere_5 ⟨Nat.zero_le _, Nat.zero_le _⟩) hS (fun H locs hW hS => ?_)
  refine lv_if_eq (tgt := 26) hx hb dX4_areThere_8 (by decide) (fun c2 => ?_) (fun c2 => ?_)
  · have hs := ite_t hs c2
    refine lv_iconst (v := (0 : Int32)) hx hb dX4_areThere_26 (by decide) ?_
    have h9 := Option.some.inj hs
    rw [← h9]
    exact wr_i hF hr hlocks (isB_nar (Or.inl rfl)) hW hS dX4_areThere_27
  · have hs := ite_f hs c2
    refine lv_aload_n hx hb dX4_areThere_11 rfl (lv_at hl 0 rfl) ?_
    refine gf_4_0 hF hKK hW k0 dX4_areThere_12 ?_
    refine lv_iload_n hx hb dX4_areThere_15 rfl (lv_at hl 2 rfl) ?_
    obtain ⟨q3, hq3, hs⟩ := obind_e hs
    refine end_i (run_V (q := (RX1, TX1, 7)) (ci := 1) hF hKK hW hS hl.1 (lk_4_0 hOK k0) (by decide) rfl (c_X1_has l hOK (lk_4_0 hOK k0) hq3) (kw_X4_89 hF.2.2.2.2 ⟨Nat.le_of_ble_eq_true rfl, Nat.le_of_ble_eq_true rfl⟩) rfl rfl (Nat.le_of_ble_eq_true rfl) dX4_areThere_16 ⟨Nat.zero_le _, Nat.zero_le _⟩) hS (fun H locs hW hS => ?_)
    refine lv_if_eq (tgt := 26) hx hb dX4_areThere_19 (by decide) (fun c4 => ?_) (fun c4 => ?_)
    · have hs := ite_t hs c4
      refine lv_iconst (v := (0 : Int32)) hx hb dX4_areThere_26 (by decide) ?_
      have h9 := Option.some.inj hs
      rw [← h9]
      exact wr_i hF hr hlocks (isB_nar (Or.inl rfl)) hW hS dX4_areThere_27
    · have hs := ite_f hs c4
      refine lv_iconst (v := (1 : Int32)) hx hb dX4_areThere_22 (by decide) ?_
      refine lv_goto (tgt := 27) hx hb dX4_areThere_23 (by decide) ?_
      have h9 := Option.some.inj hs
      rw [← h9]
      exact wr_i hF hr hlocks (isB_nar (Or.inr rfl)) hW hS dX4_areThere_27

set_option maxHeartbeats 4000000 in
set_option maxRecDepth 100000 in
theorem c_X4_areJoined (l : Launch) {G : va_G} {Λ : Lay} {μ : Mem} (hOK : LayOK Λ) {a0 : Nat} (k0 : inK Λ a0 4) {a1 : Int32} {a2 : Int32} {r : Int32} (hs : sX4_areJoined Λ μ a0 a1 a2 = some r) : CM l G Λ yX4_areJoined cX4_areJoined 3 (some .int) 4 μ [.ref a0, .int a1, .int a2] (QI G Λ r μ) := by
  refine ofM (own := RX4) (by decide +kernel) rfl (Nat.le_of_ble_eq_true rfl) (fun p e s m args below meth c ls hF hKK hW hr hlocks hl => ?_)
  have hx := hF.1
  have hb := hF.2.1
  have hA : ∀ q, inL Λ q → inL Λ q := fun _ h => h
  have hS : va_S (inL Λ) s.heap s.heap [] := va_S.rf
  have hl : lv_has ls 3 [(0, .ref a0), (1, .int a1), (2, .int a2)] := hl
  unfold sX4_areJoined at hs
  refine lv_aload_n hx hb dX4_areJoined_0 rfl (lv_at hl 0 rfl) ?_
  refine lv_iload_n hx hb dX4_areJoined_1 rfl (lv_at hl 1 rfl) ?_
  refine lv_iload_n hx hb dX4_areJoined_2 rfl (lv_at hl 2 rfl) ?_
  obtain ⟨q1, hq1, hs⟩ := obind_e hs
  refine end_i (run_V (q := (RX4, TX4, 11)) (ci := 4) hF hKK hW hS hl.1 k0 (by decide) rfl (c_X4_areThere l hOK k0 hq1) (kw_X4_76 hF.2.2.2.2 ⟨Nat.le_of_ble_eq_true rfl, Nat.le_of_ble_eq_true rfl⟩) rfl rfl (Nat.le_of_ble_eq_true rfl) dX4_areJoined_3 ⟨Nat.zero_le _, Nat.zero_le _⟩) hS (fun H locs hW hS => ?_)
  refine lv_if_ne (tgt := 11) hx hb dX4_areJoined_6 (by decide) (fun c2 => ?_) (fun c2 => ?_)
  · have hs := ite_f hs c2
    refine lv_aload_n hx hb dX4_areJoined_11 rfl (lv_at hl 0 rfl) ?_
    refine gf_4_0 hF hKK hW k0 dX4_areJoined_12 ?_
    refine lv_iload_n hx hb dX4_areJoined_15 rfl (lv_at hl 1 rfl) ?_
    refine lv_iload_n hx hb dX4_areJoined_16 rfl (lv_at hl 2 rfl) ?_
    obtain ⟨q3, hq3, hs⟩ := obind_e hs
    refine end_i (run_V (q := (RX1, TX1, 7)) (ci := 1) hF hKK hW hS hl.1 (lk_4_0 hOK k0) (by decide) rfl (c_X1_isOnePart l hOK (lk_4_0 hOK k0) hq3) (kw_X4_80 hF.2.2.2.2 ⟨Nat.le_of_ble_eq_true rfl, Nat.le_of_ble_eq_true rfl⟩) rfl rfl (Nat.le_of_ble_eq_true rfl) dX4_areJoined_17 ⟨Nat.zero_le _, Nat.zero_le _⟩) hS (fun H locs hW hS => ?_)
    refine lv_if_eq (tgt := 27) hx hb dX4_areJoined_20 (by decide) (fun c4 => ?_) (fun c4 => ?_)
    · have hs := ite_t hs c4
      refine lv_iconst (v := (0 : Int32)) hx hb dX4_areJoined_27 (by decide) ?_
      have h9 := Option.some.inj hs
      rw [← h9]
      exact wr_i hF hr hlocks (vp_nar_int _) hW hS dX4_areJoined_28
    · have hs := ite_f hs c4
      refine lv_iconst (v := (1 : Int32)) hx hb dX4_areJoined_23 (by decide) ?_
      refine lv_goto (tgt := 28) hx hb dX4_areJoined_24 (by decide) ?_
      have h9 := Option.some.inj hs
      rw [← h9]
      exact wr_i hF hr hlocks (vp_nar_int _) hW hS dX4_areJoined_28
  · have hs := ite_t hs c2
    refine lv_iconst (v := (-1 : Int32)) hx hb dX4_areJoined_9 (by decide) ?_
    have h9 := Option.some.inj hs
    rw [← h9]
    exact wr_i hF hr hlocks (vp_nar_int _) hW hS dX4_areJoined_10

set_option maxHeartbeats 4000000 in
set_option maxRecDepth 100000 in
theorem c_X4_areJoinedAgain (l : Launch) {G : va_G} {Λ : Lay} {μ : Mem} (hOK : LayOK Λ) {a0 : Nat} (k0 : inK Λ a0 4) {a1 : Int32} {a2 : Int32} {r : Int32} (hs : sX4_areJoinedAgain Λ μ a0 a1 a2 = some r) : CM l G Λ yX4_areJoinedAgain cX4_areJoinedAgain 3 (some .int) 4 μ [.ref a0, .int a1, .int a2] (QI G Λ r μ) := by
  refine ofM (own := RX4) (by decide +kernel) rfl (Nat.le_of_ble_eq_true rfl) (fun p e s m args below meth c ls hF hKK hW hr hlocks hl => ?_)
  have hx := hF.1
  have hb := hF.2.1
  have hA : ∀ q, inL Λ q → inL Λ q := fun _ h => h
  have hS : va_S (inL Λ) s.heap s.heap [] := va_S.rf
  have hl : lv_has ls 3 [(0, .ref a0), (1, .int a1), (2, .int a2)] := hl
  unfold sX4_areJoinedAgain at hs
  refine lv_aload_n hx hb dX4_areJoinedAgain_0 rfl (lv_at hl 0 rfl) ?_
  refine lv_iload_n hx hb dX4_areJoinedAgain_1 rfl (lv_at hl 1 rfl) ?_
  refine lv_iload_n hx hb dX4_areJoinedAgain_2 rfl (lv_at hl 2 rfl) ?_
  obtain ⟨q1, hq1, hs⟩ := obind_e hs
  refine end_i (run_V (q := (RX4, TX4, 11)) (ci := 4) hF hKK hW hS hl.1 k0 (by decide) rfl (c_X4_areThere l hOK k0 hq1) (kw_X4_76 hF.2.2.2.2 ⟨Nat.le_of_ble_eq_true rfl, Nat.le_of_ble_eq_true rfl⟩) rfl rfl (Nat.le_of_ble_eq_true rfl) dX4_areJoinedAgain_3 ⟨Nat.zero_le _, Nat.zero_le _⟩) hS (fun H locs hW hS => ?_)
  refine lv_if_ne (tgt := 11) hx hb dX4_areJoinedAgain_6 (by decide) (fun c2 => ?_) (fun c2 => ?_)
  · have hs := ite_f hs c2
    refine lv_aload_n hx hb dX4_areJoinedAgain_11 rfl (lv_at hl 0 rfl) ?_
    refine gf_4_0 hF hKK hW k0 dX4_areJoinedAgain_12 ?_
    refine lv_iload_n hx hb dX4_areJoinedAgain_15 rfl (lv_at hl 1 rfl) ?_
    refine lv_iconst (v := (0 : Int32)) hx hb dX4_areJoinedAgain_16 (by decide) ?_
    obtain ⟨q3, hq3, hs⟩ := obind_e hs
    refine end_i (run_V (q := (RX1, TX1, 7)) (ci := 1) hF hKK hW hS hl.1 (lk_4_0 hOK k0) (by decide) rfl (c_X1_reached l hOK (lk_4_0 hOK k0) hq3) (kw_X4_83 hF.2.2.2.2 ⟨Nat.le_of_ble_eq_true rfl, Nat.le_of_ble_eq_true rfl⟩) rfl rfl (Nat.le_of_ble_eq_true rfl) dX4_areJoinedAgain_17 ⟨Nat.zero_le _, Nat.zero_le _⟩) hS (fun H locs hW hS => ?_)
    refine lv_iload_n hx hb dX4_areJoinedAgain_20 rfl (lv_at hl 2 rfl) ?_
    obtain ⟨q4, hq4, hs⟩ := obind_e hs
    refine end_i (run_S hF hKK hW hS hl.1 (c_X4_bit l hOK  hq4) (kw_X4_86 hF.2.2.2.2 ⟨Nat.le_of_ble_eq_true rfl, Nat.le_of_ble_eq_true rfl⟩) rfl rfl (Nat.le_of_ble_eq_true rfl) dX4_areJoinedAgain_21 ⟨Nat.zero_le _, Nat.zero_le _⟩) hS (fun H locs hW hS => ?_)
    refine lv_iand hx hb dX4_areJoinedAgain_24 ?_
    refine lv_if_eq (tgt := 32) hx hb dX4_areJoinedAgain_25 (by decide) (fun c5 => ?_) (fun c5 => ?_)
    · have hs := ite_t hs c5
      refine lv_iconst (v := (0 : Int32)) hx hb dX4_areJoinedAgain_32 (by decide) ?_
      have h9 := Option.some.inj hs
      rw [← h9]
      exact wr_i hF hr hlocks (vp_nar_int _) hW hS dX4_areJoinedAgain_33
    · have hs := ite_f hs c5
      refine lv_iconst (v := (1 : Int32)) hx hb dX4_areJoinedAgain_28 (by decide) ?_
      refine lv_goto (tgt := 33) hx hb dX4_areJoinedAgain_29 (by decide) ?_
      have h9 := Option.some.inj hs
      rw [← h9]
      exact wr_i hF hr hlocks (vp_nar_int _) hW hS dX4_areJoinedAgain_33
  · have hs := ite_t hs c2
    refine lv_iconst (v := (-1 : Int32)) hx hb dX4_areJoinedAgain_9 (by decide) ?_
    have h9 := Option.some.inj hs
    rw [← h9]
    exact wr_i hF hr hlocks (vp_nar_int _) hW hS dX4_areJoinedAgain_10

set_option maxHeartbeats 4000000 in
set_option maxRecDepth 100000 in
theorem c_X4_settle (l : Launch) {G : va_G} {Λ : Lay} {μ : Mem} (hOK : LayOK Λ) {a0 : Nat} (k0 : inK Λ a0 4) {a1 : Int32} {r : (Int32 × Mem)} (hs : sX4_settle Λ μ a0 a1 = some r) : CM l G Λ yX4_settle cX4_settle 2 (some .int) 2 μ [.ref a0, .int a1] (QI G Λ r.1 r.2) := by
  refine ofM (own := RX4) (by decide +kernel) rfl (Nat.le_of_ble_eq_true rfl) (fun p e s m args below meth c ls hF hKK hW hr hlocks hl => ?_)
  have hx := hF.1
  have hb := hF.2.1
  have hA : ∀ q, inL Λ q → inL Λ q := fun _ h => h
  have hS : va_S (inL Λ) s.heap s.heap [] := va_S.rf
  have hl : lv_has ls 2 [(0, .ref a0), (1, .int a1)] := hl
  unfold sX4_settle at hs
  refine lv_iload_n hx hb dX4_settle_0 rfl (lv_at hl 1 rfl) ?_
  refine lv_if_lt (tgt := 11) hx hb dX4_settle_1 (by decide) (fun c1 => ?_) (fun c1 => ?_)
  · have hs := ite_t hs c1
    refine lv_iload_n hx hb dX4_settle_11 rfl (lv_at hl 1 rfl) ?_
    have h9 := Option.some.inj hs
    rw [← h9]
    exact wr_i hF hr hlocks (vp_nar_int _) hW hS dX4_settle_12
  · have hs := ite_f hs c1
    refine lv_aload_n hx hb dX4_settle_4 rfl (lv_at hl 0 rfl) ?_
    refine gf_4_2 hF hKK hW k0 dX4_settle_5 ?_
    obtain ⟨q2, hq2, hs⟩ := obind_e hs
    refine end_v (run_V (q := (RX0, TX0, 3)) (ci := 0) hF hKK hW hS hl.1 (lk_4_2 hOK k0) (by decide) rfl (c_X0_confirm l hOK (lk_4_2 hOK k0) hq2) (kw_X4_289 hF.2.2.2.2 ⟨Nat.le_of_ble_eq_true rfl, Nat.le_of_ble_eq_true rfl⟩) rfl rfl (Nat.le_of_ble_eq_true rfl) dX4_settle_8 ⟨Nat.zero_le _, Nat.zero_le _⟩) hS (fun H locs hW hS => ?_)
    refine lv_iload_n hx hb dX4_settle_11 rfl (lv_at hl 1 rfl) ?_
    have h9 := Option.some.inj hs
    rw [← h9]
    exact wr_i hF hr hlocks (vp_nar_int _) hW hS dX4_settle_12

set_option maxHeartbeats 4000000 in
set_option maxRecDepth 100000 in
theorem c_X4_bank (l : Launch) {G : va_G} {Λ : Lay} {μ : Mem} (hOK : LayOK Λ) {a0 : Nat} (k0 : inK Λ a0 4) {a1 : Int32} {r : (Int32 × Mem)} (hs : sX4_bank Λ μ a0 a1 = some r) : CM l G Λ yX4_bank cX4_bank 2 (some .int) 4 μ [.ref a0, .int a1] (QI G Λ r.1 r.2) := by
  refine ofM (own := RX4) (by decide +kernel) rfl (Nat.le_of_ble_eq_true rfl) (fun p e s m args below meth c ls hF hKK hW hr hlocks hl => ?_)
  have hx := hF.1
  have hb := hF.2.1
  have hA : ∀ q, inL Λ q → inL Λ q := fun _ h => h
  have hS : va_S (inL Λ) s.heap s.heap [] := va_S.rf
  have hl : lv_has ls 2 [(0, .ref a0), (1, .int a1)] := hl
  unfold sX4_bank at hs
  refine lv_aload_n hx hb dX4_bank_0 rfl (lv_at hl 0 rfl) ?_
  refine gf_4_2 hF hKK hW k0 dX4_bank_1 ?_
  refine lv_aload_n hx hb dX4_bank_4 rfl (lv_at hl 0 rfl) ?_
  refine gf_4_0 hF hKK hW k0 dX4_bank_5 ?_
  obtain ⟨q1, hq1, hs⟩ := obind_e hs
  refine end_v (run_V (q := (RX0, TX0, 3)) (ci := 0) hF hKK hW hS hl.1 (lk_4_2 hOK k0) (by decide) rfl (c_X0_note l hOK (lk_4_2 hOK k0) (lk_4_0 hOK k0) hq1) (kw_X4_49 hF.2.2.2.2 ⟨Nat.le_of_ble_eq_true rfl, Nat.le_of_ble_eq_true rfl⟩) rfl rfl (Nat.le_of_ble_eq_true rfl) dX4_bank_8 ⟨Nat.zero_le _, Nat.zero_le _⟩) hS (fun H locs hW hS => ?_)
  refine lv_aload_n hx hb dX4_bank_11 rfl (lv_at hl 0 rfl) ?_
  refine lv_aload_n hx hb dX4_bank_12 rfl (lv_at hl 0 rfl) ?_
  refine lv_iload_n hx hb dX4_bank_13 rfl (lv_at hl 1 rfl) ?_
  obtain ⟨q2, hq2, hs⟩ := obind_e hs
  refine end_i (run_V (q := (RX4, TX4, 11)) (ci := 4) hF hKK hW hS hl.1 k0 (by decide) rfl (c_X4_addBank l hOK k0 hq2) (kw_X4_53 hF.2.2.2.2 ⟨Nat.le_of_ble_eq_true rfl, Nat.le_of_ble_eq_true rfl⟩) rfl rfl (Nat.le_of_ble_eq_true rfl) dX4_bank_14 ⟨Nat.zero_le _, Nat.zero_le _⟩) hS (fun H locs hW hS => ?_)
  obtain ⟨q3, hq3, hs⟩ := obind_e hs
  refine end_i (run_V (q := (RX4, TX4, 11)) (ci := 4) hF hKK hW hS hl.1 k0 (by decide) rfl (c_X4_settle l hOK k0 hq3) (kw_X4_57 hF.2.2.2.2 ⟨Nat.le_of_ble_eq_true rfl, Nat.le_of_ble_eq_true rfl⟩) rfl rfl (Nat.le_of_ble_eq_true rfl) dX4_bank_17 ⟨Nat.zero_le _, Nat.zero_le _⟩) hS (fun H locs hW hS => ?_)
  have h9 := Option.some.inj hs
  rw [← h9]
  exact wr_i hF hr hlocks (vp_nar_int _) hW hS dX4_bank_20

set_option maxHeartbeats 4000000 in
set_option maxRecDepth 100000 in
theorem c_X4_bankOf (l : Launch) {G : va_G} {Λ : Lay} {μ : Mem} (hOK : LayOK Λ) {a0 : Nat} (k0 : inK Λ a0 4) {a1 : Int32} {a2 : Int32} {r : Int32} (hs : sX4_bankOf Λ μ a0 a1 a2 = some r) : CM l G Λ yX4_bankOf cX4_bankOf 3 (some .int) 5 μ [.ref a0, .int a1, .int a2] (QI G Λ r μ) := by
  refine ofM (own := RX4) (by decide +kernel) rfl (Nat.le_of_ble_eq_true rfl) (fun p e s m args below meth c ls hF hKK hW hr hlocks hl => ?_)
  have hx := hF.1
  have hb := hF.2.1
  have hA : ∀ q, inL Λ q → inL Λ q := fun _ h => h
  have hS : va_S (inL Λ) s.heap s.heap [] := va_S.rf
  have hl : lv_has ls 3 [(0, .ref a0), (1, .int a1), (2, .int a2)] := hl
  unfold sX4_bankOf at hs
  refine lv_aload_n hx hb dX4_bankOf_0 rfl (lv_at hl 0 rfl) ?_
  refine gf_4_0 hF hKK hW k0 dX4_bankOf_1 ?_
  refine lv_iload_n hx hb dX4_bankOf_4 rfl (lv_at hl 1 rfl) ?_
  obtain ⟨q1, hq1, hs⟩ := obind_e hs
  refine end_i (run_V (q := (RX1, TX1, 7)) (ci := 1) hF hKK hW hS hl.1 (lk_4_0 hOK k0) (by decide) rfl (c_X1_has l hOK (lk_4_0 hOK k0) hq1) (kw_X4_89 hF.2.2.2.2 ⟨Nat.le_of_ble_eq_true rfl, Nat.le_of_ble_eq_true rfl⟩) rfl rfl (Nat.le_of_ble_eq_true rfl) dX4_bankOf_5 ⟨Nat.zero_le _, Nat.zero_le _⟩) hS (fun H locs hW hS => ?_)
  refine lv_if_ne (tgt := 13) hx hb dX4_bankOf_8 (by decide) (fun c2 => ?_) (fun c2 => ?_)
  · have hs := ite_f hs c2
    refine lv_iload_n hx hb dX4_bankOf_13 rfl (lv_at hl 2 rfl) ?_
    by_cases c3 : a2 = (0 : Int32)
    · have hs := ite_t hs c3
      refine lv_tableIn (off := 50) (tgt := 64) hx hb dX4_bankOf_14 (by rw [c3]; decide) (by rw [c3]; decide) (by rw [c3]; decide) (by decide) ?_
      refine lv_aload_n hx hb dX4_bankOf_64 rfl (lv_at hl 0 rfl) ?_
      refine gf_4_0 hF hKK hW k0 dX4_bankOf_65 ?_
      refine lv_iload_n hx hb dX4_bankOf_68 rfl (lv_at hl 1 rfl) ?_
      obtain ⟨q4, hq4, hs⟩ := obind_e hs
      refine end_i (run_V (q := (RX1, TX1, 7)) (ci := 1) hF hKK hW hS hl.1 (lk_4_0 hOK k0) (by decide) rfl (c_X1_weightOf l hOK (lk_4_0 hOK k0) hq4) (kw_X4_93 hF.2.2.2.2 ⟨Nat.le_of_ble_eq_true rfl, Nat.le_of_ble_eq_true rfl⟩) rfl rfl (Nat.le_of_ble_eq_true rfl) dX4_bankOf_69 ⟨Nat.zero_le _, Nat.zero_le _⟩) hS (fun H locs hW hS => ?_)
      have h9 := Option.some.inj hs
      rw [← h9]
      exact wr_i hF hr hlocks (vp_nar_int _) hW hS dX4_bankOf_72
    have hs := ite_f hs c3
    by_cases c5 : a2 = (1 : Int32)
    · have hs := ite_t hs c5
      refine lv_tableIn (off := 59) (tgt := 73) hx hb dX4_bankOf_14 (by rw [c5]; decide) (by rw [c5]; decide) (by rw [c5]; decide) (by decide) ?_
      refine lv_aload_n hx hb dX4_bankOf_73 rfl (lv_at hl 0 rfl) ?_
      refine gf_4_0 hF hKK hW k0 dX4_bankOf_74 ?_
      refine lv_iload_n hx hb dX4_bankOf_77 rfl (lv_at hl 1 rfl) ?_
      obtain ⟨q6, hq6, hs⟩ := obind_e hs
      refine end_i (run_V (q := (RX1, TX1, 7)) (ci := 1) hF hKK hW hS hl.1 (lk_4_0 hOK k0) (by decide) rfl (c_X1_rootOf l hOK (lk_4_0 hOK k0) hq6) (kw_X4_96 hF.2.2.2.2 ⟨Nat.le_of_ble_eq_true rfl, Nat.le_of_ble_eq_true rfl⟩) rfl rfl (Nat.le_of_ble_eq_true rfl) dX4_bankOf_78 ⟨Nat.zero_le _, Nat.zero_le _⟩) hS (fun H locs hW hS => ?_)
      have h9 := Option.some.inj hs
      rw [← h9]
      exact wr_i hF hr hlocks (vp_nar_int _) hW hS dX4_bankOf_81
    have hs := ite_f hs c5
    by_cases c7 : a2 = (2 : Int32)
    · have hs := ite_t hs c7
      refine lv_tableIn (off := 68) (tgt := 82) hx hb dX4_bankOf_14 (by rw [c7]; decide) (by rw [c7]; decide) (by rw [c7]; decide) (by decide) ?_
      refine lv_aload_n hx hb dX4_bankOf_82 rfl (lv_at hl 0 rfl) ?_
      refine gf_4_0 hF hKK hW k0 dX4_bankOf_83 ?_
      refine lv_iload_n hx hb dX4_bankOf_86 rfl (lv_at hl 1 rfl) ?_
      obtain ⟨q8, hq8, hs⟩ := obind_e hs
      refine end_i (run_V (q := (RX1, TX1, 7)) (ci := 1) hF hKK hW hS hl.1 (lk_4_0 hOK k0) (by decide) rfl (c_X1_depthOf l hOK (lk_4_0 hOK k0) hq8) (kw_X4_99 hF.2.2.2.2 ⟨Nat.le_of_ble_eq_true rfl, Nat.le_of_ble_eq_true rfl⟩) rfl rfl (Nat.le_of_ble_eq_true rfl) dX4_bankOf_87 ⟨Nat.zero_le _, Nat.zero_le _⟩) hS (fun H locs hW hS => ?_)
      have h9 := Option.some.inj hs
      rw [← h9]
      exact wr_i hF hr hlocks (vp_nar_int _) hW hS dX4_bankOf_90
    have hs := ite_f hs c7
    by_cases c9 : a2 = (3 : Int32)
    · have hs := ite_t hs c9
      refine lv_tableIn (off := 77) (tgt := 91) hx hb dX4_bankOf_14 (by rw [c9]; decide) (by rw [c9]; decide) (by rw [c9]; decide) (by decide) ?_
      refine lv_aload_n hx hb dX4_bankOf_91 rfl (lv_at hl 0 rfl) ?_
      refine gf_4_0 hF hKK hW k0 dX4_bankOf_92 ?_
      refine lv_iload_n hx hb dX4_bankOf_95 rfl (lv_at hl 1 rfl) ?_
      obtain ⟨q10, hq10, hs⟩ := obind_e hs
      refine end_r (run_V (q := (RX1, TX1, 7)) (ci := 1) hF hKK hW hS hl.1 (lk_4_0 hOK k0) (by decide) rfl (c_X1_roundOf l hOK (lk_4_0 hOK k0) hq10) (kw_X4_102 hF.2.2.2.2 ⟨Nat.le_of_ble_eq_true rfl, Nat.le_of_ble_eq_true rfl⟩) rfl rfl (Nat.le_of_ble_eq_true rfl) dX4_bankOf_96 ⟨Nat.zero_le _, Nat.zero_le _⟩) hS (fun H locs kq10 hW hS => ?_)
      refine lv_iload_n hx hb dX4_bankOf_99 rfl (lv_at hl 1 rfl) ?_
      obtain ⟨q11, hq11, hs⟩ := obind_e hs
      refine end_i (run_V (q := (RX2, TX2, 2)) (ci := 2) hF hKK hW hS hl.1 kq10 (by decide) rfl (c_X2_firstOf l hOK kq10 hq11) (kw_X4_106 hF.2.2.2.2 ⟨Nat.le_of_ble_eq_true rfl, Nat.le_of_ble_eq_true rfl⟩) rfl rfl (Nat.le_of_ble_eq_true rfl) dX4_bankOf_100 ⟨Nat.zero_le _, Nat.zero_le _⟩) hS (fun H locs hW hS => ?_)
      have h9 := Option.some.inj hs
      rw [← h9]
      exact wr_i hF hr hlocks (vp_nar_int _) hW hS dX4_bankOf_103
    have hs := ite_f hs c9
    by_cases c12 : a2 = (4 : Int32)
    · have hs := ite_t hs c12
      refine lv_tableIn (off := 90) (tgt := 104) hx hb dX4_bankOf_14 (by rw [c12]; decide) (by rw [c12]; decide) (by rw [c12]; decide) (by decide) ?_
      refine lv_aload_n hx hb dX4_bankOf_104 rfl (lv_at hl 0 rfl) ?_
      refine gf_4_0 hF hKK hW k0 dX4_bankOf_105 ?_
      refine lv_iload_n hx hb dX4_bankOf_108 rfl (lv_at hl 1 rfl) ?_
      obtain ⟨q13, hq13, hs⟩ := obind_e hs
      refine end_r (run_V (q := (RX1, TX1, 7)) (ci := 1) hF hKK hW hS hl.1 (lk_4_0 hOK k0) (by decide) rfl (c_X1_roundOf l hOK (lk_4_0 hOK k0) hq13) (kw_X4_102 hF.2.2.2.2 ⟨Nat.le_of_ble_eq_true rfl, Nat.le_of_ble_eq_true rfl⟩) rfl rfl (Nat.le_of_ble_eq_true rfl) dX4_bankOf_109 ⟨Nat.zero_le _, Nat.zero_le _⟩) hS (fun H locs kq13 hW hS => ?_)
      refine lv_iload_n hx hb dX4_bankOf_112 rfl (lv_at hl 1 rfl) ?_
      obtain ⟨q14, hq14, hs⟩ := obind_e hs
      refine end_i (run_V (q := (RX2, TX2, 2)) (ci := 2) hF hKK hW hS hl.1 kq13 (by decide) rfl (c_X2_lastOf l hOK kq13 hq14) (kw_X4_109 hF.2.2.2.2 ⟨Nat.le_of_ble_eq_true rfl, Nat.le_of_ble_eq_true rfl⟩) rfl rfl (Nat.le_of_ble_eq_true rfl) dX4_bankOf_113 ⟨Nat.zero_le _, Nat.zero_le _⟩) hS (fun H locs hW hS => ?_)
      have h9 := Option.some.inj hs
      rw [← h9]
      exact wr_i hF hr hlocks (vp_nar_int _) hW hS dX4_bankOf_116
    have hs := ite_f hs c12
    by_cases c15 : a2 = (5 : Int32)
    · have hs := ite_t hs c15
      refine lv_tableIn (off := 103) (tgt := 117) hx hb dX4_bankOf_14 (by rw [c15]; decide) (by rw [c15]; decide) (by rw [c15]; decide) (by decide) ?_
      refine lv_aload_n hx hb dX4_bankOf_117 rfl (lv_at hl 0 rfl) ?_
      refine gf_4_0 hF hKK hW k0 dX4_bankOf_118 ?_
      refine lv_iload_n hx hb dX4_bankOf_121 rfl (lv_at hl 1 rfl) ?_
      obtain ⟨q16, hq16, hs⟩ := obind_e hs
      refine end_i (run_V (q := (RX1, TX1, 7)) (ci := 1) hF hKK hW hS hl.1 (lk_4_0 hOK k0) (by decide) rfl (c_X1_ropesOf l hOK (lk_4_0 hOK k0) hq16) (kw_X4_112 hF.2.2.2.2 ⟨Nat.le_of_ble_eq_true rfl, Nat.le_of_ble_eq_true rfl⟩) rfl rfl (Nat.le_of_ble_eq_true rfl) dX4_bankOf_122 ⟨Nat.zero_le _, Nat.zero_le _⟩) hS (fun H locs hW hS => ?_)
      obtain ⟨q17, hq17, hs⟩ := obind_e hs
      refine end_i (run_S hF hKK hW hS hl.1 (c_J6_bitCount_0f7a4 l hOK  hq17) (kw_X4_115 hF.2.2.2.2 ⟨Nat.le_of_ble_eq_true rfl, Nat.le_of_ble_eq_true rfl⟩) rfl rfl (Nat.le_of_ble_eq_true rfl) dX4_bankOf_125 ⟨Nat.zero_le _, Nat.zero_le _⟩) hS (fun H locs hW hS => ?_)
      have h9 := Option.some.inj hs
      rw [← h9]
      exact wr_i hF hr hlocks (vp_nar_int _) hW hS dX4_bankOf_128
    have hs := ite_f hs c15
    by_cases c18 : a2 = (6 : Int32)
    · have hs := ite_t hs c18
      refine lv_tableIn (off := 115) (tgt := 129) hx hb dX4_bankOf_14 (by rw [c18]; decide) (by rw [c18]; decide) (by rw [c18]; decide) (by decide) ?_
      refine lv_aload_n hx hb dX4_bankOf_129 rfl (lv_at hl 0 rfl) ?_
      refine gf_4_0 hF hKK hW k0 dX4_bankOf_130 ?_
      refine lv_iload_n hx hb dX4_bankOf_133 rfl (lv_at hl 1 rfl) ?_
      obtain ⟨q19, hq19, hs⟩ := obind_e hs
      refine end_i (run_V (q := (RX1, TX1, 7)) (ci := 1) hF hKK hW hS hl.1 (lk_4_0 hOK k0) (by decide) rfl (c_X1_justAbove l hOK (lk_4_0 hOK k0) hq19) (kw_X4_120 hF.2.2.2.2 ⟨Nat.le_of_ble_eq_true rfl, Nat.le_of_ble_eq_true rfl⟩) rfl rfl (Nat.le_of_ble_eq_true rfl) dX4_bankOf_134 ⟨Nat.zero_le _, Nat.zero_le _⟩) hS (fun H locs hW hS => ?_)
      have h9 := Option.some.inj hs
      rw [← h9]
      exact wr_i hF hr hlocks (vp_nar_int _) hW hS dX4_bankOf_137
    have hs := ite_f hs c18
    by_cases c20 : a2 = (7 : Int32)
    · have hs := ite_t hs c20
      refine lv_tableIn (off := 124) (tgt := 138) hx hb dX4_bankOf_14 (by rw [c20]; decide) (by rw [c20]; decide) (by rw [c20]; decide) (by decide) ?_
      refine lv_aload_n hx hb dX4_bankOf_138 rfl (lv_at hl 0 rfl) ?_
      refine gf_4_0 hF hKK hW k0 dX4_bankOf_139 ?_
      refine lv_iload_n hx hb dX4_bankOf_142 rfl (lv_at hl 1 rfl) ?_
      obtain ⟨q21, hq21, hs⟩ := obind_e hs
      refine end_i (run_V (q := (RX1, TX1, 7)) (ci := 1) hF hKK hW hS hl.1 (lk_4_0 hOK k0) (by decide) rfl (c_X1_belowOf l hOK (lk_4_0 hOK k0) hq21) (kw_X4_123 hF.2.2.2.2 ⟨Nat.le_of_ble_eq_true rfl, Nat.le_of_ble_eq_true rfl⟩) rfl rfl (Nat.le_of_ble_eq_true rfl) dX4_bankOf_143 ⟨Nat.zero_le _, Nat.zero_le _⟩) hS (fun H locs hW hS => ?_)
      obtain ⟨q22, hq22, hs⟩ := obind_e hs
      refine end_i (run_S hF hKK hW hS hl.1 (c_J6_bitCount_0f7a4 l hOK  hq22) (kw_X4_115 hF.2.2.2.2 ⟨Nat.le_of_ble_eq_true rfl, Nat.le_of_ble_eq_true rfl⟩) rfl rfl (Nat.le_of_ble_eq_true rfl) dX4_bankOf_146 ⟨Nat.zero_le _, Nat.zero_le _⟩) hS (fun H locs hW hS => ?_)
      have h9 := Option.some.inj hs
      rw [← h9]
      exact wr_i hF hr hlocks (vp_nar_int _) hW hS dX4_bankOf_149
    have hs := ite_f hs c20
    by_cases c23 : a2 = (8 : Int32)
    · have hs := ite_t hs c23
      refine lv_tableIn (off := 136) (tgt := 150) hx hb dX4_bankOf_14 (by rw [c23]; decide) (by rw [c23]; decide) (by rw [c23]; decide) (by decide) ?_
      refine lv_aload_n hx hb dX4_bankOf_150 rfl (lv_at hl 0 rfl) ?_
      refine gf_4_0 hF hKK hW k0 dX4_bankOf_151 ?_
      refine lv_aload_n hx hb dX4_bankOf_154 rfl (lv_at hl 0 rfl) ?_
      refine gf_4_0 hF hKK hW k0 dX4_bankOf_155 ?_
      refine lv_iload_n hx hb dX4_bankOf_158 rfl (lv_at hl 1 rfl) ?_
      obtain ⟨q24, hq24, hs⟩ := obind_e hs
      refine end_i (run_V (q := (RX1, TX1, 7)) (ci := 1) hF hKK hW hS hl.1 (lk_4_0 hOK k0) (by decide) rfl (c_X1_belowOf l hOK (lk_4_0 hOK k0) hq24) (kw_X4_123 hF.2.2.2.2 ⟨Nat.le_of_ble_eq_true rfl, Nat.le_of_ble_eq_true rfl⟩) rfl rfl (Nat.le_of_ble_eq_true rfl) dX4_bankOf_159 ⟨Nat.zero_le _, Nat.zero_le _⟩) hS (fun H locs hW hS => ?_)
      obtain ⟨q25, hq25, hs⟩ := obind_e hs
      refine end_i (run_V (q := (RX1, TX1, 7)) (ci := 1) hF hKK hW hS hl.1 (lk_4_0 hOK k0) (by decide) rfl (c_X1_weightOfAll l hOK (lk_4_0 hOK k0) hq25) (kw_X4_126 hF.2.2.2.2 ⟨Nat.le_of_ble_eq_true rfl, Nat.le_of_ble_eq_true rfl⟩) rfl rfl (Nat.le_of_ble_eq_true rfl) dX4_bankOf_162 ⟨Nat.zero_le _, Nat.zero_le _⟩) hS (fun H locs hW hS => ?_)
      have h9 := Option.some.inj hs
      rw [← h9]
      exact wr_i hF hr hlocks (vp_nar_int _) hW hS dX4_bankOf_165
    have hs := ite_f hs c23
    refine lv_tableOut (tgt := 166) hx hb dX4_bankOf_14 (by have := lv_neT c3 (a := 0) (by decide); have := lv_neT c5 (a := 1) (by decide); have := lv_neT c7 (a := 2) (by decide); have := lv_neT c9 (a := 3) (by decide); have := lv_neT c12 (a := 4) (by decide); have := lv_neT c15 (a := 5) (by decide); have := lv_neT c18 (a := 6) (by decide); have := lv_neT c20 (a := 7) (by decide); have := lv_neT c23 (a := 8) (by decide); omega) (by decide) ?_
    refine lv_bipush (v := (-2 : Int32)) hx hb dX4_bankOf_166 (by decide) ?_
    have h9 := Option.some.inj hs
    rw [← h9]
    exact wr_i hF hr hlocks (vp_nar_int _) hW hS dX4_bankOf_168
  · have hs := ite_t hs c2
    refine lv_iconst (v := (-1 : Int32)) hx hb dX4_bankOf_11 (by decide) ?_
    have h9 := Option.some.inj hs
    rw [← h9]
    exact wr_i hF hr hlocks (vp_nar_int _) hW hS dX4_bankOf_12

set_option maxHeartbeats 4000000 in
set_option maxRecDepth 100000 in
theorem c_X4_belowAgain (l : Launch) {G : va_G} {Λ : Lay} {μ : Mem} (hOK : LayOK Λ) {a0 : Nat} (k0 : inK Λ a0 4) {a1 : Int32} {r : Int32} (hs : sX4_belowAgain Λ μ a0 a1 = some r) : CM l G Λ yX4_belowAgain cX4_belowAgain 2 (some .int) 5 μ [.ref a0, .int a1] (QI G Λ r μ) := by
  refine ofM (own := RX4) (by decide +kernel) rfl (Nat.le_of_ble_eq_true rfl) (fun p e s m args below meth c ls hF hKK hW hr hlocks hl => ?_)
  have hx := hF.1
  have hb := hF.2.1
  have hA : ∀ q, inL Λ q → inL Λ q := fun _ h => h
  have hS : va_S (inL Λ) s.heap s.heap [] := va_S.rf
  have hl : lv_has ls 2 [(0, .ref a0), (1, .int a1)] := hl
  unfold sX4_belowAgain at hs
  refine lv_aload_n hx hb dX4_belowAgain_0 rfl (lv_at hl 0 rfl) ?_
  refine gf_4_0 hF hKK hW k0 dX4_belowAgain_1 ?_
  refine lv_iload_n hx hb dX4_belowAgain_4 rfl (lv_at hl 1 rfl) ?_
  obtain ⟨q1, hq1, hs⟩ := obind_e hs
  refine end_i (run_V (q := (RX1, TX1, 7)) (ci := 1) hF hKK hW hS hl.1 (lk_4_0 hOK k0) (by decide) rfl (c_X1_has l hOK (lk_4_0 hOK k0) hq1) (kw_X4_89 hF.2.2.2.2 ⟨Nat.le_of_ble_eq_true rfl, Nat.le_of_ble_eq_true rfl⟩) rfl rfl (Nat.le_of_ble_eq_true rfl) dX4_belowAgain_5 ⟨Nat.zero_le _, Nat.zero_le _⟩) hS (fun H locs hW hS => ?_)
  refine lv_if_ne (tgt := 13) hx hb dX4_belowAgain_8 (by decide) (fun c2 => ?_) (fun c2 => ?_)
  · have hs := ite_f hs c2
    refine lv_aload_n hx hb dX4_belowAgain_13 rfl (lv_at hl 0 rfl) ?_
    refine gf_4_0 hF hKK hW k0 dX4_belowAgain_14 ?_
    refine lv_aload_n hx hb dX4_belowAgain_17 rfl (lv_at hl 0 rfl) ?_
    refine gf_4_0 hF hKK hW k0 dX4_belowAgain_18 ?_
    refine lv_iload_n hx hb dX4_belowAgain_21 rfl (lv_at hl 1 rfl) ?_
    obtain ⟨q3, hq3, hs⟩ := obind_e hs
    refine end_i (run_V (q := (RX1, TX1, 7)) (ci := 1) hF hKK hW hS hl.1 (lk_4_0 hOK k0) (by decide) rfl (c_X1_reachedBelow l hOK (lk_4_0 hOK k0) hq3) (kw_X4_129 hF.2.2.2.2 ⟨Nat.le_of_ble_eq_true rfl, Nat.le_of_ble_eq_true rfl⟩) rfl rfl (Nat.le_of_ble_eq_true rfl) dX4_belowAgain_22 ⟨Nat.zero_le _, Nat.zero_le _⟩) hS (fun H locs hW hS => ?_)
    obtain ⟨q4, hq4, hs⟩ := obind_e hs
    refine end_i (run_V (q := (RX1, TX1, 7)) (ci := 1) hF hKK hW hS hl.1 (lk_4_0 hOK k0) (by decide) rfl (c_X1_weightOfAll l hOK (lk_4_0 hOK k0) hq4) (kw_X4_126 hF.2.2.2.2 ⟨Nat.le_of_ble_eq_true rfl, Nat.le_of_ble_eq_true rfl⟩) rfl rfl (Nat.le_of_ble_eq_true rfl) dX4_belowAgain_25 ⟨Nat.zero_le _, Nat.zero_le _⟩) hS (fun H locs hW hS => ?_)
    have h9 := Option.some.inj hs
    rw [← h9]
    exact wr_i hF hr hlocks (vp_nar_int _) hW hS dX4_belowAgain_28
  · have hs := ite_t hs c2
    refine lv_iconst (v := (-1 : Int32)) hx hb dX4_belowAgain_11 (by decide) ?_
    have h9 := Option.some.inj hs
    rw [← h9]
    exact wr_i hF hr hlocks (vp_nar_int _) hW hS dX4_belowAgain_12

set_option maxHeartbeats 4000000 in
set_option maxRecDepth 100000 in
theorem cl_X4_bitsOf_42 {p : Program} {l : Launch} {e : Env} {s : State} {m : MethodId} {args : Array Value} {below : List Frame} {meth : Method} {c : Code} {G : va_G} {Λ : Lay} {μ : Mem} {r : Int32} (hOK : LayOK Λ) (hF : CallFix p m c cX4_bitsOf 4 s args tw RX4) (hKK : KK G Λ s) (hr : meth.sig.returnType = (some .int)) (hlocks : meth.locks = false) : ∀ (n : Nat) (x1 : UInt32) (x2 : Int32) (x3 : Int32) (H : Heap) (locs : List Loc) (ls : Array Slot), lpX4_bitsOf_42 Λ μ n x1 x2 x3 = some r → Wd G Λ μ H → va_S (inL Λ) s.heap H locs → lv_has ls 4 [(1, .float x1), (2, .int x2), (3, .int x3)] → W p l e (rmd 0) s m args below meth c H locs 0 0 (MQ below (QI G Λ r μ) args s 0 0 (inL Λ)) (F0 m 42 ls []) := by
  have hx := hF.1
  have hb := hF.2.1
  have hA : ∀ q, inL Λ q → inL Λ q := fun _ h => h
  intro n
  induction n with
  | zero =>
    intro x1 x2 x3 H locs ls hs hW hS hl
    cases hs
  | succ n42 ih42 =>
    intro x1 x2 x3 H locs ls hs hW hS hl
    rw [lpX4_bitsOf_42_s] at hs
    refine lv_iload_n hx hb dX4_bitsOf_42 rfl (lv_at hl 2 rfl) ?_
    refine lv_bipush (v := (126 : Int32)) hx hb dX4_bitsOf_43 (by decide) ?_
    refine lv_icmp_ge (tgt := 67) hx hb dX4_bitsOf_45 (by decide) (fun c3 => ?_) (fun c3 => ?_)
    · have hs := ite_t hs c3
      refine lv_iload_n hx hb dX4_bitsOf_67 rfl (lv_at hl 1 rfl) ?_
      refine lv_bipush (v := (23 : Int32)) hx hb dX4_bitsOf_68 (by decide) ?_
      refine lv_ishl hx hb dX4_bitsOf_70 ?_
      refine lv_fload_n hx hb dX4_bitsOf_71 rfl (lv_at hl 0 rfl) ?_
      refine lv_fconst1 hx hb dX4_bitsOf_72 ?_
      obtain ⟨g4, hs⟩ := gd_some hs
      refine lv_fsub hx hb dX4_bitsOf_73 g4 ?_
      refine lv_ldcwf (v := (1258291200 : UInt32)) hx hb hF.2.2.2.1 (hF.2.2.2.2 _ wd_756) dX4_bitsOf_74 ?_
      obtain ⟨g5, hs⟩ := gd_some hs
      refine lv_fmul hx hb dX4_bitsOf_77 g5 ?_
      refine lv_f2i hx hb dX4_bitsOf_78 ?_
      refine lv_ior hx hb dX4_bitsOf_79 ?_
      have h9 := Option.some.inj hs
      rw [← h9]
      exact wr_i hF hr hlocks (vp_nar_int _) hW hS dX4_bitsOf_80
    · have hs := ite_f hs c3
      refine lv_fload_n hx hb dX4_bitsOf_48 rfl (lv_at hl 0 rfl) ?_
      refine lv_fconst1 hx hb dX4_bitsOf_49 ?_
      refine lv_fcmp hx hb dX4_bitsOf_50 ?_
      refine lv_if_ge (tgt := 67) hx hb dX4_bitsOf_51 (by decide) (fun c6 => ?_) (fun c6 => ?_)
      · have hs := ite_t hs c6
        refine lv_iload_n hx hb dX4_bitsOf_67 rfl (lv_at hl 1 rfl) ?_
        refine lv_bipush (v := (23 : Int32)) hx hb dX4_bitsOf_68 (by decide) ?_
        refine lv_ishl hx hb dX4_bitsOf_70 ?_
        refine lv_fload_n hx hb dX4_bitsOf_71 rfl (lv_at hl 0 rfl) ?_
        refine lv_fconst1 hx hb dX4_bitsOf_72 ?_
        obtain ⟨g7, hs⟩ := gd_some hs
        refine lv_fsub hx hb dX4_bitsOf_73 g7 ?_
        refine lv_ldcwf (v := (1258291200 : UInt32)) hx hb hF.2.2.2.1 (hF.2.2.2.2 _ wd_756) dX4_bitsOf_74 ?_
        obtain ⟨g8, hs⟩ := gd_some hs
        refine lv_fmul hx hb dX4_bitsOf_77 g8 ?_
        refine lv_f2i hx hb dX4_bitsOf_78 ?_
        refine lv_ior hx hb dX4_bitsOf_79 ?_
        have h9 := Option.some.inj hs
        rw [← h9]
        exact wr_i hF hr hlocks (vp_nar_int _) hW hS dX4_bitsOf_80
      · have hs := ite_f hs c6
        refine lv_fload_n hx hb dX4_bitsOf_54 rfl (lv_at hl 0 rfl) ?_
        refine lv_fconst2 hx hb dX4_bitsOf_55 ?_
        obtain ⟨g9, hs⟩ := gd_some hs
        refine lv_fmul hx hb dX4_bitsOf_56 g9 ?_
        obtain ⟨v10, ev10, hs⟩ := bnd_e hs
        refine top_f ev10 ?_
        refine lv_fstore_n (lv' := [(1, .float v10), (2, .int x2), (3, .int x3)]) hx hb dX4_bitsOf_57 rfl hl (by decide) rfl (fun ls hl => ?_)
        obtain ⟨v11, ev11, hs⟩ := bnd_e hs
        refine lv_iinc (v := v11) (lv' := [(2, .int v11), (1, .float v10), (3, .int x3)]) hx hb dX4_bitsOf_58 hl (k := 1) rfl (by rw [ev11]; rfl) (by decide) rfl (fun ls hl => ?_)
        obtain ⟨v12, ev12, hs⟩ := bnd_e hs
        refine lv_iinc (v := v12) (lv' := [(3, .int v12), (2, .int v11), (1, .float v10)]) hx hb dX4_bitsOf_61 hl (k := 2) rfl (by rw [ev12]; rfl) (by decide) rfl (fun ls hl => ?_)
        refine lv_goto (tgt := 42) hx hb dX4_bitsOf_64 (by decide) ?_
        exact ih42 v10 v11 v12 _ _ _ hs hW hS (lv_sub hl [2, 1, 0] rfl)

set_option maxHeartbeats 4000000 in
set_option maxRecDepth 100000 in
theorem cl_X4_bitsOf_15 {p : Program} {l : Launch} {e : Env} {s : State} {m : MethodId} {args : Array Value} {below : List Frame} {meth : Method} {c : Code} {G : va_G} {Λ : Lay} {μ : Mem} {r : Int32} (hOK : LayOK Λ) (hF : CallFix p m c cX4_bitsOf 4 s args tw RX4) (hKK : KK G Λ s) (hr : meth.sig.returnType = (some .int)) (hlocks : meth.locks = false) : ∀ (n : Nat) (x1 : UInt32) (x2 : Int32) (x3 : Int32) (H : Heap) (locs : List Loc) (ls : Array Slot), lpX4_bitsOf_15 Λ μ n x1 x2 x3 = some r → Wd G Λ μ H → va_S (inL Λ) s.heap H locs → lv_has ls 4 [(1, .float x1), (2, .int x2), (3, .int x3)] → W p l e (rmd 0) s m args below meth c H locs 0 0 (MQ below (QI G Λ r μ) args s 0 0 (inL Λ)) (F0 m 15 ls []) := by
  have hx := hF.1
  have hb := hF.2.1
  have hA : ∀ q, inL Λ q → inL Λ q := fun _ h => h
  intro n
  induction n with
  | zero =>
    intro x1 x2 x3 H locs ls hs hW hS hl
    cases hs
  | succ n15 ih15 =>
    intro x1 x2 x3 H locs ls hs hW hS hl
    rw [lpX4_bitsOf_15_s] at hs
    refine lv_iload_n hx hb dX4_bitsOf_15 rfl (lv_at hl 2 rfl) ?_
    refine lv_bipush (v := (127 : Int32)) hx hb dX4_bitsOf_16 (by decide) ?_
    refine lv_icmp_ge (tgt := 40) hx hb dX4_bitsOf_18 (by decide) (fun c2 => ?_) (fun c2 => ?_)
    · have hs := ite_t hs c2
      refine lv_iconst (v := (0 : Int32)) hx hb dX4_bitsOf_40 (by decide) ?_
      refine lv_istore_n (lv' := [(3, .int (0 : Int32)), (1, .float x1), (2, .int x2)]) hx hb dX4_bitsOf_41 rfl hl (by decide) rfl (fun ls hl => ?_)
      exact cl_X4_bitsOf_42 hOK hF hKK hr hlocks  fuel x1 x2 (0 : Int32) _ _ _ hs hW hS (lv_sub hl [1, 2, 0] rfl)
    · have hs := ite_f hs c2
      refine lv_fload_n hx hb dX4_bitsOf_21 rfl (lv_at hl 0 rfl) ?_
      refine lv_fconst2 hx hb dX4_bitsOf_22 ?_
      refine lv_fcmp hx hb dX4_bitsOf_23 ?_
      refine lv_if_lt (tgt := 40) hx hb dX4_bitsOf_24 (by decide) (fun c13 => ?_) (fun c13 => ?_)
      · have hs := ite_t hs c13
        refine lv_iconst (v := (0 : Int32)) hx hb dX4_bitsOf_40 (by decide) ?_
        refine lv_istore_n (lv' := [(3, .int (0 : Int32)), (1, .float x1), (2, .int x2)]) hx hb dX4_bitsOf_41 rfl hl (by decide) rfl (fun ls hl => ?_)
        exact cl_X4_bitsOf_42 hOK hF hKK hr hlocks  fuel x1 x2 (0 : Int32) _ _ _ hs hW hS (lv_sub hl [1, 2, 0] rfl)
      · have hs := ite_f hs c13
        refine lv_fload_n hx hb dX4_bitsOf_27 rfl (lv_at hl 0 rfl) ?_
        refine lv_fconst2 hx hb dX4_bitsOf_28 ?_
        obtain ⟨g14, hs⟩ := gd_some hs
        refine lv_fdiv hx hb dX4_bitsOf_29 g14 ?_
        obtain ⟨v15, ev15, hs⟩ := bnd_e hs
        refine top_f ev15 ?_
        refine lv_fstore_n (lv' := [(1, .float v15), (2, .int x2), (3, .int x3)]) hx hb dX4_bitsOf_30 rfl hl (by decide) rfl (fun ls hl => ?_)
        obtain ⟨v16, ev16, hs⟩ := bnd_e hs
        refine lv_iinc (v := v16) (lv' := [(2, .int v16), (1, .float v15), (3, .int x3)]) hx hb dX4_bitsOf_31 hl (k := 1) rfl (by rw [ev16]; rfl) (by decide) rfl (fun ls hl => ?_)
        obtain ⟨v17, ev17, hs⟩ := bnd_e hs
        refine lv_iinc (v := v17) (lv' := [(3, .int v17), (2, .int v16), (1, .float v15)]) hx hb dX4_bitsOf_34 hl (k := 2) rfl (by rw [ev17]; rfl) (by decide) rfl (fun ls hl => ?_)
        refine lv_goto (tgt := 15) hx hb dX4_bitsOf_37 (by decide) ?_
        exact ih15 v15 v16 v17 _ _ _ hs hW hS (lv_sub hl [2, 1, 0] rfl)

set_option maxHeartbeats 4000000 in
set_option maxRecDepth 100000 in
theorem c_X4_bitsOf (l : Launch) {G : va_G} {Λ : Lay} {μ : Mem} (hOK : LayOK Λ) {a0 : UInt32} {r : Int32} (hs : sX4_bitsOf Λ μ a0 = some r) : CM l G Λ yX4_bitsOf cX4_bitsOf 4 (some .int) 0 μ [.float a0] (QI G Λ r μ) := by
  refine ofM (own := RX4) (by decide +kernel) rfl (Nat.le_of_ble_eq_true rfl) (fun p e s m args below meth c ls hF hKK hW hr hlocks hl => ?_)
  have hx := hF.1
  have hb := hF.2.1
  have hA : ∀ q, inL Λ q → inL Λ q := fun _ h => h
  have hS : va_S (inL Λ) s.heap s.heap [] := va_S.rf
  have hl : lv_has ls 4 [(0, .float a0)] := hl
  unfold sX4_bitsOf at hs
  refine lv_fload_n hx hb dX4_bitsOf_0 rfl (lv_at hl 0 rfl) ?_
  refine lv_fconst0 hx hb dX4_bitsOf_1 ?_
  refine lv_fcmp hx hb dX4_bitsOf_2 ?_
  refine lv_if_gt (tgt := 8) hx hb dX4_bitsOf_3 (by decide) (fun c1 => ?_) (fun c1 => ?_)
  · have hs := ite_t hs c1
    refine lv_fload_n hx hb dX4_bitsOf_8 rfl (lv_at hl 0 rfl) ?_
    refine lv_fstore_n (lv' := [(1, .float a0), (0, .float a0)]) hx hb dX4_bitsOf_9 rfl hl (by decide) rfl (fun ls hl => ?_)
    refine lv_bipush (v := (127 : Int32)) hx hb dX4_bitsOf_10 (by decide) ?_
    refine lv_istore_n (lv' := [(2, .int (127 : Int32)), (1, .float a0), (0, .float a0)]) hx hb dX4_bitsOf_12 rfl hl (by decide) rfl (fun ls hl => ?_)
    refine lv_iconst (v := (0 : Int32)) hx hb dX4_bitsOf_13 (by decide) ?_
    refine lv_istore_n (lv' := [(3, .int (0 : Int32)), (2, .int (127 : Int32)), (1, .float a0), (0, .float a0)]) hx hb dX4_bitsOf_14 rfl hl (by decide) rfl (fun ls hl => ?_)
    exact cl_X4_bitsOf_15 hOK hF hKK hr hlocks  fuel a0 (127 : Int32) (0 : Int32) _ _ _ hs hW hS (lv_sub hl [2, 1, 0] rfl)
  · have hs := ite_f hs c1
    refine lv_iconst (v := (0 : Int32)) hx hb dX4_bitsOf_6 (by decide) ?_
    have h9 := Option.some.inj hs
    rw [← h9]
    exact wr_i hF hr hlocks (vp_nar_int _) hW hS dX4_bitsOf_7

set_option maxHeartbeats 4000000 in
set_option maxRecDepth 100000 in
theorem c_X4_cutRope (l : Launch) {G : va_G} {Λ : Lay} {μ : Mem} (hOK : LayOK Λ) {a0 : Nat} (k0 : inK Λ a0 4) {a1 : Int32} {a2 : Int32} {r : (Int32 × Mem)} (hs : sX4_cutRope Λ μ a0 a1 a2 = some r) : CM l G Λ yX4_cutRope cX4_cutRope 4 (some .int) 4 μ [.ref a0, .int a1, .int a2] (QI G Λ r.1 r.2) := by
  refine ofM (own := RX4) (by decide +kernel) rfl (Nat.le_of_ble_eq_true rfl) (fun p e s m args below meth c ls hF hKK hW hr hlocks hl => ?_)
  have hx := hF.1
  have hb := hF.2.1
  have hA : ∀ q, inL Λ q → inL Λ q := fun _ h => h
  have hS : va_S (inL Λ) s.heap s.heap [] := va_S.rf
  have hl : lv_has ls 4 [(0, .ref a0), (1, .int a1), (2, .int a2)] := hl
  unfold sX4_cutRope at hs
  refine lv_aload_n hx hb dX4_cutRope_0 rfl (lv_at hl 0 rfl) ?_
  refine lv_iload_n hx hb dX4_cutRope_1 rfl (lv_at hl 1 rfl) ?_
  refine lv_iload_n hx hb dX4_cutRope_2 rfl (lv_at hl 2 rfl) ?_
  obtain ⟨q1, hq1, hs⟩ := obind_e hs
  refine end_i (run_V (q := (RX4, TX4, 11)) (ci := 4) hF hKK hW hS hl.1 k0 (by decide) rfl (c_X4_areThere l hOK k0 hq1) (kw_X4_76 hF.2.2.2.2 ⟨Nat.le_of_ble_eq_true rfl, Nat.le_of_ble_eq_true rfl⟩) rfl rfl (Nat.le_of_ble_eq_true rfl) dX4_cutRope_3 ⟨Nat.zero_le _, Nat.zero_le _⟩) hS (fun H locs hW hS => ?_)
  refine lv_if_ne (tgt := 11) hx hb dX4_cutRope_6 (by decide) (fun c2 => ?_) (fun c2 => ?_)
  · have hs := ite_f hs c2
    refine lv_aload_n hx hb dX4_cutRope_11 rfl (lv_at hl 0 rfl) ?_
    refine gf_4_0 hF hKK hW k0 dX4_cutRope_12 ?_
    refine lv_iload_n hx hb dX4_cutRope_15 rfl (lv_at hl 1 rfl) ?_
    refine lv_iload_n hx hb dX4_cutRope_16 rfl (lv_at hl 2 rfl) ?_
    obtain ⟨q3, hq3, hs⟩ := obind_e hs
    refine end_i (run_V (q := (RX1, TX1, 7)) (ci := 1) hF hKK hW hS hl.1 (lk_4_0 hOK k0) (by decide) rfl (c_X1_isTied l hOK (lk_4_0 hOK k0) hq3) (kw_X4_148 hF.2.2.2.2 ⟨Nat.le_of_ble_eq_true rfl, Nat.le_of_ble_eq_true rfl⟩) rfl rfl (Nat.le_of_ble_eq_true rfl) dX4_cutRope_17 ⟨Nat.zero_le _, Nat.zero_le _⟩) hS (fun H locs hW hS => ?_)
    refine lv_if_ne (tgt := 30) hx hb dX4_cutRope_20 (by decide) (fun c4 => ?_) (fun c4 => ?_)
    · have hs := ite_f hs c4
      refine lv_aload_n hx hb dX4_cutRope_30 rfl (lv_at hl 0 rfl) ?_
      refine gf_4_0 hF hKK hW k0 dX4_cutRope_31 ?_
      refine lv_iload_n hx hb dX4_cutRope_34 rfl (lv_at hl 1 rfl) ?_
      refine lv_iload_n hx hb dX4_cutRope_35 rfl (lv_at hl 2 rfl) ?_
      obtain ⟨q5, hq5, hs⟩ := obind_e hs
      refine end_i (run_V (q := (RX1, TX1, 7)) (ci := 1) hF hKK hW hS hl.1 (lk_4_0 hOK k0) (by decide) rfl (c_X1_lowerOf l hOK (lk_4_0 hOK k0) hq5) (kw_X4_160 hF.2.2.2.2 ⟨Nat.le_of_ble_eq_true rfl, Nat.le_of_ble_eq_true rfl⟩) rfl rfl (Nat.le_of_ble_eq_true rfl) dX4_cutRope_36 ⟨Nat.zero_le _, Nat.zero_le _⟩) hS (fun H locs hW hS => ?_)
      refine lv_istore_n (lv' := [(3, .int q5), (0, .ref a0), (1, .int a1), (2, .int a2)]) hx hb dX4_cutRope_39 rfl hl (by decide) rfl (fun ls hl => ?_)
      refine lv_aload_n hx hb dX4_cutRope_40 rfl (lv_at hl 1 rfl) ?_
      refine gf_4_0 hF hKK hW k0 dX4_cutRope_41 ?_
      refine lv_iload_n hx hb dX4_cutRope_44 rfl (lv_at hl 0 rfl) ?_
      refine lv_iload_n hx hb dX4_cutRope_45 rfl (lv_at hl 0 rfl) ?_
      refine lv_iload_n hx hb dX4_cutRope_46 rfl (lv_at hl 2 rfl) ?_
      refine lv_icmp_ne (tgt := 54) hx hb dX4_cutRope_47 (by decide) (fun c6 => ?_) (fun c6 => ?_)
      · have hs := ite_f hs c6
        refine lv_iload_n hx hb dX4_cutRope_54 rfl (lv_at hl 2 rfl) ?_
        obtain ⟨q7, hq7, hs⟩ := obind_e hs
        refine end_v (run_V (q := (RX1, TX1, 7)) (ci := 1) hF hKK hW hS hl.1 (lk_4_0 hOK k0) (by decide) rfl (c_X1_untie l hOK (lk_4_0 hOK k0) hq7) (kw_X4_273 hF.2.2.2.2 ⟨Nat.le_of_ble_eq_true rfl, Nat.le_of_ble_eq_true rfl⟩) rfl rfl (Nat.le_of_ble_eq_true rfl) dX4_cutRope_55 ⟨Nat.zero_le _, Nat.zero_le _⟩) hS (fun H locs hW hS => ?_)
        refine lv_iload_n hx hb dX4_cutRope_58 rfl (lv_at hl 0 rfl) ?_
        have h9 := Option.some.inj hs
        rw [← h9]
        exact wr_i hF hr hlocks (vp_nar_int _) hW hS dX4_cutRope_59
      · have hs := ite_t hs c6
        refine lv_iload_n hx hb dX4_cutRope_50 rfl (lv_at hl 3 rfl) ?_
        refine lv_goto (tgt := 55) hx hb dX4_cutRope_51 (by decide) ?_
        obtain ⟨q8, hq8, hs⟩ := obind_e hs
        refine end_v (run_V (q := (RX1, TX1, 7)) (ci := 1) hF hKK hW hS hl.1 (lk_4_0 hOK k0) (by decide) rfl (c_X1_untie l hOK (lk_4_0 hOK k0) hq8) (kw_X4_273 hF.2.2.2.2 ⟨Nat.le_of_ble_eq_true rfl, Nat.le_of_ble_eq_true rfl⟩) rfl rfl (Nat.le_of_ble_eq_true rfl) dX4_cutRope_55 ⟨Nat.zero_le _, Nat.zero_le _⟩) hS (fun H locs hW hS => ?_)
        refine lv_iload_n hx hb dX4_cutRope_58 rfl (lv_at hl 0 rfl) ?_
        have h9 := Option.some.inj hs
        rw [← h9]
        exact wr_i hF hr hlocks (vp_nar_int _) hW hS dX4_cutRope_59
    · have hs := ite_t hs c4
      refine lv_aload_n hx hb dX4_cutRope_23 rfl (lv_at hl 0 rfl) ?_
      refine lv_iconst (v := (4 : Int32)) hx hb dX4_cutRope_24 (by decide) ?_
      refine lv_iload_n hx hb dX4_cutRope_25 rfl (lv_at hl 1 rfl) ?_
      obtain ⟨q9, hq9, hs⟩ := obind_e hs
      refine end_i (run_V (q := (RX4, TX4, 11)) (ci := 4) hF hKK hW hS hl.1 k0 (by decide) rfl (c_X4_refuse l hOK k0 hq9) (kw_X4_257 hF.2.2.2.2 ⟨Nat.le_of_ble_eq_true rfl, Nat.le_of_ble_eq_true rfl⟩) rfl rfl (Nat.le_of_ble_eq_true rfl) dX4_cutRope_26 ⟨Nat.zero_le _, Nat.zero_le _⟩) hS (fun H locs hW hS => ?_)
      have h9 := Option.some.inj hs
      rw [← h9]
      exact wr_i hF hr hlocks (vp_nar_int _) hW hS dX4_cutRope_29
  · have hs := ite_t hs c2
    refine lv_iconst (v := (-1 : Int32)) hx hb dX4_cutRope_9 (by decide) ?_
    have h9 := Option.some.inj hs
    rw [← h9]
    exact wr_i hF hr hlocks (vp_nar_int _) hW hS dX4_cutRope_10

set_option maxHeartbeats 4000000 in
set_option maxRecDepth 100000 in
theorem c_X4_joinBanks (l : Launch) {G : va_G} {Λ : Lay} {μ : Mem} (hOK : LayOK Λ) {a0 : Nat} (k0 : inK Λ a0 4) {a1 : Int32} {a2 : Int32} {r : (Int32 × Mem)} (hs : sX4_joinBanks Λ μ a0 a1 a2 = some r) : CM l G Λ yX4_joinBanks cX4_joinBanks 3 (some .int) 4 μ [.ref a0, .int a1, .int a2] (QI G Λ r.1 r.2) := by
  refine ofM (own := RX4) (by decide +kernel) rfl (Nat.le_of_ble_eq_true rfl) (fun p e s m args below meth c ls hF hKK hW hr hlocks hl => ?_)
  have hx := hF.1
  have hb := hF.2.1
  have hA : ∀ q, inL Λ q → inL Λ q := fun _ h => h
  have hS : va_S (inL Λ) s.heap s.heap [] := va_S.rf
  have hl : lv_has ls 3 [(0, .ref a0), (1, .int a1), (2, .int a2)] := hl
  unfold sX4_joinBanks at hs
  refine lv_aload_n hx hb dX4_joinBanks_0 rfl (lv_at hl 0 rfl) ?_
  refine lv_iload_n hx hb dX4_joinBanks_1 rfl (lv_at hl 1 rfl) ?_
  refine lv_iload_n hx hb dX4_joinBanks_2 rfl (lv_at hl 2 rfl) ?_
  obtain ⟨q1, hq1, hs⟩ := obind_e hs
  refine end_i (run_V (q := (RX4, TX4, 11)) (ci := 4) hF hKK hW hS hl.1 k0 (by decide) rfl (c_X4_areThere l hOK k0 hq1) (kw_X4_76 hF.2.2.2.2 ⟨Nat.le_of_ble_eq_true rfl, Nat.le_of_ble_eq_true rfl⟩) rfl rfl (Nat.le_of_ble_eq_true rfl) dX4_joinBanks_3 ⟨Nat.zero_le _, Nat.zero_le _⟩) hS (fun H locs hW hS => ?_)
  refine lv_if_ne (tgt := 11) hx hb dX4_joinBanks_6 (by decide) (fun c2 => ?_) (fun c2 => ?_)
  · have hs := ite_f hs c2
    refine lv_iload_n hx hb dX4_joinBanks_11 rfl (lv_at hl 1 rfl) ?_
    refine lv_iload_n hx hb dX4_joinBanks_12 rfl (lv_at hl 2 rfl) ?_
    refine lv_icmp_ne (tgt := 23) hx hb dX4_joinBanks_13 (by decide) (fun c3 => ?_) (fun c3 => ?_)
    · have hs := ite_f hs c3
      refine lv_aload_n hx hb dX4_joinBanks_23 rfl (lv_at hl 0 rfl) ?_
      refine gf_4_0 hF hKK hW k0 dX4_joinBanks_24 ?_
      refine lv_iload_n hx hb dX4_joinBanks_27 rfl (lv_at hl 1 rfl) ?_
      refine lv_iload_n hx hb dX4_joinBanks_28 rfl (lv_at hl 2 rfl) ?_
      obtain ⟨q4, hq4, hs⟩ := obind_e hs
      refine end_i (run_V (q := (RX1, TX1, 7)) (ci := 1) hF hKK hW hS hl.1 (lk_4_0 hOK k0) (by decide) rfl (c_X1_isOnePart l hOK (lk_4_0 hOK k0) hq4) (kw_X4_80 hF.2.2.2.2 ⟨Nat.le_of_ble_eq_true rfl, Nat.le_of_ble_eq_true rfl⟩) rfl rfl (Nat.le_of_ble_eq_true rfl) dX4_joinBanks_29 ⟨Nat.zero_le _, Nat.zero_le _⟩) hS (fun H locs hW hS => ?_)
      refine lv_if_eq (tgt := 49) hx hb dX4_joinBanks_32 (by decide) (fun c5 => ?_) (fun c5 => ?_)
      · have hs := ite_t hs c5
        refine lv_aload_n hx hb dX4_joinBanks_49 rfl (lv_at hl 0 rfl) ?_
        refine gf_4_0 hF hKK hW k0 dX4_joinBanks_50 ?_
        refine lv_iload_n hx hb dX4_joinBanks_53 rfl (lv_at hl 2 rfl) ?_
        obtain ⟨q6, hq6, hs⟩ := obind_e hs
        refine end_v (run_V (q := (RX1, TX1, 7)) (ci := 1) hF hKK hW hS hl.1 (lk_4_0 hOK k0) (by decide) rfl (c_X1_turnTo l hOK (lk_4_0 hOK k0) hq6) (kw_X4_267 hF.2.2.2.2 ⟨Nat.le_of_ble_eq_true rfl, Nat.le_of_ble_eq_true rfl⟩) rfl rfl (Nat.le_of_ble_eq_true rfl) dX4_joinBanks_54 ⟨Nat.zero_le _, Nat.zero_le _⟩) hS (fun H locs hW hS => ?_)
        refine lv_aload_n hx hb dX4_joinBanks_57 rfl (lv_at hl 0 rfl) ?_
        refine gf_4_0 hF hKK hW k0 dX4_joinBanks_58 ?_
        refine lv_iload_n hx hb dX4_joinBanks_61 rfl (lv_at hl 1 rfl) ?_
        refine lv_iload_n hx hb dX4_joinBanks_62 rfl (lv_at hl 2 rfl) ?_
        obtain ⟨q7, hq7, hs⟩ := obind_e hs
        refine end_v (run_V (q := (RX1, TX1, 7)) (ci := 1) hF hKK hW hS hl.1 (lk_4_0 hOK k0) (by decide) rfl (c_X1_tie l hOK (lk_4_0 hOK k0) hq7) (kw_X4_270 hF.2.2.2.2 ⟨Nat.le_of_ble_eq_true rfl, Nat.le_of_ble_eq_true rfl⟩) rfl rfl (Nat.le_of_ble_eq_true rfl) dX4_joinBanks_63 ⟨Nat.zero_le _, Nat.zero_le _⟩) hS (fun H locs hW hS => ?_)
        refine lv_aload_n hx hb dX4_joinBanks_66 rfl (lv_at hl 0 rfl) ?_
        refine gf_4_0 hF hKK hW k0 dX4_joinBanks_67 ?_
        refine lv_iload_n hx hb dX4_joinBanks_70 rfl (lv_at hl 1 rfl) ?_
        obtain ⟨q8, hq8, hs⟩ := obind_e hs
        refine end_i (run_V (q := (RX1, TX1, 7)) (ci := 1) hF hKK hW hS hl.1 (lk_4_0 hOK k0) (by decide) rfl (c_X1_banksWith l hOK (lk_4_0 hOK k0) hq8) (kw_X4_135 hF.2.2.2.2 ⟨Nat.le_of_ble_eq_true rfl, Nat.le_of_ble_eq_true rfl⟩) rfl rfl (Nat.le_of_ble_eq_true rfl) dX4_joinBanks_71 ⟨Nat.zero_le _, Nat.zero_le _⟩) hS (fun H locs hW hS => ?_)
        obtain ⟨q9, hq9, hs⟩ := obind_e hs
        refine end_i (run_S hF hKK hW hS hl.1 (c_J6_bitCount_0f7a4 l hOK  hq9) (kw_X4_115 hF.2.2.2.2 ⟨Nat.le_of_ble_eq_true rfl, Nat.le_of_ble_eq_true rfl⟩) rfl rfl (Nat.le_of_ble_eq_true rfl) dX4_joinBanks_74 ⟨Nat.zero_le _, Nat.zero_le _⟩) hS (fun H locs hW hS => ?_)
        have h9 := Option.some.inj hs
        rw [← h9]
        exact wr_i hF hr hlocks (vp_nar_int _) hW hS dX4_joinBanks_77
      · have hs := ite_f hs c5
        refine lv_aload_n hx hb dX4_joinBanks_35 rfl (lv_at hl 0 rfl) ?_
        refine lv_iconst (v := (3 : Int32)) hx hb dX4_joinBanks_36 (by decide) ?_
        refine lv_aload_n hx hb dX4_joinBanks_37 rfl (lv_at hl 0 rfl) ?_
        refine gf_4_0 hF hKK hW k0 dX4_joinBanks_38 ?_
        refine lv_iload_n hx hb dX4_joinBanks_41 rfl (lv_at hl 1 rfl) ?_
        obtain ⟨q10, hq10, hs⟩ := obind_e hs
        refine end_i (run_V (q := (RX1, TX1, 7)) (ci := 1) hF hKK hW hS hl.1 (lk_4_0 hOK k0) (by decide) rfl (c_X1_rootOf l hOK (lk_4_0 hOK k0) hq10) (kw_X4_96 hF.2.2.2.2 ⟨Nat.le_of_ble_eq_true rfl, Nat.le_of_ble_eq_true rfl⟩) rfl rfl (Nat.le_of_ble_eq_true rfl) dX4_joinBanks_42 ⟨Nat.zero_le _, Nat.zero_le _⟩) hS (fun H locs hW hS => ?_)
        obtain ⟨q11, hq11, hs⟩ := obind_e hs
        refine end_i (run_V (q := (RX4, TX4, 11)) (ci := 4) hF hKK hW hS hl.1 k0 (by decide) rfl (c_X4_refuse l hOK k0 hq11) (kw_X4_257 hF.2.2.2.2 ⟨Nat.le_of_ble_eq_true rfl, Nat.le_of_ble_eq_true rfl⟩) rfl rfl (Nat.le_of_ble_eq_true rfl) dX4_joinBanks_45 ⟨Nat.zero_le _, Nat.zero_le _⟩) hS (fun H locs hW hS => ?_)
        have h9 := Option.some.inj hs
        rw [← h9]
        exact wr_i hF hr hlocks (vp_nar_int _) hW hS dX4_joinBanks_48
    · have hs := ite_t hs c3
      refine lv_aload_n hx hb dX4_joinBanks_16 rfl (lv_at hl 0 rfl) ?_
      refine lv_iconst (v := (2 : Int32)) hx hb dX4_joinBanks_17 (by decide) ?_
      refine lv_iload_n hx hb dX4_joinBanks_18 rfl (lv_at hl 1 rfl) ?_
      obtain ⟨q12, hq12, hs⟩ := obind_e hs
      refine end_i (run_V (q := (RX4, TX4, 11)) (ci := 4) hF hKK hW hS hl.1 k0 (by decide) rfl (c_X4_refuse l hOK k0 hq12) (kw_X4_257 hF.2.2.2.2 ⟨Nat.le_of_ble_eq_true rfl, Nat.le_of_ble_eq_true rfl⟩) rfl rfl (Nat.le_of_ble_eq_true rfl) dX4_joinBanks_19 ⟨Nat.zero_le _, Nat.zero_le _⟩) hS (fun H locs hW hS => ?_)
      have h9 := Option.some.inj hs
      rw [← h9]
      exact wr_i hF hr hlocks (vp_nar_int _) hW hS dX4_joinBanks_22
  · have hs := ite_t hs c2
    refine lv_iconst (v := (-1 : Int32)) hx hb dX4_joinBanks_9 (by decide) ?_
    have h9 := Option.some.inj hs
    rw [← h9]
    exact wr_i hF hr hlocks (vp_nar_int _) hW hS dX4_joinBanks_10

set_option maxHeartbeats 4000000 in
set_option maxRecDepth 100000 in
theorem c_X4_raisePart (l : Launch) {G : va_G} {Λ : Lay} {μ : Mem} (hOK : LayOK Λ) {a0 : Nat} (k0 : inK Λ a0 4) {a1 : Int32} {a2 : Int32} {r : (Int32 × Mem)} (hs : sX4_raisePart Λ μ a0 a1 a2 = some r) : CM l G Λ yX4_raisePart cX4_raisePart 5 (some .int) 4 μ [.ref a0, .int a1, .int a2] (QI G Λ r.1 r.2) := by
  refine ofM (own := RX4) (by decide +kernel) rfl (Nat.le_of_ble_eq_true rfl) (fun p e s m args below meth c ls hF hKK hW hr hlocks hl => ?_)
  have hx := hF.1
  have hb := hF.2.1
  have hA : ∀ q, inL Λ q → inL Λ q := fun _ h => h
  have hS : va_S (inL Λ) s.heap s.heap [] := va_S.rf
  have hl : lv_has ls 5 [(0, .ref a0), (1, .int a1), (2, .int a2)] := hl
  unfold sX4_raisePart at hs
  refine lv_aload_n hx hb dX4_raisePart_0 rfl (lv_at hl 0 rfl) ?_
  refine gf_4_0 hF hKK hW k0 dX4_raisePart_1 ?_
  refine lv_iload_n hx hb dX4_raisePart_4 rfl (lv_at hl 1 rfl) ?_
  obtain ⟨q1, hq1, hs⟩ := obind_e hs
  refine end_i (run_V (q := (RX1, TX1, 7)) (ci := 1) hF hKK hW hS hl.1 (lk_4_0 hOK k0) (by decide) rfl (c_X1_has l hOK (lk_4_0 hOK k0) hq1) (kw_X4_89 hF.2.2.2.2 ⟨Nat.le_of_ble_eq_true rfl, Nat.le_of_ble_eq_true rfl⟩) rfl rfl (Nat.le_of_ble_eq_true rfl) dX4_raisePart_5 ⟨Nat.zero_le _, Nat.zero_le _⟩) hS (fun H locs hW hS => ?_)
  refine lv_if_ne (tgt := 13) hx hb dX4_raisePart_8 (by decide) (fun c2 => ?_) (fun c2 => ?_)
  · have hs := ite_f hs c2
    refine lv_iload_n hx hb dX4_raisePart_13 rfl (lv_at hl 2 rfl) ?_
    refine lv_bipush (v := (-99 : Int32)) hx hb dX4_raisePart_14 (by decide) ?_
    refine lv_icmp_lt (tgt := 25) hx hb dX4_raisePart_16 (by decide) (fun c3 => ?_) (fun c3 => ?_)
    · have hs := ite_t hs c3
      refine lv_bipush (v := (-2 : Int32)) hx hb dX4_raisePart_25 (by decide) ?_
      have h9 := Option.some.inj hs
      rw [← h9]
      exact wr_i hF hr hlocks (vp_nar_int _) hW hS dX4_raisePart_27
    · have hs := ite_f hs c3
      refine lv_iload_n hx hb dX4_raisePart_19 rfl (lv_at hl 2 rfl) ?_
      refine lv_bipush (v := (99 : Int32)) hx hb dX4_raisePart_20 (by decide) ?_
      refine lv_icmp_le (tgt := 28) hx hb dX4_raisePart_22 (by decide) (fun c4 => ?_) (fun c4 => ?_)
      · have hs := ite_t hs c4
        refine lv_aload_n hx hb dX4_raisePart_28 rfl (lv_at hl 0 rfl) ?_
        refine gf_4_0 hF hKK hW k0 dX4_raisePart_29 ?_
        refine lv_iload_n hx hb dX4_raisePart_32 rfl (lv_at hl 1 rfl) ?_
        obtain ⟨q5, hq5, hs⟩ := obind_e hs
        refine end_i (run_V (q := (RX1, TX1, 7)) (ci := 1) hF hKK hW hS hl.1 (lk_4_0 hOK k0) (by decide) rfl (c_X1_banksWith l hOK (lk_4_0 hOK k0) hq5) (kw_X4_135 hF.2.2.2.2 ⟨Nat.le_of_ble_eq_true rfl, Nat.le_of_ble_eq_true rfl⟩) rfl rfl (Nat.le_of_ble_eq_true rfl) dX4_raisePart_33 ⟨Nat.zero_le _, Nat.zero_le _⟩) hS (fun H locs hW hS => ?_)
        refine lv_istore_n (lv' := [(3, .int q5), (0, .ref a0), (1, .int a1), (2, .int a2)]) hx hb dX4_raisePart_36 rfl hl (by decide) rfl (fun ls hl => ?_)
        refine lv_aload_n hx hb dX4_raisePart_37 rfl (lv_at hl 1 rfl) ?_
        refine gf_4_0 hF hKK hW k0 dX4_raisePart_38 ?_
        refine lv_iload_n hx hb dX4_raisePart_41 rfl (lv_at hl 0 rfl) ?_
        refine lv_iload_n hx hb dX4_raisePart_42 rfl (lv_at hl 3 rfl) ?_
        obtain ⟨q6, hq6, hs⟩ := obind_e hs
        refine end_i (run_V (q := (RX1, TX1, 7)) (ci := 1) hF hKK hW hS hl.1 (lk_4_0 hOK k0) (by decide) rfl (c_X1_raiseAll l hOK (lk_4_0 hOK k0) hq6) (kw_X4_279 hF.2.2.2.2 ⟨Nat.le_of_ble_eq_true rfl, Nat.le_of_ble_eq_true rfl⟩) rfl rfl (Nat.le_of_ble_eq_true rfl) dX4_raisePart_43 ⟨Nat.zero_le _, Nat.zero_le _⟩) hS (fun H locs hW hS => ?_)
        obtain ⟨v7, ev7, hs⟩ := bnd_e hs
        refine top_i ev7 ?_
        refine lv_istore (lv' := [(4, .int v7), (3, .int q5), (0, .ref a0), (1, .int a1), (2, .int a2)]) hx hb dX4_raisePart_46 hl (by decide) rfl (fun ls hl => ?_)
        refine lv_iload hx hb dX4_raisePart_48 (lv_at hl 0 rfl) ?_
        refine lv_if_le (tgt := 58) hx hb dX4_raisePart_50 (by decide) (fun c8 => ?_) (fun c8 => ?_)
        · have hs := ite_t hs c8
          refine lv_aload_n hx hb dX4_raisePart_58 rfl (lv_at hl 2 rfl) ?_
          refine lv_bipush (v := (6 : Int32)) hx hb dX4_raisePart_59 (by decide) ?_
          refine lv_iload_n hx hb dX4_raisePart_61 rfl (lv_at hl 1 rfl) ?_
          obtain ⟨q9, hq9, hs⟩ := obind_e hs
          refine end_i (run_S hF hKK hW hS hl.1 (c_J6_bitCount_0f7a4 l hOK  hq9) (kw_X4_115 hF.2.2.2.2 ⟨Nat.le_of_ble_eq_true rfl, Nat.le_of_ble_eq_true rfl⟩) rfl rfl (Nat.le_of_ble_eq_true rfl) dX4_raisePart_62 ⟨Nat.zero_le _, Nat.zero_le _⟩) hS (fun H locs hW hS => ?_)
          obtain ⟨q10, hq10, hs⟩ := obind_e hs
          refine end_i (run_V (q := (RX4, TX4, 11)) (ci := 4) hF hKK hW hS hl.1 k0 (by decide) rfl (c_X4_refuse l hOK k0 hq10) (kw_X4_257 hF.2.2.2.2 ⟨Nat.le_of_ble_eq_true rfl, Nat.le_of_ble_eq_true rfl⟩) rfl rfl (Nat.le_of_ble_eq_true rfl) dX4_raisePart_65 ⟨Nat.zero_le _, Nat.zero_le _⟩) hS (fun H locs hW hS => ?_)
          have h9 := Option.some.inj hs
          rw [← h9]
          exact wr_i hF hr hlocks (vp_nar_int _) hW hS dX4_raisePart_68
        · have hs := ite_f hs c8
          refine lv_iload hx hb dX4_raisePart_53 (lv_at hl 0 rfl) ?_
          refine lv_goto (tgt := 68) hx hb dX4_raisePart_55 (by decide) ?_
          have h9 := Option.some.inj hs
          rw [← h9]
          exact wr_i hF hr hlocks (vp_nar_int _) hW hS dX4_raisePart_68
      · have hs := ite_f hs c4
        refine lv_bipush (v := (-2 : Int32)) hx hb dX4_raisePart_25 (by decide) ?_
        have h9 := Option.some.inj hs
        rw [← h9]
        exact wr_i hF hr hlocks (vp_nar_int _) hW hS dX4_raisePart_27
  · have hs := ite_t hs c2
    refine lv_iconst (v := (-1 : Int32)) hx hb dX4_raisePart_11 (by decide) ?_
    have h9 := Option.some.inj hs
    rw [← h9]
    exact wr_i hF hr hlocks (vp_nar_int _) hW hS dX4_raisePart_12

set_option maxHeartbeats 4000000 in
set_option maxRecDepth 100000 in
theorem c_X4_setWeight (l : Launch) {G : va_G} {Λ : Lay} {μ : Mem} (hOK : LayOK Λ) {a0 : Nat} (k0 : inK Λ a0 4) {a1 : Int32} {a2 : Int32} {r : (Int32 × Mem)} (hs : sX4_setWeight Λ μ a0 a1 a2 = some r) : CM l G Λ yX4_setWeight cX4_setWeight 4 (some .int) 2 μ [.ref a0, .int a1, .int a2] (QI G Λ r.1 r.2) := by
  refine ofM (own := RX4) (by decide +kernel) rfl (Nat.le_of_ble_eq_true rfl) (fun p e s m args below meth c ls hF hKK hW hr hlocks hl => ?_)
  have hx := hF.1
  have hb := hF.2.1
  have hA : ∀ q, inL Λ q → inL Λ q := fun _ h => h
  have hS : va_S (inL Λ) s.heap s.heap [] := va_S.rf
  have hl : lv_has ls 4 [(0, .ref a0), (1, .int a1), (2, .int a2)] := hl
  unfold sX4_setWeight at hs
  refine lv_aload_n hx hb dX4_setWeight_0 rfl (lv_at hl 0 rfl) ?_
  refine gf_4_0 hF hKK hW k0 dX4_setWeight_1 ?_
  refine lv_iload_n hx hb dX4_setWeight_4 rfl (lv_at hl 1 rfl) ?_
  obtain ⟨q1, hq1, hs⟩ := obind_e hs
  refine end_i (run_V (q := (RX1, TX1, 7)) (ci := 1) hF hKK hW hS hl.1 (lk_4_0 hOK k0) (by decide) rfl (c_X1_has l hOK (lk_4_0 hOK k0) hq1) (kw_X4_89 hF.2.2.2.2 ⟨Nat.le_of_ble_eq_true rfl, Nat.le_of_ble_eq_true rfl⟩) rfl rfl (Nat.le_of_ble_eq_true rfl) dX4_setWeight_5 ⟨Nat.zero_le _, Nat.zero_le _⟩) hS (fun H locs hW hS => ?_)
  refine lv_if_ne (tgt := 13) hx hb dX4_setWeight_8 (by decide) (fun c2 => ?_) (fun c2 => ?_)
  · have hs := ite_f hs c2
    refine lv_iload_n hx hb dX4_setWeight_13 rfl (lv_at hl 2 rfl) ?_
    refine lv_if_lt (tgt := 23) hx hb dX4_setWeight_14 (by decide) (fun c3 => ?_) (fun c3 => ?_)
    · have hs := ite_t hs c3
      refine lv_bipush (v := (-2 : Int32)) hx hb dX4_setWeight_23 (by decide) ?_
      have h9 := Option.some.inj hs
      rw [← h9]
      exact wr_i hF hr hlocks (vp_nar_int _) hW hS dX4_setWeight_25
    · have hs := ite_f hs c3
      refine lv_iload_n hx hb dX4_setWeight_17 rfl (lv_at hl 2 rfl) ?_
      refine lv_bipush (v := (99 : Int32)) hx hb dX4_setWeight_18 (by decide) ?_
      refine lv_icmp_le (tgt := 26) hx hb dX4_setWeight_20 (by decide) (fun c4 => ?_) (fun c4 => ?_)
      · have hs := ite_t hs c4
        refine lv_aload_n hx hb dX4_setWeight_26 rfl (lv_at hl 0 rfl) ?_
        refine gf_4_0 hF hKK hW k0 dX4_setWeight_27 ?_
        refine lv_iload_n hx hb dX4_setWeight_30 rfl (lv_at hl 1 rfl) ?_
        obtain ⟨q5, hq5, hs⟩ := obind_e hs
        refine end_i (run_V (q := (RX1, TX1, 7)) (ci := 1) hF hKK hW hS hl.1 (lk_4_0 hOK k0) (by decide) rfl (c_X1_weightOf l hOK (lk_4_0 hOK k0) hq5) (kw_X4_93 hF.2.2.2.2 ⟨Nat.le_of_ble_eq_true rfl, Nat.le_of_ble_eq_true rfl⟩) rfl rfl (Nat.le_of_ble_eq_true rfl) dX4_setWeight_31 ⟨Nat.zero_le _, Nat.zero_le _⟩) hS (fun H locs hW hS => ?_)
        refine lv_istore_n (lv' := [(3, .int q5), (0, .ref a0), (1, .int a1), (2, .int a2)]) hx hb dX4_setWeight_34 rfl hl (by decide) rfl (fun ls hl => ?_)
        refine lv_iload_n hx hb dX4_setWeight_35 rfl (lv_at hl 0 rfl) ?_
        refine lv_iload_n hx hb dX4_setWeight_36 rfl (lv_at hl 3 rfl) ?_
        refine lv_icmp_ne (tgt := 47) hx hb dX4_setWeight_37 (by decide) (fun c6 => ?_) (fun c6 => ?_)
        · have hs := ite_f hs c6
          refine lv_aload_n hx hb dX4_setWeight_47 rfl (lv_at hl 1 rfl) ?_
          refine gf_4_0 hF hKK hW k0 dX4_setWeight_48 ?_
          refine lv_iload_n hx hb dX4_setWeight_51 rfl (lv_at hl 2 rfl) ?_
          refine lv_iload_n hx hb dX4_setWeight_52 rfl (lv_at hl 3 rfl) ?_
          obtain ⟨q7, hq7, hs⟩ := obind_e hs
          refine end_v (run_V (q := (RX1, TX1, 7)) (ci := 1) hF hKK hW hS hl.1 (lk_4_0 hOK k0) (by decide) rfl (c_X1_putWeight l hOK (lk_4_0 hOK k0) hq7) (kw_X4_263 hF.2.2.2.2 ⟨Nat.le_of_ble_eq_true rfl, Nat.le_of_ble_eq_true rfl⟩) rfl rfl (Nat.le_of_ble_eq_true rfl) dX4_setWeight_53 ⟨Nat.zero_le _, Nat.zero_le _⟩) hS (fun H locs hW hS => ?_)
          refine lv_iload_n hx hb dX4_setWeight_56 rfl (lv_at hl 0 rfl) ?_
          have h9 := Option.some.inj hs
          rw [← h9]
          exact wr_i hF hr hlocks (vp_nar_int _) hW hS dX4_setWeight_57
        · have hs := ite_t hs c6
          refine lv_aload_n hx hb dX4_setWeight_40 rfl (lv_at hl 1 rfl) ?_
          refine lv_iconst (v := (5 : Int32)) hx hb dX4_setWeight_41 (by decide) ?_
          refine lv_iload_n hx hb dX4_setWeight_42 rfl (lv_at hl 3 rfl) ?_
          obtain ⟨q8, hq8, hs⟩ := obind_e hs
          refine end_i (run_V (q := (RX4, TX4, 11)) (ci := 4) hF hKK hW hS hl.1 k0 (by decide) rfl (c_X4_refuse l hOK k0 hq8) (kw_X4_257 hF.2.2.2.2 ⟨Nat.le_of_ble_eq_true rfl, Nat.le_of_ble_eq_true rfl⟩) rfl rfl (Nat.le_of_ble_eq_true rfl) dX4_setWeight_43 ⟨Nat.zero_le _, Nat.zero_le _⟩) hS (fun H locs hW hS => ?_)
          have h9 := Option.some.inj hs
          rw [← h9]
          exact wr_i hF hr hlocks (vp_nar_int _) hW hS dX4_setWeight_46
      · have hs := ite_f hs c4
        refine lv_bipush (v := (-2 : Int32)) hx hb dX4_setWeight_23 (by decide) ?_
        have h9 := Option.some.inj hs
        rw [← h9]
        exact wr_i hF hr hlocks (vp_nar_int _) hW hS dX4_setWeight_25
  · have hs := ite_t hs c2
    refine lv_iconst (v := (-1 : Int32)) hx hb dX4_setWeight_11 (by decide) ?_
    have h9 := Option.some.inj hs
    rw [← h9]
    exact wr_i hF hr hlocks (vp_nar_int _) hW hS dX4_setWeight_12

set_option maxHeartbeats 4000000 in
set_option maxRecDepth 100000 in
theorem c_X4_turnRound (l : Launch) {G : va_G} {Λ : Lay} {μ : Mem} (hOK : LayOK Λ) {a0 : Nat} (k0 : inK Λ a0 4) {a1 : Int32} {r : (Int32 × Mem)} (hs : sX4_turnRound Λ μ a0 a1 = some r) : CM l G Λ yX4_turnRound cX4_turnRound 3 (some .int) 4 μ [.ref a0, .int a1] (QI G Λ r.1 r.2) := by
  refine ofM (own := RX4) (by decide +kernel) rfl (Nat.le_of_ble_eq_true rfl) (fun p e s m args below meth c ls hF hKK hW hr hlocks hl => ?_)
  have hx := hF.1
  have hb := hF.2.1
  have hA : ∀ q, inL Λ q → inL Λ q := fun _ h => h
  have hS : va_S (inL Λ) s.heap s.heap [] := va_S.rf
  have hl : lv_has ls 3 [(0, .ref a0), (1, .int a1)] := hl
  unfold sX4_turnRound at hs
  refine lv_aload_n hx hb dX4_turnRound_0 rfl (lv_at hl 0 rfl) ?_
  refine gf_4_0 hF hKK hW k0 dX4_turnRound_1 ?_
  refine lv_iload_n hx hb dX4_turnRound_4 rfl (lv_at hl 1 rfl) ?_
  obtain ⟨q1, hq1, hs⟩ := obind_e hs
  refine end_i (run_V (q := (RX1, TX1, 7)) (ci := 1) hF hKK hW hS hl.1 (lk_4_0 hOK k0) (by decide) rfl (c_X1_has l hOK (lk_4_0 hOK k0) hq1) (kw_X4_89 hF.2.2.2.2 ⟨Nat.le_of_ble_eq_true rfl, Nat.le_of_ble_eq_true rfl⟩) rfl rfl (Nat.le_of_ble_eq_true rfl) dX4_turnRound_5 ⟨Nat.zero_le _, Nat.zero_le _⟩) hS (fun H locs hW hS => ?_)
  refine lv_if_ne (tgt := 13) hx hb dX4_turnRound_8 (by decide) (fun c2 => ?_) (fun c2 => ?_)
  · have hs := ite_f hs c2
    refine lv_aload_n hx hb dX4_turnRound_13 rfl (lv_at hl 0 rfl) ?_
    refine gf_4_0 hF hKK hW k0 dX4_turnRound_14 ?_
    refine lv_iload_n hx hb dX4_turnRound_17 rfl (lv_at hl 1 rfl) ?_
    obtain ⟨q3, hq3, hs⟩ := obind_e hs
    refine end_i (run_V (q := (RX1, TX1, 7)) (ci := 1) hF hKK hW hS hl.1 (lk_4_0 hOK k0) (by decide) rfl (c_X1_rootOf l hOK (lk_4_0 hOK k0) hq3) (kw_X4_96 hF.2.2.2.2 ⟨Nat.le_of_ble_eq_true rfl, Nat.le_of_ble_eq_true rfl⟩) rfl rfl (Nat.le_of_ble_eq_true rfl) dX4_turnRound_18 ⟨Nat.zero_le _, Nat.zero_le _⟩) hS (fun H locs hW hS => ?_)
    refine lv_istore_n (lv' := [(2, .int q3), (0, .ref a0), (1, .int a1)]) hx hb dX4_turnRound_21 rfl hl (by decide) rfl (fun ls hl => ?_)
    refine lv_iload_n hx hb dX4_turnRound_22 rfl (lv_at hl 0 rfl) ?_
    refine lv_iload_n hx hb dX4_turnRound_23 rfl (lv_at hl 2 rfl) ?_
    refine lv_icmp_ne (tgt := 35) hx hb dX4_turnRound_24 (by decide) (fun c4 => ?_) (fun c4 => ?_)
    · have hs := ite_f hs c4
      refine lv_aload_n hx hb dX4_turnRound_35 rfl (lv_at hl 1 rfl) ?_
      refine gf_4_0 hF hKK hW k0 dX4_turnRound_36 ?_
      refine lv_iload_n hx hb dX4_turnRound_39 rfl (lv_at hl 2 rfl) ?_
      obtain ⟨q5, hq5, hs⟩ := obind_e hs
      refine end_v (run_V (q := (RX1, TX1, 7)) (ci := 1) hF hKK hW hS hl.1 (lk_4_0 hOK k0) (by decide) rfl (c_X1_turnTo l hOK (lk_4_0 hOK k0) hq5) (kw_X4_267 hF.2.2.2.2 ⟨Nat.le_of_ble_eq_true rfl, Nat.le_of_ble_eq_true rfl⟩) rfl rfl (Nat.le_of_ble_eq_true rfl) dX4_turnRound_40 ⟨Nat.zero_le _, Nat.zero_le _⟩) hS (fun H locs hW hS => ?_)
      refine lv_aload_n hx hb dX4_turnRound_43 rfl (lv_at hl 1 rfl) ?_
      refine gf_4_0 hF hKK hW k0 dX4_turnRound_44 ?_
      obtain ⟨q6, hq6, hs⟩ := obind_e hs
      refine end_v (run_V (q := (RX1, TX1, 7)) (ci := 1) hF hKK hW hS hl.1 (lk_4_0 hOK k0) (by decide) rfl (c_X1_countTurn l hOK (lk_4_0 hOK k0) hq6) (kw_X4_276 hF.2.2.2.2 ⟨Nat.le_of_ble_eq_true rfl, Nat.le_of_ble_eq_true rfl⟩) rfl rfl (Nat.le_of_ble_eq_true rfl) dX4_turnRound_47 ⟨Nat.zero_le _, Nat.zero_le _⟩) hS (fun H locs hW hS => ?_)
      refine lv_iload_n hx hb dX4_turnRound_50 rfl (lv_at hl 0 rfl) ?_
      have h9 := Option.some.inj hs
      rw [← h9]
      exact wr_i hF hr hlocks (vp_nar_int _) hW hS dX4_turnRound_51
    · have hs := ite_t hs c4
      refine lv_aload_n hx hb dX4_turnRound_27 rfl (lv_at hl 1 rfl) ?_
      refine lv_bipush (v := (7 : Int32)) hx hb dX4_turnRound_28 (by decide) ?_
      refine lv_iload_n hx hb dX4_turnRound_30 rfl (lv_at hl 2 rfl) ?_
      obtain ⟨q7, hq7, hs⟩ := obind_e hs
      refine end_i (run_V (q := (RX4, TX4, 11)) (ci := 4) hF hKK hW hS hl.1 k0 (by decide) rfl (c_X4_refuse l hOK k0 hq7) (kw_X4_257 hF.2.2.2.2 ⟨Nat.le_of_ble_eq_true rfl, Nat.le_of_ble_eq_true rfl⟩) rfl rfl (Nat.le_of_ble_eq_true rfl) dX4_turnRound_31 ⟨Nat.zero_le _, Nat.zero_le _⟩) hS (fun H locs hW hS => ?_)
      have h9 := Option.some.inj hs
      rw [← h9]
      exact wr_i hF hr hlocks (vp_nar_int _) hW hS dX4_turnRound_34
  · have hs := ite_t hs c2
    refine lv_iconst (v := (-1 : Int32)) hx hb dX4_turnRound_11 (by decide) ?_
    have h9 := Option.some.inj hs
    rw [← h9]
    exact wr_i hF hr hlocks (vp_nar_int _) hW hS dX4_turnRound_12

set_option maxHeartbeats 4000000 in
set_option maxRecDepth 100000 in
theorem c_X4_carryOut (l : Launch) {G : va_G} {Λ : Lay} {μ : Mem} (hOK : LayOK Λ) {a0 : Nat} (k0 : inK Λ a0 4) {a1 : Int32} {r : (Int32 × Mem)} (hs : sX4_carryOut Λ μ a0 a1 = some r) : CM l G Λ yX4_carryOut cX4_carryOut 4 (some .int) 5 μ [.ref a0, .int a1] (QI G Λ r.1 r.2) := by
  refine ofM (own := RX4) (by decide +kernel) rfl (Nat.le_of_ble_eq_true rfl) (fun p e s m args below meth c ls hF hKK hW hr hlocks hl => ?_)
  have hx := hF.1
  have hb := hF.2.1
  have hA : ∀ q, inL Λ q → inL Λ q := fun _ h => h
  have hS : va_S (inL Λ) s.heap s.heap [] := va_S.rf
  have hl : lv_has ls 4 [(0, .ref a0), (1, .int a1)] := hl
  unfold sX4_carryOut at hs
  refine lv_aload_n hx hb dX4_carryOut_0 rfl (lv_at hl 0 rfl) ?_
  refine gf_4_5 hF hKK hW k0 dX4_carryOut_1 ?_
  refine lv_iload_n hx hb dX4_carryOut_4 rfl (lv_at hl 1 rfl) ?_
  obtain ⟨q1, hq1, hs⟩ := obind_e hs
  refine end_i (run_V (q := (RX3, TX3, 5)) (ci := 3) hF hKK hW hS hl.1 (lk_4_5 hOK k0) (by decide) rfl (c_X3_firstOf l hOK (lk_4_5 hOK k0) hq1) (kw_X4_282 hF.2.2.2.2 ⟨Nat.le_of_ble_eq_true rfl, Nat.le_of_ble_eq_true rfl⟩) rfl rfl (Nat.le_of_ble_eq_true rfl) dX4_carryOut_5 ⟨Nat.zero_le _, Nat.zero_le _⟩) hS (fun H locs hW hS => ?_)
  refine lv_istore_n (lv' := [(2, .int q1), (0, .ref a0), (1, .int a1)]) hx hb dX4_carryOut_8 rfl hl (by decide) rfl (fun ls hl => ?_)
  refine lv_aload_n hx hb dX4_carryOut_9 rfl (lv_at hl 1 rfl) ?_
  refine gf_4_5 hF hKK hW k0 dX4_carryOut_10 ?_
  refine lv_iload_n hx hb dX4_carryOut_13 rfl (lv_at hl 2 rfl) ?_
  obtain ⟨q2, hq2, hs⟩ := obind_e hs
  refine end_i (run_V (q := (RX3, TX3, 5)) (ci := 3) hF hKK hW hS hl.1 (lk_4_5 hOK k0) (by decide) rfl (c_X3_secondOf l hOK (lk_4_5 hOK k0) hq2) (kw_X4_283 hF.2.2.2.2 ⟨Nat.le_of_ble_eq_true rfl, Nat.le_of_ble_eq_true rfl⟩) rfl rfl (Nat.le_of_ble_eq_true rfl) dX4_carryOut_14 ⟨Nat.zero_le _, Nat.zero_le _⟩) hS (fun H locs hW hS => ?_)
  refine lv_istore_n (lv' := [(3, .int q2), (2, .int q1), (0, .ref a0), (1, .int a1)]) hx hb dX4_carryOut_17 rfl hl (by decide) rfl (fun ls hl => ?_)
  refine lv_aload_n hx hb dX4_carryOut_18 rfl (lv_at hl 2 rfl) ?_
  refine gf_4_5 hF hKK hW k0 dX4_carryOut_19 ?_
  refine lv_iload_n hx hb dX4_carryOut_22 rfl (lv_at hl 3 rfl) ?_
  obtain ⟨q3, hq3, hs⟩ := obind_e hs
  refine end_i (run_V (q := (RX3, TX3, 5)) (ci := 3) hF hKK hW hS hl.1 (lk_4_5 hOK k0) (by decide) rfl (c_X3_kindOf l hOK (lk_4_5 hOK k0) hq3) (kw_X4_286 hF.2.2.2.2 ⟨Nat.le_of_ble_eq_true rfl, Nat.le_of_ble_eq_true rfl⟩) rfl rfl (Nat.le_of_ble_eq_true rfl) dX4_carryOut_23 ⟨Nat.zero_le _, Nat.zero_le _⟩) hS (fun H locs hW hS => ?_)
  by_cases c4 : q3 = (98 : Int32)
  · have hs := ite_t hs c4
    refine lv_lookup (off := 58) (tgt := 84) hx hb dX4_carryOut_26 (by decide) (by rw [c4]; decide) (by decide) ?_
    refine lv_aload_n hx hb dX4_carryOut_84 rfl (lv_at hl 2 rfl) ?_
    refine lv_iload_n hx hb dX4_carryOut_85 rfl (lv_at hl 1 rfl) ?_
    obtain ⟨q5, hq5, hs⟩ := obind_e hs
    refine end_i (run_V (q := (RX4, TX4, 11)) (ci := 4) hF hKK hW hS hl.1 k0 (by decide) rfl (c_X4_addBank l hOK k0 hq5) (kw_X4_53 hF.2.2.2.2 ⟨Nat.le_of_ble_eq_true rfl, Nat.le_of_ble_eq_true rfl⟩) rfl rfl (Nat.le_of_ble_eq_true rfl) dX4_carryOut_86 ⟨Nat.zero_le _, Nat.zero_le _⟩) hS (fun H locs hW hS => ?_)
    have h9 := Option.some.inj hs
    rw [← h9]
    exact wr_i hF hr hlocks (vp_nar_int _) hW hS dX4_carryOut_89
  have hs := ite_f hs c4
  by_cases c6 : q3 = (99 : Int32)
  · have hs := ite_t hs c6
    refine lv_lookup (off := 78) (tgt := 104) hx hb dX4_carryOut_26 (by decide) (by rw [c6]; decide) (by decide) ?_
    refine lv_aload_n hx hb dX4_carryOut_104 rfl (lv_at hl 2 rfl) ?_
    refine lv_iload_n hx hb dX4_carryOut_105 rfl (lv_at hl 1 rfl) ?_
    refine lv_iload_n hx hb dX4_carryOut_106 rfl (lv_at hl 0 rfl) ?_
    obtain ⟨q7, hq7, hs⟩ := obind_e hs
    refine end_i (run_V (q := (RX4, TX4, 11)) (ci := 4) hF hKK hW hS hl.1 k0 (by decide) rfl (c_X4_cutRope l hOK k0 hq7) (kw_X4_67 hF.2.2.2.2 ⟨Nat.le_of_ble_eq_true rfl, Nat.le_of_ble_eq_true rfl⟩) rfl rfl (Nat.le_of_ble_eq_true rfl) dX4_carryOut_107 ⟨Nat.zero_le _, Nat.zero_le _⟩) hS (fun H locs hW hS => ?_)
    have h9 := Option.some.inj hs
    rw [← h9]
    exact wr_i hF hr hlocks (vp_nar_int _) hW hS dX4_carryOut_110
  have hs := ite_f hs c6
  by_cases c8 : q3 = (106 : Int32)
  · have hs := ite_t hs c8
    refine lv_lookup (off := 71) (tgt := 97) hx hb dX4_carryOut_26 (by decide) (by rw [c8]; decide) (by decide) ?_
    refine lv_aload_n hx hb dX4_carryOut_97 rfl (lv_at hl 2 rfl) ?_
    refine lv_iload_n hx hb dX4_carryOut_98 rfl (lv_at hl 1 rfl) ?_
    refine lv_iload_n hx hb dX4_carryOut_99 rfl (lv_at hl 0 rfl) ?_
    obtain ⟨q9, hq9, hs⟩ := obind_e hs
    refine end_i (run_V (q := (RX4, TX4, 11)) (ci := 4) hF hKK hW hS hl.1 k0 (by decide) rfl (c_X4_joinBanks l hOK k0 hq9) (kw_X4_64 hF.2.2.2.2 ⟨Nat.le_of_ble_eq_true rfl, Nat.le_of_ble_eq_true rfl⟩) rfl rfl (Nat.le_of_ble_eq_true rfl) dX4_carryOut_100 ⟨Nat.zero_le _, Nat.zero_le _⟩) hS (fun H locs hW hS => ?_)
    have h9 := Option.some.inj hs
    rw [← h9]
    exact wr_i hF hr hlocks (vp_nar_int _) hW hS dX4_carryOut_103
  have hs := ite_f hs c8
  by_cases c10 : q3 = (116 : Int32)
  · have hs := ite_t hs c10
    refine lv_lookup (off := 85) (tgt := 111) hx hb dX4_carryOut_26 (by decide) (by rw [c10]; decide) (by decide) ?_
    refine lv_aload_n hx hb dX4_carryOut_111 rfl (lv_at hl 2 rfl) ?_
    refine lv_iload_n hx hb dX4_carryOut_112 rfl (lv_at hl 1 rfl) ?_
    obtain ⟨q11, hq11, hs⟩ := obind_e hs
    refine end_i (run_V (q := (RX4, TX4, 11)) (ci := 4) hF hKK hW hS hl.1 k0 (by decide) rfl (c_X4_turnRound l hOK k0 hq11) (kw_X4_70 hF.2.2.2.2 ⟨Nat.le_of_ble_eq_true rfl, Nat.le_of_ble_eq_true rfl⟩) rfl rfl (Nat.le_of_ble_eq_true rfl) dX4_carryOut_113 ⟨Nat.zero_le _, Nat.zero_le _⟩) hS (fun H locs hW hS => ?_)
    have h9 := Option.some.inj hs
    rw [← h9]
    exact wr_i hF hr hlocks (vp_nar_int _) hW hS dX4_carryOut_116
  have hs := ite_f hs c10
  by_cases c12 : q3 = (117 : Int32)
  · have hs := ite_t hs c12
    refine lv_lookup (off := 91) (tgt := 117) hx hb dX4_carryOut_26 (by decide) (by rw [c12]; decide) (by decide) ?_
    refine lv_aload_n hx hb dX4_carryOut_117 rfl (lv_at hl 2 rfl) ?_
    refine lv_iload_n hx hb dX4_carryOut_118 rfl (lv_at hl 1 rfl) ?_
    refine lv_iload_n hx hb dX4_carryOut_119 rfl (lv_at hl 0 rfl) ?_
    obtain ⟨q13, hq13, hs⟩ := obind_e hs
    refine end_i (run_V (q := (RX4, TX4, 11)) (ci := 4) hF hKK hW hS hl.1 k0 (by decide) rfl (c_X4_raisePart l hOK k0 hq13) (kw_X4_73 hF.2.2.2.2 ⟨Nat.le_of_ble_eq_true rfl, Nat.le_of_ble_eq_true rfl⟩) rfl rfl (Nat.le_of_ble_eq_true rfl) dX4_carryOut_120 ⟨Nat.zero_le _, Nat.zero_le _⟩) hS (fun H locs hW hS => ?_)
    have h9 := Option.some.inj hs
    rw [← h9]
    exact wr_i hF hr hlocks (vp_nar_int _) hW hS dX4_carryOut_123
  have hs := ite_f hs c12
  by_cases c14 : q3 = (119 : Int32)
  · have hs := ite_t hs c14
    refine lv_lookup (off := 64) (tgt := 90) hx hb dX4_carryOut_26 (by decide) (by rw [c14]; decide) (by decide) ?_
    refine lv_aload_n hx hb dX4_carryOut_90 rfl (lv_at hl 2 rfl) ?_
    refine lv_iload_n hx hb dX4_carryOut_91 rfl (lv_at hl 1 rfl) ?_
    refine lv_iload_n hx hb dX4_carryOut_92 rfl (lv_at hl 0 rfl) ?_
    obtain ⟨q15, hq15, hs⟩ := obind_e hs
    refine end_i (run_V (q := (RX4, TX4, 11)) (ci := 4) hF hKK hW hS hl.1 k0 (by decide) rfl (c_X4_setWeight l hOK k0 hq15) (kw_X4_60 hF.2.2.2.2 ⟨Nat.le_of_ble_eq_true rfl, Nat.le_of_ble_eq_true rfl⟩) rfl rfl (Nat.le_of_ble_eq_true rfl) dX4_carryOut_93 ⟨Nat.zero_le _, Nat.zero_le _⟩) hS (fun H locs hW hS => ?_)
    have h9 := Option.some.inj hs
    rw [← h9]
    exact wr_i hF hr hlocks (vp_nar_int _) hW hS dX4_carryOut_96
  have hs := ite_f hs c14
  refine lv_lookup (off := 98) (tgt := 124) hx hb dX4_carryOut_26 (by decide) ((lv_osw c4 (by decide)).trans ((lv_osw c6 (by decide)).trans ((lv_osw c8 (by decide)).trans ((lv_osw c10 (by decide)).trans ((lv_osw c12 (by decide)).trans ((lv_osw c14 (by decide)).trans rfl)))))) (by decide) ?_
  refine lv_bipush (v := (-2 : Int32)) hx hb dX4_carryOut_124 (by decide) ?_
  have h9 := Option.some.inj hs
  rw [← h9]
  exact wr_i hF hr hlocks (vp_nar_int _) hW hS dX4_carryOut_126

set_option maxHeartbeats 4000000 in
set_option maxRecDepth 100000 in
theorem c_X4_cut (l : Launch) {G : va_G} {Λ : Lay} {μ : Mem} (hOK : LayOK Λ) {a0 : Nat} (k0 : inK Λ a0 4) {a1 : Int32} {a2 : Int32} {r : (Int32 × Mem)} (hs : sX4_cut Λ μ a0 a1 a2 = some r) : CM l G Λ yX4_cut cX4_cut 3 (some .int) 5 μ [.ref a0, .int a1, .int a2] (QI G Λ r.1 r.2) := by
  refine ofM (own := RX4) (by decide +kernel) rfl (Nat.le_of_ble_eq_true rfl) (fun p e s m args below meth c ls hF hKK hW hr hlocks hl => ?_)
  have hx := hF.1
  have hb := hF.2.1
  have hA : ∀ q, inL Λ q → inL Λ q := fun _ h => h
  have hS : va_S (inL Λ) s.heap s.heap [] := va_S.rf
  have hl : lv_has ls 3 [(0, .ref a0), (1, .int a1), (2, .int a2)] := hl
  unfold sX4_cut at hs
  refine lv_aload_n hx hb dX4_cut_0 rfl (lv_at hl 0 rfl) ?_
  refine gf_4_2 hF hKK hW k0 dX4_cut_1 ?_
  refine lv_aload_n hx hb dX4_cut_4 rfl (lv_at hl 0 rfl) ?_
  refine gf_4_0 hF hKK hW k0 dX4_cut_5 ?_
  obtain ⟨q1, hq1, hs⟩ := obind_e hs
  refine end_v (run_V (q := (RX0, TX0, 3)) (ci := 0) hF hKK hW hS hl.1 (lk_4_2 hOK k0) (by decide) rfl (c_X0_note l hOK (lk_4_2 hOK k0) (lk_4_0 hOK k0) hq1) (kw_X4_49 hF.2.2.2.2 ⟨Nat.le_of_ble_eq_true rfl, Nat.le_of_ble_eq_true rfl⟩) rfl rfl (Nat.le_of_ble_eq_true rfl) dX4_cut_8 ⟨Nat.zero_le _, Nat.zero_le _⟩) hS (fun H locs hW hS => ?_)
  refine lv_aload_n hx hb dX4_cut_11 rfl (lv_at hl 0 rfl) ?_
  refine lv_aload_n hx hb dX4_cut_12 rfl (lv_at hl 0 rfl) ?_
  refine lv_iload_n hx hb dX4_cut_13 rfl (lv_at hl 1 rfl) ?_
  refine lv_iload_n hx hb dX4_cut_14 rfl (lv_at hl 2 rfl) ?_
  obtain ⟨q2, hq2, hs⟩ := obind_e hs
  refine end_i (run_V (q := (RX4, TX4, 11)) (ci := 4) hF hKK hW hS hl.1 k0 (by decide) rfl (c_X4_cutRope l hOK k0 hq2) (kw_X4_67 hF.2.2.2.2 ⟨Nat.le_of_ble_eq_true rfl, Nat.le_of_ble_eq_true rfl⟩) rfl rfl (Nat.le_of_ble_eq_true rfl) dX4_cut_15 ⟨Nat.zero_le _, Nat.zero_le _⟩) hS (fun H locs hW hS => ?_)
  obtain ⟨q3, hq3, hs⟩ := obind_e hs
  refine end_i (run_V (q := (RX4, TX4, 11)) (ci := 4) hF hKK hW hS hl.1 k0 (by decide) rfl (c_X4_settle l hOK k0 hq3) (kw_X4_57 hF.2.2.2.2 ⟨Nat.le_of_ble_eq_true rfl, Nat.le_of_ble_eq_true rfl⟩) rfl rfl (Nat.le_of_ble_eq_true rfl) dX4_cut_18 ⟨Nat.zero_le _, Nat.zero_le _⟩) hS (fun H locs hW hS => ?_)
  have h9 := Option.some.inj hs
  rw [← h9]
  exact wr_i hF hr hlocks (vp_nar_int _) hW hS dX4_cut_21

set_option maxHeartbeats 4000000 in
set_option maxRecDepth 100000 in
theorem c_X4_inRound (l : Launch) {G : va_G} {Λ : Lay} {μ : Mem} (hOK : LayOK Λ) {a0 : Nat} (k0 : inK Λ a0 4) {a1 : Int32} {a2 : Int32} {r : Int32} (hs : sX4_inRound Λ μ a0 a1 a2 = some r) : CM l G Λ yX4_inRound cX4_inRound 3 (some .int) 3 μ [.ref a0, .int a1, .int a2] (QI G Λ r μ) := by
  refine ofM (own := RX4) (by decide +kernel) rfl (Nat.le_of_ble_eq_true rfl) (fun p e s m args below meth c ls hF hKK hW hr hlocks hl => ?_)
  have hx := hF.1
  have hb := hF.2.1
  have hA : ∀ q, inL Λ q → inL Λ q := fun _ h => h
  have hS : va_S (inL Λ) s.heap s.heap [] := va_S.rf
  have hl : lv_has ls 3 [(0, .ref a0), (1, .int a1), (2, .int a2)] := hl
  unfold sX4_inRound at hs
  refine lv_aload_n hx hb dX4_inRound_0 rfl (lv_at hl 0 rfl) ?_
  refine gf_4_0 hF hKK hW k0 dX4_inRound_1 ?_
  refine lv_iload_n hx hb dX4_inRound_4 rfl (lv_at hl 1 rfl) ?_
  obtain ⟨q1, hq1, hs⟩ := obind_e hs
  refine end_i (run_V (q := (RX1, TX1, 7)) (ci := 1) hF hKK hW hS hl.1 (lk_4_0 hOK k0) (by decide) rfl (c_X1_has l hOK (lk_4_0 hOK k0) hq1) (kw_X4_89 hF.2.2.2.2 ⟨Nat.le_of_ble_eq_true rfl, Nat.le_of_ble_eq_true rfl⟩) rfl rfl (Nat.le_of_ble_eq_true rfl) dX4_inRound_5 ⟨Nat.zero_le _, Nat.zero_le _⟩) hS (fun H locs hW hS => ?_)
  refine lv_if_ne (tgt := 13) hx hb dX4_inRound_8 (by decide) (fun c2 => ?_) (fun c2 => ?_)
  · have hs := ite_f hs c2
    refine lv_aload_n hx hb dX4_inRound_13 rfl (lv_at hl 0 rfl) ?_
    refine gf_4_0 hF hKK hW k0 dX4_inRound_14 ?_
    refine lv_iload_n hx hb dX4_inRound_17 rfl (lv_at hl 1 rfl) ?_
    obtain ⟨q3, hq3, hs⟩ := obind_e hs
    refine end_r (run_V (q := (RX1, TX1, 7)) (ci := 1) hF hKK hW hS hl.1 (lk_4_0 hOK k0) (by decide) rfl (c_X1_roundOf l hOK (lk_4_0 hOK k0) hq3) (kw_X4_102 hF.2.2.2.2 ⟨Nat.le_of_ble_eq_true rfl, Nat.le_of_ble_eq_true rfl⟩) rfl rfl (Nat.le_of_ble_eq_true rfl) dX4_inRound_18 ⟨Nat.zero_le _, Nat.zero_le _⟩) hS (fun H locs kq3 hW hS => ?_)
    refine lv_iload_n hx hb dX4_inRound_21 rfl (lv_at hl 2 rfl) ?_
    obtain ⟨q4, hq4, hs⟩ := obind_e hs
    refine end_i (run_V (q := (RX2, TX2, 2)) (ci := 2) hF hKK hW hS hl.1 kq3 (by decide) rfl (c_X2_get l hOK kq3 hq4) (kw_X4_132 hF.2.2.2.2 ⟨Nat.le_of_ble_eq_true rfl, Nat.le_of_ble_eq_true rfl⟩) rfl rfl (Nat.le_of_ble_eq_true rfl) dX4_inRound_22 ⟨Nat.zero_le _, Nat.zero_le _⟩) hS (fun H locs hW hS => ?_)
    have h9 := Option.some.inj hs
    rw [← h9]
    exact wr_i hF hr hlocks (vp_nar_int _) hW hS dX4_inRound_25
  · have hs := ite_t hs c2
    refine lv_iconst (v := (-1 : Int32)) hx hb dX4_inRound_11 (by decide) ?_
    have h9 := Option.some.inj hs
    rw [← h9]
    exact wr_i hF hr hlocks (vp_nar_int _) hW hS dX4_inRound_12

set_option maxHeartbeats 4000000 in
set_option maxRecDepth 100000 in
theorem c_X4_isBelow (l : Launch) {G : va_G} {Λ : Lay} {μ : Mem} (hOK : LayOK Λ) {a0 : Nat} (k0 : inK Λ a0 4) {a1 : Int32} {a2 : Int32} {r : Int32} (hs : sX4_isBelow Λ μ a0 a1 a2 = some r) : CM l G Λ yX4_isBelow cX4_isBelow 3 (some .int) 4 μ [.ref a0, .int a1, .int a2] (QI G Λ r μ) := by
  refine ofM (own := RX4) (by decide +kernel) rfl (Nat.le_of_ble_eq_true rfl) (fun p e s m args below meth c ls hF hKK hW hr hlocks hl => ?_)
  have hx := hF.1
  have hb := hF.2.1
  have hA : ∀ q, inL Λ q → inL Λ q := fun _ h => h
  have hS : va_S (inL Λ) s.heap s.heap [] := va_S.rf
  have hl : lv_has ls 3 [(0, .ref a0), (1, .int a1), (2, .int a2)] := hl
  unfold sX4_isBelow at hs
  refine lv_aload_n hx hb dX4_isBelow_0 rfl (lv_at hl 0 rfl) ?_
  refine lv_iload_n hx hb dX4_isBelow_1 rfl (lv_at hl 1 rfl) ?_
  refine lv_iload_n hx hb dX4_isBelow_2 rfl (lv_at hl 2 rfl) ?_
  obtain ⟨q1, hq1, hs⟩ := obind_e hs
  refine end_i (run_V (q := (RX4, TX4, 11)) (ci := 4) hF hKK hW hS hl.1 k0 (by decide) rfl (c_X4_areThere l hOK k0 hq1) (kw_X4_76 hF.2.2.2.2 ⟨Nat.le_of_ble_eq_true rfl, Nat.le_of_ble_eq_true rfl⟩) rfl rfl (Nat.le_of_ble_eq_true rfl) dX4_isBelow_3 ⟨Nat.zero_le _, Nat.zero_le _⟩) hS (fun H locs hW hS => ?_)
  refine lv_if_ne (tgt := 11) hx hb dX4_isBelow_6 (by decide) (fun c2 => ?_) (fun c2 => ?_)
  · have hs := ite_f hs c2
    refine lv_aload_n hx hb dX4_isBelow_11 rfl (lv_at hl 0 rfl) ?_
    refine gf_4_0 hF hKK hW k0 dX4_isBelow_12 ?_
    refine lv_iload_n hx hb dX4_isBelow_15 rfl (lv_at hl 1 rfl) ?_
    obtain ⟨q3, hq3, hs⟩ := obind_e hs
    refine end_i (run_V (q := (RX1, TX1, 7)) (ci := 1) hF hKK hW hS hl.1 (lk_4_0 hOK k0) (by decide) rfl (c_X1_aboveOf l hOK (lk_4_0 hOK k0) hq3) (kw_X4_151 hF.2.2.2.2 ⟨Nat.le_of_ble_eq_true rfl, Nat.le_of_ble_eq_true rfl⟩) rfl rfl (Nat.le_of_ble_eq_true rfl) dX4_isBelow_16 ⟨Nat.zero_le _, Nat.zero_le _⟩) hS (fun H locs hW hS => ?_)
    refine lv_iload_n hx hb dX4_isBelow_19 rfl (lv_at hl 2 rfl) ?_
    obtain ⟨q4, hq4, hs⟩ := obind_e hs
    refine end_i (run_S hF hKK hW hS hl.1 (c_X4_bit l hOK  hq4) (kw_X4_86 hF.2.2.2.2 ⟨Nat.le_of_ble_eq_true rfl, Nat.le_of_ble_eq_true rfl⟩) rfl rfl (Nat.le_of_ble_eq_true rfl) dX4_isBelow_20 ⟨Nat.zero_le _, Nat.zero_le _⟩) hS (fun H locs hW hS => ?_)
    refine lv_iand hx hb dX4_isBelow_23 ?_
    refine lv_if_eq (tgt := 31) hx hb dX4_isBelow_24 (by decide) (fun c5 => ?_) (fun c5 => ?_)
    · have hs := ite_t hs c5
      refine lv_iconst (v := (0 : Int32)) hx hb dX4_isBelow_31 (by decide) ?_
      have h9 := Option.some.inj hs
      rw [← h9]
      exact wr_i hF hr hlocks (vp_nar_int _) hW hS dX4_isBelow_32
    · have hs := ite_f hs c5
      refine lv_iconst (v := (1 : Int32)) hx hb dX4_isBelow_27 (by decide) ?_
      refine lv_goto (tgt := 32) hx hb dX4_isBelow_28 (by decide) ?_
      have h9 := Option.some.inj hs
      rw [← h9]
      exact wr_i hF hr hlocks (vp_nar_int _) hW hS dX4_isBelow_32
  · have hs := ite_t hs c2
    refine lv_iconst (v := (-1 : Int32)) hx hb dX4_isBelow_9 (by decide) ?_
    have h9 := Option.some.inj hs
    rw [← h9]
    exact wr_i hF hr hlocks (vp_nar_int _) hW hS dX4_isBelow_10

set_option maxHeartbeats 4000000 in
set_option maxRecDepth 100000 in
theorem c_X4_isRope (l : Launch) {G : va_G} {Λ : Lay} {μ : Mem} (hOK : LayOK Λ) {a0 : Nat} (k0 : inK Λ a0 4) {a1 : Int32} {a2 : Int32} {r : Int32} (hs : sX4_isRope Λ μ a0 a1 a2 = some r) : CM l G Λ yX4_isRope cX4_isRope 3 (some .int) 4 μ [.ref a0, .int a1, .int a2] (QI G Λ r μ) := by
  refine ofM (own := RX4) (by decide +kernel) rfl (Nat.le_of_ble_eq_true rfl) (fun p e s m args below meth c ls hF hKK hW hr hlocks hl => ?_)
  have hx := hF.1
  have hb := hF.2.1
  have hA : ∀ q, inL Λ q → inL Λ q := fun _ h => h
  have hS : va_S (inL Λ) s.heap s.heap [] := va_S.rf
  have hl : lv_has ls 3 [(0, .ref a0), (1, .int a1), (2, .int a2)] := hl
  unfold sX4_isRope at hs
  refine lv_aload_n hx hb dX4_isRope_0 rfl (lv_at hl 0 rfl) ?_
  refine lv_iload_n hx hb dX4_isRope_1 rfl (lv_at hl 1 rfl) ?_
  refine lv_iload_n hx hb dX4_isRope_2 rfl (lv_at hl 2 rfl) ?_
  obtain ⟨q1, hq1, hs⟩ := obind_e hs
  refine end_i (run_V (q := (RX4, TX4, 11)) (ci := 4) hF hKK hW hS hl.1 k0 (by decide) rfl (c_X4_areThere l hOK k0 hq1) (kw_X4_76 hF.2.2.2.2 ⟨Nat.le_of_ble_eq_true rfl, Nat.le_of_ble_eq_true rfl⟩) rfl rfl (Nat.le_of_ble_eq_true rfl) dX4_isRope_3 ⟨Nat.zero_le _, Nat.zero_le _⟩) hS (fun H locs hW hS => ?_)
  refine lv_if_ne (tgt := 11) hx hb dX4_isRope_6 (by decide) (fun c2 => ?_) (fun c2 => ?_)
  · have hs := ite_f hs c2
    refine lv_aload_n hx hb dX4_isRope_11 rfl (lv_at hl 0 rfl) ?_
    refine gf_4_0 hF hKK hW k0 dX4_isRope_12 ?_
    refine lv_iload_n hx hb dX4_isRope_15 rfl (lv_at hl 1 rfl) ?_
    refine lv_iload_n hx hb dX4_isRope_16 rfl (lv_at hl 2 rfl) ?_
    obtain ⟨q3, hq3, hs⟩ := obind_e hs
    refine end_i (run_V (q := (RX1, TX1, 7)) (ci := 1) hF hKK hW hS hl.1 (lk_4_0 hOK k0) (by decide) rfl (c_X1_isTied l hOK (lk_4_0 hOK k0) hq3) (kw_X4_148 hF.2.2.2.2 ⟨Nat.le_of_ble_eq_true rfl, Nat.le_of_ble_eq_true rfl⟩) rfl rfl (Nat.le_of_ble_eq_true rfl) dX4_isRope_17 ⟨Nat.zero_le _, Nat.zero_le _⟩) hS (fun H locs hW hS => ?_)
    refine lv_if_eq (tgt := 27) hx hb dX4_isRope_20 (by decide) (fun c4 => ?_) (fun c4 => ?_)
    · have hs := ite_t hs c4
      refine lv_iconst (v := (0 : Int32)) hx hb dX4_isRope_27 (by decide) ?_
      have h9 := Option.some.inj hs
      rw [← h9]
      exact wr_i hF hr hlocks (vp_nar_int _) hW hS dX4_isRope_28
    · have hs := ite_f hs c4
      refine lv_iconst (v := (1 : Int32)) hx hb dX4_isRope_23 (by decide) ?_
      refine lv_goto (tgt := 28) hx hb dX4_isRope_24 (by decide) ?_
      have h9 := Option.some.inj hs
      rw [← h9]
      exact wr_i hF hr hlocks (vp_nar_int _) hW hS dX4_isRope_28
  · have hs := ite_t hs c2
    refine lv_iconst (v := (-1 : Int32)) hx hb dX4_isRope_9 (by decide) ?_
    have h9 := Option.some.inj hs
    rw [← h9]
    exact wr_i hF hr hlocks (vp_nar_int _) hW hS dX4_isRope_10

set_option maxHeartbeats 4000000 in
set_option maxRecDepth 100000 in
theorem c_X4_isWell (l : Launch) {G : va_G} {Λ : Lay} {μ : Mem} (hOK : LayOK Λ) {a0 : Nat} (k0 : inK Λ a0 4) {r : Int32} (hs : sX4_isWell Λ μ a0 = some r) : CM l G Λ yX4_isWell cX4_isWell 1 (some .int) 6 μ [.ref a0] (QI G Λ r μ) := by
  refine ofM (own := RX4) (by decide +kernel) rfl (Nat.le_of_ble_eq_true rfl) (fun p e s m args below meth c ls hF hKK hW hr hlocks hl => ?_)
  have hx := hF.1
  have hb := hF.2.1
  have hA : ∀ q, inL Λ q → inL Λ q := fun _ h => h
  have hS : va_S (inL Λ) s.heap s.heap [] := va_S.rf
  have hl : lv_has ls 1 [(0, .ref a0)] := hl
  unfold sX4_isWell at hs
  refine lv_aload_n hx hb dX4_isWell_0 rfl (lv_at hl 0 rfl) ?_
  refine gf_4_0 hF hKK hW k0 dX4_isWell_1 ?_
  obtain ⟨q1, hq1, hs⟩ := obind_e hs
  refine end_i (run_V (q := (RX1, TX1, 7)) (ci := 1) hF hKK hW hS hl.1 (lk_4_0 hOK k0) (by decide) rfl (c_X1_isSound l hOK (lk_4_0 hOK k0) hq1) (kw_X4_232 hF.2.2.2.2 ⟨Nat.le_of_ble_eq_true rfl, Nat.le_of_ble_eq_true rfl⟩) rfl rfl (Nat.le_of_ble_eq_true rfl) dX4_isWell_4 ⟨Nat.zero_le _, Nat.zero_le _⟩) hS (fun H locs hW hS => ?_)
  refine lv_if_eq (tgt := 14) hx hb dX4_isWell_7 (by decide) (fun c2 => ?_) (fun c2 => ?_)
  · have hs := ite_t hs c2
    refine lv_iconst (v := (0 : Int32)) hx hb dX4_isWell_14 (by decide) ?_
    have h9 := Option.some.inj hs
    rw [← h9]
    exact wr_i hF hr hlocks (vp_nar_int _) hW hS dX4_isWell_15
  · have hs := ite_f hs c2
    refine lv_iconst (v := (1 : Int32)) hx hb dX4_isWell_10 (by decide) ?_
    refine lv_goto (tgt := 15) hx hb dX4_isWell_11 (by decide) ?_
    have h9 := Option.some.inj hs
    rw [← h9]
    exact wr_i hF hr hlocks (vp_nar_int _) hW hS dX4_isWell_15

set_option maxHeartbeats 4000000 in
set_option maxRecDepth 100000 in
theorem c_X4_join (l : Launch) {G : va_G} {Λ : Lay} {μ : Mem} (hOK : LayOK Λ) {a0 : Nat} (k0 : inK Λ a0 4) {a1 : Int32} {a2 : Int32} {r : (Int32 × Mem)} (hs : sX4_join Λ μ a0 a1 a2 = some r) : CM l G Λ yX4_join cX4_join 3 (some .int) 5 μ [.ref a0, .int a1, .int a2] (QI G Λ r.1 r.2) := by
  refine ofM (own := RX4) (by decide +kernel) rfl (Nat.le_of_ble_eq_true rfl) (fun p e s m args below meth c ls hF hKK hW hr hlocks hl => ?_)
  have hx := hF.1
  have hb := hF.2.1
  have hA : ∀ q, inL Λ q → inL Λ q := fun _ h => h
  have hS : va_S (inL Λ) s.heap s.heap [] := va_S.rf
  have hl : lv_has ls 3 [(0, .ref a0), (1, .int a1), (2, .int a2)] := hl
  unfold sX4_join at hs
  refine lv_aload_n hx hb dX4_join_0 rfl (lv_at hl 0 rfl) ?_
  refine gf_4_2 hF hKK hW k0 dX4_join_1 ?_
  refine lv_aload_n hx hb dX4_join_4 rfl (lv_at hl 0 rfl) ?_
  refine gf_4_0 hF hKK hW k0 dX4_join_5 ?_
  obtain ⟨q1, hq1, hs⟩ := obind_e hs
  refine end_v (run_V (q := (RX0, TX0, 3)) (ci := 0) hF hKK hW hS hl.1 (lk_4_2 hOK k0) (by decide) rfl (c_X0_note l hOK (lk_4_2 hOK k0) (lk_4_0 hOK k0) hq1) (kw_X4_49 hF.2.2.2.2 ⟨Nat.le_of_ble_eq_true rfl, Nat.le_of_ble_eq_true rfl⟩) rfl rfl (Nat.le_of_ble_eq_true rfl) dX4_join_8 ⟨Nat.zero_le _, Nat.zero_le _⟩) hS (fun H locs hW hS => ?_)
  refine lv_aload_n hx hb dX4_join_11 rfl (lv_at hl 0 rfl) ?_
  refine lv_aload_n hx hb dX4_join_12 rfl (lv_at hl 0 rfl) ?_
  refine lv_iload_n hx hb dX4_join_13 rfl (lv_at hl 1 rfl) ?_
  refine lv_iload_n hx hb dX4_join_14 rfl (lv_at hl 2 rfl) ?_
  obtain ⟨q2, hq2, hs⟩ := obind_e hs
  refine end_i (run_V (q := (RX4, TX4, 11)) (ci := 4) hF hKK hW hS hl.1 k0 (by decide) rfl (c_X4_joinBanks l hOK k0 hq2) (kw_X4_64 hF.2.2.2.2 ⟨Nat.le_of_ble_eq_true rfl, Nat.le_of_ble_eq_true rfl⟩) rfl rfl (Nat.le_of_ble_eq_true rfl) dX4_join_15 ⟨Nat.zero_le _, Nat.zero_le _⟩) hS (fun H locs hW hS => ?_)
  obtain ⟨q3, hq3, hs⟩ := obind_e hs
  refine end_i (run_V (q := (RX4, TX4, 11)) (ci := 4) hF hKK hW hS hl.1 k0 (by decide) rfl (c_X4_settle l hOK k0 hq3) (kw_X4_57 hF.2.2.2.2 ⟨Nat.le_of_ble_eq_true rfl, Nat.le_of_ble_eq_true rfl⟩) rfl rfl (Nat.le_of_ble_eq_true rfl) dX4_join_18 ⟨Nat.zero_le _, Nat.zero_le _⟩) hS (fun H locs hW hS => ?_)
  have h9 := Option.some.inj hs
  rw [← h9]
  exact wr_i hF hr hlocks (vp_nar_int _) hW hS dX4_join_21

set_option maxHeartbeats 4000000 in
set_option maxRecDepth 100000 in
theorem c_X4_mean (l : Launch) {G : va_G} {Λ : Lay} {μ : Mem} (hOK : LayOK Λ) {a0 : Nat} (k0 : inK Λ a0 4) {r : Int32} (hs : sX4_mean Λ μ a0 = some r) : CM l G Λ yX4_mean cX4_mean 2 (some .int) 6 μ [.ref a0] (QI G Λ r μ) := by
  refine ofM (own := RX4) (by decide +kernel) rfl (Nat.le_of_ble_eq_true rfl) (fun p e s m args below meth c ls hF hKK hW hr hlocks hl => ?_)
  have hx := hF.1
  have hb := hF.2.1
  have hA : ∀ q, inL Λ q → inL Λ q := fun _ h => h
  have hS : va_S (inL Λ) s.heap s.heap [] := va_S.rf
  have hl : lv_has ls 2 [(0, .ref a0)] := hl
  unfold sX4_mean at hs
  refine lv_aload_n hx hb dX4_mean_0 rfl (lv_at hl 0 rfl) ?_
  refine gf_4_0 hF hKK hW k0 dX4_mean_1 ?_
  obtain ⟨q1, hq1, hs⟩ := obind_e hs
  refine end_i (run_V (q := (RX1, TX1, 7)) (ci := 1) hF hKK hW hS hl.1 (lk_4_0 hOK k0) (by decide) rfl (c_X1_banks l hOK (lk_4_0 hOK k0) hq1) (kw_X4_205 hF.2.2.2.2 ⟨Nat.le_of_ble_eq_true rfl, Nat.le_of_ble_eq_true rfl⟩) rfl rfl (Nat.le_of_ble_eq_true rfl) dX4_mean_4 ⟨Nat.zero_le _, Nat.zero_le _⟩) hS (fun H locs hW hS => ?_)
  refine lv_istore_n (lv' := [(1, .int q1), (0, .ref a0)]) hx hb dX4_mean_7 rfl hl (by decide) rfl (fun ls hl => ?_)
  refine lv_iload_n hx hb dX4_mean_8 rfl (lv_at hl 0 rfl) ?_
  refine lv_if_gt (tgt := 15) hx hb dX4_mean_9 (by decide) (fun c2 => ?_) (fun c2 => ?_)
  · have hs := ite_t hs c2
    refine lv_aload_n hx hb dX4_mean_15 rfl (lv_at hl 1 rfl) ?_
    refine gf_4_0 hF hKK hW k0 dX4_mean_16 ?_
    obtain ⟨q3, hq3, hs⟩ := obind_e hs
    refine end_i (run_V (q := (RX1, TX1, 7)) (ci := 1) hF hKK hW hS hl.1 (lk_4_0 hOK k0) (by decide) rfl (c_X1_sumOfDepths l hOK (lk_4_0 hOK k0) hq3) (kw_X4_236 hF.2.2.2.2 ⟨Nat.le_of_ble_eq_true rfl, Nat.le_of_ble_eq_true rfl⟩) rfl rfl (Nat.le_of_ble_eq_true rfl) dX4_mean_19 ⟨Nat.zero_le _, Nat.zero_le _⟩) hS (fun H locs hW hS => ?_)
    refine lv_i2f hx hb dX4_mean_22 ?_
    refine lv_iload_n hx hb dX4_mean_23 rfl (lv_at hl 0 rfl) ?_
    refine lv_i2f hx hb dX4_mean_24 ?_
    obtain ⟨g4, hs⟩ := gd_some hs
    refine lv_fdiv hx hb dX4_mean_25 g4 ?_
    obtain ⟨q5, hq5, hs⟩ := obind_e hs
    refine end_i (run_S hF hKK hW hS hl.1 (c_X4_bitsOf l hOK  hq5) (kw_X4_239 hF.2.2.2.2 ⟨Nat.le_of_ble_eq_true rfl, Nat.le_of_ble_eq_true rfl⟩) rfl rfl (Nat.le_of_ble_eq_true rfl) dX4_mean_26 ⟨Nat.zero_le _, Nat.zero_le _⟩) hS (fun H locs hW hS => ?_)
    have h9 := Option.some.inj hs
    rw [← h9]
    exact wr_i hF hr hlocks (vp_nar_int _) hW hS dX4_mean_29
  · have hs := ite_f hs c2
    refine lv_bipush (v := (-4 : Int32)) hx hb dX4_mean_12 (by decide) ?_
    have h9 := Option.some.inj hs
    rw [← h9]
    exact wr_i hF hr hlocks (vp_nar_int _) hW hS dX4_mean_14

set_option maxHeartbeats 4000000 in
set_option maxRecDepth 100000 in
theorem c_X4_meet (l : Launch) {G : va_G} {Λ : Lay} {μ : Mem} (hOK : LayOK Λ) {a0 : Nat} (k0 : inK Λ a0 4) {a1 : Int32} {a2 : Int32} {r : Int32} (hs : sX4_meet Λ μ a0 a1 a2 = some r) : CM l G Λ yX4_meet cX4_meet 3 (some .int) 6 μ [.ref a0, .int a1, .int a2] (QI G Λ r μ) := by
  refine ofM (own := RX4) (by decide +kernel) rfl (Nat.le_of_ble_eq_true rfl) (fun p e s m args below meth c ls hF hKK hW hr hlocks hl => ?_)
  have hx := hF.1
  have hb := hF.2.1
  have hA : ∀ q, inL Λ q → inL Λ q := fun _ h => h
  have hS : va_S (inL Λ) s.heap s.heap [] := va_S.rf
  have hl : lv_has ls 3 [(0, .ref a0), (1, .int a1), (2, .int a2)] := hl
  unfold sX4_meet at hs
  refine lv_aload_n hx hb dX4_meet_0 rfl (lv_at hl 0 rfl) ?_
  refine lv_iload_n hx hb dX4_meet_1 rfl (lv_at hl 1 rfl) ?_
  refine lv_iload_n hx hb dX4_meet_2 rfl (lv_at hl 2 rfl) ?_
  obtain ⟨q1, hq1, hs⟩ := obind_e hs
  refine end_i (run_V (q := (RX4, TX4, 11)) (ci := 4) hF hKK hW hS hl.1 k0 (by decide) rfl (c_X4_areThere l hOK k0 hq1) (kw_X4_76 hF.2.2.2.2 ⟨Nat.le_of_ble_eq_true rfl, Nat.le_of_ble_eq_true rfl⟩) rfl rfl (Nat.le_of_ble_eq_true rfl) dX4_meet_3 ⟨Nat.zero_le _, Nat.zero_le _⟩) hS (fun H locs hW hS => ?_)
  refine lv_if_ne (tgt := 11) hx hb dX4_meet_6 (by decide) (fun c2 => ?_) (fun c2 => ?_)
  · have hs := ite_f hs c2
    refine lv_aload_n hx hb dX4_meet_11 rfl (lv_at hl 0 rfl) ?_
    refine gf_4_0 hF hKK hW k0 dX4_meet_12 ?_
    refine lv_iload_n hx hb dX4_meet_15 rfl (lv_at hl 1 rfl) ?_
    refine lv_iload_n hx hb dX4_meet_16 rfl (lv_at hl 2 rfl) ?_
    obtain ⟨q3, hq3, hs⟩ := obind_e hs
    refine end_i (run_V (q := (RX1, TX1, 7)) (ci := 1) hF hKK hW hS hl.1 (lk_4_0 hOK k0) (by decide) rfl (c_X1_isOnePart l hOK (lk_4_0 hOK k0) hq3) (kw_X4_80 hF.2.2.2.2 ⟨Nat.le_of_ble_eq_true rfl, Nat.le_of_ble_eq_true rfl⟩) rfl rfl (Nat.le_of_ble_eq_true rfl) dX4_meet_17 ⟨Nat.zero_le _, Nat.zero_le _⟩) hS (fun H locs hW hS => ?_)
    refine lv_if_eq (tgt := 35) hx hb dX4_meet_20 (by decide) (fun c4 => ?_) (fun c4 => ?_)
    · have hs := ite_t hs c4
      refine lv_bipush (v := (-4 : Int32)) hx hb dX4_meet_35 (by decide) ?_
      have h9 := Option.some.inj hs
      rw [← h9]
      exact wr_i hF hr hlocks (vp_nar_int _) hW hS dX4_meet_37
    · have hs := ite_f hs c4
      refine lv_aload_n hx hb dX4_meet_23 rfl (lv_at hl 0 rfl) ?_
      refine gf_4_0 hF hKK hW k0 dX4_meet_24 ?_
      refine lv_iload_n hx hb dX4_meet_27 rfl (lv_at hl 1 rfl) ?_
      refine lv_iload_n hx hb dX4_meet_28 rfl (lv_at hl 2 rfl) ?_
      obtain ⟨q5, hq5, hs⟩ := obind_e hs
      refine end_i (run_V (q := (RX1, TX1, 7)) (ci := 1) hF hKK hW hS hl.1 (lk_4_0 hOK k0) (by decide) rfl (c_X1_meetingOf l hOK (lk_4_0 hOK k0) hq5) (kw_X4_154 hF.2.2.2.2 ⟨Nat.le_of_ble_eq_true rfl, Nat.le_of_ble_eq_true rfl⟩) rfl rfl (Nat.le_of_ble_eq_true rfl) dX4_meet_29 ⟨Nat.zero_le _, Nat.zero_le _⟩) hS (fun H locs hW hS => ?_)
      refine lv_goto (tgt := 37) hx hb dX4_meet_32 (by decide) ?_
      have h9 := Option.some.inj hs
      rw [← h9]
      exact wr_i hF hr hlocks (vp_nar_int _) hW hS dX4_meet_37
  · have hs := ite_t hs c2
    refine lv_iconst (v := (-1 : Int32)) hx hb dX4_meet_9 (by decide) ?_
    have h9 := Option.some.inj hs
    rw [← h9]
    exact wr_i hF hr hlocks (vp_nar_int _) hW hS dX4_meet_10

set_option maxHeartbeats 4000000 in
set_option maxRecDepth 100000 in
theorem c_X4_middle (l : Launch) {G : va_G} {Λ : Lay} {μ : Mem} (hOK : LayOK Λ) {a0 : Nat} (k0 : inK Λ a0 4) {a1 : Int32} {r : Int32} (hs : sX4_middle Λ μ a0 a1 = some r) : CM l G Λ yX4_middle cX4_middle 2 (some .int) 6 μ [.ref a0, .int a1] (QI G Λ r μ) := by
  refine ofM (own := RX4) (by decide +kernel) rfl (Nat.le_of_ble_eq_true rfl) (fun p e s m args below meth c ls hF hKK hW hr hlocks hl => ?_)
  have hx := hF.1
  have hb := hF.2.1
  have hA : ∀ q, inL Λ q → inL Λ q := fun _ h => h
  have hS : va_S (inL Λ) s.heap s.heap [] := va_S.rf
  have hl : lv_has ls 2 [(0, .ref a0), (1, .int a1)] := hl
  unfold sX4_middle at hs
  refine lv_aload_n hx hb dX4_middle_0 rfl (lv_at hl 0 rfl) ?_
  refine gf_4_0 hF hKK hW k0 dX4_middle_1 ?_
  refine lv_iload_n hx hb dX4_middle_4 rfl (lv_at hl 1 rfl) ?_
  obtain ⟨q1, hq1, hs⟩ := obind_e hs
  refine end_i (run_V (q := (RX1, TX1, 7)) (ci := 1) hF hKK hW hS hl.1 (lk_4_0 hOK k0) (by decide) rfl (c_X1_has l hOK (lk_4_0 hOK k0) hq1) (kw_X4_89 hF.2.2.2.2 ⟨Nat.le_of_ble_eq_true rfl, Nat.le_of_ble_eq_true rfl⟩) rfl rfl (Nat.le_of_ble_eq_true rfl) dX4_middle_5 ⟨Nat.zero_le _, Nat.zero_le _⟩) hS (fun H locs hW hS => ?_)
  refine lv_if_ne (tgt := 13) hx hb dX4_middle_8 (by decide) (fun c2 => ?_) (fun c2 => ?_)
  · have hs := ite_f hs c2
    refine lv_aload_n hx hb dX4_middle_13 rfl (lv_at hl 0 rfl) ?_
    refine gf_4_0 hF hKK hW k0 dX4_middle_14 ?_
    refine lv_iload_n hx hb dX4_middle_17 rfl (lv_at hl 1 rfl) ?_
    obtain ⟨q3, hq3, hs⟩ := obind_e hs
    refine end_i (run_V (q := (RX1, TX1, 7)) (ci := 1) hF hKK hW hS hl.1 (lk_4_0 hOK k0) (by decide) rfl (c_X1_middleWith l hOK (lk_4_0 hOK k0) hq3) (kw_X4_168 hF.2.2.2.2 ⟨Nat.le_of_ble_eq_true rfl, Nat.le_of_ble_eq_true rfl⟩) rfl rfl (Nat.le_of_ble_eq_true rfl) dX4_middle_18 ⟨Nat.zero_le _, Nat.zero_le _⟩) hS (fun H locs hW hS => ?_)
    have h9 := Option.some.inj hs
    rw [← h9]
    exact wr_i hF hr hlocks (vp_nar_int _) hW hS dX4_middle_21
  · have hs := ite_t hs c2
    refine lv_iconst (v := (-1 : Int32)) hx hb dX4_middle_11 (by decide) ?_
    have h9 := Option.some.inj hs
    rw [← h9]
    exact wr_i hF hr hlocks (vp_nar_int _) hW hS dX4_middle_12

set_option maxHeartbeats 4000000 in
set_option maxRecDepth 100000 in
theorem c_X4_partOf (l : Launch) {G : va_G} {Λ : Lay} {μ : Mem} (hOK : LayOK Λ) {a0 : Nat} (k0 : inK Λ a0 4) {a1 : Int32} {a2 : Int32} {r : Int32} (hs : sX4_partOf Λ μ a0 a1 a2 = some r) : CM l G Λ yX4_partOf cX4_partOf 3 (some .int) 6 μ [.ref a0, .int a1, .int a2] (QI G Λ r μ) := by
  refine ofM (own := RX4) (by decide +kernel) rfl (Nat.le_of_ble_eq_true rfl) (fun p e s m args below meth c ls hF hKK hW hr hlocks hl => ?_)
  have hx := hF.1
  have hb := hF.2.1
  have hA : ∀ q, inL Λ q → inL Λ q := fun _ h => h
  have hS : va_S (inL Λ) s.heap s.heap [] := va_S.rf
  have hl : lv_has ls 3 [(0, .ref a0), (1, .int a1), (2, .int a2)] := hl
  unfold sX4_partOf at hs
  refine lv_aload_n hx hb dX4_partOf_0 rfl (lv_at hl 0 rfl) ?_
  refine gf_4_0 hF hKK hW k0 dX4_partOf_1 ?_
  refine lv_iload_n hx hb dX4_partOf_4 rfl (lv_at hl 1 rfl) ?_
  obtain ⟨q1, hq1, hs⟩ := obind_e hs
  refine end_i (run_V (q := (RX1, TX1, 7)) (ci := 1) hF hKK hW hS hl.1 (lk_4_0 hOK k0) (by decide) rfl (c_X1_has l hOK (lk_4_0 hOK k0) hq1) (kw_X4_89 hF.2.2.2.2 ⟨Nat.le_of_ble_eq_true rfl, Nat.le_of_ble_eq_true rfl⟩) rfl rfl (Nat.le_of_ble_eq_true rfl) dX4_partOf_5 ⟨Nat.zero_le _, Nat.zero_le _⟩) hS (fun H locs hW hS => ?_)
  refine lv_if_ne (tgt := 13) hx hb dX4_partOf_8 (by decide) (fun c2 => ?_) (fun c2 => ?_)
  · have hs := ite_f hs c2
    refine lv_iload_n hx hb dX4_partOf_13 rfl (lv_at hl 2 rfl) ?_
    by_cases c3 : a2 = (0 : Int32)
    · have hs := ite_t hs c3
      refine lv_tableIn (off := 34) (tgt := 48) hx hb dX4_partOf_14 (by rw [c3]; decide) (by rw [c3]; decide) (by rw [c3]; decide) (by decide) ?_
      refine lv_aload_n hx hb dX4_partOf_48 rfl (lv_at hl 0 rfl) ?_
      refine gf_4_0 hF hKK hW k0 dX4_partOf_49 ?_
      refine lv_iload_n hx hb dX4_partOf_52 rfl (lv_at hl 1 rfl) ?_
      obtain ⟨q4, hq4, hs⟩ := obind_e hs
      refine end_i (run_V (q := (RX1, TX1, 7)) (ci := 1) hF hKK hW hS hl.1 (lk_4_0 hOK k0) (by decide) rfl (c_X1_banksWith l hOK (lk_4_0 hOK k0) hq4) (kw_X4_135 hF.2.2.2.2 ⟨Nat.le_of_ble_eq_true rfl, Nat.le_of_ble_eq_true rfl⟩) rfl rfl (Nat.le_of_ble_eq_true rfl) dX4_partOf_53 ⟨Nat.zero_le _, Nat.zero_le _⟩) hS (fun H locs hW hS => ?_)
      obtain ⟨q5, hq5, hs⟩ := obind_e hs
      refine end_i (run_S hF hKK hW hS hl.1 (c_J6_bitCount_0f7a4 l hOK  hq5) (kw_X4_115 hF.2.2.2.2 ⟨Nat.le_of_ble_eq_true rfl, Nat.le_of_ble_eq_true rfl⟩) rfl rfl (Nat.le_of_ble_eq_true rfl) dX4_partOf_56 ⟨Nat.zero_le _, Nat.zero_le _⟩) hS (fun H locs hW hS => ?_)
      have h9 := Option.some.inj hs
      rw [← h9]
      exact wr_i hF hr hlocks (vp_nar_int _) hW hS dX4_partOf_59
    have hs := ite_f hs c3
    by_cases c6 : a2 = (1 : Int32)
    · have hs := ite_t hs c6
      refine lv_tableIn (off := 46) (tgt := 60) hx hb dX4_partOf_14 (by rw [c6]; decide) (by rw [c6]; decide) (by rw [c6]; decide) (by decide) ?_
      refine lv_aload_n hx hb dX4_partOf_60 rfl (lv_at hl 0 rfl) ?_
      refine gf_4_0 hF hKK hW k0 dX4_partOf_61 ?_
      refine lv_iload_n hx hb dX4_partOf_64 rfl (lv_at hl 1 rfl) ?_
      obtain ⟨q7, hq7, hs⟩ := obind_e hs
      refine end_r (run_V (q := (RX1, TX1, 7)) (ci := 1) hF hKK hW hS hl.1 (lk_4_0 hOK k0) (by decide) rfl (c_X1_roundOf l hOK (lk_4_0 hOK k0) hq7) (kw_X4_102 hF.2.2.2.2 ⟨Nat.le_of_ble_eq_true rfl, Nat.le_of_ble_eq_true rfl⟩) rfl rfl (Nat.le_of_ble_eq_true rfl) dX4_partOf_65 ⟨Nat.zero_le _, Nat.zero_le _⟩) hS (fun H locs kq7 hW hS => ?_)
      obtain ⟨q8, hq8, hs⟩ := obind_e hs
      refine end_i (run_V (q := (RX2, TX2, 2)) (ci := 2) hF hKK hW hS hl.1 kq7 (by decide) rfl (c_X2_length l hOK kq7 hq8) (kw_X4_138 hF.2.2.2.2 ⟨Nat.le_of_ble_eq_true rfl, Nat.le_of_ble_eq_true rfl⟩) rfl rfl (Nat.le_of_ble_eq_true rfl) dX4_partOf_68 ⟨Nat.zero_le _, Nat.zero_le _⟩) hS (fun H locs hW hS => ?_)
      have h9 := Option.some.inj hs
      rw [← h9]
      exact wr_i hF hr hlocks (vp_nar_int _) hW hS dX4_partOf_71
    have hs := ite_f hs c6
    by_cases c9 : a2 = (2 : Int32)
    · have hs := ite_t hs c9
      refine lv_tableIn (off := 58) (tgt := 72) hx hb dX4_partOf_14 (by rw [c9]; decide) (by rw [c9]; decide) (by rw [c9]; decide) (by decide) ?_
      refine lv_aload_n hx hb dX4_partOf_72 rfl (lv_at hl 0 rfl) ?_
      refine gf_4_0 hF hKK hW k0 dX4_partOf_73 ?_
      refine lv_aload_n hx hb dX4_partOf_76 rfl (lv_at hl 0 rfl) ?_
      refine gf_4_0 hF hKK hW k0 dX4_partOf_77 ?_
      refine lv_iload_n hx hb dX4_partOf_80 rfl (lv_at hl 1 rfl) ?_
      obtain ⟨q10, hq10, hs⟩ := obind_e hs
      refine end_i (run_V (q := (RX1, TX1, 7)) (ci := 1) hF hKK hW hS hl.1 (lk_4_0 hOK k0) (by decide) rfl (c_X1_banksWith l hOK (lk_4_0 hOK k0) hq10) (kw_X4_135 hF.2.2.2.2 ⟨Nat.le_of_ble_eq_true rfl, Nat.le_of_ble_eq_true rfl⟩) rfl rfl (Nat.le_of_ble_eq_true rfl) dX4_partOf_81 ⟨Nat.zero_le _, Nat.zero_le _⟩) hS (fun H locs hW hS => ?_)
      obtain ⟨q11, hq11, hs⟩ := obind_e hs
      refine end_i (run_V (q := (RX1, TX1, 7)) (ci := 1) hF hKK hW hS hl.1 (lk_4_0 hOK k0) (by decide) rfl (c_X1_weightOfAll l hOK (lk_4_0 hOK k0) hq11) (kw_X4_126 hF.2.2.2.2 ⟨Nat.le_of_ble_eq_true rfl, Nat.le_of_ble_eq_true rfl⟩) rfl rfl (Nat.le_of_ble_eq_true rfl) dX4_partOf_84 ⟨Nat.zero_le _, Nat.zero_le _⟩) hS (fun H locs hW hS => ?_)
      have h9 := Option.some.inj hs
      rw [← h9]
      exact wr_i hF hr hlocks (vp_nar_int _) hW hS dX4_partOf_87
    have hs := ite_f hs c9
    by_cases c12 : a2 = (3 : Int32)
    · have hs := ite_t hs c12
      refine lv_tableIn (off := 74) (tgt := 88) hx hb dX4_partOf_14 (by rw [c12]; decide) (by rw [c12]; decide) (by rw [c12]; decide) (by decide) ?_
      refine lv_aload_n hx hb dX4_partOf_88 rfl (lv_at hl 0 rfl) ?_
      refine gf_4_0 hF hKK hW k0 dX4_partOf_89 ?_
      refine lv_aload_n hx hb dX4_partOf_92 rfl (lv_at hl 0 rfl) ?_
      refine gf_4_0 hF hKK hW k0 dX4_partOf_93 ?_
      refine lv_iload_n hx hb dX4_partOf_96 rfl (lv_at hl 1 rfl) ?_
      obtain ⟨q13, hq13, hs⟩ := obind_e hs
      refine end_i (run_V (q := (RX1, TX1, 7)) (ci := 1) hF hKK hW hS hl.1 (lk_4_0 hOK k0) (by decide) rfl (c_X1_banksWith l hOK (lk_4_0 hOK k0) hq13) (kw_X4_135 hF.2.2.2.2 ⟨Nat.le_of_ble_eq_true rfl, Nat.le_of_ble_eq_true rfl⟩) rfl rfl (Nat.le_of_ble_eq_true rfl) dX4_partOf_97 ⟨Nat.zero_le _, Nat.zero_le _⟩) hS (fun H locs hW hS => ?_)
      obtain ⟨q14, hq14, hs⟩ := obind_e hs
      refine end_i (run_V (q := (RX1, TX1, 7)) (ci := 1) hF hKK hW hS hl.1 (lk_4_0 hOK k0) (by decide) rfl (c_X1_greatestDepth l hOK (lk_4_0 hOK k0) hq14) (kw_X4_142 hF.2.2.2.2 ⟨Nat.le_of_ble_eq_true rfl, Nat.le_of_ble_eq_true rfl⟩) rfl rfl (Nat.le_of_ble_eq_true rfl) dX4_partOf_100 ⟨Nat.zero_le _, Nat.zero_le _⟩) hS (fun H locs hW hS => ?_)
      have h9 := Option.some.inj hs
      rw [← h9]
      exact wr_i hF hr hlocks (vp_nar_int _) hW hS dX4_partOf_103
    have hs := ite_f hs c12
    by_cases c15 : a2 = (4 : Int32)
    · have hs := ite_t hs c15
      refine lv_tableIn (off := 90) (tgt := 104) hx hb dX4_partOf_14 (by rw [c15]; decide) (by rw [c15]; decide) (by rw [c15]; decide) (by decide) ?_
      refine lv_aload_n hx hb dX4_partOf_104 rfl (lv_at hl 0 rfl) ?_
      refine gf_4_0 hF hKK hW k0 dX4_partOf_105 ?_
      refine lv_iload_n hx hb dX4_partOf_108 rfl (lv_at hl 1 rfl) ?_
      obtain ⟨q16, hq16, hs⟩ := obind_e hs
      refine end_i (run_V (q := (RX1, TX1, 7)) (ci := 1) hF hKK hW hS hl.1 (lk_4_0 hOK k0) (by decide) rfl (c_X1_heaviestWith l hOK (lk_4_0 hOK k0) hq16) (kw_X4_145 hF.2.2.2.2 ⟨Nat.le_of_ble_eq_true rfl, Nat.le_of_ble_eq_true rfl⟩) rfl rfl (Nat.le_of_ble_eq_true rfl) dX4_partOf_109 ⟨Nat.zero_le _, Nat.zero_le _⟩) hS (fun H locs hW hS => ?_)
      have h9 := Option.some.inj hs
      rw [← h9]
      exact wr_i hF hr hlocks (vp_nar_int _) hW hS dX4_partOf_112
    have hs := ite_f hs c15
    refine lv_tableOut (tgt := 113) hx hb dX4_partOf_14 (by have := lv_neT c3 (a := 0) (by decide); have := lv_neT c6 (a := 1) (by decide); have := lv_neT c9 (a := 2) (by decide); have := lv_neT c12 (a := 3) (by decide); have := lv_neT c15 (a := 4) (by decide); omega) (by decide) ?_
    refine lv_bipush (v := (-2 : Int32)) hx hb dX4_partOf_113 (by decide) ?_
    have h9 := Option.some.inj hs
    rw [← h9]
    exact wr_i hF hr hlocks (vp_nar_int _) hW hS dX4_partOf_115
  · have hs := ite_t hs c2
    refine lv_iconst (v := (-1 : Int32)) hx hb dX4_partOf_11 (by decide) ?_
    have h9 := Option.some.inj hs
    rw [← h9]
    exact wr_i hF hr hlocks (vp_nar_int _) hW hS dX4_partOf_12

set_option maxHeartbeats 4000000 in
set_option maxRecDepth 100000 in
theorem c_X4_ranked (l : Launch) {G : va_G} {Λ : Lay} {μ : Mem} (hOK : LayOK Λ) {a0 : Nat} (k0 : inK Λ a0 4) {a1 : Int32} {r : Int32} (hs : sX4_ranked Λ μ a0 a1 = some r) : CM l G Λ yX4_ranked cX4_ranked 2 (some .int) 6 μ [.ref a0, .int a1] (QI G Λ r μ) := by
  refine ofM (own := RX4) (by decide +kernel) rfl (Nat.le_of_ble_eq_true rfl) (fun p e s m args below meth c ls hF hKK hW hr hlocks hl => ?_)
  have hx := hF.1
  have hb := hF.2.1
  have hA : ∀ q, inL Λ q → inL Λ q := fun _ h => h
  have hS : va_S (inL Λ) s.heap s.heap [] := va_S.rf
  have hl : lv_has ls 2 [(0, .ref a0), (1, .int a1)] := hl
  unfold sX4_ranked at hs
  refine lv_aload_n hx hb dX4_ranked_0 rfl (lv_at hl 0 rfl) ?_
  refine gf_4_0 hF hKK hW k0 dX4_ranked_1 ?_
  refine lv_iload_n hx hb dX4_ranked_4 rfl (lv_at hl 1 rfl) ?_
  obtain ⟨q1, hq1, hs⟩ := obind_e hs
  refine end_i (run_V (q := (RX1, TX1, 7)) (ci := 1) hF hKK hW hS hl.1 (lk_4_0 hOK k0) (by decide) rfl (c_X1_rootRanked l hOK (lk_4_0 hOK k0) hq1) (kw_X4_171 hF.2.2.2.2 ⟨Nat.le_of_ble_eq_true rfl, Nat.le_of_ble_eq_true rfl⟩) rfl rfl (Nat.le_of_ble_eq_true rfl) dX4_ranked_5 ⟨Nat.zero_le _, Nat.zero_le _⟩) hS (fun H locs hW hS => ?_)
  have h9 := Option.some.inj hs
  rw [← h9]
  exact wr_i hF hr hlocks (vp_nar_int _) hW hS dX4_ranked_8

set_option maxHeartbeats 4000000 in
set_option maxRecDepth 100000 in
theorem cl_X4_read_49 {p : Program} {l : Launch} {e : Env} {s : State} {m : MethodId} {args : Array Value} {below : List Frame} {meth : Method} {c : Code} {G : va_G} {Λ : Lay} {r : (Int32 × Mem)} (hOK : LayOK Λ) (hF : CallFix p m c cX4_read 5 s args tw RX4) (hKK : KK G Λ s) (hr : meth.sig.returnType = (some .int)) (hlocks : meth.locks = false) {x0 : Nat} (kx0 : inK Λ x0 4) : ∀ (n : Nat) (μ : Mem) (x2 : Int32) (x3 : Int32) (H : Heap) (locs : List Loc) (ls : Array Slot), lpX4_read_49 Λ x0 n μ x2 x3 = some r → Wd G Λ μ H → va_S (inL Λ) s.heap H locs → lv_has ls 5 [(0, .ref x0), (2, .int x2), (3, .int x3)] → W p l e (rmd 6) s m args below meth c H locs 0 0 (MQ below (QI G Λ r.1 r.2) args s 0 0 (inL Λ)) (F0 m 49 ls []) := by
  have hx := hF.1
  have hb := hF.2.1
  have hA : ∀ q, inL Λ q → inL Λ q := fun _ h => h
  intro n
  induction n with
  | zero =>
    intro μ x2 x3 H locs ls hs hW hS hl
    cases hs
  | succ n49 ih49 =>
    intro μ x2 x3 H locs ls hs hW hS hl
    rw [lpX4_read_49_s] at hs
    refine lv_iload_n hx hb dX4_read_49 rfl (lv_at hl 2 rfl) ?_
    refine lv_aload_n hx hb dX4_read_50 rfl (lv_at hl 0 rfl) ?_
    refine gf_4_5 hF hKK hW kx0 dX4_read_51 ?_
    obtain ⟨q7, hq7, hs⟩ := obind_e hs
    refine end_i (run_V (q := (RX3, TX3, 5)) (ci := 3) hF hKK hW hS hl.1 (lk_4_5 hOK kx0) (by decide) rfl (c_X3_commands l hOK (lk_4_5 hOK kx0) hq7) (kw_X4_187 hF.2.2.2.2 ⟨Nat.le_of_ble_eq_true rfl, Nat.le_of_ble_eq_true rfl⟩) rfl rfl (Nat.le_of_ble_eq_true rfl) dX4_read_54 ⟨Nat.zero_le _, Nat.zero_le _⟩) hS (fun H locs hW hS => ?_)
    refine lv_icmp_ge (tgt := 102) hx hb dX4_read_57 (by decide) (fun c8 => ?_) (fun c8 => ?_)
    · have hs := ite_t hs c8
      refine lv_aload_n hx hb dX4_read_102 rfl (lv_at hl 0 rfl) ?_
      refine lv_bipush (v := (-4 : Int32)) hx hb dX4_read_103 (by decide) ?_
      obtain ⟨μ9, eμ9, hs⟩ := bnd_e hs
      refine pf_4_10 hOK hF hKK hW hS hA kx0 eμ9 dX4_read_105 (fun H locs hW hS => ?_)
      refine lv_iload_n hx hb dX4_read_108 rfl (lv_at hl 1 rfl) ?_
      refine lv_if_ge (tgt := 123) hx hb dX4_read_109 (by decide) (fun c10 => ?_) (fun c10 => ?_)
      · have hs := ite_t hs c10
        refine lv_aload_n hx hb dX4_read_123 rfl (lv_at hl 0 rfl) ?_
        refine lv_iload_n hx hb dX4_read_124 rfl (lv_at hl 1 rfl) ?_
        obtain ⟨q11, hq11, hs⟩ := obind_e hs
        refine end_i (run_V (q := (RX4, TX4, 11)) (ci := 4) hF hKK hW hS hl.1 kx0 (by decide) rfl (c_X4_settle l hOK kx0 hq11) (kw_X4_57 hF.2.2.2.2 ⟨Nat.le_of_ble_eq_true rfl, Nat.le_of_ble_eq_true rfl⟩) rfl rfl (Nat.le_of_ble_eq_true rfl) dX4_read_125 ⟨Nat.zero_le _, Nat.zero_le _⟩) hS (fun H locs hW hS => ?_)
        have h9 := Option.some.inj hs
        rw [← h9]
        exact wr_i hF hr hlocks (vp_nar_int _) hW hS dX4_read_128
      · have hs := ite_f hs c10
        refine lv_aload_n hx hb dX4_read_112 rfl (lv_at hl 0 rfl) ?_
        refine gf_4_2 hF hKK hW kx0 dX4_read_113 ?_
        refine lv_aload_n hx hb dX4_read_116 rfl (lv_at hl 0 rfl) ?_
        refine gf_4_0 hF hKK hW kx0 dX4_read_117 ?_
        obtain ⟨q12, hq12, hs⟩ := obind_e hs
        refine end_v (run_V (q := (RX0, TX0, 3)) (ci := 0) hF hKK hW hS hl.1 (lk_4_2 hOK kx0) (by decide) rfl (c_X0_takeBack l hOK (lk_4_2 hOK kx0) (lk_4_0 hOK kx0) hq12) (kw_X4_193 hF.2.2.2.2 ⟨Nat.le_of_ble_eq_true rfl, Nat.le_of_ble_eq_true rfl⟩) rfl rfl (Nat.le_of_ble_eq_true rfl) dX4_read_120 ⟨Nat.zero_le _, Nat.zero_le _⟩) hS (fun H locs hW hS => ?_)
        refine lv_aload_n hx hb dX4_read_123 rfl (lv_at hl 0 rfl) ?_
        refine lv_iload_n hx hb dX4_read_124 rfl (lv_at hl 1 rfl) ?_
        obtain ⟨q13, hq13, hs⟩ := obind_e hs
        refine end_i (run_V (q := (RX4, TX4, 11)) (ci := 4) hF hKK hW hS hl.1 kx0 (by decide) rfl (c_X4_settle l hOK kx0 hq13) (kw_X4_57 hF.2.2.2.2 ⟨Nat.le_of_ble_eq_true rfl, Nat.le_of_ble_eq_true rfl⟩) rfl rfl (Nat.le_of_ble_eq_true rfl) dX4_read_125 ⟨Nat.zero_le _, Nat.zero_le _⟩) hS (fun H locs hW hS => ?_)
        have h9 := Option.some.inj hs
        rw [← h9]
        exact wr_i hF hr hlocks (vp_nar_int _) hW hS dX4_read_128
    · have hs := ite_f hs c8
      refine lv_iload_n hx hb dX4_read_60 rfl (lv_at hl 1 rfl) ?_
      refine lv_if_lt (tgt := 102) hx hb dX4_read_61 (by decide) (fun c14 => ?_) (fun c14 => ?_)
      · have hs := ite_t hs c14
        refine lv_aload_n hx hb dX4_read_102 rfl (lv_at hl 0 rfl) ?_
        refine lv_bipush (v := (-4 : Int32)) hx hb dX4_read_103 (by decide) ?_
        obtain ⟨μ15, eμ15, hs⟩ := bnd_e hs
        refine pf_4_10 hOK hF hKK hW hS hA kx0 eμ15 dX4_read_105 (fun H locs hW hS => ?_)
        refine lv_iload_n hx hb dX4_read_108 rfl (lv_at hl 1 rfl) ?_
        refine lv_if_ge (tgt := 123) hx hb dX4_read_109 (by decide) (fun c16 => ?_) (fun c16 => ?_)
        · have hs := ite_t hs c16
          refine lv_aload_n hx hb dX4_read_123 rfl (lv_at hl 0 rfl) ?_
          refine lv_iload_n hx hb dX4_read_124 rfl (lv_at hl 1 rfl) ?_
          obtain ⟨q17, hq17, hs⟩ := obind_e hs
          refine end_i (run_V (q := (RX4, TX4, 11)) (ci := 4) hF hKK hW hS hl.1 kx0 (by decide) rfl (c_X4_settle l hOK kx0 hq17) (kw_X4_57 hF.2.2.2.2 ⟨Nat.le_of_ble_eq_true rfl, Nat.le_of_ble_eq_true rfl⟩) rfl rfl (Nat.le_of_ble_eq_true rfl) dX4_read_125 ⟨Nat.zero_le _, Nat.zero_le _⟩) hS (fun H locs hW hS => ?_)
          have h9 := Option.some.inj hs
          rw [← h9]
          exact wr_i hF hr hlocks (vp_nar_int _) hW hS dX4_read_128
        · have hs := ite_f hs c16
          refine lv_aload_n hx hb dX4_read_112 rfl (lv_at hl 0 rfl) ?_
          refine gf_4_2 hF hKK hW kx0 dX4_read_113 ?_
          refine lv_aload_n hx hb dX4_read_116 rfl (lv_at hl 0 rfl) ?_
          refine gf_4_0 hF hKK hW kx0 dX4_read_117 ?_
          obtain ⟨q18, hq18, hs⟩ := obind_e hs
          refine end_v (run_V (q := (RX0, TX0, 3)) (ci := 0) hF hKK hW hS hl.1 (lk_4_2 hOK kx0) (by decide) rfl (c_X0_takeBack l hOK (lk_4_2 hOK kx0) (lk_4_0 hOK kx0) hq18) (kw_X4_193 hF.2.2.2.2 ⟨Nat.le_of_ble_eq_true rfl, Nat.le_of_ble_eq_true rfl⟩) rfl rfl (Nat.le_of_ble_eq_true rfl) dX4_read_120 ⟨Nat.zero_le _, Nat.zero_le _⟩) hS (fun H locs hW hS => ?_)
          refine lv_aload_n hx hb dX4_read_123 rfl (lv_at hl 0 rfl) ?_
          refine lv_iload_n hx hb dX4_read_124 rfl (lv_at hl 1 rfl) ?_
          obtain ⟨q19, hq19, hs⟩ := obind_e hs
          refine end_i (run_V (q := (RX4, TX4, 11)) (ci := 4) hF hKK hW hS hl.1 kx0 (by decide) rfl (c_X4_settle l hOK kx0 hq19) (kw_X4_57 hF.2.2.2.2 ⟨Nat.le_of_ble_eq_true rfl, Nat.le_of_ble_eq_true rfl⟩) rfl rfl (Nat.le_of_ble_eq_true rfl) dX4_read_125 ⟨Nat.zero_le _, Nat.zero_le _⟩) hS (fun H locs hW hS => ?_)
          have h9 := Option.some.inj hs
          rw [← h9]
          exact wr_i hF hr hlocks (vp_nar_int _) hW hS dX4_read_128
      · have hs := ite_f hs c14
        refine lv_aload_n hx hb dX4_read_64 rfl (lv_at hl 0 rfl) ?_
        refine lv_iload_n hx hb dX4_read_65 rfl (lv_at hl 2 rfl) ?_
        obtain ⟨μ20, eμ20, hs⟩ := bnd_e hs
        refine pf_4_10 hOK hF hKK hW hS hA kx0 eμ20 dX4_read_66 (fun H locs hW hS => ?_)
        refine lv_aload_n hx hb dX4_read_69 rfl (lv_at hl 0 rfl) ?_
        refine lv_iload_n hx hb dX4_read_70 rfl (lv_at hl 2 rfl) ?_
        obtain ⟨q21, hq21, hs⟩ := obind_e hs
        refine end_i (run_V (q := (RX4, TX4, 11)) (ci := 4) hF hKK hW hS hl.1 kx0 (by decide) rfl (c_X4_carryOut l hOK kx0 hq21) (kw_X4_190 hF.2.2.2.2 ⟨Nat.le_of_ble_eq_true rfl, Nat.le_of_ble_eq_true rfl⟩) rfl rfl (Nat.le_of_ble_eq_true rfl) dX4_read_71 ⟨Nat.zero_le _, Nat.zero_le _⟩) hS (fun H locs hW hS => ?_)
        obtain ⟨v22, ev22, hs⟩ := bnd_e hs
        refine top_i ev22 ?_
        refine lv_istore (lv' := [(4, .int v22), (0, .ref x0), (2, .int x2), (3, .int x3)]) hx hb dX4_read_74 hl (by decide) rfl (fun ls hl => ?_)
        refine lv_iload hx hb dX4_read_76 (lv_at hl 0 rfl) ?_
        refine lv_if_ge (tgt := 96) hx hb dX4_read_78 (by decide) (fun c23 => ?_) (fun c23 => ?_)
        · have hs := ite_t hs c23
          obtain ⟨v24, ev24, hs⟩ := bnd_e hs
          refine lv_iinc (v := v24) (lv' := [(3, .int v24), (4, .int v22), (0, .ref x0), (2, .int x2)]) hx hb dX4_read_96 hl (k := 3) rfl (by rw [ev24]; rfl) (by decide) rfl (fun ls hl => ?_)
          refine lv_goto (tgt := 49) hx hb dX4_read_99 (by decide) ?_
          exact ih49 q21.2 x2 v24 _ _ _ hs hW hS (lv_sub hl [2, 3, 0] rfl)
        · have hs := ite_f hs c23
          refine lv_iload hx hb dX4_read_81 (lv_at hl 0 rfl) ?_
          refine lv_bipush (v := (-3 : Int32)) hx hb dX4_read_83 (by decide) ?_
          refine lv_icmp_ne (tgt := 93) hx hb dX4_read_85 (by decide) (fun c25 => ?_) (fun c25 => ?_)
          · have hs := ite_f hs c25
            refine lv_bipush (v := (-2 : Int32)) hx hb dX4_read_93 (by decide) ?_
            refine lv_istore_n (lv' := [(2, .int (-2 : Int32)), (4, .int v22), (0, .ref x0), (3, .int x3)]) hx hb dX4_read_95 rfl hl (by decide) rfl (fun ls hl => ?_)
            obtain ⟨v26, ev26, hs⟩ := bnd_e hs
            refine lv_iinc (v := v26) (lv' := [(3, .int v26), (2, .int (-2 : Int32)), (4, .int v22), (0, .ref x0)]) hx hb dX4_read_96 hl (k := 3) rfl (by rw [ev26]; rfl) (by decide) rfl (fun ls hl => ?_)
            refine lv_goto (tgt := 49) hx hb dX4_read_99 (by decide) ?_
            exact ih49 q21.2 (-2 : Int32) v26 _ _ _ hs hW hS (lv_sub hl [3, 1, 0] rfl)
          · have hs := ite_t hs c25
            refine lv_bipush (v := (-3 : Int32)) hx hb dX4_read_88 (by decide) ?_
            refine lv_goto (tgt := 95) hx hb dX4_read_90 (by decide) ?_
            refine lv_istore_n (lv' := [(2, .int (-3 : Int32)), (4, .int v22), (0, .ref x0), (3, .int x3)]) hx hb dX4_read_95 rfl hl (by decide) rfl (fun ls hl => ?_)
            obtain ⟨v27, ev27, hs⟩ := bnd_e hs
            refine lv_iinc (v := v27) (lv' := [(3, .int v27), (2, .int (-3 : Int32)), (4, .int v22), (0, .ref x0)]) hx hb dX4_read_96 hl (k := 3) rfl (by rw [ev27]; rfl) (by decide) rfl (fun ls hl => ?_)
            refine lv_goto (tgt := 49) hx hb dX4_read_99 (by decide) ?_
            exact ih49 q21.2 (-3 : Int32) v27 _ _ _ hs hW hS (lv_sub hl [3, 1, 0] rfl)

set_option maxHeartbeats 4000000 in
set_option maxRecDepth 100000 in
theorem c_X4_read (l : Launch) {G : va_G} {Λ : Lay} {μ : Mem} (hOK : LayOK Λ) {a0 : Nat} (k0 : inK Λ a0 4) {r : (Int32 × Mem)} (hs : sX4_read Λ μ a0 = some r) : CM l G Λ yX4_read cX4_read 5 (some .int) 6 μ [.ref a0] (QI G Λ r.1 r.2) := by
  refine ofM (own := RX4) (by decide +kernel) rfl (Nat.le_of_ble_eq_true rfl) (fun p e s m args below meth c ls hF hKK hW hr hlocks hl => ?_)
  have hx := hF.1
  have hb := hF.2.1
  have hA : ∀ q, inL Λ q → inL Λ q := fun _ h => h
  have hS : va_S (inL Λ) s.heap s.heap [] := va_S.rf
  have hl : lv_has ls 5 [(0, .ref a0)] := hl
  unfold sX4_read at hs
  refine lv_aload_n hx hb dX4_read_0 rfl (lv_at hl 0 rfl) ?_
  refine gf_4_5 hF hKK hW k0 dX4_read_1 ?_
  refine lv_aload_n hx hb dX4_read_4 rfl (lv_at hl 0 rfl) ?_
  refine gf_4_4 hF hKK hW k0 dX4_read_5 ?_
  obtain ⟨q1, hq1, hs⟩ := obind_e hs
  refine end_i (run_V (q := (RX3, TX3, 5)) (ci := 3) hF hKK hW hS hl.1 (lk_4_5 hOK k0) (by decide) rfl (c_X3_faultIn l hOK (lk_4_5 hOK k0) (lk_4_4 hOK k0) hq1) (kw_X4_183 hF.2.2.2.2 ⟨Nat.le_of_ble_eq_true rfl, Nat.le_of_ble_eq_true rfl⟩) rfl rfl (Nat.le_of_ble_eq_true rfl) dX4_read_8 ⟨Nat.zero_le _, Nat.zero_le _⟩) hS (fun H locs hW hS => ?_)
  obtain ⟨v2, ev2, hs⟩ := bnd_e hs
  refine top_i ev2 ?_
  refine lv_istore_n (lv' := [(1, .int v2), (0, .ref a0)]) hx hb dX4_read_11 rfl hl (by decide) rfl (fun ls hl => ?_)
  refine lv_aload_n hx hb dX4_read_12 rfl (lv_at hl 1 rfl) ?_
  refine gf_4_4 hF hKK hW k0 dX4_read_13 ?_
  obtain ⟨q3, hq3, hs⟩ := obind_e hs
  refine end_v (run_V (q := (RX2, TX2, 2)) (ci := 2) hF hKK hW hS hl.1 (lk_4_4 hOK k0) (by decide) rfl (c_X2_clear l hOK (lk_4_4 hOK k0) hq3) (kw_X4_174 hF.2.2.2.2 ⟨Nat.le_of_ble_eq_true rfl, Nat.le_of_ble_eq_true rfl⟩) rfl rfl (Nat.le_of_ble_eq_true rfl) dX4_read_16 ⟨Nat.zero_le _, Nat.zero_le _⟩) hS (fun H locs hW hS => ?_)
  refine lv_iload_n hx hb dX4_read_19 rfl (lv_at hl 0 rfl) ?_
  refine lv_if_lt (tgt := 28) hx hb dX4_read_20 (by decide) (fun c4 => ?_) (fun c4 => ?_)
  · have hs := ite_t hs c4
    refine lv_aload_n hx hb dX4_read_28 rfl (lv_at hl 1 rfl) ?_
    refine gf_4_2 hF hKK hW k0 dX4_read_29 ?_
    refine lv_aload_n hx hb dX4_read_32 rfl (lv_at hl 1 rfl) ?_
    refine gf_4_0 hF hKK hW k0 dX4_read_33 ?_
    obtain ⟨q5, hq5, hs⟩ := obind_e hs
    refine end_v (run_V (q := (RX0, TX0, 3)) (ci := 0) hF hKK hW hS hl.1 (lk_4_2 hOK k0) (by decide) rfl (c_X0_note l hOK (lk_4_2 hOK k0) (lk_4_0 hOK k0) hq5) (kw_X4_49 hF.2.2.2.2 ⟨Nat.le_of_ble_eq_true rfl, Nat.le_of_ble_eq_true rfl⟩) rfl rfl (Nat.le_of_ble_eq_true rfl) dX4_read_36 ⟨Nat.zero_le _, Nat.zero_le _⟩) hS (fun H locs hW hS => ?_)
    refine lv_aload_n hx hb dX4_read_39 rfl (lv_at hl 1 rfl) ?_
    refine gf_4_5 hF hKK hW k0 dX4_read_40 ?_
    obtain ⟨q6, hq6, hs⟩ := obind_e hs
    refine end_i (run_V (q := (RX3, TX3, 5)) (ci := 3) hF hKK hW hS hl.1 (lk_4_5 hOK k0) (by decide) rfl (c_X3_commands l hOK (lk_4_5 hOK k0) hq6) (kw_X4_187 hF.2.2.2.2 ⟨Nat.le_of_ble_eq_true rfl, Nat.le_of_ble_eq_true rfl⟩) rfl rfl (Nat.le_of_ble_eq_true rfl) dX4_read_43 ⟨Nat.zero_le _, Nat.zero_le _⟩) hS (fun H locs hW hS => ?_)
    refine lv_istore_n (lv' := [(2, .int q6), (1, .int v2), (0, .ref a0)]) hx hb dX4_read_46 rfl hl (by decide) rfl (fun ls hl => ?_)
    refine lv_iconst (v := (0 : Int32)) hx hb dX4_read_47 (by decide) ?_
    refine lv_istore_n (lv' := [(3, .int (0 : Int32)), (2, .int q6), (1, .int v2), (0, .ref a0)]) hx hb dX4_read_48 rfl hl (by decide) rfl (fun ls hl => ?_)
    exact cl_X4_read_49 hOK hF hKK hr hlocks k0 fuel q5 q6 (0 : Int32) _ _ _ hs hW hS (lv_sub hl [3, 1, 0] rfl)
  · have hs := ite_f hs c4
    refine lv_bipush (v := (-100 : Int32)) hx hb dX4_read_23 (by decide) ?_
    refine lv_iload_n hx hb dX4_read_25 rfl (lv_at hl 0 rfl) ?_
    refine lv_isub hx hb dX4_read_26 ?_
    have h9 := Option.some.inj hs
    rw [← h9]
    exact wr_i hF hr hlocks (vp_nar_int _) hW hS dX4_read_27

set_option maxHeartbeats 4000000 in
set_option maxRecDepth 100000 in
theorem c_X4_refusal (l : Launch) {G : va_G} {Λ : Lay} {μ : Mem} (hOK : LayOK Λ) {a0 : Nat} (k0 : inK Λ a0 4) {a1 : Int32} {r : Int32} (hs : sX4_refusal Λ μ a0 a1 = some r) : CM l G Λ yX4_refusal cX4_refusal 2 (some .int) 0 μ [.ref a0, .int a1] (QI G Λ r μ) := by
  refine ofM (own := RX4) (by decide +kernel) rfl (Nat.le_of_ble_eq_true rfl) (fun p e s m args below meth c ls hF hKK hW hr hlocks hl => ?_)
  have hx := hF.1
  have hb := hF.2.1
  have hA : ∀ q, inL Λ q → inL Λ q := fun _ h => h
  have hS : va_S (inL Λ) s.heap s.heap [] := va_S.rf
  have hl : lv_has ls 2 [(0, .ref a0), (1, .int a1)] := hl
  unfold sX4_refusal at hs
  refine lv_iload_n hx hb dX4_refusal_0 rfl (lv_at hl 1 rfl) ?_
  refine lv_if_lt (tgt := 9) hx hb dX4_refusal_1 (by decide) (fun c1 => ?_) (fun c1 => ?_)
  · have hs := ite_t hs c1
    refine lv_bipush (v := (-2 : Int32)) hx hb dX4_refusal_9 (by decide) ?_
    have h9 := Option.some.inj hs
    rw [← h9]
    exact wr_i hF hr hlocks (vp_nar_int _) hW hS dX4_refusal_11
  · have hs := ite_f hs c1
    refine lv_iload_n hx hb dX4_refusal_4 rfl (lv_at hl 1 rfl) ?_
    refine lv_iconst (v := (2 : Int32)) hx hb dX4_refusal_5 (by decide) ?_
    refine lv_icmp_le (tgt := 12) hx hb dX4_refusal_6 (by decide) (fun c2 => ?_) (fun c2 => ?_)
    · have hs := ite_t hs c2
      refine lv_aload_n hx hb dX4_refusal_12 rfl (lv_at hl 0 rfl) ?_
      refine gf_4_7 hF hKK hW k0 dX4_refusal_13 ?_
      refine lv_if_ne (tgt := 22) hx hb dX4_refusal_16 (by decide) (fun c3 => ?_) (fun c3 => ?_)
      · have hs := ite_f hs c3
        refine lv_iload_n hx hb dX4_refusal_22 rfl (lv_at hl 1 rfl) ?_
        by_cases c4 : a1 = (0 : Int32)
        · have hs := ite_t hs c4
          refine lv_lookup (off := 25) (tgt := 48) hx hb dX4_refusal_23 (by decide) (by rw [c4]; decide) (by decide) ?_
          refine lv_aload_n hx hb dX4_refusal_48 rfl (lv_at hl 0 rfl) ?_
          refine gf_4_7 hF hKK hW k0 dX4_refusal_49 ?_
          have h9 := Option.some.inj hs
          rw [← h9]
          exact wr_i hF hr hlocks (vp_nar_int _) hW hS dX4_refusal_52
        have hs := ite_f hs c4
        by_cases c5 : a1 = (1 : Int32)
        · have hs := ite_t hs c5
          refine lv_lookup (off := 30) (tgt := 53) hx hb dX4_refusal_23 (by decide) (by rw [c5]; decide) (by decide) ?_
          refine lv_aload_n hx hb dX4_refusal_53 rfl (lv_at hl 0 rfl) ?_
          refine gf_4_8 hF hKK hW k0 dX4_refusal_54 ?_
          have h9 := Option.some.inj hs
          rw [← h9]
          exact wr_i hF hr hlocks (vp_nar_int _) hW hS dX4_refusal_57
        have hs := ite_f hs c5
        refine lv_lookup (off := 35) (tgt := 58) hx hb dX4_refusal_23 (by decide) ((lv_osw c4 (by decide)).trans ((lv_osw c5 (by decide)).trans rfl)) (by decide) ?_
        refine lv_aload_n hx hb dX4_refusal_58 rfl (lv_at hl 0 rfl) ?_
        refine gf_4_9 hF hKK hW k0 dX4_refusal_59 ?_
        have h9 := Option.some.inj hs
        rw [← h9]
        exact wr_i hF hr hlocks (vp_nar_int _) hW hS dX4_refusal_62
      · have hs := ite_t hs c3
        refine lv_bipush (v := (-4 : Int32)) hx hb dX4_refusal_19 (by decide) ?_
        have h9 := Option.some.inj hs
        rw [← h9]
        exact wr_i hF hr hlocks (vp_nar_int _) hW hS dX4_refusal_21
    · have hs := ite_f hs c2
      refine lv_bipush (v := (-2 : Int32)) hx hb dX4_refusal_9 (by decide) ?_
      have h9 := Option.some.inj hs
      rw [← h9]
      exact wr_i hF hr hlocks (vp_nar_int _) hW hS dX4_refusal_11

set_option maxHeartbeats 4000000 in
set_option maxRecDepth 100000 in
theorem c_X4_restore (l : Launch) {G : va_G} {Λ : Lay} {μ : Mem} (hOK : LayOK Λ) {a0 : Nat} (k0 : inK Λ a0 4) {r : (Int32 × Mem)} (hs : sX4_restore Λ μ a0 = some r) : CM l G Λ yX4_restore cX4_restore 1 (some .int) 3 μ [.ref a0] (QI G Λ r.1 r.2) := by
  refine ofM (own := RX4) (by decide +kernel) rfl (Nat.le_of_ble_eq_true rfl) (fun p e s m args below meth c ls hF hKK hW hr hlocks hl => ?_)
  have hx := hF.1
  have hb := hF.2.1
  have hA : ∀ q, inL Λ q → inL Λ q := fun _ h => h
  have hS : va_S (inL Λ) s.heap s.heap [] := va_S.rf
  have hl : lv_has ls 1 [(0, .ref a0)] := hl
  unfold sX4_restore at hs
  refine lv_aload_n hx hb dX4_restore_0 rfl (lv_at hl 0 rfl) ?_
  refine gf_4_6 hF hKK hW k0 dX4_restore_1 ?_
  refine lv_if_ne (tgt := 10) hx hb dX4_restore_4 (by decide) (fun c1 => ?_) (fun c1 => ?_)
  · have hs := ite_f hs c1
    refine lv_aload_n hx hb dX4_restore_10 rfl (lv_at hl 0 rfl) ?_
    refine gf_4_0 hF hKK hW k0 dX4_restore_11 ?_
    refine lv_aload_n hx hb dX4_restore_14 rfl (lv_at hl 0 rfl) ?_
    refine gf_4_1 hF hKK hW k0 dX4_restore_15 ?_
    obtain ⟨q2, hq2, hs⟩ := obind_e hs
    refine end_v (run_V (q := (RX1, TX1, 7)) (ci := 1) hF hKK hW hS hl.1 (lk_4_0 hOK k0) (by decide) rfl (c_X1_copyFrom l hOK (lk_4_0 hOK k0) (lk_4_1 hOK k0) hq2) (kw_X4_247 hF.2.2.2.2 ⟨Nat.le_of_ble_eq_true rfl, Nat.le_of_ble_eq_true rfl⟩) rfl rfl (Nat.le_of_ble_eq_true rfl) dX4_restore_18 ⟨Nat.zero_le _, Nat.zero_le _⟩) hS (fun H locs hW hS => ?_)
    refine lv_aload_n hx hb dX4_restore_21 rfl (lv_at hl 0 rfl) ?_
    refine gf_4_2 hF hKK hW k0 dX4_restore_22 ?_
    obtain ⟨q3, hq3, hs⟩ := obind_e hs
    refine end_v (run_V (q := (RX0, TX0, 3)) (ci := 0) hF hKK hW hS hl.1 (lk_4_2 hOK k0) (by decide) rfl (c_X0_forget l hOK (lk_4_2 hOK k0) hq3) (kw_X4_254 hF.2.2.2.2 ⟨Nat.le_of_ble_eq_true rfl, Nat.le_of_ble_eq_true rfl⟩) rfl rfl (Nat.le_of_ble_eq_true rfl) dX4_restore_25 ⟨Nat.zero_le _, Nat.zero_le _⟩) hS (fun H locs hW hS => ?_)
    refine lv_aload_n hx hb dX4_restore_28 rfl (lv_at hl 0 rfl) ?_
    refine gf_4_0 hF hKK hW k0 dX4_restore_29 ?_
    obtain ⟨q4, hq4, hs⟩ := obind_e hs
    refine end_i (run_V (q := (RX1, TX1, 7)) (ci := 1) hF hKK hW hS hl.1 (lk_4_0 hOK k0) (by decide) rfl (c_X1_banks l hOK (lk_4_0 hOK k0) hq4) (kw_X4_205 hF.2.2.2.2 ⟨Nat.le_of_ble_eq_true rfl, Nat.le_of_ble_eq_true rfl⟩) rfl rfl (Nat.le_of_ble_eq_true rfl) dX4_restore_32 ⟨Nat.zero_le _, Nat.zero_le _⟩) hS (fun H locs hW hS => ?_)
    have h9 := Option.some.inj hs
    rw [← h9]
    exact wr_i hF hr hlocks (vp_nar_int _) hW hS dX4_restore_35
  · have hs := ite_t hs c1
    refine lv_bipush (v := (-4 : Int32)) hx hb dX4_restore_7 (by decide) ?_
    have h9 := Option.some.inj hs
    rw [← h9]
    exact wr_i hF hr hlocks (vp_nar_int _) hW hS dX4_restore_9

set_option maxHeartbeats 4000000 in
set_option maxRecDepth 100000 in
theorem c_X4_rise (l : Launch) {G : va_G} {Λ : Lay} {μ : Mem} (hOK : LayOK Λ) {a0 : Nat} (k0 : inK Λ a0 4) {a1 : Int32} {a2 : Int32} {r : (Int32 × Mem)} (hs : sX4_rise Λ μ a0 a1 a2 = some r) : CM l G Λ yX4_rise cX4_rise 3 (some .int) 5 μ [.ref a0, .int a1, .int a2] (QI G Λ r.1 r.2) := by
  refine ofM (own := RX4) (by decide +kernel) rfl (Nat.le_of_ble_eq_true rfl) (fun p e s m args below meth c ls hF hKK hW hr hlocks hl => ?_)
  have hx := hF.1
  have hb := hF.2.1
  have hA : ∀ q, inL Λ q → inL Λ q := fun _ h => h
  have hS : va_S (inL Λ) s.heap s.heap [] := va_S.rf
  have hl : lv_has ls 3 [(0, .ref a0), (1, .int a1), (2, .int a2)] := hl
  unfold sX4_rise at hs
  refine lv_aload_n hx hb dX4_rise_0 rfl (lv_at hl 0 rfl) ?_
  refine gf_4_2 hF hKK hW k0 dX4_rise_1 ?_
  refine lv_aload_n hx hb dX4_rise_4 rfl (lv_at hl 0 rfl) ?_
  refine gf_4_0 hF hKK hW k0 dX4_rise_5 ?_
  obtain ⟨q1, hq1, hs⟩ := obind_e hs
  refine end_v (run_V (q := (RX0, TX0, 3)) (ci := 0) hF hKK hW hS hl.1 (lk_4_2 hOK k0) (by decide) rfl (c_X0_note l hOK (lk_4_2 hOK k0) (lk_4_0 hOK k0) hq1) (kw_X4_49 hF.2.2.2.2 ⟨Nat.le_of_ble_eq_true rfl, Nat.le_of_ble_eq_true rfl⟩) rfl rfl (Nat.le_of_ble_eq_true rfl) dX4_rise_8 ⟨Nat.zero_le _, Nat.zero_le _⟩) hS (fun H locs hW hS => ?_)
  refine lv_aload_n hx hb dX4_rise_11 rfl (lv_at hl 0 rfl) ?_
  refine lv_aload_n hx hb dX4_rise_12 rfl (lv_at hl 0 rfl) ?_
  refine lv_iload_n hx hb dX4_rise_13 rfl (lv_at hl 1 rfl) ?_
  refine lv_iload_n hx hb dX4_rise_14 rfl (lv_at hl 2 rfl) ?_
  obtain ⟨q2, hq2, hs⟩ := obind_e hs
  refine end_i (run_V (q := (RX4, TX4, 11)) (ci := 4) hF hKK hW hS hl.1 k0 (by decide) rfl (c_X4_raisePart l hOK k0 hq2) (kw_X4_73 hF.2.2.2.2 ⟨Nat.le_of_ble_eq_true rfl, Nat.le_of_ble_eq_true rfl⟩) rfl rfl (Nat.le_of_ble_eq_true rfl) dX4_rise_15 ⟨Nat.zero_le _, Nat.zero_le _⟩) hS (fun H locs hW hS => ?_)
  obtain ⟨q3, hq3, hs⟩ := obind_e hs
  refine end_i (run_V (q := (RX4, TX4, 11)) (ci := 4) hF hKK hW hS hl.1 k0 (by decide) rfl (c_X4_settle l hOK k0 hq3) (kw_X4_57 hF.2.2.2.2 ⟨Nat.le_of_ble_eq_true rfl, Nat.le_of_ble_eq_true rfl⟩) rfl rfl (Nat.le_of_ble_eq_true rfl) dX4_rise_18 ⟨Nat.zero_le _, Nat.zero_le _⟩) hS (fun H locs hW hS => ?_)
  have h9 := Option.some.inj hs
  rw [← h9]
  exact wr_i hF hr hlocks (vp_nar_int _) hW hS dX4_rise_21

set_option maxHeartbeats 4000000 in
set_option maxRecDepth 100000 in
theorem c_X4_save (l : Launch) {G : va_G} {Λ : Lay} {μ : Mem} (hOK : LayOK Λ) {a0 : Nat} (k0 : inK Λ a0 4) {r : (Int32 × Mem)} (hs : sX4_save Λ μ a0 = some r) : CM l G Λ yX4_save cX4_save 1 (some .int) 3 μ [.ref a0] (QI G Λ r.1 r.2) := by
  refine ofM (own := RX4) (by decide +kernel) rfl (Nat.le_of_ble_eq_true rfl) (fun p e s m args below meth c ls hF hKK hW hr hlocks hl => ?_)
  have hx := hF.1
  have hb := hF.2.1
  have hA : ∀ q, inL Λ q → inL Λ q := fun _ h => h
  have hS : va_S (inL Λ) s.heap s.heap [] := va_S.rf
  have hl : lv_has ls 1 [(0, .ref a0)] := hl
  unfold sX4_save at hs
  refine lv_aload_n hx hb dX4_save_0 rfl (lv_at hl 0 rfl) ?_
  refine gf_4_1 hF hKK hW k0 dX4_save_1 ?_
  refine lv_aload_n hx hb dX4_save_4 rfl (lv_at hl 0 rfl) ?_
  refine gf_4_0 hF hKK hW k0 dX4_save_5 ?_
  obtain ⟨q1, hq1, hs⟩ := obind_e hs
  refine end_v (run_V (q := (RX1, TX1, 7)) (ci := 1) hF hKK hW hS hl.1 (lk_4_1 hOK k0) (by decide) rfl (c_X1_copyFrom l hOK (lk_4_1 hOK k0) (lk_4_0 hOK k0) hq1) (kw_X4_247 hF.2.2.2.2 ⟨Nat.le_of_ble_eq_true rfl, Nat.le_of_ble_eq_true rfl⟩) rfl rfl (Nat.le_of_ble_eq_true rfl) dX4_save_8 ⟨Nat.zero_le _, Nat.zero_le _⟩) hS (fun H locs hW hS => ?_)
  refine lv_aload_n hx hb dX4_save_11 rfl (lv_at hl 0 rfl) ?_
  refine lv_iconst (v := (1 : Int32)) hx hb dX4_save_12 (by decide) ?_
  obtain ⟨μ2, eμ2, hs⟩ := bnd_e hs
  refine pf_4_6 (by decide) hOK hF hKK hW hS hA k0 eμ2 dX4_save_13 (fun H locs hW hS => ?_)
  refine lv_aload_n hx hb dX4_save_16 rfl (lv_at hl 0 rfl) ?_
  refine gf_4_0 hF hKK hW k0 dX4_save_17 ?_
  obtain ⟨q3, hq3, hs⟩ := obind_e hs
  refine end_i (run_V (q := (RX1, TX1, 7)) (ci := 1) hF hKK hW hS hl.1 (lk_4_0 hOK k0) (by decide) rfl (c_X1_banks l hOK (lk_4_0 hOK k0) hq3) (kw_X4_205 hF.2.2.2.2 ⟨Nat.le_of_ble_eq_true rfl, Nat.le_of_ble_eq_true rfl⟩) rfl rfl (Nat.le_of_ble_eq_true rfl) dX4_save_20 ⟨Nat.zero_le _, Nat.zero_le _⟩) hS (fun H locs hW hS => ?_)
  have h9 := Option.some.inj hs
  rw [← h9]
  exact wr_i hF hr hlocks (vp_nar_int _) hW hS dX4_save_23

set_option maxHeartbeats 4000000 in
set_option maxRecDepth 100000 in
theorem c_X4_turn (l : Launch) {G : va_G} {Λ : Lay} {μ : Mem} (hOK : LayOK Λ) {a0 : Nat} (k0 : inK Λ a0 4) {a1 : Int32} {r : (Int32 × Mem)} (hs : sX4_turn Λ μ a0 a1 = some r) : CM l G Λ yX4_turn cX4_turn 2 (some .int) 5 μ [.ref a0, .int a1] (QI G Λ r.1 r.2) := by
  refine ofM (own := RX4) (by decide +kernel) rfl (Nat.le_of_ble_eq_true rfl) (fun p e s m args below meth c ls hF hKK hW hr hlocks hl => ?_)
  have hx := hF.1
  have hb := hF.2.1
  have hA : ∀ q, inL Λ q → inL Λ q := fun _ h => h
  have hS : va_S (inL Λ) s.heap s.heap [] := va_S.rf
  have hl : lv_has ls 2 [(0, .ref a0), (1, .int a1)] := hl
  unfold sX4_turn at hs
  refine lv_aload_n hx hb dX4_turn_0 rfl (lv_at hl 0 rfl) ?_
  refine gf_4_2 hF hKK hW k0 dX4_turn_1 ?_
  refine lv_aload_n hx hb dX4_turn_4 rfl (lv_at hl 0 rfl) ?_
  refine gf_4_0 hF hKK hW k0 dX4_turn_5 ?_
  obtain ⟨q1, hq1, hs⟩ := obind_e hs
  refine end_v (run_V (q := (RX0, TX0, 3)) (ci := 0) hF hKK hW hS hl.1 (lk_4_2 hOK k0) (by decide) rfl (c_X0_note l hOK (lk_4_2 hOK k0) (lk_4_0 hOK k0) hq1) (kw_X4_49 hF.2.2.2.2 ⟨Nat.le_of_ble_eq_true rfl, Nat.le_of_ble_eq_true rfl⟩) rfl rfl (Nat.le_of_ble_eq_true rfl) dX4_turn_8 ⟨Nat.zero_le _, Nat.zero_le _⟩) hS (fun H locs hW hS => ?_)
  refine lv_aload_n hx hb dX4_turn_11 rfl (lv_at hl 0 rfl) ?_
  refine lv_aload_n hx hb dX4_turn_12 rfl (lv_at hl 0 rfl) ?_
  refine lv_iload_n hx hb dX4_turn_13 rfl (lv_at hl 1 rfl) ?_
  obtain ⟨q2, hq2, hs⟩ := obind_e hs
  refine end_i (run_V (q := (RX4, TX4, 11)) (ci := 4) hF hKK hW hS hl.1 k0 (by decide) rfl (c_X4_turnRound l hOK k0 hq2) (kw_X4_70 hF.2.2.2.2 ⟨Nat.le_of_ble_eq_true rfl, Nat.le_of_ble_eq_true rfl⟩) rfl rfl (Nat.le_of_ble_eq_true rfl) dX4_turn_14 ⟨Nat.zero_le _, Nat.zero_le _⟩) hS (fun H locs hW hS => ?_)
  obtain ⟨q3, hq3, hs⟩ := obind_e hs
  refine end_i (run_V (q := (RX4, TX4, 11)) (ci := 4) hF hKK hW hS hl.1 k0 (by decide) rfl (c_X4_settle l hOK k0 hq3) (kw_X4_57 hF.2.2.2.2 ⟨Nat.le_of_ble_eq_true rfl, Nat.le_of_ble_eq_true rfl⟩) rfl rfl (Nat.le_of_ble_eq_true rfl) dX4_turn_17 ⟨Nat.zero_le _, Nat.zero_le _⟩) hS (fun H locs hW hS => ?_)
  have h9 := Option.some.inj hs
  rw [← h9]
  exact wr_i hF hr hlocks (vp_nar_int _) hW hS dX4_turn_20

set_option maxHeartbeats 4000000 in
set_option maxRecDepth 100000 in
theorem c_X4_undo (l : Launch) {G : va_G} {Λ : Lay} {μ : Mem} (hOK : LayOK Λ) {a0 : Nat} (k0 : inK Λ a0 4) {r : (Int32 × Mem)} (hs : sX4_undo Λ μ a0 = some r) : CM l G Λ yX4_undo cX4_undo 1 (some .int) 5 μ [.ref a0] (QI G Λ r.1 r.2) := by
  refine ofM (own := RX4) (by decide +kernel) rfl (Nat.le_of_ble_eq_true rfl) (fun p e s m args below meth c ls hF hKK hW hr hlocks hl => ?_)
  have hx := hF.1
  have hb := hF.2.1
  have hA : ∀ q, inL Λ q → inL Λ q := fun _ h => h
  have hS : va_S (inL Λ) s.heap s.heap [] := va_S.rf
  have hl : lv_has ls 1 [(0, .ref a0)] := hl
  unfold sX4_undo at hs
  refine lv_aload_n hx hb dX4_undo_0 rfl (lv_at hl 0 rfl) ?_
  refine gf_4_2 hF hKK hW k0 dX4_undo_1 ?_
  refine lv_aload_n hx hb dX4_undo_4 rfl (lv_at hl 0 rfl) ?_
  refine gf_4_0 hF hKK hW k0 dX4_undo_5 ?_
  obtain ⟨q1, hq1, hs⟩ := obind_e hs
  refine end_i (run_V (q := (RX0, TX0, 3)) (ci := 0) hF hKK hW hS hl.1 (lk_4_2 hOK k0) (by decide) rfl (c_X0_goBack l hOK (lk_4_2 hOK k0) (lk_4_0 hOK k0) hq1) (kw_X4_243 hF.2.2.2.2 ⟨Nat.le_of_ble_eq_true rfl, Nat.le_of_ble_eq_true rfl⟩) rfl rfl (Nat.le_of_ble_eq_true rfl) dX4_undo_8 ⟨Nat.zero_le _, Nat.zero_le _⟩) hS (fun H locs hW hS => ?_)
  refine lv_if_eq (tgt := 24) hx hb dX4_undo_11 (by decide) (fun c2 => ?_) (fun c2 => ?_)
  · have hs := ite_t hs c2
    refine lv_bipush (v := (-4 : Int32)) hx hb dX4_undo_24 (by decide) ?_
    have h9 := Option.some.inj hs
    rw [← h9]
    exact wr_i hF hr hlocks (vp_nar_int _) hW hS dX4_undo_26
  · have hs := ite_f hs c2
    refine lv_aload_n hx hb dX4_undo_14 rfl (lv_at hl 0 rfl) ?_
    refine gf_4_2 hF hKK hW k0 dX4_undo_15 ?_
    obtain ⟨q3, hq3, hs⟩ := obind_e hs
    refine end_i (run_V (q := (RX0, TX0, 3)) (ci := 0) hF hKK hW hS hl.1 (lk_4_2 hOK k0) (by decide) rfl (c_X0_count l hOK (lk_4_2 hOK k0) hq3) (kw_X4_229 hF.2.2.2.2 ⟨Nat.le_of_ble_eq_true rfl, Nat.le_of_ble_eq_true rfl⟩) rfl rfl (Nat.le_of_ble_eq_true rfl) dX4_undo_18 ⟨Nat.zero_le _, Nat.zero_le _⟩) hS (fun H locs hW hS => ?_)
    refine lv_goto (tgt := 26) hx hb dX4_undo_21 (by decide) ?_
    have h9 := Option.some.inj hs
    rw [← h9]
    exact wr_i hF hr hlocks (vp_nar_int _) hW hS dX4_undo_26

set_option maxHeartbeats 4000000 in
set_option maxRecDepth 100000 in
theorem c_X4_way (l : Launch) {G : va_G} {Λ : Lay} {μ : Mem} (hOK : LayOK Λ) {a0 : Nat} (k0 : inK Λ a0 4) {a1 : Int32} {a2 : Int32} {a3 : Int32} {r : Int32} (hs : sX4_way Λ μ a0 a1 a2 a3 = some r) : CM l G Λ yX4_way cX4_way 7 (some .int) 6 μ [.ref a0, .int a1, .int a2, .int a3] (QI G Λ r μ) := by
  refine ofM (own := RX4) (by decide +kernel) rfl (Nat.le_of_ble_eq_true rfl) (fun p e s m args below meth c ls hF hKK hW hr hlocks hl => ?_)
  have hx := hF.1
  have hb := hF.2.1
  have hA : ∀ q, inL Λ q → inL Λ q := fun _ h => h
  have hS : va_S (inL Λ) s.heap s.heap [] := va_S.rf
  have hl : lv_has ls 7 [(0, .ref a0), (1, .int a1), (2, .int a2), (3, .int a3)] := hl
  unfold sX4_way at hs
  refine lv_aload_n hx hb dX4_way_0 rfl (lv_at hl 0 rfl) ?_
  refine lv_iload_n hx hb dX4_way_1 rfl (lv_at hl 1 rfl) ?_
  refine lv_iload_n hx hb dX4_way_2 rfl (lv_at hl 2 rfl) ?_
  obtain ⟨q1, hq1, hs⟩ := obind_e hs
  refine end_i (run_V (q := (RX4, TX4, 11)) (ci := 4) hF hKK hW hS hl.1 k0 (by decide) rfl (c_X4_areThere l hOK k0 hq1) (kw_X4_76 hF.2.2.2.2 ⟨Nat.le_of_ble_eq_true rfl, Nat.le_of_ble_eq_true rfl⟩) rfl rfl (Nat.le_of_ble_eq_true rfl) dX4_way_3 ⟨Nat.zero_le _, Nat.zero_le _⟩) hS (fun H locs hW hS => ?_)
  refine lv_if_ne (tgt := 11) hx hb dX4_way_6 (by decide) (fun c2 => ?_) (fun c2 => ?_)
  · have hs := ite_f hs c2
    refine lv_aload_n hx hb dX4_way_11 rfl (lv_at hl 0 rfl) ?_
    refine gf_4_0 hF hKK hW k0 dX4_way_12 ?_
    refine lv_iload_n hx hb dX4_way_15 rfl (lv_at hl 1 rfl) ?_
    refine lv_iload_n hx hb dX4_way_16 rfl (lv_at hl 2 rfl) ?_
    obtain ⟨q3, hq3, hs⟩ := obind_e hs
    refine end_i (run_V (q := (RX1, TX1, 7)) (ci := 1) hF hKK hW hS hl.1 (lk_4_0 hOK k0) (by decide) rfl (c_X1_isOnePart l hOK (lk_4_0 hOK k0) hq3) (kw_X4_80 hF.2.2.2.2 ⟨Nat.le_of_ble_eq_true rfl, Nat.le_of_ble_eq_true rfl⟩) rfl rfl (Nat.le_of_ble_eq_true rfl) dX4_way_17 ⟨Nat.zero_le _, Nat.zero_le _⟩) hS (fun H locs hW hS => ?_)
    refine lv_if_ne (tgt := 26) hx hb dX4_way_20 (by decide) (fun c4 => ?_) (fun c4 => ?_)
    · have hs := ite_f hs c4
      refine lv_aload_n hx hb dX4_way_26 rfl (lv_at hl 0 rfl) ?_
      refine gf_4_0 hF hKK hW k0 dX4_way_27 ?_
      refine lv_aload_n hx hb dX4_way_30 rfl (lv_at hl 0 rfl) ?_
      refine gf_4_0 hF hKK hW k0 dX4_way_31 ?_
      refine lv_iload_n hx hb dX4_way_34 rfl (lv_at hl 1 rfl) ?_
      refine lv_iload_n hx hb dX4_way_35 rfl (lv_at hl 2 rfl) ?_
      obtain ⟨q5, hq5, hs⟩ := obind_e hs
      refine end_i (run_V (q := (RX1, TX1, 7)) (ci := 1) hF hKK hW hS hl.1 (lk_4_0 hOK k0) (by decide) rfl (c_X1_meetingOf l hOK (lk_4_0 hOK k0) hq5) (kw_X4_154 hF.2.2.2.2 ⟨Nat.le_of_ble_eq_true rfl, Nat.le_of_ble_eq_true rfl⟩) rfl rfl (Nat.le_of_ble_eq_true rfl) dX4_way_36 ⟨Nat.zero_le _, Nat.zero_le _⟩) hS (fun H locs hW hS => ?_)
      obtain ⟨q6, hq6, hs⟩ := obind_e hs
      refine end_i (run_V (q := (RX1, TX1, 7)) (ci := 1) hF hKK hW hS hl.1 (lk_4_0 hOK k0) (by decide) rfl (c_X1_depthOf l hOK (lk_4_0 hOK k0) hq6) (kw_X4_99 hF.2.2.2.2 ⟨Nat.le_of_ble_eq_true rfl, Nat.le_of_ble_eq_true rfl⟩) rfl rfl (Nat.le_of_ble_eq_true rfl) dX4_way_39 ⟨Nat.zero_le _, Nat.zero_le _⟩) hS (fun H locs hW hS => ?_)
      refine lv_istore (lv' := [(4, .int q6), (0, .ref a0), (1, .int a1), (2, .int a2), (3, .int a3)]) hx hb dX4_way_42 hl (by decide) rfl (fun ls hl => ?_)
      refine lv_aload_n hx hb dX4_way_44 rfl (lv_at hl 1 rfl) ?_
      refine gf_4_0 hF hKK hW k0 dX4_way_45 ?_
      refine lv_iload_n hx hb dX4_way_48 rfl (lv_at hl 2 rfl) ?_
      obtain ⟨q7, hq7, hs⟩ := obind_e hs
      refine end_i (run_V (q := (RX1, TX1, 7)) (ci := 1) hF hKK hW hS hl.1 (lk_4_0 hOK k0) (by decide) rfl (c_X1_depthOf l hOK (lk_4_0 hOK k0) hq7) (kw_X4_99 hF.2.2.2.2 ⟨Nat.le_of_ble_eq_true rfl, Nat.le_of_ble_eq_true rfl⟩) rfl rfl (Nat.le_of_ble_eq_true rfl) dX4_way_49 ⟨Nat.zero_le _, Nat.zero_le _⟩) hS (fun H locs hW hS => ?_)
      refine lv_iload hx hb dX4_way_52 (lv_at hl 0 rfl) ?_
      refine lv_isub hx hb dX4_way_54 ?_
      obtain ⟨v8, ev8, hs⟩ := bnd_e hs
      refine top_i ev8 ?_
      refine lv_istore (lv' := [(5, .int v8), (4, .int q6), (0, .ref a0), (1, .int a1), (2, .int a2), (3, .int a3)]) hx hb dX4_way_55 hl (by decide) rfl (fun ls hl => ?_)
      refine lv_iload hx hb dX4_way_57 (lv_at hl 0 rfl) ?_
      refine lv_aload_n hx hb dX4_way_59 rfl (lv_at hl 2 rfl) ?_
      refine gf_4_0 hF hKK hW k0 dX4_way_60 ?_
      refine lv_iload_n hx hb dX4_way_63 rfl (lv_at hl 4 rfl) ?_
      obtain ⟨q9, hq9, hs⟩ := obind_e hs
      refine end_i (run_V (q := (RX1, TX1, 7)) (ci := 1) hF hKK hW hS hl.1 (lk_4_0 hOK k0) (by decide) rfl (c_X1_depthOf l hOK (lk_4_0 hOK k0) hq9) (kw_X4_99 hF.2.2.2.2 ⟨Nat.le_of_ble_eq_true rfl, Nat.le_of_ble_eq_true rfl⟩) rfl rfl (Nat.le_of_ble_eq_true rfl) dX4_way_64 ⟨Nat.zero_le _, Nat.zero_le _⟩) hS (fun H locs hW hS => ?_)
      refine lv_iadd hx hb dX4_way_67 ?_
      refine lv_iload hx hb dX4_way_68 (lv_at hl 1 rfl) ?_
      refine lv_isub hx hb dX4_way_70 ?_
      obtain ⟨v10, ev10, hs⟩ := bnd_e hs
      refine top_i ev10 ?_
      refine lv_istore (lv' := [(6, .int v10), (5, .int v8), (4, .int q6), (0, .ref a0), (1, .int a1), (2, .int a2), (3, .int a3)]) hx hb dX4_way_71 hl (by decide) rfl (fun ls hl => ?_)
      refine lv_iload_n hx hb dX4_way_73 rfl (lv_at hl 6 rfl) ?_
      refine lv_iconst (v := (-1 : Int32)) hx hb dX4_way_74 (by decide) ?_
      refine lv_icmp_ne (tgt := 81) hx hb dX4_way_75 (by decide) (fun c11 => ?_) (fun c11 => ?_)
      · have hs := ite_f hs c11
        refine lv_iload_n hx hb dX4_way_81 rfl (lv_at hl 6 rfl) ?_
        refine lv_if_lt (tgt := 91) hx hb dX4_way_82 (by decide) (fun c12 => ?_) (fun c12 => ?_)
        · have hs := ite_t hs c12
          refine lv_iconst (v := (-1 : Int32)) hx hb dX4_way_91 (by decide) ?_
          have h9 := Option.some.inj hs
          rw [← h9]
          exact wr_i hF hr hlocks (vp_nar_int _) hW hS dX4_way_92
        · have hs := ite_f hs c12
          refine lv_iload_n hx hb dX4_way_85 rfl (lv_at hl 6 rfl) ?_
          refine lv_iload hx hb dX4_way_86 (lv_at hl 0 rfl) ?_
          refine lv_icmp_le (tgt := 93) hx hb dX4_way_88 (by decide) (fun c13 => ?_) (fun c13 => ?_)
          · have hs := ite_t hs c13
            refine lv_iload_n hx hb dX4_way_93 rfl (lv_at hl 6 rfl) ?_
            refine lv_iload hx hb dX4_way_94 (lv_at hl 1 rfl) ?_
            refine lv_icmp_gt (tgt := 111) hx hb dX4_way_96 (by decide) (fun c14 => ?_) (fun c14 => ?_)
            · have hs := ite_t hs c14
              refine lv_aload_n hx hb dX4_way_111 rfl (lv_at hl 3 rfl) ?_
              refine gf_4_0 hF hKK hW k0 dX4_way_112 ?_
              refine lv_iload_n hx hb dX4_way_115 rfl (lv_at hl 5 rfl) ?_
              refine lv_iload hx hb dX4_way_116 (lv_at hl 0 rfl) ?_
              refine lv_iload_n hx hb dX4_way_118 rfl (lv_at hl 6 rfl) ?_
              refine lv_isub hx hb dX4_way_119 ?_
              obtain ⟨q15, hq15, hs⟩ := obind_e hs
              refine end_i (run_V (q := (RX1, TX1, 7)) (ci := 1) hF hKK hW hS hl.1 (lk_4_0 hOK k0) (by decide) rfl (c_X1_stepsAbove l hOK (lk_4_0 hOK k0) hq15) (kw_X4_157 hF.2.2.2.2 ⟨Nat.le_of_ble_eq_true rfl, Nat.le_of_ble_eq_true rfl⟩) rfl rfl (Nat.le_of_ble_eq_true rfl) dX4_way_120 ⟨Nat.zero_le _, Nat.zero_le _⟩) hS (fun H locs hW hS => ?_)
              have h9 := Option.some.inj hs
              rw [← h9]
              exact wr_i hF hr hlocks (vp_nar_int _) hW hS dX4_way_123
            · have hs := ite_f hs c14
              refine lv_aload_n hx hb dX4_way_99 rfl (lv_at hl 3 rfl) ?_
              refine gf_4_0 hF hKK hW k0 dX4_way_100 ?_
              refine lv_iload_n hx hb dX4_way_103 rfl (lv_at hl 4 rfl) ?_
              refine lv_iload_n hx hb dX4_way_104 rfl (lv_at hl 6 rfl) ?_
              obtain ⟨q16, hq16, hs⟩ := obind_e hs
              refine end_i (run_V (q := (RX1, TX1, 7)) (ci := 1) hF hKK hW hS hl.1 (lk_4_0 hOK k0) (by decide) rfl (c_X1_stepsAbove l hOK (lk_4_0 hOK k0) hq16) (kw_X4_157 hF.2.2.2.2 ⟨Nat.le_of_ble_eq_true rfl, Nat.le_of_ble_eq_true rfl⟩) rfl rfl (Nat.le_of_ble_eq_true rfl) dX4_way_105 ⟨Nat.zero_le _, Nat.zero_le _⟩) hS (fun H locs hW hS => ?_)
              refine lv_goto (tgt := 123) hx hb dX4_way_108 (by decide) ?_
              have h9 := Option.some.inj hs
              rw [← h9]
              exact wr_i hF hr hlocks (vp_nar_int _) hW hS dX4_way_123
          · have hs := ite_f hs c13
            refine lv_iconst (v := (-1 : Int32)) hx hb dX4_way_91 (by decide) ?_
            have h9 := Option.some.inj hs
            rw [← h9]
            exact wr_i hF hr hlocks (vp_nar_int _) hW hS dX4_way_92
      · have hs := ite_t hs c11
        refine lv_iload hx hb dX4_way_78 (lv_at hl 0 rfl) ?_
        have h9 := Option.some.inj hs
        rw [← h9]
        exact wr_i hF hr hlocks (vp_nar_int _) hW hS dX4_way_80
    · have hs := ite_t hs c4
      refine lv_bipush (v := (-4 : Int32)) hx hb dX4_way_23 (by decide) ?_
      have h9 := Option.some.inj hs
      rw [← h9]
      exact wr_i hF hr hlocks (vp_nar_int _) hW hS dX4_way_25
  · have hs := ite_t hs c2
    refine lv_iconst (v := (-1 : Int32)) hx hb dX4_way_9 (by decide) ?_
    have h9 := Option.some.inj hs
    rw [← h9]
    exact wr_i hF hr hlocks (vp_nar_int _) hW hS dX4_way_10

set_option maxHeartbeats 4000000 in
set_option maxRecDepth 100000 in
theorem c_X4_weigh (l : Launch) {G : va_G} {Λ : Lay} {μ : Mem} (hOK : LayOK Λ) {a0 : Nat} (k0 : inK Λ a0 4) {a1 : Int32} {a2 : Int32} {r : (Int32 × Mem)} (hs : sX4_weigh Λ μ a0 a1 a2 = some r) : CM l G Λ yX4_weigh cX4_weigh 3 (some .int) 4 μ [.ref a0, .int a1, .int a2] (QI G Λ r.1 r.2) := by
  refine ofM (own := RX4) (by decide +kernel) rfl (Nat.le_of_ble_eq_true rfl) (fun p e s m args below meth c ls hF hKK hW hr hlocks hl => ?_)
  have hx := hF.1
  have hb := hF.2.1
  have hA : ∀ q, inL Λ q → inL Λ q := fun _ h => h
  have hS : va_S (inL Λ) s.heap s.heap [] := va_S.rf
  have hl : lv_has ls 3 [(0, .ref a0), (1, .int a1), (2, .int a2)] := hl
  unfold sX4_weigh at hs
  refine lv_aload_n hx hb dX4_weigh_0 rfl (lv_at hl 0 rfl) ?_
  refine gf_4_2 hF hKK hW k0 dX4_weigh_1 ?_
  refine lv_aload_n hx hb dX4_weigh_4 rfl (lv_at hl 0 rfl) ?_
  refine gf_4_0 hF hKK hW k0 dX4_weigh_5 ?_
  obtain ⟨q1, hq1, hs⟩ := obind_e hs
  refine end_v (run_V (q := (RX0, TX0, 3)) (ci := 0) hF hKK hW hS hl.1 (lk_4_2 hOK k0) (by decide) rfl (c_X0_note l hOK (lk_4_2 hOK k0) (lk_4_0 hOK k0) hq1) (kw_X4_49 hF.2.2.2.2 ⟨Nat.le_of_ble_eq_true rfl, Nat.le_of_ble_eq_true rfl⟩) rfl rfl (Nat.le_of_ble_eq_true rfl) dX4_weigh_8 ⟨Nat.zero_le _, Nat.zero_le _⟩) hS (fun H locs hW hS => ?_)
  refine lv_aload_n hx hb dX4_weigh_11 rfl (lv_at hl 0 rfl) ?_
  refine lv_aload_n hx hb dX4_weigh_12 rfl (lv_at hl 0 rfl) ?_
  refine lv_iload_n hx hb dX4_weigh_13 rfl (lv_at hl 1 rfl) ?_
  refine lv_iload_n hx hb dX4_weigh_14 rfl (lv_at hl 2 rfl) ?_
  obtain ⟨q2, hq2, hs⟩ := obind_e hs
  refine end_i (run_V (q := (RX4, TX4, 11)) (ci := 4) hF hKK hW hS hl.1 k0 (by decide) rfl (c_X4_setWeight l hOK k0 hq2) (kw_X4_60 hF.2.2.2.2 ⟨Nat.le_of_ble_eq_true rfl, Nat.le_of_ble_eq_true rfl⟩) rfl rfl (Nat.le_of_ble_eq_true rfl) dX4_weigh_15 ⟨Nat.zero_le _, Nat.zero_le _⟩) hS (fun H locs hW hS => ?_)
  obtain ⟨q3, hq3, hs⟩ := obind_e hs
  refine end_i (run_V (q := (RX4, TX4, 11)) (ci := 4) hF hKK hW hS hl.1 k0 (by decide) rfl (c_X4_settle l hOK k0 hq3) (kw_X4_57 hF.2.2.2.2 ⟨Nat.le_of_ble_eq_true rfl, Nat.le_of_ble_eq_true rfl⟩) rfl rfl (Nat.le_of_ble_eq_true rfl) dX4_weigh_18 ⟨Nat.zero_le _, Nat.zero_le _⟩) hS (fun H locs hW hS => ?_)
  have h9 := Option.some.inj hs
  rw [← h9]
  exact wr_i hF hr hlocks (vp_nar_int _) hW hS dX4_weigh_21

set_option maxHeartbeats 4000000 in
set_option maxRecDepth 100000 in
theorem c_X4_would (l : Launch) {G : va_G} {Λ : Lay} {μ : Mem} (hOK : LayOK Λ) {a0 : Nat} (k0 : inK Λ a0 4) {a1 : Int32} {a2 : Int32} {r : Int32} (hs : sX4_would Λ μ a0 a1 a2 = some r) : CM l G Λ yX4_would cX4_would 3 (some .int) 4 μ [.ref a0, .int a1, .int a2] (QI G Λ r μ) := by
  refine ofM (own := RX4) (by decide +kernel) rfl (Nat.le_of_ble_eq_true rfl) (fun p e s m args below meth c ls hF hKK hW hr hlocks hl => ?_)
  have hx := hF.1
  have hb := hF.2.1
  have hA : ∀ q, inL Λ q → inL Λ q := fun _ h => h
  have hS : va_S (inL Λ) s.heap s.heap [] := va_S.rf
  have hl : lv_has ls 3 [(0, .ref a0), (1, .int a1), (2, .int a2)] := hl
  unfold sX4_would at hs
  refine lv_aload_n hx hb dX4_would_0 rfl (lv_at hl 0 rfl) ?_
  refine lv_iload_n hx hb dX4_would_1 rfl (lv_at hl 1 rfl) ?_
  refine lv_iload_n hx hb dX4_would_2 rfl (lv_at hl 2 rfl) ?_
  obtain ⟨q1, hq1, hs⟩ := obind_e hs
  refine end_i (run_V (q := (RX4, TX4, 11)) (ci := 4) hF hKK hW hS hl.1 k0 (by decide) rfl (c_X4_areThere l hOK k0 hq1) (kw_X4_76 hF.2.2.2.2 ⟨Nat.le_of_ble_eq_true rfl, Nat.le_of_ble_eq_true rfl⟩) rfl rfl (Nat.le_of_ble_eq_true rfl) dX4_would_3 ⟨Nat.zero_le _, Nat.zero_le _⟩) hS (fun H locs hW hS => ?_)
  refine lv_if_ne (tgt := 11) hx hb dX4_would_6 (by decide) (fun c2 => ?_) (fun c2 => ?_)
  · have hs := ite_f hs c2
    refine lv_aload_n hx hb dX4_would_11 rfl (lv_at hl 0 rfl) ?_
    refine gf_4_0 hF hKK hW k0 dX4_would_12 ?_
    refine lv_iload_n hx hb dX4_would_15 rfl (lv_at hl 1 rfl) ?_
    refine lv_iload_n hx hb dX4_would_16 rfl (lv_at hl 2 rfl) ?_
    obtain ⟨q3, hq3, hs⟩ := obind_e hs
    refine end_i (run_V (q := (RX1, TX1, 7)) (ci := 1) hF hKK hW hS hl.1 (lk_4_0 hOK k0) (by decide) rfl (c_X1_isOnePart l hOK (lk_4_0 hOK k0) hq3) (kw_X4_80 hF.2.2.2.2 ⟨Nat.le_of_ble_eq_true rfl, Nat.le_of_ble_eq_true rfl⟩) rfl rfl (Nat.le_of_ble_eq_true rfl) dX4_would_17 ⟨Nat.zero_le _, Nat.zero_le _⟩) hS (fun H locs hW hS => ?_)
    refine lv_if_eq (tgt := 28) hx hb dX4_would_20 (by decide) (fun c4 => ?_) (fun c4 => ?_)
    · have hs := ite_t hs c4
      refine lv_aload_n hx hb dX4_would_28 rfl (lv_at hl 0 rfl) ?_
      refine gf_4_0 hF hKK hW k0 dX4_would_29 ?_
      refine lv_iload_n hx hb dX4_would_32 rfl (lv_at hl 1 rfl) ?_
      obtain ⟨q5, hq5, hs⟩ := obind_e hs
      refine end_i (run_V (q := (RX1, TX1, 7)) (ci := 1) hF hKK hW hS hl.1 (lk_4_0 hOK k0) (by decide) rfl (c_X1_rootOf l hOK (lk_4_0 hOK k0) hq5) (kw_X4_96 hF.2.2.2.2 ⟨Nat.le_of_ble_eq_true rfl, Nat.le_of_ble_eq_true rfl⟩) rfl rfl (Nat.le_of_ble_eq_true rfl) dX4_would_33 ⟨Nat.zero_le _, Nat.zero_le _⟩) hS (fun H locs hW hS => ?_)
      have h9 := Option.some.inj hs
      rw [← h9]
      exact wr_i hF hr hlocks (vp_nar_int _) hW hS dX4_would_36
    · have hs := ite_f hs c4
      refine lv_bipush (v := (-4 : Int32)) hx hb dX4_would_23 (by decide) ?_
      refine lv_goto (tgt := 36) hx hb dX4_would_25 (by decide) ?_
      have h9 := Option.some.inj hs
      rw [← h9]
      exact wr_i hF hr hlocks (vp_nar_int _) hW hS dX4_would_36
  · have hs := ite_t hs c2
    refine lv_iconst (v := (-1 : Int32)) hx hb dX4_would_9 (by decide) ?_
    have h9 := Option.some.inj hs
    rw [← h9]
    exact wr_i hF hr hlocks (vp_nar_int _) hW hS dX4_would_10

set_option maxHeartbeats 4000000 in
set_option maxRecDepth 100000 in
theorem c_X4_wouldDiffer (l : Launch) {G : va_G} {Λ : Lay} {μ : Mem} (hOK : LayOK Λ) {a0 : Nat} (k0 : inK Λ a0 4) {a1 : Int32} {a2 : Int32} {r : Int32} (hs : sX4_wouldDiffer Λ μ a0 a1 a2 = some r) : CM l G Λ yX4_wouldDiffer cX4_wouldDiffer 5 (some .int) 4 μ [.ref a0, .int a1, .int a2] (QI G Λ r μ) := by
  refine ofM (own := RX4) (by decide +kernel) rfl (Nat.le_of_ble_eq_true rfl) (fun p e s m args below meth c ls hF hKK hW hr hlocks hl => ?_)
  have hx := hF.1
  have hb := hF.2.1
  have hA : ∀ q, inL Λ q → inL Λ q := fun _ h => h
  have hS : va_S (inL Λ) s.heap s.heap [] := va_S.rf
  have hl : lv_has ls 5 [(0, .ref a0), (1, .int a1), (2, .int a2)] := hl
  unfold sX4_wouldDiffer at hs
  refine lv_aload_n hx hb dX4_wouldDiffer_0 rfl (lv_at hl 0 rfl) ?_
  refine lv_iload_n hx hb dX4_wouldDiffer_1 rfl (lv_at hl 1 rfl) ?_
  refine lv_iload_n hx hb dX4_wouldDiffer_2 rfl (lv_at hl 2 rfl) ?_
  obtain ⟨q1, hq1, hs⟩ := obind_e hs
  refine end_i (run_V (q := (RX4, TX4, 11)) (ci := 4) hF hKK hW hS hl.1 k0 (by decide) rfl (c_X4_areThere l hOK k0 hq1) (kw_X4_76 hF.2.2.2.2 ⟨Nat.le_of_ble_eq_true rfl, Nat.le_of_ble_eq_true rfl⟩) rfl rfl (Nat.le_of_ble_eq_true rfl) dX4_wouldDiffer_3 ⟨Nat.zero_le _, Nat.zero_le _⟩) hS (fun H locs hW hS => ?_)
  refine lv_if_ne (tgt := 11) hx hb dX4_wouldDiffer_6 (by decide) (fun c2 => ?_) (fun c2 => ?_)
  · have hs := ite_f hs c2
    refine lv_aload_n hx hb dX4_wouldDiffer_11 rfl (lv_at hl 0 rfl) ?_
    refine gf_4_0 hF hKK hW k0 dX4_wouldDiffer_12 ?_
    refine lv_iload_n hx hb dX4_wouldDiffer_15 rfl (lv_at hl 1 rfl) ?_
    refine lv_iload_n hx hb dX4_wouldDiffer_16 rfl (lv_at hl 2 rfl) ?_
    obtain ⟨q3, hq3, hs⟩ := obind_e hs
    refine end_i (run_V (q := (RX1, TX1, 7)) (ci := 1) hF hKK hW hS hl.1 (lk_4_0 hOK k0) (by decide) rfl (c_X1_isTied l hOK (lk_4_0 hOK k0) hq3) (kw_X4_148 hF.2.2.2.2 ⟨Nat.le_of_ble_eq_true rfl, Nat.le_of_ble_eq_true rfl⟩) rfl rfl (Nat.le_of_ble_eq_true rfl) dX4_wouldDiffer_17 ⟨Nat.zero_le _, Nat.zero_le _⟩) hS (fun H locs hW hS => ?_)
    refine lv_if_ne (tgt := 26) hx hb dX4_wouldDiffer_20 (by decide) (fun c4 => ?_) (fun c4 => ?_)
    · have hs := ite_f hs c4
      refine lv_aload_n hx hb dX4_wouldDiffer_26 rfl (lv_at hl 0 rfl) ?_
      refine gf_4_0 hF hKK hW k0 dX4_wouldDiffer_27 ?_
      refine lv_aload_n hx hb dX4_wouldDiffer_30 rfl (lv_at hl 0 rfl) ?_
      refine gf_4_0 hF hKK hW k0 dX4_wouldDiffer_31 ?_
      refine lv_iload_n hx hb dX4_wouldDiffer_34 rfl (lv_at hl 1 rfl) ?_
      obtain ⟨q5, hq5, hs⟩ := obind_e hs
      refine end_i (run_V (q := (RX1, TX1, 7)) (ci := 1) hF hKK hW hS hl.1 (lk_4_0 hOK k0) (by decide) rfl (c_X1_banksWith l hOK (lk_4_0 hOK k0) hq5) (kw_X4_135 hF.2.2.2.2 ⟨Nat.le_of_ble_eq_true rfl, Nat.le_of_ble_eq_true rfl⟩) rfl rfl (Nat.le_of_ble_eq_true rfl) dX4_wouldDiffer_35 ⟨Nat.zero_le _, Nat.zero_le _⟩) hS (fun H locs hW hS => ?_)
      obtain ⟨q6, hq6, hs⟩ := obind_e hs
      refine end_i (run_V (q := (RX1, TX1, 7)) (ci := 1) hF hKK hW hS hl.1 (lk_4_0 hOK k0) (by decide) rfl (c_X1_weightOfAll l hOK (lk_4_0 hOK k0) hq6) (kw_X4_126 hF.2.2.2.2 ⟨Nat.le_of_ble_eq_true rfl, Nat.le_of_ble_eq_true rfl⟩) rfl rfl (Nat.le_of_ble_eq_true rfl) dX4_wouldDiffer_38 ⟨Nat.zero_le _, Nat.zero_le _⟩) hS (fun H locs hW hS => ?_)
      refine lv_istore_n (lv' := [(3, .int q6), (0, .ref a0), (1, .int a1), (2, .int a2)]) hx hb dX4_wouldDiffer_41 rfl hl (by decide) rfl (fun ls hl => ?_)
      refine lv_aload_n hx hb dX4_wouldDiffer_42 rfl (lv_at hl 1 rfl) ?_
      refine gf_4_0 hF hKK hW k0 dX4_wouldDiffer_43 ?_
      refine lv_aload_n hx hb dX4_wouldDiffer_46 rfl (lv_at hl 1 rfl) ?_
      refine gf_4_0 hF hKK hW k0 dX4_wouldDiffer_47 ?_
      refine lv_aload_n hx hb dX4_wouldDiffer_50 rfl (lv_at hl 1 rfl) ?_
      refine gf_4_0 hF hKK hW k0 dX4_wouldDiffer_51 ?_
      refine lv_iload_n hx hb dX4_wouldDiffer_54 rfl (lv_at hl 2 rfl) ?_
      refine lv_iload_n hx hb dX4_wouldDiffer_55 rfl (lv_at hl 3 rfl) ?_
      obtain ⟨q7, hq7, hs⟩ := obind_e hs
      refine end_i (run_V (q := (RX1, TX1, 7)) (ci := 1) hF hKK hW hS hl.1 (lk_4_0 hOK k0) (by decide) rfl (c_X1_lowerOf l hOK (lk_4_0 hOK k0) hq7) (kw_X4_160 hF.2.2.2.2 ⟨Nat.le_of_ble_eq_true rfl, Nat.le_of_ble_eq_true rfl⟩) rfl rfl (Nat.le_of_ble_eq_true rfl) dX4_wouldDiffer_56 ⟨Nat.zero_le _, Nat.zero_le _⟩) hS (fun H locs hW hS => ?_)
      obtain ⟨q8, hq8, hs⟩ := obind_e hs
      refine end_i (run_V (q := (RX1, TX1, 7)) (ci := 1) hF hKK hW hS hl.1 (lk_4_0 hOK k0) (by decide) rfl (c_X1_belowOf l hOK (lk_4_0 hOK k0) hq8) (kw_X4_123 hF.2.2.2.2 ⟨Nat.le_of_ble_eq_true rfl, Nat.le_of_ble_eq_true rfl⟩) rfl rfl (Nat.le_of_ble_eq_true rfl) dX4_wouldDiffer_59 ⟨Nat.zero_le _, Nat.zero_le _⟩) hS (fun H locs hW hS => ?_)
      obtain ⟨q9, hq9, hs⟩ := obind_e hs
      refine end_i (run_V (q := (RX1, TX1, 7)) (ci := 1) hF hKK hW hS hl.1 (lk_4_0 hOK k0) (by decide) rfl (c_X1_weightOfAll l hOK (lk_4_0 hOK k0) hq9) (kw_X4_126 hF.2.2.2.2 ⟨Nat.le_of_ble_eq_true rfl, Nat.le_of_ble_eq_true rfl⟩) rfl rfl (Nat.le_of_ble_eq_true rfl) dX4_wouldDiffer_62 ⟨Nat.zero_le _, Nat.zero_le _⟩) hS (fun H locs hW hS => ?_)
      refine lv_istore (lv' := [(4, .int q9), (3, .int q6), (0, .ref a0), (1, .int a1), (2, .int a2)]) hx hb dX4_wouldDiffer_65 hl (by decide) rfl (fun ls hl => ?_)
      refine lv_iload_n hx hb dX4_wouldDiffer_67 rfl (lv_at hl 1 rfl) ?_
      refine lv_iconst (v := (2 : Int32)) hx hb dX4_wouldDiffer_68 (by decide) ?_
      refine lv_iload hx hb dX4_wouldDiffer_69 (lv_at hl 0 rfl) ?_
      refine lv_imul hx hb dX4_wouldDiffer_71 ?_
      refine lv_isub hx hb dX4_wouldDiffer_72 ?_
      refine va_mabs hx hb (hF.2.2.1.trans hl.1.symm) hF.2.2.2.1 (hF.2.2.2.2 _ wd_741) (hF.2.2.2.2 _ wd_742) (hF.2.2.2.2 _ wd_22) (hF.2.2.2.2 _ wd_743) (Nat.le_of_ble_eq_true rfl) (Nat.le_of_ble_eq_true rfl) (Nat.zero_le _) (Nat.zero_le _) dX4_wouldDiffer_73 ?_
      have h9 := Option.some.inj hs
      rw [← h9]
      exact wr_i hF hr hlocks (vp_nar_int _) hW hS dX4_wouldDiffer_76
    · have hs := ite_t hs c4
      refine lv_bipush (v := (-4 : Int32)) hx hb dX4_wouldDiffer_23 (by decide) ?_
      have h9 := Option.some.inj hs
      rw [← h9]
      exact wr_i hF hr hlocks (vp_nar_int _) hW hS dX4_wouldDiffer_25
  · have hs := ite_t hs c2
    refine lv_iconst (v := (-1 : Int32)) hx hb dX4_wouldDiffer_9 (by decide) ?_
    have h9 := Option.some.inj hs
    rw [← h9]
    exact wr_i hF hr hlocks (vp_nar_int _) hW hS dX4_wouldDiffer_10
