/-! printed by wip/gen35/build.py out of the decode rows: do not edit by hand -/
set_option maxHeartbeats 4000000 in
set_option maxRecDepth 100000 in
theorem c_X1_roundAt (l : Launch) {G : va_G} {Λ : Lay} {μ : Mem} (hOK : LayOK Λ) {a0 : Nat} (k0 : inK Λ a0 1) {a1 : Int32} {r : Nat} (hs : sX1_roundAt Λ μ a0 a1 = some r) : CM l G Λ yX1_roundAt cX1_roundAt 3 (some (.object "FerryRounds$Row")) 0 μ [.ref a0, .int a1] (QR G Λ r 2 μ) := by
  refine ofM (own := RX1) (by decide +kernel) rfl (Nat.le_of_ble_eq_true rfl) (fun p e s m args below meth c ls hF hKK hW hr hlocks hl => ?_)
  have hx := hF.1
  have hb := hF.2.1
  have hA : ∀ q, inL Λ q → inL Λ q := fun _ h => h
  have hS : va_S (inL Λ) s.heap s.heap [] := va_S.rf
  have hl : lv_has ls 3 [(0, .ref a0), (1, .int a1)] := hl
  unfold sX1_roundAt at hs
  refine lv_iload_n hx hb dX1_roundAt_0 rfl (lv_at hl 1 rfl) ?_
  refine lv_if_lt (tgt := 13) hx hb dX1_roundAt_1 (by decide) (fun c1 => ?_) (fun c1 => ?_)
  · have hs := ite_t hs c1
    refine lv_aload_n hx hb dX1_roundAt_13 rfl (lv_at hl 0 rfl) ?_
    refine gf_1_3 hF hKK hW k0 dX1_roundAt_14 ?_
    have h9 := Option.some.inj hs
    rw [← h9]
    exact wr_a hF hr hlocks (lk_1_3 hOK k0) hW hS dX1_roundAt_17
  · have hs := ite_f hs c1
    refine lv_iload_n hx hb dX1_roundAt_4 rfl (lv_at hl 1 rfl) ?_
    refine lv_aload_n hx hb dX1_roundAt_5 rfl (lv_at hl 0 rfl) ?_
    refine gf_1_2 hF hKK hW k0 dX1_roundAt_6 ?_
    refine ga_len8 hF hKK hW (lk_1_2 hOK k0) dX1_roundAt_9 ?_
    refine lv_icmp_lt (tgt := 18) hx hb dX1_roundAt_10 (by decide) (fun c2 => ?_) (fun c2 => ?_)
    · have hs := ite_t hs c2
      refine lv_aload_n hx hb dX1_roundAt_18 rfl (lv_at hl 0 rfl) ?_
      refine gf_1_2 hF hKK hW k0 dX1_roundAt_19 ?_
      refine lv_iload_n hx hb dX1_roundAt_22 rfl (lv_at hl 1 rfl) ?_
      obtain ⟨g3, hs⟩ := gd_some hs
      refine gq_ld8 hF hKK hW (lk_1_2 hOK k0) g3 dX1_roundAt_23 ?_
      refine lv_astore_n (lv' := [(2, .ref (lyE Λ (lyR Λ a0 2) a1.toNatClampNeg)), (0, .ref a0), (1, .int a1)]) hx hb dX1_roundAt_24 rfl hl (by decide) rfl (fun ls hl => ?_)
      refine lv_aload_n hx hb dX1_roundAt_25 rfl (lv_at hl 0 rfl) ?_
      refine lv_ifnonnull (tgt := 36) hx hb dX1_roundAt_26 (by decide) ?_
      refine lv_aload_n hx hb dX1_roundAt_36 rfl (lv_at hl 0 rfl) ?_
      have h9 := Option.some.inj hs
      rw [← h9]
      exact wr_a hF hr hlocks (lk_8 hOK (lk_1_2 hOK k0) (inb_lt g3)) hW hS dX1_roundAt_37
    · have hs := ite_f hs c2
      refine lv_aload_n hx hb dX1_roundAt_13 rfl (lv_at hl 0 rfl) ?_
      refine gf_1_3 hF hKK hW k0 dX1_roundAt_14 ?_
      have h9 := Option.some.inj hs
      rw [← h9]
      exact wr_a hF hr hlocks (lk_1_3 hOK k0) hW hS dX1_roundAt_17

set_option maxHeartbeats 4000000 in
set_option maxRecDepth 100000 in
theorem cl_X1_copyFrom_29 {p : Program} {l : Launch} {e : Env} {s : State} {m : MethodId} {args : Array Value} {below : List Frame} {meth : Method} {c : Code} {G : va_G} {Λ : Lay} {r : Mem} (hOK : LayOK Λ) (hF : CallFix p m c cX1_copyFrom 3 s args tw RX1) (hKK : KK G Λ s) (hr : meth.sig.returnType = none) (hlocks : meth.locks = false) {x0 : Nat} (kx0 : inK Λ x0 1) {x1 : Nat} (kx1 : inK Λ x1 1) : ∀ (n : Nat) (μ : Mem) (x2 : Int32) (H : Heap) (locs : List Loc) (ls : Array Slot), lpX1_copyFrom_29 Λ x0 x1 n μ x2 = some r → Wd G Λ μ H → va_S (inL Λ) s.heap H locs → lv_has ls 3 [(0, .ref x0), (1, .ref x1), (2, .int x2)] → W p l e (rmd 2) s m args below meth c H locs 0 0 (MQ below (QV G Λ r) args s 0 0 (inL Λ)) (F0 m 29 ls []) := by
  have hx := hF.1
  have hb := hF.2.1
  have hA : ∀ q, inL Λ q → inL Λ q := fun _ h => h
  intro n
  induction n with
  | zero =>
    intro μ x2 H locs ls hs hW hS hl
    cases hs
  | succ n29 ih29 =>
    intro μ x2 H locs ls hs hW hS hl
    rw [lpX1_copyFrom_29_s] at hs
    refine lv_iload_n hx hb dX1_copyFrom_29 rfl (lv_at hl 2 rfl) ?_
    refine lv_bipush (v := (12 : Int32)) hx hb dX1_copyFrom_30 (by decide) ?_
    refine lv_icmp_ge (tgt := 54) hx hb dX1_copyFrom_32 (by decide) (fun c3 => ?_) (fun c3 => ?_)
    · have hs := ite_t hs c3
      refine lv_aload_n hx hb dX1_copyFrom_54 rfl (lv_at hl 0 rfl) ?_
      refine lv_aload_n hx hb dX1_copyFrom_55 rfl (lv_at hl 1 rfl) ?_
      refine gf_1_4 hF hKK hW kx1 dX1_copyFrom_56 ?_
      obtain ⟨μ4, eμ4, hs⟩ := bnd_e hs
      refine pf_1_4 hOK hF hKK hW hS hA kx0 eμ4 dX1_copyFrom_59 (fun H locs hW hS => ?_)
      refine lv_aload_n hx hb dX1_copyFrom_62 rfl (lv_at hl 0 rfl) ?_
      refine lv_aload_n hx hb dX1_copyFrom_63 rfl (lv_at hl 1 rfl) ?_
      refine gf_1_5 hF hKK hW kx1 dX1_copyFrom_64 ?_
      obtain ⟨μ5, eμ5, hs⟩ := bnd_e hs
      refine pf_1_5 hOK hF hKK hW hS hA kx0 eμ5 dX1_copyFrom_67 (fun H locs hW hS => ?_)
      refine lv_aload_n hx hb dX1_copyFrom_70 rfl (lv_at hl 0 rfl) ?_
      refine lv_aload_n hx hb dX1_copyFrom_71 rfl (lv_at hl 1 rfl) ?_
      refine gf_1_6 hF hKK hW kx1 dX1_copyFrom_72 ?_
      obtain ⟨μ6, eμ6, hs⟩ := bnd_e hs
      refine pf_1_6 hOK hF hKK hW hS hA kx0 eμ6 dX1_copyFrom_75 (fun H locs hW hS => ?_)
      have h9 := Option.some.inj hs
      rw [← h9]
      exact wr_v hF hr hlocks hW hS dX1_copyFrom_78
    · have hs := ite_f hs c3
      refine lv_aload_n hx hb dX1_copyFrom_35 rfl (lv_at hl 0 rfl) ?_
      refine lv_iload_n hx hb dX1_copyFrom_36 rfl (lv_at hl 2 rfl) ?_
      obtain ⟨q7, hq7, hs⟩ := obind_e hs
      refine end_r (run_V (q := (RX1, TX1, 7)) (ci := 1) hF hKK hW hS hl.1 kx0 (by decide) rfl (c_X1_roundAt l hOK kx0 hq7) (kw_X1_34 hF.2.2.2.2 ⟨Nat.le_of_ble_eq_true rfl, Nat.le_of_ble_eq_true rfl⟩) rfl rfl (Nat.le_of_ble_eq_true rfl) dX1_copyFrom_37 ⟨Nat.zero_le _, Nat.zero_le _⟩) hS (fun H locs kq7 hW hS => ?_)
      refine lv_aload_n hx hb dX1_copyFrom_40 rfl (lv_at hl 1 rfl) ?_
      refine lv_iload_n hx hb dX1_copyFrom_41 rfl (lv_at hl 2 rfl) ?_
      obtain ⟨q8, hq8, hs⟩ := obind_e hs
      refine end_r (run_V (q := (RX1, TX1, 7)) (ci := 1) hF hKK hW hS hl.1 kx1 (by decide) rfl (c_X1_roundAt l hOK kx1 hq8) (kw_X1_34 hF.2.2.2.2 ⟨Nat.le_of_ble_eq_true rfl, Nat.le_of_ble_eq_true rfl⟩) rfl rfl (Nat.le_of_ble_eq_true rfl) dX1_copyFrom_42 ⟨Nat.zero_le _, Nat.zero_le _⟩) hS (fun H locs kq8 hW hS => ?_)
      obtain ⟨q9, hq9, hs⟩ := obind_e hs
      refine end_v (run_V (q := (RX2, TX2, 2)) (ci := 2) hF hKK hW hS hl.1 kq7 (by decide) rfl (c_X2_copyFrom l hOK kq7 kq8 hq9) (kw_X1_30 hF.2.2.2.2 ⟨Nat.le_of_ble_eq_true rfl, Nat.le_of_ble_eq_true rfl⟩) rfl rfl (Nat.le_of_ble_eq_true rfl) dX1_copyFrom_45 ⟨Nat.zero_le _, Nat.zero_le _⟩) hS (fun H locs hW hS => ?_)
      obtain ⟨v10, ev10, hs⟩ := bnd_e hs
      refine lv_iinc (v := v10) (lv' := [(2, .int v10), (0, .ref x0), (1, .ref x1)]) hx hb dX1_copyFrom_48 hl (k := 2) rfl (by rw [ev10]; rfl) (by decide) rfl (fun ls hl => ?_)
      refine lv_goto (tgt := 29) hx hb dX1_copyFrom_51 (by decide) ?_
      exact ih29 q9 v10 _ _ _ hs hW hS (lv_sub hl [1, 2, 0] rfl)

set_option maxHeartbeats 4000000 in
set_option maxRecDepth 100000 in
theorem c_X1_copyFrom (l : Launch) {G : va_G} {Λ : Lay} {μ : Mem} (hOK : LayOK Λ) {a0 : Nat} (k0 : inK Λ a0 1) {a1 : Nat} (k1 : inK Λ a1 1) {r : Mem} (hs : sX1_copyFrom Λ μ a0 a1 = some r) : CM l G Λ yX1_copyFrom cX1_copyFrom 3 none 2 μ [.ref a0, .ref a1] (QV G Λ r) := by
  refine ofM (own := RX1) (by decide +kernel) rfl (Nat.le_of_ble_eq_true rfl) (fun p e s m args below meth c ls hF hKK hW hr hlocks hl => ?_)
  have hx := hF.1
  have hb := hF.2.1
  have hA : ∀ q, inL Λ q → inL Λ q := fun _ h => h
  have hS : va_S (inL Λ) s.heap s.heap [] := va_S.rf
  have hl : lv_has ls 3 [(0, .ref a0), (1, .ref a1)] := hl
  unfold sX1_copyFrom at hs
  refine lv_aload_n hx hb dX1_copyFrom_0 rfl (lv_at hl 1 rfl) ?_
  refine lv_ifnonnull (tgt := 5) hx hb dX1_copyFrom_1 (by decide) ?_
  refine lv_aload_n hx hb dX1_copyFrom_5 rfl (lv_at hl 0 rfl) ?_
  refine gf_1_0 hF hKK hW k0 dX1_copyFrom_6 ?_
  refine lv_aload_n hx hb dX1_copyFrom_9 rfl (lv_at hl 1 rfl) ?_
  refine gf_1_0 hF hKK hW k1 dX1_copyFrom_10 ?_
  obtain ⟨q1, hq1, hs⟩ := obind_e hs
  refine end_v (run_V (q := (RX2, TX2, 2)) (ci := 2) hF hKK hW hS hl.1 (lk_1_0 hOK k0) (by decide) rfl (c_X2_copyFrom l hOK (lk_1_0 hOK k0) (lk_1_0 hOK k1) hq1) (kw_X1_30 hF.2.2.2.2 ⟨Nat.le_of_ble_eq_true rfl, Nat.le_of_ble_eq_true rfl⟩) rfl rfl (Nat.le_of_ble_eq_true rfl) dX1_copyFrom_13 ⟨Nat.zero_le _, Nat.zero_le _⟩) hS (fun H locs hW hS => ?_)
  refine lv_aload_n hx hb dX1_copyFrom_16 rfl (lv_at hl 0 rfl) ?_
  refine gf_1_1 hF hKK hW k0 dX1_copyFrom_17 ?_
  refine lv_aload_n hx hb dX1_copyFrom_20 rfl (lv_at hl 1 rfl) ?_
  refine gf_1_1 hF hKK hW k1 dX1_copyFrom_21 ?_
  obtain ⟨q2, hq2, hs⟩ := obind_e hs
  refine end_v (run_V (q := (RX2, TX2, 2)) (ci := 2) hF hKK hW hS hl.1 (lk_1_1 hOK k0) (by decide) rfl (c_X2_copyFrom l hOK (lk_1_1 hOK k0) (lk_1_1 hOK k1) hq2) (kw_X1_30 hF.2.2.2.2 ⟨Nat.le_of_ble_eq_true rfl, Nat.le_of_ble_eq_true rfl⟩) rfl rfl (Nat.le_of_ble_eq_true rfl) dX1_copyFrom_24 ⟨Nat.zero_le _, Nat.zero_le _⟩) hS (fun H locs hW hS => ?_)
  refine lv_iconst (v := (0 : Int32)) hx hb dX1_copyFrom_27 (by decide) ?_
  refine lv_istore_n (lv' := [(2, .int (0 : Int32)), (0, .ref a0), (1, .ref a1)]) hx hb dX1_copyFrom_28 rfl hl (by decide) rfl (fun ls hl => ?_)
  exact cl_X1_copyFrom_29 hOK hF hKK hr hlocks k0 k1 fuel q2 (0 : Int32) _ _ _ hs hW hS (lv_sub hl [1, 2, 0] rfl)

set_option maxHeartbeats 4000000 in
set_option maxRecDepth 100000 in
theorem cl_X1_rootOf_2 {p : Program} {l : Launch} {e : Env} {s : State} {m : MethodId} {args : Array Value} {below : List Frame} {meth : Method} {c : Code} {G : va_G} {Λ : Lay} {μ : Mem} {r : Int32} (hOK : LayOK Λ) (hF : CallFix p m c cX1_rootOf 3 s args tw RX1) (hKK : KK G Λ s) (hr : meth.sig.returnType = (some .int)) (hlocks : meth.locks = false) {x0 : Nat} (kx0 : inK Λ x0 1) {x1 : Int32} : ∀ (n : Nat) (x2 : Int32) (H : Heap) (locs : List Loc) (ls : Array Slot), lpX1_rootOf_2 Λ μ x0 x1 n x2 = some r → Wd G Λ μ H → va_S (inL Λ) s.heap H locs → lv_has ls 3 [(0, .ref x0), (1, .int x1), (2, .int x2)] → W p l e (rmd 1) s m args below meth c H locs 0 0 (MQ below (QI G Λ r μ) args s 0 0 (inL Λ)) (F0 m 2 ls []) := by
  have hx := hF.1
  have hb := hF.2.1
  have hA : ∀ q, inL Λ q → inL Λ q := fun _ h => h
  intro n
  induction n with
  | zero =>
    intro x2 H locs ls hs hW hS hl
    cases hs
  | succ n2 ih2 =>
    intro x2 H locs ls hs hW hS hl
    rw [lpX1_rootOf_2_s] at hs
    refine lv_iload_n hx hb dX1_rootOf_2 rfl (lv_at hl 2 rfl) ?_
    refine lv_bipush (v := (12 : Int32)) hx hb dX1_rootOf_3 (by decide) ?_
    refine lv_icmp_ge (tgt := 28) hx hb dX1_rootOf_5 (by decide) (fun c1 => ?_) (fun c1 => ?_)
    · have hs := ite_t hs c1
      refine lv_iconst (v := (-1 : Int32)) hx hb dX1_rootOf_28 (by decide) ?_
      have h9 := Option.some.inj hs
      rw [← h9]
      exact wr_i hF hr hlocks (vp_nar_int _) hW hS dX1_rootOf_29
    · have hs := ite_f hs c1
      refine lv_aload_n hx hb dX1_rootOf_8 rfl (lv_at hl 0 rfl) ?_
      refine lv_iload_n hx hb dX1_rootOf_9 rfl (lv_at hl 2 rfl) ?_
      obtain ⟨q2, hq2, hs⟩ := obind_e hs
      refine end_r (run_V (q := (RX1, TX1, 7)) (ci := 1) hF hKK hW hS hl.1 kx0 (by decide) rfl (c_X1_roundAt l hOK kx0 hq2) (kw_X1_34 hF.2.2.2.2 ⟨Nat.le_of_ble_eq_true rfl, Nat.le_of_ble_eq_true rfl⟩) rfl rfl (Nat.le_of_ble_eq_true rfl) dX1_rootOf_10 ⟨Nat.zero_le _, Nat.zero_le _⟩) hS (fun H locs kq2 hW hS => ?_)
      refine lv_iload_n hx hb dX1_rootOf_13 rfl (lv_at hl 1 rfl) ?_
      obtain ⟨q3, hq3, hs⟩ := obind_e hs
      refine end_i (run_V (q := (RX2, TX2, 2)) (ci := 2) hF hKK hW hS hl.1 kq2 (by decide) rfl (c_X2_firstOf l hOK kq2 hq3) (kw_X1_90 hF.2.2.2.2 ⟨Nat.le_of_ble_eq_true rfl, Nat.le_of_ble_eq_true rfl⟩) rfl rfl (Nat.le_of_ble_eq_true rfl) dX1_rootOf_14 ⟨Nat.zero_le _, Nat.zero_le _⟩) hS (fun H locs hW hS => ?_)
      refine lv_if_lt (tgt := 22) hx hb dX1_rootOf_17 (by decide) (fun c4 => ?_) (fun c4 => ?_)
      · have hs := ite_t hs c4
        obtain ⟨v5, ev5, hs⟩ := bnd_e hs
        refine lv_iinc (v := v5) (lv' := [(2, .int v5), (0, .ref x0), (1, .int x1)]) hx hb dX1_rootOf_22 hl (k := 2) rfl (by rw [ev5]; rfl) (by decide) rfl (fun ls hl => ?_)
        refine lv_goto (tgt := 2) hx hb dX1_rootOf_25 (by decide) ?_
        exact ih2 v5 _ _ _ hs hW hS (lv_sub hl [1, 2, 0] rfl)
      · have hs := ite_f hs c4
        refine lv_iload_n hx hb dX1_rootOf_20 rfl (lv_at hl 2 rfl) ?_
        have h9 := Option.some.inj hs
        rw [← h9]
        exact wr_i hF hr hlocks (vp_nar_int _) hW hS dX1_rootOf_21

set_option maxHeartbeats 4000000 in
set_option maxRecDepth 100000 in
theorem c_X1_rootOf (l : Launch) {G : va_G} {Λ : Lay} {μ : Mem} (hOK : LayOK Λ) {a0 : Nat} (k0 : inK Λ a0 1) {a1 : Int32} {r : Int32} (hs : sX1_rootOf Λ μ a0 a1 = some r) : CM l G Λ yX1_rootOf cX1_rootOf 3 (some .int) 1 μ [.ref a0, .int a1] (QI G Λ r μ) := by
  refine ofM (own := RX1) (by decide +kernel) rfl (Nat.le_of_ble_eq_true rfl) (fun p e s m args below meth c ls hF hKK hW hr hlocks hl => ?_)
  have hx := hF.1
  have hb := hF.2.1
  have hA : ∀ q, inL Λ q → inL Λ q := fun _ h => h
  have hS : va_S (inL Λ) s.heap s.heap [] := va_S.rf
  have hl : lv_has ls 3 [(0, .ref a0), (1, .int a1)] := hl
  unfold sX1_rootOf at hs
  refine lv_iconst (v := (0 : Int32)) hx hb dX1_rootOf_0 (by decide) ?_
  refine lv_istore_n (lv' := [(2, .int (0 : Int32)), (0, .ref a0), (1, .int a1)]) hx hb dX1_rootOf_1 rfl hl (by decide) rfl (fun ls hl => ?_)
  exact cl_X1_rootOf_2 hOK hF hKK hr hlocks k0 fuel (0 : Int32) _ _ _ hs hW hS (lv_sub hl [1, 2, 0] rfl)

set_option maxHeartbeats 4000000 in
set_option maxRecDepth 100000 in
theorem c_X1_roundOf (l : Launch) {G : va_G} {Λ : Lay} {μ : Mem} (hOK : LayOK Λ) {a0 : Nat} (k0 : inK Λ a0 1) {a1 : Int32} {r : Nat} (hs : sX1_roundOf Λ μ a0 a1 = some r) : CM l G Λ yX1_roundOf cX1_roundOf 2 (some (.object "FerryRounds$Row")) 2 μ [.ref a0, .int a1] (QR G Λ r 2 μ) := by
  refine ofM (own := RX1) (by decide +kernel) rfl (Nat.le_of_ble_eq_true rfl) (fun p e s m args below meth c ls hF hKK hW hr hlocks hl => ?_)
  have hx := hF.1
  have hb := hF.2.1
  have hA : ∀ q, inL Λ q → inL Λ q := fun _ h => h
  have hS : va_S (inL Λ) s.heap s.heap [] := va_S.rf
  have hl : lv_has ls 2 [(0, .ref a0), (1, .int a1)] := hl
  unfold sX1_roundOf at hs
  refine lv_aload_n hx hb dX1_roundOf_0 rfl (lv_at hl 0 rfl) ?_
  refine lv_aload_n hx hb dX1_roundOf_1 rfl (lv_at hl 0 rfl) ?_
  refine lv_iload_n hx hb dX1_roundOf_2 rfl (lv_at hl 1 rfl) ?_
  obtain ⟨q1, hq1, hs⟩ := obind_e hs
  refine end_i (run_V (q := (RX1, TX1, 7)) (ci := 1) hF hKK hW hS hl.1 k0 (by decide) rfl (c_X1_rootOf l hOK k0 hq1) (kw_X1_109 hF.2.2.2.2 ⟨Nat.le_of_ble_eq_true rfl, Nat.le_of_ble_eq_true rfl⟩) rfl rfl (Nat.le_of_ble_eq_true rfl) dX1_roundOf_3 ⟨Nat.zero_le _, Nat.zero_le _⟩) hS (fun H locs hW hS => ?_)
  obtain ⟨q2, hq2, hs⟩ := obind_e hs
  refine end_r (run_V (q := (RX1, TX1, 7)) (ci := 1) hF hKK hW hS hl.1 k0 (by decide) rfl (c_X1_roundAt l hOK k0 hq2) (kw_X1_34 hF.2.2.2.2 ⟨Nat.le_of_ble_eq_true rfl, Nat.le_of_ble_eq_true rfl⟩) rfl rfl (Nat.le_of_ble_eq_true rfl) dX1_roundOf_6 ⟨Nat.zero_le _, Nat.zero_le _⟩) hS (fun H locs kq2 hW hS => ?_)
  have h9 := Option.some.inj hs
  rw [← h9]
  exact wr_a hF hr hlocks kq2 hW hS dX1_roundOf_9

set_option maxHeartbeats 4000000 in
set_option maxRecDepth 100000 in
theorem c_X1_aboveOf (l : Launch) {G : va_G} {Λ : Lay} {μ : Mem} (hOK : LayOK Λ) {a0 : Nat} (k0 : inK Λ a0 1) {a1 : Int32} {r : Int32} (hs : sX1_aboveOf Λ μ a0 a1 = some r) : CM l G Λ yX1_aboveOf cX1_aboveOf 5 (some .int) 3 μ [.ref a0, .int a1] (QI G Λ r μ) := by
  refine ofM (own := RX1) (by decide +kernel) rfl (Nat.le_of_ble_eq_true rfl) (fun p e s m args below meth c ls hF hKK hW hr hlocks hl => ?_)
  have hx := hF.1
  have hb := hF.2.1
  have hA : ∀ q, inL Λ q → inL Λ q := fun _ h => h
  have hS : va_S (inL Λ) s.heap s.heap [] := va_S.rf
  have hl : lv_has ls 5 [(0, .ref a0), (1, .int a1)] := hl
  unfold sX1_aboveOf at hs
  refine lv_aload_n hx hb dX1_aboveOf_0 rfl (lv_at hl 0 rfl) ?_
  refine lv_iload_n hx hb dX1_aboveOf_1 rfl (lv_at hl 1 rfl) ?_
  obtain ⟨q1, hq1, hs⟩ := obind_e hs
  refine end_r (run_V (q := (RX1, TX1, 7)) (ci := 1) hF hKK hW hS hl.1 k0 (by decide) rfl (c_X1_roundOf l hOK k0 hq1) (kw_X1_87 hF.2.2.2.2 ⟨Nat.le_of_ble_eq_true rfl, Nat.le_of_ble_eq_true rfl⟩) rfl rfl (Nat.le_of_ble_eq_true rfl) dX1_aboveOf_2 ⟨Nat.zero_le _, Nat.zero_le _⟩) hS (fun H locs kq1 hW hS => ?_)
  refine lv_astore_n (lv' := [(2, .ref q1), (0, .ref a0), (1, .int a1)]) hx hb dX1_aboveOf_5 rfl hl (by decide) rfl (fun ls hl => ?_)
  refine lv_aload_n hx hb dX1_aboveOf_6 rfl (lv_at hl 0 rfl) ?_
  refine lv_iconst (v := (0 : Int32)) hx hb dX1_aboveOf_7 (by decide) ?_
  refine lv_aload_n hx hb dX1_aboveOf_8 rfl (lv_at hl 0 rfl) ?_
  refine lv_iload_n hx hb dX1_aboveOf_9 rfl (lv_at hl 2 rfl) ?_
  obtain ⟨q2, hq2, hs⟩ := obind_e hs
  refine end_i (run_V (q := (RX2, TX2, 2)) (ci := 2) hF hKK hW hS hl.1 kq1 (by decide) rfl (c_X2_firstOf l hOK kq1 hq2) (kw_X1_90 hF.2.2.2.2 ⟨Nat.le_of_ble_eq_true rfl, Nat.le_of_ble_eq_true rfl⟩) rfl rfl (Nat.le_of_ble_eq_true rfl) dX1_aboveOf_10 ⟨Nat.zero_le _, Nat.zero_le _⟩) hS (fun H locs hW hS => ?_)
  obtain ⟨q3, hq3, hs⟩ := obind_e hs
  refine end_i (run_V (q := (RX2, TX2, 2)) (ci := 2) hF hKK hW hS hl.1 kq1 (by decide) rfl (c_X2_setOf l hOK kq1 hq3) (kw_X1_118 hF.2.2.2.2 ⟨Nat.le_of_ble_eq_true rfl, Nat.le_of_ble_eq_true rfl⟩) rfl rfl (Nat.le_of_ble_eq_true rfl) dX1_aboveOf_13 ⟨Nat.zero_le _, Nat.zero_le _⟩) hS (fun H locs hW hS => ?_)
  refine lv_istore_n (lv' := [(3, .int q3), (2, .ref q1), (0, .ref a0), (1, .int a1)]) hx hb dX1_aboveOf_16 rfl hl (by decide) rfl (fun ls hl => ?_)
  refine lv_aload_n hx hb dX1_aboveOf_17 rfl (lv_at hl 1 rfl) ?_
  refine lv_aload_n hx hb dX1_aboveOf_18 rfl (lv_at hl 1 rfl) ?_
  refine lv_iload_n hx hb dX1_aboveOf_19 rfl (lv_at hl 3 rfl) ?_
  obtain ⟨q4, hq4, hs⟩ := obind_e hs
  refine end_i (run_V (q := (RX2, TX2, 2)) (ci := 2) hF hKK hW hS hl.1 kq1 (by decide) rfl (c_X2_lastOf l hOK kq1 hq4) (kw_X1_103 hF.2.2.2.2 ⟨Nat.le_of_ble_eq_true rfl, Nat.le_of_ble_eq_true rfl⟩) rfl rfl (Nat.le_of_ble_eq_true rfl) dX1_aboveOf_20 ⟨Nat.zero_le _, Nat.zero_le _⟩) hS (fun H locs hW hS => ?_)
  refine lv_aload_n hx hb dX1_aboveOf_23 rfl (lv_at hl 1 rfl) ?_
  obtain ⟨q5, hq5, hs⟩ := obind_e hs
  refine end_i (run_V (q := (RX2, TX2, 2)) (ci := 2) hF hKK hW hS hl.1 kq1 (by decide) rfl (c_X2_length l hOK kq1 hq5) (kw_X1_48 hF.2.2.2.2 ⟨Nat.le_of_ble_eq_true rfl, Nat.le_of_ble_eq_true rfl⟩) rfl rfl (Nat.le_of_ble_eq_true rfl) dX1_aboveOf_24 ⟨Nat.zero_le _, Nat.zero_le _⟩) hS (fun H locs hW hS => ?_)
  refine lv_iconst (v := (1 : Int32)) hx hb dX1_aboveOf_27 (by decide) ?_
  refine lv_isub hx hb dX1_aboveOf_28 ?_
  obtain ⟨q6, hq6, hs⟩ := obind_e hs
  refine end_i (run_V (q := (RX2, TX2, 2)) (ci := 2) hF hKK hW hS hl.1 kq1 (by decide) rfl (c_X2_setOf l hOK kq1 hq6) (kw_X1_118 hF.2.2.2.2 ⟨Nat.le_of_ble_eq_true rfl, Nat.le_of_ble_eq_true rfl⟩) rfl rfl (Nat.le_of_ble_eq_true rfl) dX1_aboveOf_29 ⟨Nat.zero_le _, Nat.zero_le _⟩) hS (fun H locs hW hS => ?_)
  refine lv_istore (lv' := [(4, .int q6), (3, .int q3), (2, .ref q1), (0, .ref a0), (1, .int a1)]) hx hb dX1_aboveOf_32 hl (by decide) rfl (fun ls hl => ?_)
  refine lv_iload_n hx hb dX1_aboveOf_34 rfl (lv_at hl 1 rfl) ?_
  refine lv_iload hx hb dX1_aboveOf_35 (lv_at hl 0 rfl) ?_
  refine lv_iand hx hb dX1_aboveOf_37 ?_
  have h9 := Option.some.inj hs
  rw [← h9]
  exact wr_i hF hr hlocks (vp_nar_int _) hW hS dX1_aboveOf_38

set_option maxHeartbeats 4000000 in
set_option maxRecDepth 100000 in
theorem c_X1_addBankOf (l : Launch) {G : va_G} {Λ : Lay} {μ : Mem} (hOK : LayOK Λ) {a0 : Nat} (k0 : inK Λ a0 1) {a1 : Int32} {r : (Int32 × Mem)} (hs : sX1_addBankOf Λ μ a0 a1 = some r) : CM l G Λ yX1_addBankOf cX1_addBankOf 3 (some .int) 1 μ [.ref a0, .int a1] (QI G Λ r.1 r.2) := by
  refine ofM (own := RX1) (by decide +kernel) rfl (Nat.le_of_ble_eq_true rfl) (fun p e s m args below meth c ls hF hKK hW hr hlocks hl => ?_)
  have hx := hF.1
  have hb := hF.2.1
  have hA : ∀ q, inL Λ q → inL Λ q := fun _ h => h
  have hS : va_S (inL Λ) s.heap s.heap [] := va_S.rf
  have hl : lv_has ls 3 [(0, .ref a0), (1, .int a1)] := hl
  unfold sX1_addBankOf at hs
  refine lv_aload_n hx hb dX1_addBankOf_0 rfl (lv_at hl 0 rfl) ?_
  refine gf_1_0 hF hKK hW k0 dX1_addBankOf_1 ?_
  obtain ⟨q1, hq1, hs⟩ := obind_e hs
  refine end_i (run_V (q := (RX2, TX2, 2)) (ci := 2) hF hKK hW hS hl.1 (lk_1_0 hOK k0) (by decide) rfl (c_X2_length l hOK (lk_1_0 hOK k0) hq1) (kw_X1_48 hF.2.2.2.2 ⟨Nat.le_of_ble_eq_true rfl, Nat.le_of_ble_eq_true rfl⟩) rfl rfl (Nat.le_of_ble_eq_true rfl) dX1_addBankOf_4 ⟨Nat.zero_le _, Nat.zero_le _⟩) hS (fun H locs hW hS => ?_)
  refine lv_istore_n (lv' := [(2, .int q1), (0, .ref a0), (1, .int a1)]) hx hb dX1_addBankOf_7 rfl hl (by decide) rfl (fun ls hl => ?_)
  refine lv_aload_n hx hb dX1_addBankOf_8 rfl (lv_at hl 1 rfl) ?_
  refine gf_1_0 hF hKK hW k0 dX1_addBankOf_9 ?_
  refine lv_iload_n hx hb dX1_addBankOf_12 rfl (lv_at hl 2 rfl) ?_
  obtain ⟨q2, hq2, hs⟩ := obind_e hs
  refine end_v (run_V (q := (RX2, TX2, 2)) (ci := 2) hF hKK hW hS hl.1 (lk_1_0 hOK k0) (by decide) rfl (c_X2_add l hOK (lk_1_0 hOK k0) hq2) (kw_X1_71 hF.2.2.2.2 ⟨Nat.le_of_ble_eq_true rfl, Nat.le_of_ble_eq_true rfl⟩) rfl rfl (Nat.le_of_ble_eq_true rfl) dX1_addBankOf_13 ⟨Nat.zero_le _, Nat.zero_le _⟩) hS (fun H locs hW hS => ?_)
  refine lv_aload_n hx hb dX1_addBankOf_16 rfl (lv_at hl 1 rfl) ?_
  refine gf_1_1 hF hKK hW k0 dX1_addBankOf_17 ?_
  refine lv_iconst (v := (0 : Int32)) hx hb dX1_addBankOf_20 (by decide) ?_
  obtain ⟨q3, hq3, hs⟩ := obind_e hs
  refine end_v (run_V (q := (RX2, TX2, 2)) (ci := 2) hF hKK hW hS hl.1 (lk_1_1 hOK k0) (by decide) rfl (c_X2_add l hOK (lk_1_1 hOK k0) hq3) (kw_X1_71 hF.2.2.2.2 ⟨Nat.le_of_ble_eq_true rfl, Nat.le_of_ble_eq_true rfl⟩) rfl rfl (Nat.le_of_ble_eq_true rfl) dX1_addBankOf_21 ⟨Nat.zero_le _, Nat.zero_le _⟩) hS (fun H locs hW hS => ?_)
  refine lv_aload_n hx hb dX1_addBankOf_24 rfl (lv_at hl 1 rfl) ?_
  refine lv_iload_n hx hb dX1_addBankOf_25 rfl (lv_at hl 0 rfl) ?_
  obtain ⟨q4, hq4, hs⟩ := obind_e hs
  refine end_r (run_V (q := (RX1, TX1, 7)) (ci := 1) hF hKK hW hS hl.1 k0 (by decide) rfl (c_X1_roundAt l hOK k0 hq4) (kw_X1_34 hF.2.2.2.2 ⟨Nat.le_of_ble_eq_true rfl, Nat.le_of_ble_eq_true rfl⟩) rfl rfl (Nat.le_of_ble_eq_true rfl) dX1_addBankOf_26 ⟨Nat.zero_le _, Nat.zero_le _⟩) hS (fun H locs kq4 hW hS => ?_)
  refine lv_iload_n hx hb dX1_addBankOf_29 rfl (lv_at hl 0 rfl) ?_
  obtain ⟨q5, hq5, hs⟩ := obind_e hs
  refine end_v (run_V (q := (RX2, TX2, 2)) (ci := 2) hF hKK hW hS hl.1 kq4 (by decide) rfl (c_X2_add l hOK kq4 hq5) (kw_X1_71 hF.2.2.2.2 ⟨Nat.le_of_ble_eq_true rfl, Nat.le_of_ble_eq_true rfl⟩) rfl rfl (Nat.le_of_ble_eq_true rfl) dX1_addBankOf_30 ⟨Nat.zero_le _, Nat.zero_le _⟩) hS (fun H locs hW hS => ?_)
  refine lv_iload_n hx hb dX1_addBankOf_33 rfl (lv_at hl 0 rfl) ?_
  have h9 := Option.some.inj hs
  rw [← h9]
  exact wr_i hF hr hlocks (vp_nar_int _) hW hS dX1_addBankOf_34

set_option maxHeartbeats 4000000 in
set_option maxRecDepth 100000 in
theorem c_X1_allBanks (l : Launch) {G : va_G} {Λ : Lay} {μ : Mem} (hOK : LayOK Λ) {a0 : Nat} (k0 : inK Λ a0 1) {r : Int32} (hs : sX1_allBanks Λ μ a0 = some r) : CM l G Λ yX1_allBanks cX1_allBanks 1 (some .int) 1 μ [.ref a0] (QI G Λ r μ) := by
  refine ofM (own := RX1) (by decide +kernel) rfl (Nat.le_of_ble_eq_true rfl) (fun p e s m args below meth c ls hF hKK hW hr hlocks hl => ?_)
  have hx := hF.1
  have hb := hF.2.1
  have hA : ∀ q, inL Λ q → inL Λ q := fun _ h => h
  have hS : va_S (inL Λ) s.heap s.heap [] := va_S.rf
  have hl : lv_has ls 1 [(0, .ref a0)] := hl
  unfold sX1_allBanks at hs
  refine lv_iconst (v := (1 : Int32)) hx hb dX1_allBanks_0 (by decide) ?_
  refine lv_aload_n hx hb dX1_allBanks_1 rfl (lv_at hl 0 rfl) ?_
  refine gf_1_0 hF hKK hW k0 dX1_allBanks_2 ?_
  obtain ⟨q1, hq1, hs⟩ := obind_e hs
  refine end_i (run_V (q := (RX2, TX2, 2)) (ci := 2) hF hKK hW hS hl.1 (lk_1_0 hOK k0) (by decide) rfl (c_X2_length l hOK (lk_1_0 hOK k0) hq1) (kw_X1_48 hF.2.2.2.2 ⟨Nat.le_of_ble_eq_true rfl, Nat.le_of_ble_eq_true rfl⟩) rfl rfl (Nat.le_of_ble_eq_true rfl) dX1_allBanks_5 ⟨Nat.zero_le _, Nat.zero_le _⟩) hS (fun H locs hW hS => ?_)
  refine lv_ishl hx hb dX1_allBanks_8 ?_
  refine lv_iconst (v := (1 : Int32)) hx hb dX1_allBanks_9 (by decide) ?_
  refine lv_isub hx hb dX1_allBanks_10 ?_
  have h9 := Option.some.inj hs
  rw [← h9]
  exact wr_i hF hr hlocks (vp_nar_int _) hW hS dX1_allBanks_11

set_option maxHeartbeats 4000000 in
set_option maxRecDepth 100000 in
theorem c_X1_banks (l : Launch) {G : va_G} {Λ : Lay} {μ : Mem} (hOK : LayOK Λ) {a0 : Nat} (k0 : inK Λ a0 1) {r : Int32} (hs : sX1_banks Λ μ a0 = some r) : CM l G Λ yX1_banks cX1_banks 1 (some .int) 1 μ [.ref a0] (QI G Λ r μ) := by
  refine ofM (own := RX1) (by decide +kernel) rfl (Nat.le_of_ble_eq_true rfl) (fun p e s m args below meth c ls hF hKK hW hr hlocks hl => ?_)
  have hx := hF.1
  have hb := hF.2.1
  have hA : ∀ q, inL Λ q → inL Λ q := fun _ h => h
  have hS : va_S (inL Λ) s.heap s.heap [] := va_S.rf
  have hl : lv_has ls 1 [(0, .ref a0)] := hl
  unfold sX1_banks at hs
  refine lv_aload_n hx hb dX1_banks_0 rfl (lv_at hl 0 rfl) ?_
  refine gf_1_0 hF hKK hW k0 dX1_banks_1 ?_
  obtain ⟨q1, hq1, hs⟩ := obind_e hs
  refine end_i (run_V (q := (RX2, TX2, 2)) (ci := 2) hF hKK hW hS hl.1 (lk_1_0 hOK k0) (by decide) rfl (c_X2_length l hOK (lk_1_0 hOK k0) hq1) (kw_X1_48 hF.2.2.2.2 ⟨Nat.le_of_ble_eq_true rfl, Nat.le_of_ble_eq_true rfl⟩) rfl rfl (Nat.le_of_ble_eq_true rfl) dX1_banks_4 ⟨Nat.zero_le _, Nat.zero_le _⟩) hS (fun H locs hW hS => ?_)
  have h9 := Option.some.inj hs
  rw [← h9]
  exact wr_i hF hr hlocks (vp_nar_int _) hW hS dX1_banks_7

set_option maxHeartbeats 4000000 in
set_option maxRecDepth 100000 in
theorem c_X1_banksWith (l : Launch) {G : va_G} {Λ : Lay} {μ : Mem} (hOK : LayOK Λ) {a0 : Nat} (k0 : inK Λ a0 1) {a1 : Int32} {r : Int32} (hs : sX1_banksWith Λ μ a0 a1 = some r) : CM l G Λ yX1_banksWith cX1_banksWith 2 (some .int) 3 μ [.ref a0, .int a1] (QI G Λ r μ) := by
  refine ofM (own := RX1) (by decide +kernel) rfl (Nat.le_of_ble_eq_true rfl) (fun p e s m args below meth c ls hF hKK hW hr hlocks hl => ?_)
  have hx := hF.1
  have hb := hF.2.1
  have hA : ∀ q, inL Λ q → inL Λ q := fun _ h => h
  have hS : va_S (inL Λ) s.heap s.heap [] := va_S.rf
  have hl : lv_has ls 2 [(0, .ref a0), (1, .int a1)] := hl
  unfold sX1_banksWith at hs
  refine lv_aload_n hx hb dX1_banksWith_0 rfl (lv_at hl 0 rfl) ?_
  refine lv_iload_n hx hb dX1_banksWith_1 rfl (lv_at hl 1 rfl) ?_
  obtain ⟨q1, hq1, hs⟩ := obind_e hs
  refine end_r (run_V (q := (RX1, TX1, 7)) (ci := 1) hF hKK hW hS hl.1 k0 (by decide) rfl (c_X1_roundOf l hOK k0 hq1) (kw_X1_87 hF.2.2.2.2 ⟨Nat.le_of_ble_eq_true rfl, Nat.le_of_ble_eq_true rfl⟩) rfl rfl (Nat.le_of_ble_eq_true rfl) dX1_banksWith_2 ⟨Nat.zero_le _, Nat.zero_le _⟩) hS (fun H locs kq1 hW hS => ?_)
  obtain ⟨q2, hq2, hs⟩ := obind_e hs
  refine end_i (run_V (q := (RX2, TX2, 2)) (ci := 2) hF hKK hW hS hl.1 kq1 (by decide) rfl (c_X2_setOfAll l hOK kq1 hq2) (kw_X1_115 hF.2.2.2.2 ⟨Nat.le_of_ble_eq_true rfl, Nat.le_of_ble_eq_true rfl⟩) rfl rfl (Nat.le_of_ble_eq_true rfl) dX1_banksWith_5 ⟨Nat.zero_le _, Nat.zero_le _⟩) hS (fun H locs hW hS => ?_)
  have h9 := Option.some.inj hs
  rw [← h9]
  exact wr_i hF hr hlocks (vp_nar_int _) hW hS dX1_banksWith_8

set_option maxHeartbeats 4000000 in
set_option maxRecDepth 100000 in
theorem c_X1_belowOf (l : Launch) {G : va_G} {Λ : Lay} {μ : Mem} (hOK : LayOK Λ) {a0 : Nat} (k0 : inK Λ a0 1) {a1 : Int32} {r : Int32} (hs : sX1_belowOf Λ μ a0 a1 = some r) : CM l G Λ yX1_belowOf cX1_belowOf 3 (some .int) 3 μ [.ref a0, .int a1] (QI G Λ r μ) := by
  refine ofM (own := RX1) (by decide +kernel) rfl (Nat.le_of_ble_eq_true rfl) (fun p e s m args below meth c ls hF hKK hW hr hlocks hl => ?_)
  have hx := hF.1
  have hb := hF.2.1
  have hA : ∀ q, inL Λ q → inL Λ q := fun _ h => h
  have hS : va_S (inL Λ) s.heap s.heap [] := va_S.rf
  have hl : lv_has ls 3 [(0, .ref a0), (1, .int a1)] := hl
  unfold sX1_belowOf at hs
  refine lv_aload_n hx hb dX1_belowOf_0 rfl (lv_at hl 0 rfl) ?_
  refine lv_iload_n hx hb dX1_belowOf_1 rfl (lv_at hl 1 rfl) ?_
  obtain ⟨q1, hq1, hs⟩ := obind_e hs
  refine end_r (run_V (q := (RX1, TX1, 7)) (ci := 1) hF hKK hW hS hl.1 k0 (by decide) rfl (c_X1_roundOf l hOK k0 hq1) (kw_X1_87 hF.2.2.2.2 ⟨Nat.le_of_ble_eq_true rfl, Nat.le_of_ble_eq_true rfl⟩) rfl rfl (Nat.le_of_ble_eq_true rfl) dX1_belowOf_2 ⟨Nat.zero_le _, Nat.zero_le _⟩) hS (fun H locs kq1 hW hS => ?_)
  refine lv_astore_n (lv' := [(2, .ref q1), (0, .ref a0), (1, .int a1)]) hx hb dX1_belowOf_5 rfl hl (by decide) rfl (fun ls hl => ?_)
  refine lv_aload_n hx hb dX1_belowOf_6 rfl (lv_at hl 0 rfl) ?_
  refine lv_aload_n hx hb dX1_belowOf_7 rfl (lv_at hl 0 rfl) ?_
  refine lv_iload_n hx hb dX1_belowOf_8 rfl (lv_at hl 2 rfl) ?_
  obtain ⟨q2, hq2, hs⟩ := obind_e hs
  refine end_i (run_V (q := (RX2, TX2, 2)) (ci := 2) hF hKK hW hS hl.1 kq1 (by decide) rfl (c_X2_firstOf l hOK kq1 hq2) (kw_X1_90 hF.2.2.2.2 ⟨Nat.le_of_ble_eq_true rfl, Nat.le_of_ble_eq_true rfl⟩) rfl rfl (Nat.le_of_ble_eq_true rfl) dX1_belowOf_9 ⟨Nat.zero_le _, Nat.zero_le _⟩) hS (fun H locs hW hS => ?_)
  refine lv_aload_n hx hb dX1_belowOf_12 rfl (lv_at hl 0 rfl) ?_
  refine lv_iload_n hx hb dX1_belowOf_13 rfl (lv_at hl 2 rfl) ?_
  obtain ⟨q3, hq3, hs⟩ := obind_e hs
  refine end_i (run_V (q := (RX2, TX2, 2)) (ci := 2) hF hKK hW hS hl.1 kq1 (by decide) rfl (c_X2_lastOf l hOK kq1 hq3) (kw_X1_103 hF.2.2.2.2 ⟨Nat.le_of_ble_eq_true rfl, Nat.le_of_ble_eq_true rfl⟩) rfl rfl (Nat.le_of_ble_eq_true rfl) dX1_belowOf_14 ⟨Nat.zero_le _, Nat.zero_le _⟩) hS (fun H locs hW hS => ?_)
  obtain ⟨q4, hq4, hs⟩ := obind_e hs
  refine end_i (run_V (q := (RX2, TX2, 2)) (ci := 2) hF hKK hW hS hl.1 kq1 (by decide) rfl (c_X2_setOf l hOK kq1 hq4) (kw_X1_118 hF.2.2.2.2 ⟨Nat.le_of_ble_eq_true rfl, Nat.le_of_ble_eq_true rfl⟩) rfl rfl (Nat.le_of_ble_eq_true rfl) dX1_belowOf_17 ⟨Nat.zero_le _, Nat.zero_le _⟩) hS (fun H locs hW hS => ?_)
  have h9 := Option.some.inj hs
  rw [← h9]
  exact wr_i hF hr hlocks (vp_nar_int _) hW hS dX1_belowOf_20

set_option maxHeartbeats 4000000 in
set_option maxRecDepth 100000 in
theorem c_X1_countTurn (l : Launch) {G : va_G} {Λ : Lay} {μ : Mem} (hOK : LayOK Λ) {a0 : Nat} (k0 : inK Λ a0 1) {r : Mem} (hs : sX1_countTurn Λ μ a0 = some r) : CM l G Λ yX1_countTurn cX1_countTurn 1 none 0 μ [.ref a0] (QV G Λ r) := by
  refine ofM (own := RX1) (by decide +kernel) rfl (Nat.le_of_ble_eq_true rfl) (fun p e s m args below meth c ls hF hKK hW hr hlocks hl => ?_)
  have hx := hF.1
  have hb := hF.2.1
  have hA : ∀ q, inL Λ q → inL Λ q := fun _ h => h
  have hS : va_S (inL Λ) s.heap s.heap [] := va_S.rf
  have hl : lv_has ls 1 [(0, .ref a0)] := hl
  unfold sX1_countTurn at hs
  refine lv_aload_n hx hb dX1_countTurn_0 rfl (lv_at hl 0 rfl) ?_
  refine lv_dup hx hb dX1_countTurn_1 rfl ?_
  refine gf_1_6 hF hKK hW k0 dX1_countTurn_2 ?_
  refine lv_iconst (v := (1 : Int32)) hx hb dX1_countTurn_5 (by decide) ?_
  refine lv_iadd hx hb dX1_countTurn_6 ?_
  obtain ⟨μ1, eμ1, hs⟩ := bnd_e hs
  refine pf_1_6 hOK hF hKK hW hS hA k0 eμ1 dX1_countTurn_7 (fun H locs hW hS => ?_)
  have h9 := Option.some.inj hs
  rw [← h9]
  exact wr_v hF hr hlocks hW hS dX1_countTurn_10

set_option maxHeartbeats 4000000 in
set_option maxRecDepth 100000 in
theorem c_X1_cutsSoFar (l : Launch) {G : va_G} {Λ : Lay} {μ : Mem} (hOK : LayOK Λ) {a0 : Nat} (k0 : inK Λ a0 1) {r : Int32} (hs : sX1_cutsSoFar Λ μ a0 = some r) : CM l G Λ yX1_cutsSoFar cX1_cutsSoFar 1 (some .int) 0 μ [.ref a0] (QI G Λ r μ) := by
  refine ofM (own := RX1) (by decide +kernel) rfl (Nat.le_of_ble_eq_true rfl) (fun p e s m args below meth c ls hF hKK hW hr hlocks hl => ?_)
  have hx := hF.1
  have hb := hF.2.1
  have hA : ∀ q, inL Λ q → inL Λ q := fun _ h => h
  have hS : va_S (inL Λ) s.heap s.heap [] := va_S.rf
  have hl : lv_has ls 1 [(0, .ref a0)] := hl
  unfold sX1_cutsSoFar at hs
  refine lv_aload_n hx hb dX1_cutsSoFar_0 rfl (lv_at hl 0 rfl) ?_
  refine gf_1_5 hF hKK hW k0 dX1_cutsSoFar_1 ?_
  have h9 := Option.some.inj hs
  rw [← h9]
  exact wr_i hF hr hlocks (vp_nar_int _) hW hS dX1_cutsSoFar_4

set_option maxHeartbeats 4000000 in
set_option maxRecDepth 100000 in
theorem c_X1_depthOf (l : Launch) {G : va_G} {Λ : Lay} {μ : Mem} (hOK : LayOK Λ) {a0 : Nat} (k0 : inK Λ a0 1) {a1 : Int32} {r : Int32} (hs : sX1_depthOf Λ μ a0 a1 = some r) : CM l G Λ yX1_depthOf cX1_depthOf 2 (some .int) 4 μ [.ref a0, .int a1] (QI G Λ r μ) := by
  refine ofM (own := RX1) (by decide +kernel) rfl (Nat.le_of_ble_eq_true rfl) (fun p e s m args below meth c ls hF hKK hW hr hlocks hl => ?_)
  have hx := hF.1
  have hb := hF.2.1
  have hA : ∀ q, inL Λ q → inL Λ q := fun _ h => h
  have hS : va_S (inL Λ) s.heap s.heap [] := va_S.rf
  have hl : lv_has ls 2 [(0, .ref a0), (1, .int a1)] := hl
  unfold sX1_depthOf at hs
  refine lv_aload_n hx hb dX1_depthOf_0 rfl (lv_at hl 0 rfl) ?_
  refine lv_iload_n hx hb dX1_depthOf_1 rfl (lv_at hl 1 rfl) ?_
  obtain ⟨q1, hq1, hs⟩ := obind_e hs
  refine end_i (run_V (q := (RX1, TX1, 7)) (ci := 1) hF hKK hW hS hl.1 k0 (by decide) rfl (c_X1_aboveOf l hOK k0 hq1) (kw_X1_121 hF.2.2.2.2 ⟨Nat.le_of_ble_eq_true rfl, Nat.le_of_ble_eq_true rfl⟩) rfl rfl (Nat.le_of_ble_eq_true rfl) dX1_depthOf_2 ⟨Nat.zero_le _, Nat.zero_le _⟩) hS (fun H locs hW hS => ?_)
  obtain ⟨q2, hq2, hs⟩ := obind_e hs
  refine end_i (run_S hF hKK hW hS hl.1 (c_J6_bitCount_0f7a4 l hOK  hq2) (kw_X1_66 hF.2.2.2.2 ⟨Nat.le_of_ble_eq_true rfl, Nat.le_of_ble_eq_true rfl⟩) rfl rfl (Nat.le_of_ble_eq_true rfl) dX1_depthOf_5 ⟨Nat.zero_le _, Nat.zero_le _⟩) hS (fun H locs hW hS => ?_)
  refine lv_iconst (v := (1 : Int32)) hx hb dX1_depthOf_8 (by decide) ?_
  refine lv_isub hx hb dX1_depthOf_9 ?_
  have h9 := Option.some.inj hs
  rw [← h9]
  exact wr_i hF hr hlocks (vp_nar_int _) hW hS dX1_depthOf_10

set_option maxHeartbeats 4000000 in
set_option maxRecDepth 100000 in
theorem cl_X1_greatestDepth_4 {p : Program} {l : Launch} {e : Env} {s : State} {m : MethodId} {args : Array Value} {below : List Frame} {meth : Method} {c : Code} {G : va_G} {Λ : Lay} {μ : Mem} {r : Int32} (hOK : LayOK Λ) (hF : CallFix p m c cX1_greatestDepth 4 s args tw RX1) (hKK : KK G Λ s) (hr : meth.sig.returnType = (some .int)) (hlocks : meth.locks = false) {x0 : Nat} (kx0 : inK Λ x0 1) {x1 : Int32} : ∀ (n : Nat) (x2 : Int32) (x3 : Int32) (H : Heap) (locs : List Loc) (ls : Array Slot), lpX1_greatestDepth_4 Λ μ x0 x1 n x2 x3 = some r → Wd G Λ μ H → va_S (inL Λ) s.heap H locs → lv_has ls 4 [(0, .ref x0), (1, .int x1), (2, .int x2), (3, .int x3)] → W p l e (rmd 5) s m args below meth c H locs 0 0 (MQ below (QI G Λ r μ) args s 0 0 (inL Λ)) (F0 m 4 ls []) := by
  have hx := hF.1
  have hb := hF.2.1
  have hA : ∀ q, inL Λ q → inL Λ q := fun _ h => h
  intro n
  induction n with
  | zero =>
    intro x2 x3 H locs ls hs hW hS hl
    cases hs
  | succ n4 ih4 =>
    intro x2 x3 H locs ls hs hW hS hl
    rw [lpX1_greatestDepth_4_s] at hs
    refine lv_iload_n hx hb dX1_greatestDepth_4 rfl (lv_at hl 3 rfl) ?_
    refine lv_aload_n hx hb dX1_greatestDepth_5 rfl (lv_at hl 0 rfl) ?_
    refine gf_1_0 hF hKK hW kx0 dX1_greatestDepth_6 ?_
    obtain ⟨q1, hq1, hs⟩ := obind_e hs
    refine end_i (run_V (q := (RX2, TX2, 2)) (ci := 2) hF hKK hW hS hl.1 (lk_1_0 hOK kx0) (by decide) rfl (c_X2_length l hOK (lk_1_0 hOK kx0) hq1) (kw_X1_48 hF.2.2.2.2 ⟨Nat.le_of_ble_eq_true rfl, Nat.le_of_ble_eq_true rfl⟩) rfl rfl (Nat.le_of_ble_eq_true rfl) dX1_greatestDepth_9 ⟨Nat.zero_le _, Nat.zero_le _⟩) hS (fun H locs hW hS => ?_)
    refine lv_icmp_ge (tgt := 40) hx hb dX1_greatestDepth_12 (by decide) (fun c2 => ?_) (fun c2 => ?_)
    · have hs := ite_t hs c2
      refine lv_iload_n hx hb dX1_greatestDepth_40 rfl (lv_at hl 2 rfl) ?_
      have h9 := Option.some.inj hs
      rw [← h9]
      exact wr_i hF hr hlocks (vp_nar_int _) hW hS dX1_greatestDepth_41
    · have hs := ite_f hs c2
      refine lv_iload_n hx hb dX1_greatestDepth_15 rfl (lv_at hl 1 rfl) ?_
      refine lv_iload_n hx hb dX1_greatestDepth_16 rfl (lv_at hl 3 rfl) ?_
      obtain ⟨q3, hq3, hs⟩ := obind_e hs
      refine end_i (run_N hF hKK hW hS hl.1 (c_X4_bit l hOK  hq3) (kw_X1_56 hKK.2.1.2.1 hF.2.2.2.2 ⟨Nat.le_of_ble_eq_true rfl, Nat.le_of_ble_eq_true rfl⟩) rfl rfl (Nat.le_of_ble_eq_true rfl) dX1_greatestDepth_17 ⟨Nat.zero_le _, Nat.zero_le _⟩) hS (fun H locs hW hS => ?_)
      refine lv_iand hx hb dX1_greatestDepth_20 ?_
      refine lv_if_eq (tgt := 34) hx hb dX1_greatestDepth_21 (by decide) (fun c4 => ?_) (fun c4 => ?_)
      · have hs := ite_t hs c4
        obtain ⟨v5, ev5, hs⟩ := bnd_e hs
        refine lv_iinc (v := v5) (lv' := [(3, .int v5), (0, .ref x0), (1, .int x1), (2, .int x2)]) hx hb dX1_greatestDepth_34 hl (k := 3) rfl (by rw [ev5]; rfl) (by decide) rfl (fun ls hl => ?_)
        refine lv_goto (tgt := 4) hx hb dX1_greatestDepth_37 (by decide) ?_
        exact ih4 x2 v5 _ _ _ hs hW hS (lv_sub hl [1, 2, 3, 0] rfl)
      · have hs := ite_f hs c4
        refine lv_iload_n hx hb dX1_greatestDepth_24 rfl (lv_at hl 2 rfl) ?_
        refine lv_aload_n hx hb dX1_greatestDepth_25 rfl (lv_at hl 0 rfl) ?_
        refine lv_iload_n hx hb dX1_greatestDepth_26 rfl (lv_at hl 3 rfl) ?_
        obtain ⟨q6, hq6, hs⟩ := obind_e hs
        refine end_i (run_V (q := (RX1, TX1, 7)) (ci := 1) hF hKK hW hS hl.1 kx0 (by decide) rfl (c_X1_depthOf l hOK kx0 hq6) (kw_X1_127 hF.2.2.2.2 ⟨Nat.le_of_ble_eq_true rfl, Nat.le_of_ble_eq_true rfl⟩) rfl rfl (Nat.le_of_ble_eq_true rfl) dX1_greatestDepth_27 ⟨Nat.zero_le _, Nat.zero_le _⟩) hS (fun H locs hW hS => ?_)
        refine va_mmax hx hb (hF.2.2.1.trans hl.1.symm) hF.2.2.2.1 (hF.2.2.2.2 _ wd_359) (hF.2.2.2.2 _ wd_360) (hF.2.2.2.2 _ wd_22) (hF.2.2.2.2 _ wd_361) (Nat.le_of_ble_eq_true rfl) (Nat.le_of_ble_eq_true rfl) (Nat.zero_le _) (Nat.zero_le _) dX1_greatestDepth_30 ?_
        obtain ⟨v7, ev7, hs⟩ := bnd_e hs
        refine top_i ev7 ?_
        refine lv_istore_n (lv' := [(2, .int v7), (0, .ref x0), (1, .int x1), (3, .int x3)]) hx hb dX1_greatestDepth_33 rfl hl (by decide) rfl (fun ls hl => ?_)
        obtain ⟨v8, ev8, hs⟩ := bnd_e hs
        refine lv_iinc (v := v8) (lv' := [(3, .int v8), (2, .int v7), (0, .ref x0), (1, .int x1)]) hx hb dX1_greatestDepth_34 hl (k := 3) rfl (by rw [ev8]; rfl) (by decide) rfl (fun ls hl => ?_)
        refine lv_goto (tgt := 4) hx hb dX1_greatestDepth_37 (by decide) ?_
        exact ih4 v7 v8 _ _ _ hs hW hS (lv_sub hl [2, 3, 1, 0] rfl)

set_option maxHeartbeats 4000000 in
set_option maxRecDepth 100000 in
theorem c_X1_greatestDepth (l : Launch) {G : va_G} {Λ : Lay} {μ : Mem} (hOK : LayOK Λ) {a0 : Nat} (k0 : inK Λ a0 1) {a1 : Int32} {r : Int32} (hs : sX1_greatestDepth Λ μ a0 a1 = some r) : CM l G Λ yX1_greatestDepth cX1_greatestDepth 4 (some .int) 5 μ [.ref a0, .int a1] (QI G Λ r μ) := by
  refine ofM (own := RX1) (by decide +kernel) rfl (Nat.le_of_ble_eq_true rfl) (fun p e s m args below meth c ls hF hKK hW hr hlocks hl => ?_)
  have hx := hF.1
  have hb := hF.2.1
  have hA : ∀ q, inL Λ q → inL Λ q := fun _ h => h
  have hS : va_S (inL Λ) s.heap s.heap [] := va_S.rf
  have hl : lv_has ls 4 [(0, .ref a0), (1, .int a1)] := hl
  unfold sX1_greatestDepth at hs
  refine lv_iconst (v := (0 : Int32)) hx hb dX1_greatestDepth_0 (by decide) ?_
  refine lv_istore_n (lv' := [(2, .int (0 : Int32)), (0, .ref a0), (1, .int a1)]) hx hb dX1_greatestDepth_1 rfl hl (by decide) rfl (fun ls hl => ?_)
  refine lv_iconst (v := (0 : Int32)) hx hb dX1_greatestDepth_2 (by decide) ?_
  refine lv_istore_n (lv' := [(3, .int (0 : Int32)), (2, .int (0 : Int32)), (0, .ref a0), (1, .int a1)]) hx hb dX1_greatestDepth_3 rfl hl (by decide) rfl (fun ls hl => ?_)
  exact cl_X1_greatestDepth_4 hOK hF hKK hr hlocks k0 fuel (0 : Int32) (0 : Int32) _ _ _ hs hW hS (lv_sub hl [2, 3, 1, 0] rfl)

set_option maxHeartbeats 4000000 in
set_option maxRecDepth 100000 in
theorem c_X1_has (l : Launch) {G : va_G} {Λ : Lay} {μ : Mem} (hOK : LayOK Λ) {a0 : Nat} (k0 : inK Λ a0 1) {a1 : Int32} {r : Int32} (hs : sX1_has Λ μ a0 a1 = some r) : CM l G Λ yX1_has cX1_has 2 (some .boolean) 1 μ [.ref a0, .int a1] (QI G Λ r μ) := by
  refine ofM (own := RX1) (by decide +kernel) rfl (Nat.le_of_ble_eq_true rfl) (fun p e s m args below meth c ls hF hKK hW hr hlocks hl => ?_)
  have hx := hF.1
  have hb := hF.2.1
  have hA : ∀ q, inL Λ q → inL Λ q := fun _ h => h
  have hS : va_S (inL Λ) s.heap s.heap [] := va_S.rf
  have hl : lv_has ls 2 [(0, .ref a0), (1, .int a1)] := hl
  unfold sX1_has at hs
  refine lv_iload_n hx hb dX1_has_0 rfl (lv_at hl 1 rfl) ?_
  refine lv_if_lt (tgt := 19) hx hb dX1_has_1 (by decide) (fun c1 => ?_) (fun c1 => ?_)
  · have hs := ite_t hs c1
    refine lv_iconst (v := (0 : Int32)) hx hb dX1_has_19 (by decide) ?_
    have h9 := Option.some.inj hs
    rw [← h9]
    exact wr_i hF hr hlocks (isB_nar (Or.inl rfl)) hW hS dX1_has_20
  · have hs := ite_f hs c1
    refine lv_iload_n hx hb dX1_has_4 rfl (lv_at hl 1 rfl) ?_
    refine lv_aload_n hx hb dX1_has_5 rfl (lv_at hl 0 rfl) ?_
    refine gf_1_0 hF hKK hW k0 dX1_has_6 ?_
    obtain ⟨q2, hq2, hs⟩ := obind_e hs
    refine end_i (run_V (q := (RX2, TX2, 2)) (ci := 2) hF hKK hW hS hl.1 (lk_1_0 hOK k0) (by decide) rfl (c_X2_length l hOK (lk_1_0 hOK k0) hq2) (kw_X1_48 hF.2.2.2.2 ⟨Nat.le_of_ble_eq_true rfl, Nat.le_of_ble_eq_true rfl⟩) rfl rfl (Nat.le_of_ble_eq_true rfl) dX1_has_9 ⟨Nat.zero_le _, Nat.zero_le _⟩) hS (fun H locs hW hS => ?_)
    refine lv_icmp_ge (tgt := 19) hx hb dX1_has_12 (by decide) (fun c3 => ?_) (fun c3 => ?_)
    · have hs := ite_t hs c3
      refine lv_iconst (v := (0 : Int32)) hx hb dX1_has_19 (by decide) ?_
      have h9 := Option.some.inj hs
      rw [← h9]
      exact wr_i hF hr hlocks (isB_nar (Or.inl rfl)) hW hS dX1_has_20
    · have hs := ite_f hs c3
      refine lv_iconst (v := (1 : Int32)) hx hb dX1_has_15 (by decide) ?_
      refine lv_goto (tgt := 20) hx hb dX1_has_16 (by decide) ?_
      have h9 := Option.some.inj hs
      rw [← h9]
      exact wr_i hF hr hlocks (isB_nar (Or.inr rfl)) hW hS dX1_has_20

set_option maxHeartbeats 4000000 in
set_option maxRecDepth 100000 in
theorem c_X1_ropesOf (l : Launch) {G : va_G} {Λ : Lay} {μ : Mem} (hOK : LayOK Λ) {a0 : Nat} (k0 : inK Λ a0 1) {a1 : Int32} {r : Int32} (hs : sX1_ropesOf Λ μ a0 a1 = some r) : CM l G Λ yX1_ropesOf cX1_ropesOf 2 (some .int) 2 μ [.ref a0, .int a1] (QI G Λ r μ) := by
  refine ofM (own := RX1) (by decide +kernel) rfl (Nat.le_of_ble_eq_true rfl) (fun p e s m args below meth c ls hF hKK hW hr hlocks hl => ?_)
  have hx := hF.1
  have hb := hF.2.1
  have hA : ∀ q, inL Λ q → inL Λ q := fun _ h => h
  have hS : va_S (inL Λ) s.heap s.heap [] := va_S.rf
  have hl : lv_has ls 2 [(0, .ref a0), (1, .int a1)] := hl
  unfold sX1_ropesOf at hs
  refine lv_aload_n hx hb dX1_ropesOf_0 rfl (lv_at hl 0 rfl) ?_
  refine lv_iload_n hx hb dX1_ropesOf_1 rfl (lv_at hl 1 rfl) ?_
  obtain ⟨q1, hq1, hs⟩ := obind_e hs
  refine end_i (run_V (q := (RX1, TX1, 7)) (ci := 1) hF hKK hW hS hl.1 k0 (by decide) rfl (c_X1_has l hOK k0 hq1) (kw_X1_59 hF.2.2.2.2 ⟨Nat.le_of_ble_eq_true rfl, Nat.le_of_ble_eq_true rfl⟩) rfl rfl (Nat.le_of_ble_eq_true rfl) dX1_ropesOf_2 ⟨Nat.zero_le _, Nat.zero_le _⟩) hS (fun H locs hW hS => ?_)
  refine lv_if_eq (tgt := 19) hx hb dX1_ropesOf_5 (by decide) (fun c2 => ?_) (fun c2 => ?_)
  · have hs := ite_t hs c2
    refine lv_iconst (v := (0 : Int32)) hx hb dX1_ropesOf_19 (by decide) ?_
    have h9 := Option.some.inj hs
    rw [← h9]
    exact wr_i hF hr hlocks (vp_nar_int _) hW hS dX1_ropesOf_20
  · have hs := ite_f hs c2
    refine lv_aload_n hx hb dX1_ropesOf_8 rfl (lv_at hl 0 rfl) ?_
    refine gf_1_1 hF hKK hW k0 dX1_ropesOf_9 ?_
    refine lv_iload_n hx hb dX1_ropesOf_12 rfl (lv_at hl 1 rfl) ?_
    obtain ⟨q3, hq3, hs⟩ := obind_e hs
    refine end_i (run_V (q := (RX2, TX2, 2)) (ci := 2) hF hKK hW hS hl.1 (lk_1_1 hOK k0) (by decide) rfl (c_X2_get l hOK (lk_1_1 hOK k0) hq3) (kw_X1_52 hF.2.2.2.2 ⟨Nat.le_of_ble_eq_true rfl, Nat.le_of_ble_eq_true rfl⟩) rfl rfl (Nat.le_of_ble_eq_true rfl) dX1_ropesOf_13 ⟨Nat.zero_le _, Nat.zero_le _⟩) hS (fun H locs hW hS => ?_)
    refine lv_goto (tgt := 20) hx hb dX1_ropesOf_16 (by decide) ?_
    have h9 := Option.some.inj hs
    rw [← h9]
    exact wr_i hF hr hlocks (vp_nar_int _) hW hS dX1_ropesOf_20

set_option maxHeartbeats 4000000 in
set_option maxRecDepth 100000 in
theorem c_X1_isTied (l : Launch) {G : va_G} {Λ : Lay} {μ : Mem} (hOK : LayOK Λ) {a0 : Nat} (k0 : inK Λ a0 1) {a1 : Int32} {a2 : Int32} {r : Int32} (hs : sX1_isTied Λ μ a0 a1 a2 = some r) : CM l G Λ yX1_isTied cX1_isTied 3 (some .boolean) 3 μ [.ref a0, .int a1, .int a2] (QI G Λ r μ) := by
  refine ofM (own := RX1) (by decide +kernel) rfl (Nat.le_of_ble_eq_true rfl) (fun p e s m args below meth c ls hF hKK hW hr hlocks hl => ?_)
  have hx := hF.1
  have hb := hF.2.1
  have hA : ∀ q, inL Λ q → inL Λ q := fun _ h => h
  have hS : va_S (inL Λ) s.heap s.heap [] := va_S.rf
  have hl : lv_has ls 3 [(0, .ref a0), (1, .int a1), (2, .int a2)] := hl
  unfold sX1_isTied at hs
  refine lv_aload_n hx hb dX1_isTied_0 rfl (lv_at hl 0 rfl) ?_
  refine lv_iload_n hx hb dX1_isTied_1 rfl (lv_at hl 1 rfl) ?_
  obtain ⟨q1, hq1, hs⟩ := obind_e hs
  refine end_i (run_V (q := (RX1, TX1, 7)) (ci := 1) hF hKK hW hS hl.1 k0 (by decide) rfl (c_X1_ropesOf l hOK k0 hq1) (kw_X1_63 hF.2.2.2.2 ⟨Nat.le_of_ble_eq_true rfl, Nat.le_of_ble_eq_true rfl⟩) rfl rfl (Nat.le_of_ble_eq_true rfl) dX1_isTied_2 ⟨Nat.zero_le _, Nat.zero_le _⟩) hS (fun H locs hW hS => ?_)
  refine lv_iload_n hx hb dX1_isTied_5 rfl (lv_at hl 2 rfl) ?_
  obtain ⟨q2, hq2, hs⟩ := obind_e hs
  refine end_i (run_N hF hKK hW hS hl.1 (c_X4_bit l hOK  hq2) (kw_X1_56 hKK.2.1.2.1 hF.2.2.2.2 ⟨Nat.le_of_ble_eq_true rfl, Nat.le_of_ble_eq_true rfl⟩) rfl rfl (Nat.le_of_ble_eq_true rfl) dX1_isTied_6 ⟨Nat.zero_le _, Nat.zero_le _⟩) hS (fun H locs hW hS => ?_)
  refine lv_iand hx hb dX1_isTied_9 ?_
  refine lv_if_eq (tgt := 17) hx hb dX1_isTied_10 (by decide) (fun c3 => ?_) (fun c3 => ?_)
  · have hs := ite_t hs c3
    refine lv_iconst (v := (0 : Int32)) hx hb dX1_isTied_17 (by decide) ?_
    have h9 := Option.some.inj hs
    rw [← h9]
    exact wr_i hF hr hlocks (isB_nar (Or.inl rfl)) hW hS dX1_isTied_18
  · have hs := ite_f hs c3
    refine lv_iconst (v := (1 : Int32)) hx hb dX1_isTied_13 (by decide) ?_
    refine lv_goto (tgt := 18) hx hb dX1_isTied_14 (by decide) ?_
    have h9 := Option.some.inj hs
    rw [← h9]
    exact wr_i hF hr hlocks (isB_nar (Or.inr rfl)) hW hS dX1_isTied_18

set_option maxHeartbeats 4000000 in
set_option maxRecDepth 100000 in
theorem cl_X1_reached_11 {p : Program} {l : Launch} {e : Env} {s : State} {m : MethodId} {args : Array Value} {below : List Frame} {meth : Method} {c : Code} {G : va_G} {Λ : Lay} {μ : Mem} {r : Int32} (hOK : LayOK Λ) (hF : CallFix p m c cX1_reached 8 s args tw RX1) (hKK : KK G Λ s) (hr : meth.sig.returnType = (some .int)) (hlocks : meth.locks = false) {x0 : Nat} (kx0 : inK Λ x0 1) {x2 : Int32} : ∀ (n : Nat) (x3 : Int32) (x4 : Int32) (x5 : Int32) (H : Heap) (locs : List Loc) (ls : Array Slot), lpX1_reached_11 Λ μ x0 x2 n x3 x4 x5 = some r → Wd G Λ μ H → va_S (inL Λ) s.heap H locs → lv_has ls 8 [(0, .ref x0), (2, .int x2), (3, .int x3), (4, .int x4), (5, .int x5)] → W p l e (rmd 3) s m args below meth c H locs 0 0 (MQ below (QI G Λ r μ) args s 0 0 (inL Λ)) (F0 m 11 ls []) := by
  have hx := hF.1
  have hb := hF.2.1
  have hA : ∀ q, inL Λ q → inL Λ q := fun _ h => h
  intro n
  induction n with
  | zero =>
    intro x3 x4 x5 H locs ls hs hW hS hl
    cases hs
  | succ n11 ih11 =>
    intro x3 x4 x5 H locs ls hs hW hS hl
    rw [lpX1_reached_11_s] at hs
    refine lv_iload hx hb dX1_reached_11 (lv_at hl 4 rfl) ?_
    refine lv_bipush (v := (12 : Int32)) hx hb dX1_reached_13 (by decide) ?_
    refine lv_icmp_ge (tgt := 72) hx hb dX1_reached_15 (by decide) (fun c2 => ?_) (fun c2 => ?_)
    · have hs := ite_t hs c2
      refine lv_iload_n hx hb dX1_reached_72 rfl (lv_at hl 2 rfl) ?_
      have h9 := Option.some.inj hs
      rw [← h9]
      exact wr_i hF hr hlocks (vp_nar_int _) hW hS dX1_reached_73
    · have hs := ite_f hs c2
      refine lv_iload hx hb dX1_reached_18 (lv_at hl 3 rfl) ?_
      refine lv_if_eq (tgt := 72) hx hb dX1_reached_20 (by decide) (fun c3 => ?_) (fun c3 => ?_)
      · have hs := ite_t hs c3
        refine lv_iload_n hx hb dX1_reached_72 rfl (lv_at hl 2 rfl) ?_
        have h9 := Option.some.inj hs
        rw [← h9]
        exact wr_i hF hr hlocks (vp_nar_int _) hW hS dX1_reached_73
      · have hs := ite_f hs c3
        refine lv_iload hx hb dX1_reached_23 (lv_at hl 3 rfl) ?_
        obtain ⟨q4, hq4, hs⟩ := obind_e hs
        refine end_i (run_N hF hKK hW hS hl.1 (c_X4_lowestIn l hOK  hq4) (kw_X1_133 hKK.2.1.1 hF.2.2.2.2 ⟨Nat.le_of_ble_eq_true rfl, Nat.le_of_ble_eq_true rfl⟩) rfl rfl (Nat.le_of_ble_eq_true rfl) dX1_reached_25 ⟨Nat.zero_le _, Nat.zero_le _⟩) hS (fun H locs hW hS => ?_)
        refine lv_istore (lv' := [(6, .int q4), (0, .ref x0), (2, .int x2), (3, .int x3), (4, .int x4), (5, .int x5)]) hx hb dX1_reached_28 hl (by decide) rfl (fun ls hl => ?_)
        refine lv_aload_n hx hb dX1_reached_30 rfl (lv_at hl 1 rfl) ?_
        refine lv_iload hx hb dX1_reached_31 (lv_at hl 0 rfl) ?_
        obtain ⟨q5, hq5, hs⟩ := obind_e hs
        refine end_i (run_V (q := (RX1, TX1, 7)) (ci := 1) hF hKK hW hS hl.1 kx0 (by decide) rfl (c_X1_ropesOf l hOK kx0 hq5) (kw_X1_63 hF.2.2.2.2 ⟨Nat.le_of_ble_eq_true rfl, Nat.le_of_ble_eq_true rfl⟩) rfl rfl (Nat.le_of_ble_eq_true rfl) dX1_reached_33 ⟨Nat.zero_le _, Nat.zero_le _⟩) hS (fun H locs hW hS => ?_)
        refine lv_iload_n hx hb dX1_reached_36 rfl (lv_at hl 3 rfl) ?_
        refine lv_iconst (v := (-1 : Int32)) hx hb dX1_reached_37 (by decide) ?_
        refine lv_ixor hx hb dX1_reached_38 ?_
        refine lv_iand hx hb dX1_reached_39 ?_
        refine lv_iload_n hx hb dX1_reached_40 rfl (lv_at hl 2 rfl) ?_
        refine lv_iconst (v := (-1 : Int32)) hx hb dX1_reached_41 (by decide) ?_
        refine lv_ixor hx hb dX1_reached_42 ?_
        refine lv_iand hx hb dX1_reached_43 ?_
        obtain ⟨v6, ev6, hs⟩ := bnd_e hs
        refine top_i ev6 ?_
        refine lv_istore (lv' := [(7, .int v6), (6, .int q4), (0, .ref x0), (2, .int x2), (3, .int x3), (4, .int x4), (5, .int x5)]) hx hb dX1_reached_44 hl (by decide) rfl (fun ls hl => ?_)
        refine lv_iload_n hx hb dX1_reached_46 rfl (lv_at hl 4 rfl) ?_
        refine lv_iload hx hb dX1_reached_47 (lv_at hl 0 rfl) ?_
        refine lv_ior hx hb dX1_reached_49 ?_
        obtain ⟨v7, ev7, hs⟩ := bnd_e hs
        refine top_i ev7 ?_
        refine lv_istore_n (lv' := [(3, .int v7), (7, .int v6), (6, .int q4), (0, .ref x0), (2, .int x2), (4, .int x4), (5, .int x5)]) hx hb dX1_reached_50 rfl hl (by decide) rfl (fun ls hl => ?_)
        refine lv_iload hx hb dX1_reached_51 (lv_at hl 5 rfl) ?_
        refine lv_iload hx hb dX1_reached_53 (lv_at hl 1 rfl) ?_
        refine lv_ior hx hb dX1_reached_55 ?_
        refine lv_iload hx hb dX1_reached_56 (lv_at hl 2 rfl) ?_
        obtain ⟨q8, hq8, hs⟩ := obind_e hs
        refine end_i (run_N hF hKK hW hS hl.1 (c_X4_bit l hOK  hq8) (kw_X1_56 hKK.2.1.2.1 hF.2.2.2.2 ⟨Nat.le_of_ble_eq_true rfl, Nat.le_of_ble_eq_true rfl⟩) rfl rfl (Nat.le_of_ble_eq_true rfl) dX1_reached_58 ⟨Nat.zero_le _, Nat.zero_le _⟩) hS (fun H locs hW hS => ?_)
        refine lv_iconst (v := (-1 : Int32)) hx hb dX1_reached_61 (by decide) ?_
        refine lv_ixor hx hb dX1_reached_62 ?_
        refine lv_iand hx hb dX1_reached_63 ?_
        obtain ⟨v9, ev9, hs⟩ := bnd_e hs
        refine top_i ev9 ?_
        refine lv_istore (lv' := [(4, .int v9), (3, .int v7), (7, .int v6), (6, .int q4), (0, .ref x0), (2, .int x2), (5, .int x5)]) hx hb dX1_reached_64 hl (by decide) rfl (fun ls hl => ?_)
        obtain ⟨v10, ev10, hs⟩ := bnd_e hs
        refine lv_iinc (v := v10) (lv' := [(5, .int v10), (4, .int v9), (3, .int v7), (7, .int v6), (6, .int q4), (0, .ref x0), (2, .int x2)]) hx hb dX1_reached_66 hl (k := 6) rfl (by rw [ev10]; rfl) (by decide) rfl (fun ls hl => ?_)
        refine lv_goto (tgt := 11) hx hb dX1_reached_69 (by decide) ?_
        exact ih11 v7 v9 v10 _ _ _ hs hW hS (lv_sub hl [5, 6, 2, 1, 0] rfl)

set_option maxHeartbeats 4000000 in
set_option maxRecDepth 100000 in
theorem c_X1_reached (l : Launch) {G : va_G} {Λ : Lay} {μ : Mem} (hOK : LayOK Λ) {a0 : Nat} (k0 : inK Λ a0 1) {a1 : Int32} {a2 : Int32} {r : Int32} (hs : sX1_reached Λ μ a0 a1 a2 = some r) : CM l G Λ yX1_reached cX1_reached 8 (some .int) 3 μ [.ref a0, .int a1, .int a2] (QI G Λ r μ) := by
  refine ofM (own := RX1) (by decide +kernel) rfl (Nat.le_of_ble_eq_true rfl) (fun p e s m args below meth c ls hF hKK hW hr hlocks hl => ?_)
  have hx := hF.1
  have hb := hF.2.1
  have hA : ∀ q, inL Λ q → inL Λ q := fun _ h => h
  have hS : va_S (inL Λ) s.heap s.heap [] := va_S.rf
  have hl : lv_has ls 8 [(0, .ref a0), (1, .int a1), (2, .int a2)] := hl
  unfold sX1_reached at hs
  refine lv_iload_n hx hb dX1_reached_0 rfl (lv_at hl 1 rfl) ?_
  obtain ⟨q1, hq1, hs⟩ := obind_e hs
  refine end_i (run_N hF hKK hW hS hl.1 (c_X4_bit l hOK  hq1) (kw_X1_56 hKK.2.1.2.1 hF.2.2.2.2 ⟨Nat.le_of_ble_eq_true rfl, Nat.le_of_ble_eq_true rfl⟩) rfl rfl (Nat.le_of_ble_eq_true rfl) dX1_reached_1 ⟨Nat.zero_le _, Nat.zero_le _⟩) hS (fun H locs hW hS => ?_)
  refine lv_istore_n (lv' := [(3, .int q1), (0, .ref a0), (1, .int a1), (2, .int a2)]) hx hb dX1_reached_4 rfl hl (by decide) rfl (fun ls hl => ?_)
  refine lv_iload_n hx hb dX1_reached_5 rfl (lv_at hl 0 rfl) ?_
  refine lv_istore (lv' := [(4, .int q1), (3, .int q1), (0, .ref a0), (1, .int a1), (2, .int a2)]) hx hb dX1_reached_6 hl (by decide) rfl (fun ls hl => ?_)
  refine lv_iconst (v := (0 : Int32)) hx hb dX1_reached_8 (by decide) ?_
  refine lv_istore (lv' := [(5, .int (0 : Int32)), (4, .int q1), (3, .int q1), (0, .ref a0), (1, .int a1), (2, .int a2)]) hx hb dX1_reached_9 hl (by decide) rfl (fun ls hl => ?_)
  exact cl_X1_reached_11 hOK hF hKK hr hlocks k0 fuel q1 q1 (0 : Int32) _ _ _ hs hW hS (lv_sub hl [3, 5, 2, 1, 0] rfl)

set_option maxHeartbeats 4000000 in
set_option maxRecDepth 100000 in
theorem cl_X1_weightOfAll_4 {p : Program} {l : Launch} {e : Env} {s : State} {m : MethodId} {args : Array Value} {below : List Frame} {meth : Method} {c : Code} {G : va_G} {Λ : Lay} {μ : Mem} {r : Int32} (hOK : LayOK Λ) (hF : CallFix p m c cX1_weightOfAll 4 s args tw RX1) (hKK : KK G Λ s) (hr : meth.sig.returnType = (some .int)) (hlocks : meth.locks = false) {x0 : Nat} (kx0 : inK Λ x0 1) {x1 : Int32} : ∀ (n : Nat) (x2 : Int32) (x3 : Int32) (H : Heap) (locs : List Loc) (ls : Array Slot), lpX1_weightOfAll_4 Λ μ x0 x1 n x2 x3 = some r → Wd G Λ μ H → va_S (inL Λ) s.heap H locs → lv_has ls 4 [(0, .ref x0), (1, .int x1), (2, .int x2), (3, .int x3)] → W p l e (rmd 1) s m args below meth c H locs 0 0 (MQ below (QI G Λ r μ) args s 0 0 (inL Λ)) (F0 m 4 ls []) := by
  have hx := hF.1
  have hb := hF.2.1
  have hA : ∀ q, inL Λ q → inL Λ q := fun _ h => h
  intro n
  induction n with
  | zero =>
    intro x2 x3 H locs ls hs hW hS hl
    cases hs
  | succ n4 ih4 =>
    intro x2 x3 H locs ls hs hW hS hl
    rw [lpX1_weightOfAll_4_s] at hs
    refine lv_iload_n hx hb dX1_weightOfAll_4 rfl (lv_at hl 3 rfl) ?_
    refine lv_aload_n hx hb dX1_weightOfAll_5 rfl (lv_at hl 0 rfl) ?_
    refine gf_1_0 hF hKK hW kx0 dX1_weightOfAll_6 ?_
    obtain ⟨q1, hq1, hs⟩ := obind_e hs
    refine end_i (run_V (q := (RX2, TX2, 2)) (ci := 2) hF hKK hW hS hl.1 (lk_1_0 hOK kx0) (by decide) rfl (c_X2_length l hOK (lk_1_0 hOK kx0) hq1) (kw_X1_48 hF.2.2.2.2 ⟨Nat.le_of_ble_eq_true rfl, Nat.le_of_ble_eq_true rfl⟩) rfl rfl (Nat.le_of_ble_eq_true rfl) dX1_weightOfAll_9 ⟨Nat.zero_le _, Nat.zero_le _⟩) hS (fun H locs hW hS => ?_)
    refine lv_icmp_ge (tgt := 41) hx hb dX1_weightOfAll_12 (by decide) (fun c2 => ?_) (fun c2 => ?_)
    · have hs := ite_t hs c2
      refine lv_iload_n hx hb dX1_weightOfAll_41 rfl (lv_at hl 2 rfl) ?_
      have h9 := Option.some.inj hs
      rw [← h9]
      exact wr_i hF hr hlocks (vp_nar_int _) hW hS dX1_weightOfAll_42
    · have hs := ite_f hs c2
      refine lv_iload_n hx hb dX1_weightOfAll_15 rfl (lv_at hl 1 rfl) ?_
      refine lv_iload_n hx hb dX1_weightOfAll_16 rfl (lv_at hl 3 rfl) ?_
      obtain ⟨q3, hq3, hs⟩ := obind_e hs
      refine end_i (run_N hF hKK hW hS hl.1 (c_X4_bit l hOK  hq3) (kw_X1_56 hKK.2.1.2.1 hF.2.2.2.2 ⟨Nat.le_of_ble_eq_true rfl, Nat.le_of_ble_eq_true rfl⟩) rfl rfl (Nat.le_of_ble_eq_true rfl) dX1_weightOfAll_17 ⟨Nat.zero_le _, Nat.zero_le _⟩) hS (fun H locs hW hS => ?_)
      refine lv_iand hx hb dX1_weightOfAll_20 ?_
      refine lv_if_eq (tgt := 35) hx hb dX1_weightOfAll_21 (by decide) (fun c4 => ?_) (fun c4 => ?_)
      · have hs := ite_t hs c4
        obtain ⟨v5, ev5, hs⟩ := bnd_e hs
        refine lv_iinc (v := v5) (lv' := [(3, .int v5), (0, .ref x0), (1, .int x1), (2, .int x2)]) hx hb dX1_weightOfAll_35 hl (k := 3) rfl (by rw [ev5]; rfl) (by decide) rfl (fun ls hl => ?_)
        refine lv_goto (tgt := 4) hx hb dX1_weightOfAll_38 (by decide) ?_
        exact ih4 x2 v5 _ _ _ hs hW hS (lv_sub hl [1, 2, 3, 0] rfl)
      · have hs := ite_f hs c4
        refine lv_iload_n hx hb dX1_weightOfAll_24 rfl (lv_at hl 2 rfl) ?_
        refine lv_aload_n hx hb dX1_weightOfAll_25 rfl (lv_at hl 0 rfl) ?_
        refine gf_1_0 hF hKK hW kx0 dX1_weightOfAll_26 ?_
        refine lv_iload_n hx hb dX1_weightOfAll_29 rfl (lv_at hl 3 rfl) ?_
        obtain ⟨q6, hq6, hs⟩ := obind_e hs
        refine end_i (run_V (q := (RX2, TX2, 2)) (ci := 2) hF hKK hW hS hl.1 (lk_1_0 hOK kx0) (by decide) rfl (c_X2_get l hOK (lk_1_0 hOK kx0) hq6) (kw_X1_52 hF.2.2.2.2 ⟨Nat.le_of_ble_eq_true rfl, Nat.le_of_ble_eq_true rfl⟩) rfl rfl (Nat.le_of_ble_eq_true rfl) dX1_weightOfAll_30 ⟨Nat.zero_le _, Nat.zero_le _⟩) hS (fun H locs hW hS => ?_)
        refine lv_iadd hx hb dX1_weightOfAll_33 ?_
        obtain ⟨v7, ev7, hs⟩ := bnd_e hs
        refine top_i ev7 ?_
        refine lv_istore_n (lv' := [(2, .int v7), (0, .ref x0), (1, .int x1), (3, .int x3)]) hx hb dX1_weightOfAll_34 rfl hl (by decide) rfl (fun ls hl => ?_)
        obtain ⟨v8, ev8, hs⟩ := bnd_e hs
        refine lv_iinc (v := v8) (lv' := [(3, .int v8), (2, .int v7), (0, .ref x0), (1, .int x1)]) hx hb dX1_weightOfAll_35 hl (k := 3) rfl (by rw [ev8]; rfl) (by decide) rfl (fun ls hl => ?_)
        refine lv_goto (tgt := 4) hx hb dX1_weightOfAll_38 (by decide) ?_
        exact ih4 v7 v8 _ _ _ hs hW hS (lv_sub hl [2, 3, 1, 0] rfl)

set_option maxHeartbeats 4000000 in
set_option maxRecDepth 100000 in
theorem c_X1_weightOfAll (l : Launch) {G : va_G} {Λ : Lay} {μ : Mem} (hOK : LayOK Λ) {a0 : Nat} (k0 : inK Λ a0 1) {a1 : Int32} {r : Int32} (hs : sX1_weightOfAll Λ μ a0 a1 = some r) : CM l G Λ yX1_weightOfAll cX1_weightOfAll 4 (some .int) 1 μ [.ref a0, .int a1] (QI G Λ r μ) := by
  refine ofM (own := RX1) (by decide +kernel) rfl (Nat.le_of_ble_eq_true rfl) (fun p e s m args below meth c ls hF hKK hW hr hlocks hl => ?_)
  have hx := hF.1
  have hb := hF.2.1
  have hA : ∀ q, inL Λ q → inL Λ q := fun _ h => h
  have hS : va_S (inL Λ) s.heap s.heap [] := va_S.rf
  have hl : lv_has ls 4 [(0, .ref a0), (1, .int a1)] := hl
  unfold sX1_weightOfAll at hs
  refine lv_iconst (v := (0 : Int32)) hx hb dX1_weightOfAll_0 (by decide) ?_
  refine lv_istore_n (lv' := [(2, .int (0 : Int32)), (0, .ref a0), (1, .int a1)]) hx hb dX1_weightOfAll_1 rfl hl (by decide) rfl (fun ls hl => ?_)
  refine lv_iconst (v := (0 : Int32)) hx hb dX1_weightOfAll_2 (by decide) ?_
  refine lv_istore_n (lv' := [(3, .int (0 : Int32)), (2, .int (0 : Int32)), (0, .ref a0), (1, .int a1)]) hx hb dX1_weightOfAll_3 rfl hl (by decide) rfl (fun ls hl => ?_)
  exact cl_X1_weightOfAll_4 hOK hF hKK hr hlocks k0 fuel (0 : Int32) (0 : Int32) _ _ _ hs hW hS (lv_sub hl [2, 3, 1, 0] rfl)

set_option maxHeartbeats 4000000 in
set_option maxRecDepth 100000 in
theorem cl_X1_heaviestLeftWithout_4 {p : Program} {l : Launch} {e : Env} {s : State} {m : MethodId} {args : Array Value} {below : List Frame} {meth : Method} {c : Code} {G : va_G} {Λ : Lay} {μ : Mem} {r : Int32} (hOK : LayOK Λ) (hF : CallFix p m c cX1_heaviestLeftWithout 4 s args tw RX1) (hKK : KK G Λ s) (hr : meth.sig.returnType = (some .int)) (hlocks : meth.locks = false) {x0 : Nat} (kx0 : inK Λ x0 1) {x1 : Int32} : ∀ (n : Nat) (x2 : Int32) (x3 : Int32) (H : Heap) (locs : List Loc) (ls : Array Slot), lpX1_heaviestLeftWithout_4 Λ μ x0 x1 n x2 x3 = some r → Wd G Λ μ H → va_S (inL Λ) s.heap H locs → lv_has ls 4 [(0, .ref x0), (1, .int x1), (2, .int x2), (3, .int x3)] → W p l e (rmd 4) s m args below meth c H locs 0 0 (MQ below (QI G Λ r μ) args s 0 0 (inL Λ)) (F0 m 4 ls []) := by
  have hx := hF.1
  have hb := hF.2.1
  have hA : ∀ q, inL Λ q → inL Λ q := fun _ h => h
  intro n
  induction n with
  | zero =>
    intro x2 x3 H locs ls hs hW hS hl
    cases hs
  | succ n4 ih4 =>
    intro x2 x3 H locs ls hs hW hS hl
    rw [lpX1_heaviestLeftWithout_4_s] at hs
    refine lv_iload_n hx hb dX1_heaviestLeftWithout_4 rfl (lv_at hl 3 rfl) ?_
    refine lv_aload_n hx hb dX1_heaviestLeftWithout_5 rfl (lv_at hl 0 rfl) ?_
    refine gf_1_0 hF hKK hW kx0 dX1_heaviestLeftWithout_6 ?_
    obtain ⟨q1, hq1, hs⟩ := obind_e hs
    refine end_i (run_V (q := (RX2, TX2, 2)) (ci := 2) hF hKK hW hS hl.1 (lk_1_0 hOK kx0) (by decide) rfl (c_X2_length l hOK (lk_1_0 hOK kx0) hq1) (kw_X1_48 hF.2.2.2.2 ⟨Nat.le_of_ble_eq_true rfl, Nat.le_of_ble_eq_true rfl⟩) rfl rfl (Nat.le_of_ble_eq_true rfl) dX1_heaviestLeftWithout_9 ⟨Nat.zero_le _, Nat.zero_le _⟩) hS (fun H locs hW hS => ?_)
    refine lv_icmp_ge (tgt := 48) hx hb dX1_heaviestLeftWithout_12 (by decide) (fun c2 => ?_) (fun c2 => ?_)
    · have hs := ite_t hs c2
      refine lv_iload_n hx hb dX1_heaviestLeftWithout_48 rfl (lv_at hl 2 rfl) ?_
      have h9 := Option.some.inj hs
      rw [← h9]
      exact wr_i hF hr hlocks (vp_nar_int _) hW hS dX1_heaviestLeftWithout_49
    · have hs := ite_f hs c2
      refine lv_aload_n hx hb dX1_heaviestLeftWithout_15 rfl (lv_at hl 0 rfl) ?_
      refine lv_iload_n hx hb dX1_heaviestLeftWithout_16 rfl (lv_at hl 1 rfl) ?_
      refine lv_iload_n hx hb dX1_heaviestLeftWithout_17 rfl (lv_at hl 3 rfl) ?_
      obtain ⟨q3, hq3, hs⟩ := obind_e hs
      refine end_i (run_V (q := (RX1, TX1, 7)) (ci := 1) hF hKK hW hS hl.1 kx0 (by decide) rfl (c_X1_isTied l hOK kx0 hq3) (kw_X1_139 hF.2.2.2.2 ⟨Nat.le_of_ble_eq_true rfl, Nat.le_of_ble_eq_true rfl⟩) rfl rfl (Nat.le_of_ble_eq_true rfl) dX1_heaviestLeftWithout_18 ⟨Nat.zero_le _, Nat.zero_le _⟩) hS (fun H locs hW hS => ?_)
      refine lv_if_eq (tgt := 42) hx hb dX1_heaviestLeftWithout_21 (by decide) (fun c4 => ?_) (fun c4 => ?_)
      · have hs := ite_t hs c4
        obtain ⟨v5, ev5, hs⟩ := bnd_e hs
        refine lv_iinc (v := v5) (lv' := [(3, .int v5), (0, .ref x0), (1, .int x1), (2, .int x2)]) hx hb dX1_heaviestLeftWithout_42 hl (k := 3) rfl (by rw [ev5]; rfl) (by decide) rfl (fun ls hl => ?_)
        refine lv_goto (tgt := 4) hx hb dX1_heaviestLeftWithout_45 (by decide) ?_
        exact ih4 x2 v5 _ _ _ hs hW hS (lv_sub hl [1, 2, 3, 0] rfl)
      · have hs := ite_f hs c4
        refine lv_iload_n hx hb dX1_heaviestLeftWithout_24 rfl (lv_at hl 2 rfl) ?_
        refine lv_aload_n hx hb dX1_heaviestLeftWithout_25 rfl (lv_at hl 0 rfl) ?_
        refine lv_aload_n hx hb dX1_heaviestLeftWithout_26 rfl (lv_at hl 0 rfl) ?_
        refine lv_iload_n hx hb dX1_heaviestLeftWithout_27 rfl (lv_at hl 3 rfl) ?_
        refine lv_iload_n hx hb dX1_heaviestLeftWithout_28 rfl (lv_at hl 1 rfl) ?_
        obtain ⟨q6, hq6, hs⟩ := obind_e hs
        refine end_i (run_N hF hKK hW hS hl.1 (c_X4_bit l hOK  hq6) (kw_X1_56 hKK.2.1.2.1 hF.2.2.2.2 ⟨Nat.le_of_ble_eq_true rfl, Nat.le_of_ble_eq_true rfl⟩) rfl rfl (Nat.le_of_ble_eq_true rfl) dX1_heaviestLeftWithout_29 ⟨Nat.zero_le _, Nat.zero_le _⟩) hS (fun H locs hW hS => ?_)
        obtain ⟨q7, hq7, hs⟩ := obind_e hs
        refine end_i (run_V (q := (RX1, TX1, 7)) (ci := 1) hF hKK hW hS hl.1 kx0 (by decide) rfl (c_X1_reached l hOK kx0 hq7) (kw_X1_136 hF.2.2.2.2 ⟨Nat.le_of_ble_eq_true rfl, Nat.le_of_ble_eq_true rfl⟩) rfl rfl (Nat.le_of_ble_eq_true rfl) dX1_heaviestLeftWithout_32 ⟨Nat.zero_le _, Nat.zero_le _⟩) hS (fun H locs hW hS => ?_)
        obtain ⟨q8, hq8, hs⟩ := obind_e hs
        refine end_i (run_V (q := (RX1, TX1, 7)) (ci := 1) hF hKK hW hS hl.1 kx0 (by decide) rfl (c_X1_weightOfAll l hOK kx0 hq8) (kw_X1_143 hF.2.2.2.2 ⟨Nat.le_of_ble_eq_true rfl, Nat.le_of_ble_eq_true rfl⟩) rfl rfl (Nat.le_of_ble_eq_true rfl) dX1_heaviestLeftWithout_35 ⟨Nat.zero_le _, Nat.zero_le _⟩) hS (fun H locs hW hS => ?_)
        refine va_mmax hx hb (hF.2.2.1.trans hl.1.symm) hF.2.2.2.1 (hF.2.2.2.2 _ wd_359) (hF.2.2.2.2 _ wd_360) (hF.2.2.2.2 _ wd_22) (hF.2.2.2.2 _ wd_361) (Nat.le_of_ble_eq_true rfl) (Nat.le_of_ble_eq_true rfl) (Nat.zero_le _) (Nat.zero_le _) dX1_heaviestLeftWithout_38 ?_
        obtain ⟨v9, ev9, hs⟩ := bnd_e hs
        refine top_i ev9 ?_
        refine lv_istore_n (lv' := [(2, .int v9), (0, .ref x0), (1, .int x1), (3, .int x3)]) hx hb dX1_heaviestLeftWithout_41 rfl hl (by decide) rfl (fun ls hl => ?_)
        obtain ⟨v10, ev10, hs⟩ := bnd_e hs
        refine lv_iinc (v := v10) (lv' := [(3, .int v10), (2, .int v9), (0, .ref x0), (1, .int x1)]) hx hb dX1_heaviestLeftWithout_42 hl (k := 3) rfl (by rw [ev10]; rfl) (by decide) rfl (fun ls hl => ?_)
        refine lv_goto (tgt := 4) hx hb dX1_heaviestLeftWithout_45 (by decide) ?_
        exact ih4 v9 v10 _ _ _ hs hW hS (lv_sub hl [2, 3, 1, 0] rfl)

set_option maxHeartbeats 4000000 in
set_option maxRecDepth 100000 in
theorem c_X1_heaviestLeftWithout (l : Launch) {G : va_G} {Λ : Lay} {μ : Mem} (hOK : LayOK Λ) {a0 : Nat} (k0 : inK Λ a0 1) {a1 : Int32} {r : Int32} (hs : sX1_heaviestLeftWithout Λ μ a0 a1 = some r) : CM l G Λ yX1_heaviestLeftWithout cX1_heaviestLeftWithout 4 (some .int) 4 μ [.ref a0, .int a1] (QI G Λ r μ) := by
  refine ofM (own := RX1) (by decide +kernel) rfl (Nat.le_of_ble_eq_true rfl) (fun p e s m args below meth c ls hF hKK hW hr hlocks hl => ?_)
  have hx := hF.1
  have hb := hF.2.1
  have hA : ∀ q, inL Λ q → inL Λ q := fun _ h => h
  have hS : va_S (inL Λ) s.heap s.heap [] := va_S.rf
  have hl : lv_has ls 4 [(0, .ref a0), (1, .int a1)] := hl
  unfold sX1_heaviestLeftWithout at hs
  refine lv_iconst (v := (0 : Int32)) hx hb dX1_heaviestLeftWithout_0 (by decide) ?_
  refine lv_istore_n (lv' := [(2, .int (0 : Int32)), (0, .ref a0), (1, .int a1)]) hx hb dX1_heaviestLeftWithout_1 rfl hl (by decide) rfl (fun ls hl => ?_)
  refine lv_iconst (v := (0 : Int32)) hx hb dX1_heaviestLeftWithout_2 (by decide) ?_
  refine lv_istore_n (lv' := [(3, .int (0 : Int32)), (2, .int (0 : Int32)), (0, .ref a0), (1, .int a1)]) hx hb dX1_heaviestLeftWithout_3 rfl hl (by decide) rfl (fun ls hl => ?_)
  exact cl_X1_heaviestLeftWithout_4 hOK hF hKK hr hlocks k0 fuel (0 : Int32) (0 : Int32) _ _ _ hs hW hS (lv_sub hl [2, 3, 1, 0] rfl)

set_option maxHeartbeats 4000000 in
set_option maxRecDepth 100000 in
theorem c_X1_weightOf (l : Launch) {G : va_G} {Λ : Lay} {μ : Mem} (hOK : LayOK Λ) {a0 : Nat} (k0 : inK Λ a0 1) {a1 : Int32} {r : Int32} (hs : sX1_weightOf Λ μ a0 a1 = some r) : CM l G Λ yX1_weightOf cX1_weightOf 2 (some .int) 1 μ [.ref a0, .int a1] (QI G Λ r μ) := by
  refine ofM (own := RX1) (by decide +kernel) rfl (Nat.le_of_ble_eq_true rfl) (fun p e s m args below meth c ls hF hKK hW hr hlocks hl => ?_)
  have hx := hF.1
  have hb := hF.2.1
  have hA : ∀ q, inL Λ q → inL Λ q := fun _ h => h
  have hS : va_S (inL Λ) s.heap s.heap [] := va_S.rf
  have hl : lv_has ls 2 [(0, .ref a0), (1, .int a1)] := hl
  unfold sX1_weightOf at hs
  refine lv_aload_n hx hb dX1_weightOf_0 rfl (lv_at hl 0 rfl) ?_
  refine gf_1_0 hF hKK hW k0 dX1_weightOf_1 ?_
  refine lv_iload_n hx hb dX1_weightOf_4 rfl (lv_at hl 1 rfl) ?_
  obtain ⟨q1, hq1, hs⟩ := obind_e hs
  refine end_i (run_V (q := (RX2, TX2, 2)) (ci := 2) hF hKK hW hS hl.1 (lk_1_0 hOK k0) (by decide) rfl (c_X2_get l hOK (lk_1_0 hOK k0) hq1) (kw_X1_52 hF.2.2.2.2 ⟨Nat.le_of_ble_eq_true rfl, Nat.le_of_ble_eq_true rfl⟩) rfl rfl (Nat.le_of_ble_eq_true rfl) dX1_weightOf_5 ⟨Nat.zero_le _, Nat.zero_le _⟩) hS (fun H locs hW hS => ?_)
  have h9 := Option.some.inj hs
  rw [← h9]
  exact wr_i hF hr hlocks (vp_nar_int _) hW hS dX1_weightOf_8

set_option maxHeartbeats 4000000 in
set_option maxRecDepth 100000 in
theorem cl_X1_heaviestWith_15 {p : Program} {l : Launch} {e : Env} {s : State} {m : MethodId} {args : Array Value} {below : List Frame} {meth : Method} {c : Code} {G : va_G} {Λ : Lay} {μ : Mem} {r : Int32} (hOK : LayOK Λ) (hF : CallFix p m c cX1_heaviestWith 5 s args tw RX1) (hKK : KK G Λ s) (hr : meth.sig.returnType = (some .int)) (hlocks : meth.locks = false) {x0 : Nat} (kx0 : inK Λ x0 1) {x2 : Nat} (kx2 : inK Λ x2 2) : ∀ (n : Nat) (x3 : Int32) (x4 : Int32) (H : Heap) (locs : List Loc) (ls : Array Slot), lpX1_heaviestWith_15 Λ μ x0 x2 n x3 x4 = some r → Wd G Λ μ H → va_S (inL Λ) s.heap H locs → lv_has ls 5 [(0, .ref x0), (2, .ref x2), (3, .int x3), (4, .int x4)] → W p l e (rmd 3) s m args below meth c H locs 0 0 (MQ below (QI G Λ r μ) args s 0 0 (inL Λ)) (F0 m 15 ls []) := by
  have hx := hF.1
  have hb := hF.2.1
  have hA : ∀ q, inL Λ q → inL Λ q := fun _ h => h
  intro n
  induction n with
  | zero =>
    intro x3 x4 H locs ls hs hW hS hl
    cases hs
  | succ n15 ih15 =>
    intro x3 x4 H locs ls hs hW hS hl
    rw [lpX1_heaviestWith_15_s] at hs
    refine lv_iload hx hb dX1_heaviestWith_15 (lv_at hl 3 rfl) ?_
    refine lv_aload_n hx hb dX1_heaviestWith_17 rfl (lv_at hl 1 rfl) ?_
    obtain ⟨q3, hq3, hs⟩ := obind_e hs
    refine end_i (run_V (q := (RX2, TX2, 2)) (ci := 2) hF hKK hW hS hl.1 kx2 (by decide) rfl (c_X2_length l hOK kx2 hq3) (kw_X1_48 hF.2.2.2.2 ⟨Nat.le_of_ble_eq_true rfl, Nat.le_of_ble_eq_true rfl⟩) rfl rfl (Nat.le_of_ble_eq_true rfl) dX1_heaviestWith_18 ⟨Nat.zero_le _, Nat.zero_le _⟩) hS (fun H locs hW hS => ?_)
    refine lv_icmp_ge (tgt := 55) hx hb dX1_heaviestWith_21 (by decide) (fun c4 => ?_) (fun c4 => ?_)
    · have hs := ite_t hs c4
      refine lv_iload_n hx hb dX1_heaviestWith_55 rfl (lv_at hl 2 rfl) ?_
      have h9 := Option.some.inj hs
      rw [← h9]
      exact wr_i hF hr hlocks (vp_nar_int _) hW hS dX1_heaviestWith_56
    · have hs := ite_f hs c4
      refine lv_aload_n hx hb dX1_heaviestWith_24 rfl (lv_at hl 0 rfl) ?_
      refine lv_aload_n hx hb dX1_heaviestWith_25 rfl (lv_at hl 1 rfl) ?_
      refine lv_iload hx hb dX1_heaviestWith_26 (lv_at hl 3 rfl) ?_
      obtain ⟨q5, hq5, hs⟩ := obind_e hs
      refine end_i (run_V (q := (RX2, TX2, 2)) (ci := 2) hF hKK hW hS hl.1 kx2 (by decide) rfl (c_X2_get l hOK kx2 hq5) (kw_X1_52 hF.2.2.2.2 ⟨Nat.le_of_ble_eq_true rfl, Nat.le_of_ble_eq_true rfl⟩) rfl rfl (Nat.le_of_ble_eq_true rfl) dX1_heaviestWith_28 ⟨Nat.zero_le _, Nat.zero_le _⟩) hS (fun H locs hW hS => ?_)
      obtain ⟨q6, hq6, hs⟩ := obind_e hs
      refine end_i (run_V (q := (RX1, TX1, 7)) (ci := 1) hF hKK hW hS hl.1 kx0 (by decide) rfl (c_X1_weightOf l hOK kx0 hq6) (kw_X1_130 hF.2.2.2.2 ⟨Nat.le_of_ble_eq_true rfl, Nat.le_of_ble_eq_true rfl⟩) rfl rfl (Nat.le_of_ble_eq_true rfl) dX1_heaviestWith_31 ⟨Nat.zero_le _, Nat.zero_le _⟩) hS (fun H locs hW hS => ?_)
      refine lv_aload_n hx hb dX1_heaviestWith_34 rfl (lv_at hl 0 rfl) ?_
      refine lv_iload_n hx hb dX1_heaviestWith_35 rfl (lv_at hl 2 rfl) ?_
      obtain ⟨q7, hq7, hs⟩ := obind_e hs
      refine end_i (run_V (q := (RX1, TX1, 7)) (ci := 1) hF hKK hW hS hl.1 kx0 (by decide) rfl (c_X1_weightOf l hOK kx0 hq7) (kw_X1_130 hF.2.2.2.2 ⟨Nat.le_of_ble_eq_true rfl, Nat.le_of_ble_eq_true rfl⟩) rfl rfl (Nat.le_of_ble_eq_true rfl) dX1_heaviestWith_36 ⟨Nat.zero_le _, Nat.zero_le _⟩) hS (fun H locs hW hS => ?_)
      refine lv_icmp_le (tgt := 49) hx hb dX1_heaviestWith_39 (by decide) (fun c8 => ?_) (fun c8 => ?_)
      · have hs := ite_t hs c8
        obtain ⟨v9, ev9, hs⟩ := bnd_e hs
        refine lv_iinc (v := v9) (lv' := [(4, .int v9), (0, .ref x0), (2, .ref x2), (3, .int x3)]) hx hb dX1_heaviestWith_49 hl (k := 3) rfl (by rw [ev9]; rfl) (by decide) rfl (fun ls hl => ?_)
        refine lv_goto (tgt := 15) hx hb dX1_heaviestWith_52 (by decide) ?_
        exact ih15 x3 v9 _ _ _ hs hW hS (lv_sub hl [1, 2, 3, 0] rfl)
      · have hs := ite_f hs c8
        refine lv_aload_n hx hb dX1_heaviestWith_42 rfl (lv_at hl 1 rfl) ?_
        refine lv_iload hx hb dX1_heaviestWith_43 (lv_at hl 3 rfl) ?_
        obtain ⟨q10, hq10, hs⟩ := obind_e hs
        refine end_i (run_V (q := (RX2, TX2, 2)) (ci := 2) hF hKK hW hS hl.1 kx2 (by decide) rfl (c_X2_get l hOK kx2 hq10) (kw_X1_52 hF.2.2.2.2 ⟨Nat.le_of_ble_eq_true rfl, Nat.le_of_ble_eq_true rfl⟩) rfl rfl (Nat.le_of_ble_eq_true rfl) dX1_heaviestWith_45 ⟨Nat.zero_le _, Nat.zero_le _⟩) hS (fun H locs hW hS => ?_)
        refine lv_istore_n (lv' := [(3, .int q10), (0, .ref x0), (2, .ref x2), (4, .int x4)]) hx hb dX1_heaviestWith_48 rfl hl (by decide) rfl (fun ls hl => ?_)
        obtain ⟨v11, ev11, hs⟩ := bnd_e hs
        refine lv_iinc (v := v11) (lv' := [(4, .int v11), (3, .int q10), (0, .ref x0), (2, .ref x2)]) hx hb dX1_heaviestWith_49 hl (k := 3) rfl (by rw [ev11]; rfl) (by decide) rfl (fun ls hl => ?_)
        refine lv_goto (tgt := 15) hx hb dX1_heaviestWith_52 (by decide) ?_
        exact ih15 q10 v11 _ _ _ hs hW hS (lv_sub hl [2, 3, 1, 0] rfl)

set_option maxHeartbeats 4000000 in
set_option maxRecDepth 100000 in
theorem c_X1_heaviestWith (l : Launch) {G : va_G} {Λ : Lay} {μ : Mem} (hOK : LayOK Λ) {a0 : Nat} (k0 : inK Λ a0 1) {a1 : Int32} {r : Int32} (hs : sX1_heaviestWith Λ μ a0 a1 = some r) : CM l G Λ yX1_heaviestWith cX1_heaviestWith 5 (some .int) 3 μ [.ref a0, .int a1] (QI G Λ r μ) := by
  refine ofM (own := RX1) (by decide +kernel) rfl (Nat.le_of_ble_eq_true rfl) (fun p e s m args below meth c ls hF hKK hW hr hlocks hl => ?_)
  have hx := hF.1
  have hb := hF.2.1
  have hA : ∀ q, inL Λ q → inL Λ q := fun _ h => h
  have hS : va_S (inL Λ) s.heap s.heap [] := va_S.rf
  have hl : lv_has ls 5 [(0, .ref a0), (1, .int a1)] := hl
  unfold sX1_heaviestWith at hs
  refine lv_aload_n hx hb dX1_heaviestWith_0 rfl (lv_at hl 0 rfl) ?_
  refine lv_iload_n hx hb dX1_heaviestWith_1 rfl (lv_at hl 1 rfl) ?_
  obtain ⟨q1, hq1, hs⟩ := obind_e hs
  refine end_r (run_V (q := (RX1, TX1, 7)) (ci := 1) hF hKK hW hS hl.1 k0 (by decide) rfl (c_X1_roundOf l hOK k0 hq1) (kw_X1_87 hF.2.2.2.2 ⟨Nat.le_of_ble_eq_true rfl, Nat.le_of_ble_eq_true rfl⟩) rfl rfl (Nat.le_of_ble_eq_true rfl) dX1_heaviestWith_2 ⟨Nat.zero_le _, Nat.zero_le _⟩) hS (fun H locs kq1 hW hS => ?_)
  refine lv_astore_n (lv' := [(2, .ref q1), (0, .ref a0), (1, .int a1)]) hx hb dX1_heaviestWith_5 rfl hl (by decide) rfl (fun ls hl => ?_)
  refine lv_aload_n hx hb dX1_heaviestWith_6 rfl (lv_at hl 0 rfl) ?_
  refine lv_iconst (v := (0 : Int32)) hx hb dX1_heaviestWith_7 (by decide) ?_
  obtain ⟨q2, hq2, hs⟩ := obind_e hs
  refine end_i (run_V (q := (RX2, TX2, 2)) (ci := 2) hF hKK hW hS hl.1 kq1 (by decide) rfl (c_X2_get l hOK kq1 hq2) (kw_X1_52 hF.2.2.2.2 ⟨Nat.le_of_ble_eq_true rfl, Nat.le_of_ble_eq_true rfl⟩) rfl rfl (Nat.le_of_ble_eq_true rfl) dX1_heaviestWith_8 ⟨Nat.zero_le _, Nat.zero_le _⟩) hS (fun H locs hW hS => ?_)
  refine lv_istore_n (lv' := [(3, .int q2), (2, .ref q1), (0, .ref a0), (1, .int a1)]) hx hb dX1_heaviestWith_11 rfl hl (by decide) rfl (fun ls hl => ?_)
  refine lv_iconst (v := (1 : Int32)) hx hb dX1_heaviestWith_12 (by decide) ?_
  refine lv_istore (lv' := [(4, .int (1 : Int32)), (3, .int q2), (2, .ref q1), (0, .ref a0), (1, .int a1)]) hx hb dX1_heaviestWith_13 hl (by decide) rfl (fun ls hl => ?_)
  exact cl_X1_heaviestWith_15 hOK hF hKK hr hlocks k0 kq1 fuel q2 (1 : Int32) _ _ _ hs hW hS (lv_sub hl [3, 2, 1, 0] rfl)

set_option maxHeartbeats 4000000 in
set_option maxRecDepth 100000 in
theorem c_X1_isOnePart (l : Launch) {G : va_G} {Λ : Lay} {μ : Mem} (hOK : LayOK Λ) {a0 : Nat} (k0 : inK Λ a0 1) {a1 : Int32} {a2 : Int32} {r : Int32} (hs : sX1_isOnePart Λ μ a0 a1 a2 = some r) : CM l G Λ yX1_isOnePart cX1_isOnePart 3 (some .boolean) 3 μ [.ref a0, .int a1, .int a2] (QI G Λ r μ) := by
  refine ofM (own := RX1) (by decide +kernel) rfl (Nat.le_of_ble_eq_true rfl) (fun p e s m args below meth c ls hF hKK hW hr hlocks hl => ?_)
  have hx := hF.1
  have hb := hF.2.1
  have hA : ∀ q, inL Λ q → inL Λ q := fun _ h => h
  have hS : va_S (inL Λ) s.heap s.heap [] := va_S.rf
  have hl : lv_has ls 3 [(0, .ref a0), (1, .int a1), (2, .int a2)] := hl
  unfold sX1_isOnePart at hs
  refine lv_aload_n hx hb dX1_isOnePart_0 rfl (lv_at hl 0 rfl) ?_
  refine lv_iload_n hx hb dX1_isOnePart_1 rfl (lv_at hl 1 rfl) ?_
  obtain ⟨q1, hq1, hs⟩ := obind_e hs
  refine end_r (run_V (q := (RX1, TX1, 7)) (ci := 1) hF hKK hW hS hl.1 k0 (by decide) rfl (c_X1_roundOf l hOK k0 hq1) (kw_X1_87 hF.2.2.2.2 ⟨Nat.le_of_ble_eq_true rfl, Nat.le_of_ble_eq_true rfl⟩) rfl rfl (Nat.le_of_ble_eq_true rfl) dX1_isOnePart_2 ⟨Nat.zero_le _, Nat.zero_le _⟩) hS (fun H locs kq1 hW hS => ?_)
  refine lv_iload_n hx hb dX1_isOnePart_5 rfl (lv_at hl 2 rfl) ?_
  obtain ⟨q2, hq2, hs⟩ := obind_e hs
  refine end_i (run_V (q := (RX2, TX2, 2)) (ci := 2) hF hKK hW hS hl.1 kq1 (by decide) rfl (c_X2_firstOf l hOK kq1 hq2) (kw_X1_90 hF.2.2.2.2 ⟨Nat.le_of_ble_eq_true rfl, Nat.le_of_ble_eq_true rfl⟩) rfl rfl (Nat.le_of_ble_eq_true rfl) dX1_isOnePart_6 ⟨Nat.zero_le _, Nat.zero_le _⟩) hS (fun H locs hW hS => ?_)
  refine lv_if_lt (tgt := 16) hx hb dX1_isOnePart_9 (by decide) (fun c3 => ?_) (fun c3 => ?_)
  · have hs := ite_t hs c3
    refine lv_iconst (v := (0 : Int32)) hx hb dX1_isOnePart_16 (by decide) ?_
    have h9 := Option.some.inj hs
    rw [← h9]
    exact wr_i hF hr hlocks (isB_nar (Or.inl rfl)) hW hS dX1_isOnePart_17
  · have hs := ite_f hs c3
    refine lv_iconst (v := (1 : Int32)) hx hb dX1_isOnePart_12 (by decide) ?_
    refine lv_goto (tgt := 17) hx hb dX1_isOnePart_13 (by decide) ?_
    have h9 := Option.some.inj hs
    rw [← h9]
    exact wr_i hF hr hlocks (isB_nar (Or.inr rfl)) hW hS dX1_isOnePart_17

set_option maxHeartbeats 4000000 in
set_option maxRecDepth 100000 in
theorem c_X1_isRoot (l : Launch) {G : va_G} {Λ : Lay} {μ : Mem} (hOK : LayOK Λ) {a0 : Nat} (k0 : inK Λ a0 1) {a1 : Int32} {r : Int32} (hs : sX1_isRoot Λ μ a0 a1 = some r) : CM l G Λ yX1_isRoot cX1_isRoot 2 (some .boolean) 1 μ [.ref a0, .int a1] (QI G Λ r μ) := by
  refine ofM (own := RX1) (by decide +kernel) rfl (Nat.le_of_ble_eq_true rfl) (fun p e s m args below meth c ls hF hKK hW hr hlocks hl => ?_)
  have hx := hF.1
  have hb := hF.2.1
  have hA : ∀ q, inL Λ q → inL Λ q := fun _ h => h
  have hS : va_S (inL Λ) s.heap s.heap [] := va_S.rf
  have hl : lv_has ls 2 [(0, .ref a0), (1, .int a1)] := hl
  unfold sX1_isRoot at hs
  refine lv_aload_n hx hb dX1_isRoot_0 rfl (lv_at hl 0 rfl) ?_
  refine lv_iload_n hx hb dX1_isRoot_1 rfl (lv_at hl 1 rfl) ?_
  obtain ⟨q1, hq1, hs⟩ := obind_e hs
  refine end_r (run_V (q := (RX1, TX1, 7)) (ci := 1) hF hKK hW hS hl.1 k0 (by decide) rfl (c_X1_roundAt l hOK k0 hq1) (kw_X1_34 hF.2.2.2.2 ⟨Nat.le_of_ble_eq_true rfl, Nat.le_of_ble_eq_true rfl⟩) rfl rfl (Nat.le_of_ble_eq_true rfl) dX1_isRoot_2 ⟨Nat.zero_le _, Nat.zero_le _⟩) hS (fun H locs kq1 hW hS => ?_)
  obtain ⟨q2, hq2, hs⟩ := obind_e hs
  refine end_i (run_V (q := (RX2, TX2, 2)) (ci := 2) hF hKK hW hS hl.1 kq1 (by decide) rfl (c_X2_length l hOK kq1 hq2) (kw_X1_48 hF.2.2.2.2 ⟨Nat.le_of_ble_eq_true rfl, Nat.le_of_ble_eq_true rfl⟩) rfl rfl (Nat.le_of_ble_eq_true rfl) dX1_isRoot_5 ⟨Nat.zero_le _, Nat.zero_le _⟩) hS (fun H locs hW hS => ?_)
  refine lv_if_le (tgt := 15) hx hb dX1_isRoot_8 (by decide) (fun c3 => ?_) (fun c3 => ?_)
  · have hs := ite_t hs c3
    refine lv_iconst (v := (0 : Int32)) hx hb dX1_isRoot_15 (by decide) ?_
    have h9 := Option.some.inj hs
    rw [← h9]
    exact wr_i hF hr hlocks (isB_nar (Or.inl rfl)) hW hS dX1_isRoot_16
  · have hs := ite_f hs c3
    refine lv_iconst (v := (1 : Int32)) hx hb dX1_isRoot_11 (by decide) ?_
    refine lv_goto (tgt := 16) hx hb dX1_isRoot_12 (by decide) ?_
    have h9 := Option.some.inj hs
    rw [← h9]
    exact wr_i hF hr hlocks (isB_nar (Or.inr rfl)) hW hS dX1_isRoot_16

set_option maxHeartbeats 4000000 in
set_option maxRecDepth 100000 in
theorem cl_X1_leavesOverEachRope_14 {p : Program} {l : Launch} {e : Env} {s : State} {m : MethodId} {args : Array Value} {below : List Frame} {meth : Method} {c : Code} {G : va_G} {Λ : Lay} {μ : Mem} {r : Int32} (hOK : LayOK Λ) (hF : CallFix p m c cX1_leavesOverEachRope 6 s args tw RX1) (hKK : KK G Λ s) (hr : meth.sig.returnType = (some .boolean)) (hlocks : meth.locks = false) {x0 : Nat} (kx0 : inK Λ x0 1) {x1 : Int32} {x2 : Nat} (kx2 : inK Λ x2 2) : ∀ (n : Nat) (x3 : Int32) (x4 : Int32) (x5 : Int32) (H : Heap) (locs : List Loc) (ls : Array Slot), lpX1_leavesOverEachRope_14 Λ μ x0 x1 x2 n x3 x4 x5 = some r → Wd G Λ μ H → va_S (inL Λ) s.heap H locs → lv_has ls 6 [(0, .ref x0), (1, .int x1), (2, .ref x2), (3, .int x3), (4, .int x4), (5, .int x5)] → W p l e (rmd 3) s m args below meth c H locs 0 0 (MQ below (QI G Λ r μ) args s 0 0 (inL Λ)) (F0 m 14 ls []) := by
  have hx := hF.1
  have hb := hF.2.1
  have hA : ∀ q, inL Λ q → inL Λ q := fun _ h => h
  intro n
  induction n with
  | zero =>
    intro x3 x4 x5 H locs ls hs hW hS hl
    cases hs
  | succ n14 ih14 =>
    intro x3 x4 x5 H locs ls hs hW hS hl
    rw [lpX1_leavesOverEachRope_14_s] at hs
    refine lv_iload hx hb dX1_leavesOverEachRope_14 (lv_at hl 5 rfl) ?_
    refine lv_iconst (v := (1 : Int32)) hx hb dX1_leavesOverEachRope_16 (by decide) ?_
    refine lv_iadd hx hb dX1_leavesOverEachRope_17 ?_
    refine lv_aload_n hx hb dX1_leavesOverEachRope_18 rfl (lv_at hl 2 rfl) ?_
    obtain ⟨q2, hq2, hs⟩ := obind_e hs
    refine end_i (run_V (q := (RX2, TX2, 2)) (ci := 2) hF hKK hW hS hl.1 kx2 (by decide) rfl (c_X2_length l hOK kx2 hq2) (kw_X1_48 hF.2.2.2.2 ⟨Nat.le_of_ble_eq_true rfl, Nat.le_of_ble_eq_true rfl⟩) rfl rfl (Nat.le_of_ble_eq_true rfl) dX1_leavesOverEachRope_19 ⟨Nat.zero_le _, Nat.zero_le _⟩) hS (fun H locs hW hS => ?_)
    refine lv_icmp_ge (tgt := 58) hx hb dX1_leavesOverEachRope_22 (by decide) (fun c3 => ?_) (fun c3 => ?_)
    · have hs := ite_t hs c3
      refine lv_iload_n hx hb dX1_leavesOverEachRope_58 rfl (lv_at hl 3 rfl) ?_
      refine lv_aload_n hx hb dX1_leavesOverEachRope_59 rfl (lv_at hl 0 rfl) ?_
      refine lv_iload_n hx hb dX1_leavesOverEachRope_60 rfl (lv_at hl 1 rfl) ?_
      obtain ⟨q4, hq4, hs⟩ := obind_e hs
      refine end_i (run_V (q := (RX1, TX1, 7)) (ci := 1) hF hKK hW hS hl.1 kx0 (by decide) rfl (c_X1_ropesOf l hOK kx0 hq4) (kw_X1_63 hF.2.2.2.2 ⟨Nat.le_of_ble_eq_true rfl, Nat.le_of_ble_eq_true rfl⟩) rfl rfl (Nat.le_of_ble_eq_true rfl) dX1_leavesOverEachRope_61 ⟨Nat.zero_le _, Nat.zero_le _⟩) hS (fun H locs hW hS => ?_)
      refine lv_icmp_ne (tgt := 80) hx hb dX1_leavesOverEachRope_64 (by decide) (fun c5 => ?_) (fun c5 => ?_)
      · have hs := ite_f hs c5
        refine lv_iconst (v := (0 : Int32)) hx hb dX1_leavesOverEachRope_80 (by decide) ?_
        have h9 := Option.some.inj hs
        rw [← h9]
        exact wr_i hF hr hlocks (isB_nar (Or.inl rfl)) hW hS dX1_leavesOverEachRope_81
      · have hs := ite_t hs c5
        refine lv_iload hx hb dX1_leavesOverEachRope_67 (lv_at hl 4 rfl) ?_
        refine lv_iload_n hx hb dX1_leavesOverEachRope_69 rfl (lv_at hl 3 rfl) ?_
        obtain ⟨q6, hq6, hs⟩ := obind_e hs
        refine end_i (run_S hF hKK hW hS hl.1 (c_J6_bitCount_0f7a4 l hOK  hq6) (kw_X1_66 hF.2.2.2.2 ⟨Nat.le_of_ble_eq_true rfl, Nat.le_of_ble_eq_true rfl⟩) rfl rfl (Nat.le_of_ble_eq_true rfl) dX1_leavesOverEachRope_70 ⟨Nat.zero_le _, Nat.zero_le _⟩) hS (fun H locs hW hS => ?_)
        refine lv_icmp_ne (tgt := 80) hx hb dX1_leavesOverEachRope_73 (by decide) (fun c7 => ?_) (fun c7 => ?_)
        · have hs := ite_f hs c7
          refine lv_iconst (v := (0 : Int32)) hx hb dX1_leavesOverEachRope_80 (by decide) ?_
          have h9 := Option.some.inj hs
          rw [← h9]
          exact wr_i hF hr hlocks (isB_nar (Or.inl rfl)) hW hS dX1_leavesOverEachRope_81
        · have hs := ite_t hs c7
          refine lv_iconst (v := (1 : Int32)) hx hb dX1_leavesOverEachRope_76 (by decide) ?_
          refine lv_goto (tgt := 81) hx hb dX1_leavesOverEachRope_77 (by decide) ?_
          have h9 := Option.some.inj hs
          rw [← h9]
          exact wr_i hF hr hlocks (isB_nar (Or.inr rfl)) hW hS dX1_leavesOverEachRope_81
    · have hs := ite_f hs c3
      refine lv_aload_n hx hb dX1_leavesOverEachRope_25 rfl (lv_at hl 2 rfl) ?_
      refine lv_iload hx hb dX1_leavesOverEachRope_26 (lv_at hl 5 rfl) ?_
      obtain ⟨q8, hq8, hs⟩ := obind_e hs
      refine end_i (run_V (q := (RX2, TX2, 2)) (ci := 2) hF hKK hW hS hl.1 kx2 (by decide) rfl (c_X2_get l hOK kx2 hq8) (kw_X1_52 hF.2.2.2.2 ⟨Nat.le_of_ble_eq_true rfl, Nat.le_of_ble_eq_true rfl⟩) rfl rfl (Nat.le_of_ble_eq_true rfl) dX1_leavesOverEachRope_28 ⟨Nat.zero_le _, Nat.zero_le _⟩) hS (fun H locs hW hS => ?_)
      refine lv_iload_n hx hb dX1_leavesOverEachRope_31 rfl (lv_at hl 1 rfl) ?_
      refine lv_icmp_ne (tgt := 52) hx hb dX1_leavesOverEachRope_32 (by decide) (fun c9 => ?_) (fun c9 => ?_)
      · have hs := ite_f hs c9
        obtain ⟨v10, ev10, hs⟩ := bnd_e hs
        refine lv_iinc (v := v10) (lv' := [(5, .int v10), (0, .ref x0), (1, .int x1), (2, .ref x2), (3, .int x3), (4, .int x4)]) hx hb dX1_leavesOverEachRope_52 hl (k := 5) rfl (by rw [ev10]; rfl) (by decide) rfl (fun ls hl => ?_)
        refine lv_goto (tgt := 14) hx hb dX1_leavesOverEachRope_55 (by decide) ?_
        exact ih14 x3 x4 v10 _ _ _ hs hW hS (lv_sub hl [1, 2, 3, 4, 5, 0] rfl)
      · have hs := ite_t hs c9
        refine lv_iload_n hx hb dX1_leavesOverEachRope_35 rfl (lv_at hl 3 rfl) ?_
        refine lv_aload_n hx hb dX1_leavesOverEachRope_36 rfl (lv_at hl 2 rfl) ?_
        refine lv_iload hx hb dX1_leavesOverEachRope_37 (lv_at hl 5 rfl) ?_
        refine lv_iconst (v := (1 : Int32)) hx hb dX1_leavesOverEachRope_39 (by decide) ?_
        refine lv_iadd hx hb dX1_leavesOverEachRope_40 ?_
        obtain ⟨q11, hq11, hs⟩ := obind_e hs
        refine end_i (run_V (q := (RX2, TX2, 2)) (ci := 2) hF hKK hW hS hl.1 kx2 (by decide) rfl (c_X2_get l hOK kx2 hq11) (kw_X1_52 hF.2.2.2.2 ⟨Nat.le_of_ble_eq_true rfl, Nat.le_of_ble_eq_true rfl⟩) rfl rfl (Nat.le_of_ble_eq_true rfl) dX1_leavesOverEachRope_41 ⟨Nat.zero_le _, Nat.zero_le _⟩) hS (fun H locs hW hS => ?_)
        obtain ⟨q12, hq12, hs⟩ := obind_e hs
        refine end_i (run_N hF hKK hW hS hl.1 (c_X4_bit l hOK  hq12) (kw_X1_56 hKK.2.1.2.1 hF.2.2.2.2 ⟨Nat.le_of_ble_eq_true rfl, Nat.le_of_ble_eq_true rfl⟩) rfl rfl (Nat.le_of_ble_eq_true rfl) dX1_leavesOverEachRope_44 ⟨Nat.zero_le _, Nat.zero_le _⟩) hS (fun H locs hW hS => ?_)
        refine lv_ior hx hb dX1_leavesOverEachRope_47 ?_
        obtain ⟨v13, ev13, hs⟩ := bnd_e hs
        refine top_i ev13 ?_
        refine lv_istore_n (lv' := [(3, .int v13), (0, .ref x0), (1, .int x1), (2, .ref x2), (4, .int x4), (5, .int x5)]) hx hb dX1_leavesOverEachRope_48 rfl hl (by decide) rfl (fun ls hl => ?_)
        obtain ⟨v14, ev14, hs⟩ := bnd_e hs
        refine lv_iinc (v := v14) (lv' := [(4, .int v14), (3, .int v13), (0, .ref x0), (1, .int x1), (2, .ref x2), (5, .int x5)]) hx hb dX1_leavesOverEachRope_49 hl (k := 4) rfl (by rw [ev14]; rfl) (by decide) rfl (fun ls hl => ?_)
        obtain ⟨v15, ev15, hs⟩ := bnd_e hs
        refine lv_iinc (v := v15) (lv' := [(5, .int v15), (4, .int v14), (3, .int v13), (0, .ref x0), (1, .int x1), (2, .ref x2)]) hx hb dX1_leavesOverEachRope_52 hl (k := 5) rfl (by rw [ev15]; rfl) (by decide) rfl (fun ls hl => ?_)
        refine lv_goto (tgt := 14) hx hb dX1_leavesOverEachRope_55 (by decide) ?_
        exact ih14 v13 v14 v15 _ _ _ hs hW hS (lv_sub hl [3, 4, 5, 2, 1, 0] rfl)

set_option maxHeartbeats 4000000 in
set_option maxRecDepth 100000 in
theorem c_X1_leavesOverEachRope (l : Launch) {G : va_G} {Λ : Lay} {μ : Mem} (hOK : LayOK Λ) {a0 : Nat} (k0 : inK Λ a0 1) {a1 : Int32} {r : Int32} (hs : sX1_leavesOverEachRope Λ μ a0 a1 = some r) : CM l G Λ yX1_leavesOverEachRope cX1_leavesOverEachRope 6 (some .boolean) 3 μ [.ref a0, .int a1] (QI G Λ r μ) := by
  refine ofM (own := RX1) (by decide +kernel) rfl (Nat.le_of_ble_eq_true rfl) (fun p e s m args below meth c ls hF hKK hW hr hlocks hl => ?_)
  have hx := hF.1
  have hb := hF.2.1
  have hA : ∀ q, inL Λ q → inL Λ q := fun _ h => h
  have hS : va_S (inL Λ) s.heap s.heap [] := va_S.rf
  have hl : lv_has ls 6 [(0, .ref a0), (1, .int a1)] := hl
  unfold sX1_leavesOverEachRope at hs
  refine lv_aload_n hx hb dX1_leavesOverEachRope_0 rfl (lv_at hl 0 rfl) ?_
  refine lv_iload_n hx hb dX1_leavesOverEachRope_1 rfl (lv_at hl 1 rfl) ?_
  obtain ⟨q1, hq1, hs⟩ := obind_e hs
  refine end_r (run_V (q := (RX1, TX1, 7)) (ci := 1) hF hKK hW hS hl.1 k0 (by decide) rfl (c_X1_roundOf l hOK k0 hq1) (kw_X1_87 hF.2.2.2.2 ⟨Nat.le_of_ble_eq_true rfl, Nat.le_of_ble_eq_true rfl⟩) rfl rfl (Nat.le_of_ble_eq_true rfl) dX1_leavesOverEachRope_2 ⟨Nat.zero_le _, Nat.zero_le _⟩) hS (fun H locs kq1 hW hS => ?_)
  refine lv_astore_n (lv' := [(2, .ref q1), (0, .ref a0), (1, .int a1)]) hx hb dX1_leavesOverEachRope_5 rfl hl (by decide) rfl (fun ls hl => ?_)
  refine lv_iconst (v := (0 : Int32)) hx hb dX1_leavesOverEachRope_6 (by decide) ?_
  refine lv_istore_n (lv' := [(3, .int (0 : Int32)), (2, .ref q1), (0, .ref a0), (1, .int a1)]) hx hb dX1_leavesOverEachRope_7 rfl hl (by decide) rfl (fun ls hl => ?_)
  refine lv_iconst (v := (0 : Int32)) hx hb dX1_leavesOverEachRope_8 (by decide) ?_
  refine lv_istore (lv' := [(4, .int (0 : Int32)), (3, .int (0 : Int32)), (2, .ref q1), (0, .ref a0), (1, .int a1)]) hx hb dX1_leavesOverEachRope_9 hl (by decide) rfl (fun ls hl => ?_)
  refine lv_iconst (v := (0 : Int32)) hx hb dX1_leavesOverEachRope_11 (by decide) ?_
  refine lv_istore (lv' := [(5, .int (0 : Int32)), (4, .int (0 : Int32)), (3, .int (0 : Int32)), (2, .ref q1), (0, .ref a0), (1, .int a1)]) hx hb dX1_leavesOverEachRope_12 hl (by decide) rfl (fun ls hl => ?_)
  exact cl_X1_leavesOverEachRope_14 hOK hF hKK hr hlocks k0 kq1 fuel (0 : Int32) (0 : Int32) (0 : Int32) _ _ _ hs hW hS (lv_sub hl [4, 5, 3, 2, 1, 0] rfl)

set_option maxHeartbeats 4000000 in
set_option maxRecDepth 100000 in
theorem c_X1_reachedBelow (l : Launch) {G : va_G} {Λ : Lay} {μ : Mem} (hOK : LayOK Λ) {a0 : Nat} (k0 : inK Λ a0 1) {a1 : Int32} {r : Int32} (hs : sX1_reachedBelow Λ μ a0 a1 = some r) : CM l G Λ yX1_reachedBelow cX1_reachedBelow 3 (some .int) 4 μ [.ref a0, .int a1] (QI G Λ r μ) := by
  refine ofM (own := RX1) (by decide +kernel) rfl (Nat.le_of_ble_eq_true rfl) (fun p e s m args below meth c ls hF hKK hW hr hlocks hl => ?_)
  have hx := hF.1
  have hb := hF.2.1
  have hA : ∀ q, inL Λ q → inL Λ q := fun _ h => h
  have hS : va_S (inL Λ) s.heap s.heap [] := va_S.rf
  have hl : lv_has ls 3 [(0, .ref a0), (1, .int a1)] := hl
  unfold sX1_reachedBelow at hs
  refine lv_aload_n hx hb dX1_reachedBelow_0 rfl (lv_at hl 0 rfl) ?_
  refine lv_iload_n hx hb dX1_reachedBelow_1 rfl (lv_at hl 1 rfl) ?_
  obtain ⟨q1, hq1, hs⟩ := obind_e hs
  refine end_i (run_V (q := (RX1, TX1, 7)) (ci := 1) hF hKK hW hS hl.1 k0 (by decide) rfl (c_X1_rootOf l hOK k0 hq1) (kw_X1_109 hF.2.2.2.2 ⟨Nat.le_of_ble_eq_true rfl, Nat.le_of_ble_eq_true rfl⟩) rfl rfl (Nat.le_of_ble_eq_true rfl) dX1_reachedBelow_2 ⟨Nat.zero_le _, Nat.zero_le _⟩) hS (fun H locs hW hS => ?_)
  refine lv_istore_n (lv' := [(2, .int q1), (0, .ref a0), (1, .int a1)]) hx hb dX1_reachedBelow_5 rfl hl (by decide) rfl (fun ls hl => ?_)
  refine lv_aload_n hx hb dX1_reachedBelow_6 rfl (lv_at hl 1 rfl) ?_
  refine lv_iload_n hx hb dX1_reachedBelow_7 rfl (lv_at hl 2 rfl) ?_
  refine lv_iload_n hx hb dX1_reachedBelow_8 rfl (lv_at hl 0 rfl) ?_
  refine lv_iload_n hx hb dX1_reachedBelow_9 rfl (lv_at hl 2 rfl) ?_
  refine lv_icmp_ne (tgt := 17) hx hb dX1_reachedBelow_10 (by decide) (fun c2 => ?_) (fun c2 => ?_)
  · have hs := ite_f hs c2
    refine lv_aload_n hx hb dX1_reachedBelow_17 rfl (lv_at hl 1 rfl) ?_
    refine lv_iload_n hx hb dX1_reachedBelow_18 rfl (lv_at hl 0 rfl) ?_
    refine lv_iload_n hx hb dX1_reachedBelow_19 rfl (lv_at hl 2 rfl) ?_
    obtain ⟨q3, hq3, hs⟩ := obind_e hs
    refine end_i (run_N hF hKK hW hS hl.1 (c_X4_bit l hOK  hq3) (kw_X1_56 hKK.2.1.2.1 hF.2.2.2.2 ⟨Nat.le_of_ble_eq_true rfl, Nat.le_of_ble_eq_true rfl⟩) rfl rfl (Nat.le_of_ble_eq_true rfl) dX1_reachedBelow_20 ⟨Nat.zero_le _, Nat.zero_le _⟩) hS (fun H locs hW hS => ?_)
    obtain ⟨q4, hq4, hs⟩ := obind_e hs
    refine end_i (run_V (q := (RX1, TX1, 7)) (ci := 1) hF hKK hW hS hl.1 k0 (by decide) rfl (c_X1_reached l hOK k0 hq4) (kw_X1_136 hF.2.2.2.2 ⟨Nat.le_of_ble_eq_true rfl, Nat.le_of_ble_eq_true rfl⟩) rfl rfl (Nat.le_of_ble_eq_true rfl) dX1_reachedBelow_23 ⟨Nat.zero_le _, Nat.zero_le _⟩) hS (fun H locs hW hS => ?_)
    obtain ⟨q5, hq5, hs⟩ := obind_e hs
    refine end_i (run_V (q := (RX1, TX1, 7)) (ci := 1) hF hKK hW hS hl.1 k0 (by decide) rfl (c_X1_reached l hOK k0 hq5) (kw_X1_136 hF.2.2.2.2 ⟨Nat.le_of_ble_eq_true rfl, Nat.le_of_ble_eq_true rfl⟩) rfl rfl (Nat.le_of_ble_eq_true rfl) dX1_reachedBelow_26 ⟨Nat.zero_le _, Nat.zero_le _⟩) hS (fun H locs hW hS => ?_)
    have h9 := Option.some.inj hs
    rw [← h9]
    exact wr_i hF hr hlocks (vp_nar_int _) hW hS dX1_reachedBelow_29
  · have hs := ite_t hs c2
    refine lv_iconst (v := (0 : Int32)) hx hb dX1_reachedBelow_13 (by decide) ?_
    refine lv_goto (tgt := 26) hx hb dX1_reachedBelow_14 (by decide) ?_
    obtain ⟨q6, hq6, hs⟩ := obind_e hs
    refine end_i (run_V (q := (RX1, TX1, 7)) (ci := 1) hF hKK hW hS hl.1 k0 (by decide) rfl (c_X1_reached l hOK k0 hq6) (kw_X1_136 hF.2.2.2.2 ⟨Nat.le_of_ble_eq_true rfl, Nat.le_of_ble_eq_true rfl⟩) rfl rfl (Nat.le_of_ble_eq_true rfl) dX1_reachedBelow_26 ⟨Nat.zero_le _, Nat.zero_le _⟩) hS (fun H locs hW hS => ?_)
    have h9 := Option.some.inj hs
    rw [← h9]
    exact wr_i hF hr hlocks (vp_nar_int _) hW hS dX1_reachedBelow_29

set_option maxHeartbeats 4000000 in
set_option maxRecDepth 100000 in
theorem cl_X1_isSound_2 {p : Program} {l : Launch} {e : Env} {s : State} {m : MethodId} {args : Array Value} {below : List Frame} {meth : Method} {c : Code} {G : va_G} {Λ : Lay} {μ : Mem} {r : Int32} (hOK : LayOK Λ) (hF : CallFix p m c cX1_isSound 2 s args tw RX1) (hKK : KK G Λ s) (hr : meth.sig.returnType = (some .boolean)) (hlocks : meth.locks = false) {x0 : Nat} (kx0 : inK Λ x0 1) : ∀ (n : Nat) (x1 : Int32) (H : Heap) (locs : List Loc) (ls : Array Slot), lpX1_isSound_2 Λ μ x0 n x1 = some r → Wd G Λ μ H → va_S (inL Λ) s.heap H locs → lv_has ls 2 [(0, .ref x0), (1, .int x1)] → W p l e (rmd 5) s m args below meth c H locs 0 0 (MQ below (QI G Λ r μ) args s 0 0 (inL Λ)) (F0 m 2 ls []) := by
  have hx := hF.1
  have hb := hF.2.1
  have hA : ∀ q, inL Λ q → inL Λ q := fun _ h => h
  intro n
  induction n with
  | zero =>
    intro x1 H locs ls hs hW hS hl
    cases hs
  | succ n2 ih2 =>
    intro x1 H locs ls hs hW hS hl
    rw [lpX1_isSound_2_s] at hs
    refine lv_iload_n hx hb dX1_isSound_2 rfl (lv_at hl 1 rfl) ?_
    refine lv_aload_n hx hb dX1_isSound_3 rfl (lv_at hl 0 rfl) ?_
    refine gf_1_0 hF hKK hW kx0 dX1_isSound_4 ?_
    obtain ⟨q1, hq1, hs⟩ := obind_e hs
    refine end_i (run_V (q := (RX2, TX2, 2)) (ci := 2) hF hKK hW hS hl.1 (lk_1_0 hOK kx0) (by decide) rfl (c_X2_length l hOK (lk_1_0 hOK kx0) hq1) (kw_X1_48 hF.2.2.2.2 ⟨Nat.le_of_ble_eq_true rfl, Nat.le_of_ble_eq_true rfl⟩) rfl rfl (Nat.le_of_ble_eq_true rfl) dX1_isSound_7 ⟨Nat.zero_le _, Nat.zero_le _⟩) hS (fun H locs hW hS => ?_)
    refine lv_icmp_ge (tgt := 56) hx hb dX1_isSound_10 (by decide) (fun c2 => ?_) (fun c2 => ?_)
    · have hs := ite_t hs c2
      refine lv_iconst (v := (1 : Int32)) hx hb dX1_isSound_56 (by decide) ?_
      have h9 := Option.some.inj hs
      rw [← h9]
      exact wr_i hF hr hlocks (isB_nar (Or.inr rfl)) hW hS dX1_isSound_57
    · have hs := ite_f hs c2
      refine lv_aload_n hx hb dX1_isSound_13 rfl (lv_at hl 0 rfl) ?_
      refine lv_iload_n hx hb dX1_isSound_14 rfl (lv_at hl 1 rfl) ?_
      obtain ⟨q3, hq3, hs⟩ := obind_e hs
      refine end_i (run_V (q := (RX1, TX1, 7)) (ci := 1) hF hKK hW hS hl.1 kx0 (by decide) rfl (c_X1_banksWith l hOK kx0 hq3) (kw_X1_146 hF.2.2.2.2 ⟨Nat.le_of_ble_eq_true rfl, Nat.le_of_ble_eq_true rfl⟩) rfl rfl (Nat.le_of_ble_eq_true rfl) dX1_isSound_15 ⟨Nat.zero_le _, Nat.zero_le _⟩) hS (fun H locs hW hS => ?_)
      refine lv_aload_n hx hb dX1_isSound_18 rfl (lv_at hl 0 rfl) ?_
      refine lv_iload_n hx hb dX1_isSound_19 rfl (lv_at hl 1 rfl) ?_
      refine lv_iconst (v := (0 : Int32)) hx hb dX1_isSound_20 (by decide) ?_
      obtain ⟨q4, hq4, hs⟩ := obind_e hs
      refine end_i (run_V (q := (RX1, TX1, 7)) (ci := 1) hF hKK hW hS hl.1 kx0 (by decide) rfl (c_X1_reached l hOK kx0 hq4) (kw_X1_136 hF.2.2.2.2 ⟨Nat.le_of_ble_eq_true rfl, Nat.le_of_ble_eq_true rfl⟩) rfl rfl (Nat.le_of_ble_eq_true rfl) dX1_isSound_21 ⟨Nat.zero_le _, Nat.zero_le _⟩) hS (fun H locs hW hS => ?_)
      refine lv_icmp_ne (tgt := 48) hx hb dX1_isSound_24 (by decide) (fun c5 => ?_) (fun c5 => ?_)
      · have hs := ite_f hs c5
        refine lv_iconst (v := (0 : Int32)) hx hb dX1_isSound_48 (by decide) ?_
        have h9 := Option.some.inj hs
        rw [← h9]
        exact wr_i hF hr hlocks (isB_nar (Or.inl rfl)) hW hS dX1_isSound_49
      · have hs := ite_t hs c5
        refine lv_aload_n hx hb dX1_isSound_27 rfl (lv_at hl 0 rfl) ?_
        refine lv_iload_n hx hb dX1_isSound_28 rfl (lv_at hl 1 rfl) ?_
        obtain ⟨q6, hq6, hs⟩ := obind_e hs
        refine end_i (run_V (q := (RX1, TX1, 7)) (ci := 1) hF hKK hW hS hl.1 kx0 (by decide) rfl (c_X1_belowOf l hOK kx0 hq6) (kw_X1_158 hF.2.2.2.2 ⟨Nat.le_of_ble_eq_true rfl, Nat.le_of_ble_eq_true rfl⟩) rfl rfl (Nat.le_of_ble_eq_true rfl) dX1_isSound_29 ⟨Nat.zero_le _, Nat.zero_le _⟩) hS (fun H locs hW hS => ?_)
        refine lv_aload_n hx hb dX1_isSound_32 rfl (lv_at hl 0 rfl) ?_
        refine lv_iload_n hx hb dX1_isSound_33 rfl (lv_at hl 1 rfl) ?_
        obtain ⟨q7, hq7, hs⟩ := obind_e hs
        refine end_i (run_V (q := (RX1, TX1, 7)) (ci := 1) hF hKK hW hS hl.1 kx0 (by decide) rfl (c_X1_reachedBelow l hOK kx0 hq7) (kw_X1_161 hF.2.2.2.2 ⟨Nat.le_of_ble_eq_true rfl, Nat.le_of_ble_eq_true rfl⟩) rfl rfl (Nat.le_of_ble_eq_true rfl) dX1_isSound_34 ⟨Nat.zero_le _, Nat.zero_le _⟩) hS (fun H locs hW hS => ?_)
        refine lv_icmp_ne (tgt := 48) hx hb dX1_isSound_37 (by decide) (fun c8 => ?_) (fun c8 => ?_)
        · have hs := ite_f hs c8
          refine lv_iconst (v := (0 : Int32)) hx hb dX1_isSound_48 (by decide) ?_
          have h9 := Option.some.inj hs
          rw [← h9]
          exact wr_i hF hr hlocks (isB_nar (Or.inl rfl)) hW hS dX1_isSound_49
        · have hs := ite_t hs c8
          refine lv_aload_n hx hb dX1_isSound_40 rfl (lv_at hl 0 rfl) ?_
          refine lv_iload_n hx hb dX1_isSound_41 rfl (lv_at hl 1 rfl) ?_
          obtain ⟨q9, hq9, hs⟩ := obind_e hs
          refine end_i (run_V (q := (RX1, TX1, 7)) (ci := 1) hF hKK hW hS hl.1 kx0 (by decide) rfl (c_X1_leavesOverEachRope l hOK kx0 hq9) (kw_X1_164 hF.2.2.2.2 ⟨Nat.le_of_ble_eq_true rfl, Nat.le_of_ble_eq_true rfl⟩) rfl rfl (Nat.le_of_ble_eq_true rfl) dX1_isSound_42 ⟨Nat.zero_le _, Nat.zero_le _⟩) hS (fun H locs hW hS => ?_)
          refine lv_if_ne (tgt := 50) hx hb dX1_isSound_45 (by decide) (fun c10 => ?_) (fun c10 => ?_)
          · have hs := ite_f hs c10
            obtain ⟨v11, ev11, hs⟩ := bnd_e hs
            refine lv_iinc (v := v11) (lv' := [(1, .int v11), (0, .ref x0)]) hx hb dX1_isSound_50 hl (k := 1) rfl (by rw [ev11]; rfl) (by decide) rfl (fun ls hl => ?_)
            refine lv_goto (tgt := 2) hx hb dX1_isSound_53 (by decide) ?_
            exact ih2 v11 _ _ _ hs hW hS (lv_sub hl [1, 0] rfl)
          · have hs := ite_t hs c10
            refine lv_iconst (v := (0 : Int32)) hx hb dX1_isSound_48 (by decide) ?_
            have h9 := Option.some.inj hs
            rw [← h9]
            exact wr_i hF hr hlocks (isB_nar (Or.inl rfl)) hW hS dX1_isSound_49

set_option maxHeartbeats 4000000 in
set_option maxRecDepth 100000 in
theorem c_X1_isSound (l : Launch) {G : va_G} {Λ : Lay} {μ : Mem} (hOK : LayOK Λ) {a0 : Nat} (k0 : inK Λ a0 1) {r : Int32} (hs : sX1_isSound Λ μ a0 = some r) : CM l G Λ yX1_isSound cX1_isSound 2 (some .boolean) 5 μ [.ref a0] (QI G Λ r μ) := by
  refine ofM (own := RX1) (by decide +kernel) rfl (Nat.le_of_ble_eq_true rfl) (fun p e s m args below meth c ls hF hKK hW hr hlocks hl => ?_)
  have hx := hF.1
  have hb := hF.2.1
  have hA : ∀ q, inL Λ q → inL Λ q := fun _ h => h
  have hS : va_S (inL Λ) s.heap s.heap [] := va_S.rf
  have hl : lv_has ls 2 [(0, .ref a0)] := hl
  unfold sX1_isSound at hs
  refine lv_iconst (v := (0 : Int32)) hx hb dX1_isSound_0 (by decide) ?_
  refine lv_istore_n (lv' := [(1, .int (0 : Int32)), (0, .ref a0)]) hx hb dX1_isSound_1 rfl hl (by decide) rfl (fun ls hl => ?_)
  exact cl_X1_isSound_2 hOK hF hKK hr hlocks k0 fuel (0 : Int32) _ _ _ hs hW hS (lv_sub hl [1, 0] rfl)

set_option maxHeartbeats 4000000 in
set_option maxRecDepth 100000 in
theorem c_X1_joinsSoFar (l : Launch) {G : va_G} {Λ : Lay} {μ : Mem} (hOK : LayOK Λ) {a0 : Nat} (k0 : inK Λ a0 1) {r : Int32} (hs : sX1_joinsSoFar Λ μ a0 = some r) : CM l G Λ yX1_joinsSoFar cX1_joinsSoFar 1 (some .int) 0 μ [.ref a0] (QI G Λ r μ) := by
  refine ofM (own := RX1) (by decide +kernel) rfl (Nat.le_of_ble_eq_true rfl) (fun p e s m args below meth c ls hF hKK hW hr hlocks hl => ?_)
  have hx := hF.1
  have hb := hF.2.1
  have hA : ∀ q, inL Λ q → inL Λ q := fun _ h => h
  have hS : va_S (inL Λ) s.heap s.heap [] := va_S.rf
  have hl : lv_has ls 1 [(0, .ref a0)] := hl
  unfold sX1_joinsSoFar at hs
  refine lv_aload_n hx hb dX1_joinsSoFar_0 rfl (lv_at hl 0 rfl) ?_
  refine gf_1_4 hF hKK hW k0 dX1_joinsSoFar_1 ?_
  have h9 := Option.some.inj hs
  rw [← h9]
  exact wr_i hF hr hlocks (vp_nar_int _) hW hS dX1_joinsSoFar_4

set_option maxHeartbeats 4000000 in
set_option maxRecDepth 100000 in
theorem c_X1_justAbove (l : Launch) {G : va_G} {Λ : Lay} {μ : Mem} (hOK : LayOK Λ) {a0 : Nat} (k0 : inK Λ a0 1) {a1 : Int32} {r : Int32} (hs : sX1_justAbove Λ μ a0 a1 = some r) : CM l G Λ yX1_justAbove cX1_justAbove 4 (some .int) 3 μ [.ref a0, .int a1] (QI G Λ r μ) := by
  refine ofM (own := RX1) (by decide +kernel) rfl (Nat.le_of_ble_eq_true rfl) (fun p e s m args below meth c ls hF hKK hW hr hlocks hl => ?_)
  have hx := hF.1
  have hb := hF.2.1
  have hA : ∀ q, inL Λ q → inL Λ q := fun _ h => h
  have hS : va_S (inL Λ) s.heap s.heap [] := va_S.rf
  have hl : lv_has ls 4 [(0, .ref a0), (1, .int a1)] := hl
  unfold sX1_justAbove at hs
  refine lv_aload_n hx hb dX1_justAbove_0 rfl (lv_at hl 0 rfl) ?_
  refine lv_iload_n hx hb dX1_justAbove_1 rfl (lv_at hl 1 rfl) ?_
  obtain ⟨q1, hq1, hs⟩ := obind_e hs
  refine end_r (run_V (q := (RX1, TX1, 7)) (ci := 1) hF hKK hW hS hl.1 k0 (by decide) rfl (c_X1_roundOf l hOK k0 hq1) (kw_X1_87 hF.2.2.2.2 ⟨Nat.le_of_ble_eq_true rfl, Nat.le_of_ble_eq_true rfl⟩) rfl rfl (Nat.le_of_ble_eq_true rfl) dX1_justAbove_2 ⟨Nat.zero_le _, Nat.zero_le _⟩) hS (fun H locs kq1 hW hS => ?_)
  refine lv_astore_n (lv' := [(2, .ref q1), (0, .ref a0), (1, .int a1)]) hx hb dX1_justAbove_5 rfl hl (by decide) rfl (fun ls hl => ?_)
  refine lv_aload_n hx hb dX1_justAbove_6 rfl (lv_at hl 0 rfl) ?_
  refine lv_iload_n hx hb dX1_justAbove_7 rfl (lv_at hl 2 rfl) ?_
  obtain ⟨q2, hq2, hs⟩ := obind_e hs
  refine end_i (run_V (q := (RX2, TX2, 2)) (ci := 2) hF hKK hW hS hl.1 kq1 (by decide) rfl (c_X2_firstOf l hOK kq1 hq2) (kw_X1_90 hF.2.2.2.2 ⟨Nat.le_of_ble_eq_true rfl, Nat.le_of_ble_eq_true rfl⟩) rfl rfl (Nat.le_of_ble_eq_true rfl) dX1_justAbove_8 ⟨Nat.zero_le _, Nat.zero_le _⟩) hS (fun H locs hW hS => ?_)
  refine lv_istore_n (lv' := [(3, .int q2), (2, .ref q1), (0, .ref a0), (1, .int a1)]) hx hb dX1_justAbove_11 rfl hl (by decide) rfl (fun ls hl => ?_)
  refine lv_iload_n hx hb dX1_justAbove_12 rfl (lv_at hl 0 rfl) ?_
  refine lv_if_gt (tgt := 21) hx hb dX1_justAbove_13 (by decide) (fun c3 => ?_) (fun c3 => ?_)
  · have hs := ite_t hs c3
    refine lv_aload_n hx hb dX1_justAbove_21 rfl (lv_at hl 1 rfl) ?_
    refine lv_iload_n hx hb dX1_justAbove_22 rfl (lv_at hl 0 rfl) ?_
    refine lv_iconst (v := (1 : Int32)) hx hb dX1_justAbove_23 (by decide) ?_
    refine lv_isub hx hb dX1_justAbove_24 ?_
    obtain ⟨q4, hq4, hs⟩ := obind_e hs
    refine end_i (run_V (q := (RX2, TX2, 2)) (ci := 2) hF hKK hW hS hl.1 kq1 (by decide) rfl (c_X2_get l hOK kq1 hq4) (kw_X1_52 hF.2.2.2.2 ⟨Nat.le_of_ble_eq_true rfl, Nat.le_of_ble_eq_true rfl⟩) rfl rfl (Nat.le_of_ble_eq_true rfl) dX1_justAbove_25 ⟨Nat.zero_le _, Nat.zero_le _⟩) hS (fun H locs hW hS => ?_)
    have h9 := Option.some.inj hs
    rw [← h9]
    exact wr_i hF hr hlocks (vp_nar_int _) hW hS dX1_justAbove_28
  · have hs := ite_f hs c3
    refine lv_bipush (v := (-4 : Int32)) hx hb dX1_justAbove_16 (by decide) ?_
    refine lv_goto (tgt := 28) hx hb dX1_justAbove_18 (by decide) ?_
    have h9 := Option.some.inj hs
    rw [← h9]
    exact wr_i hF hr hlocks (vp_nar_int _) hW hS dX1_justAbove_28

set_option maxHeartbeats 4000000 in
set_option maxRecDepth 100000 in
theorem c_X1_lowerOf (l : Launch) {G : va_G} {Λ : Lay} {μ : Mem} (hOK : LayOK Λ) {a0 : Nat} (k0 : inK Λ a0 1) {a1 : Int32} {a2 : Int32} {r : Int32} (hs : sX1_lowerOf Λ μ a0 a1 a2 = some r) : CM l G Λ yX1_lowerOf cX1_lowerOf 4 (some .int) 3 μ [.ref a0, .int a1, .int a2] (QI G Λ r μ) := by
  refine ofM (own := RX1) (by decide +kernel) rfl (Nat.le_of_ble_eq_true rfl) (fun p e s m args below meth c ls hF hKK hW hr hlocks hl => ?_)
  have hx := hF.1
  have hb := hF.2.1
  have hA : ∀ q, inL Λ q → inL Λ q := fun _ h => h
  have hS : va_S (inL Λ) s.heap s.heap [] := va_S.rf
  have hl : lv_has ls 4 [(0, .ref a0), (1, .int a1), (2, .int a2)] := hl
  unfold sX1_lowerOf at hs
  refine lv_aload_n hx hb dX1_lowerOf_0 rfl (lv_at hl 0 rfl) ?_
  refine lv_iload_n hx hb dX1_lowerOf_1 rfl (lv_at hl 1 rfl) ?_
  obtain ⟨q1, hq1, hs⟩ := obind_e hs
  refine end_r (run_V (q := (RX1, TX1, 7)) (ci := 1) hF hKK hW hS hl.1 k0 (by decide) rfl (c_X1_roundOf l hOK k0 hq1) (kw_X1_87 hF.2.2.2.2 ⟨Nat.le_of_ble_eq_true rfl, Nat.le_of_ble_eq_true rfl⟩) rfl rfl (Nat.le_of_ble_eq_true rfl) dX1_lowerOf_2 ⟨Nat.zero_le _, Nat.zero_le _⟩) hS (fun H locs kq1 hW hS => ?_)
  refine lv_astore_n (lv' := [(3, .ref q1), (0, .ref a0), (1, .int a1), (2, .int a2)]) hx hb dX1_lowerOf_5 rfl hl (by decide) rfl (fun ls hl => ?_)
  refine lv_aload_n hx hb dX1_lowerOf_6 rfl (lv_at hl 0 rfl) ?_
  refine lv_iload_n hx hb dX1_lowerOf_7 rfl (lv_at hl 2 rfl) ?_
  obtain ⟨q2, hq2, hs⟩ := obind_e hs
  refine end_i (run_V (q := (RX2, TX2, 2)) (ci := 2) hF hKK hW hS hl.1 kq1 (by decide) rfl (c_X2_firstOf l hOK kq1 hq2) (kw_X1_90 hF.2.2.2.2 ⟨Nat.le_of_ble_eq_true rfl, Nat.le_of_ble_eq_true rfl⟩) rfl rfl (Nat.le_of_ble_eq_true rfl) dX1_lowerOf_8 ⟨Nat.zero_le _, Nat.zero_le _⟩) hS (fun H locs hW hS => ?_)
  refine lv_aload_n hx hb dX1_lowerOf_11 rfl (lv_at hl 0 rfl) ?_
  refine lv_iload_n hx hb dX1_lowerOf_12 rfl (lv_at hl 3 rfl) ?_
  obtain ⟨q3, hq3, hs⟩ := obind_e hs
  refine end_i (run_V (q := (RX2, TX2, 2)) (ci := 2) hF hKK hW hS hl.1 kq1 (by decide) rfl (c_X2_firstOf l hOK kq1 hq3) (kw_X1_90 hF.2.2.2.2 ⟨Nat.le_of_ble_eq_true rfl, Nat.le_of_ble_eq_true rfl⟩) rfl rfl (Nat.le_of_ble_eq_true rfl) dX1_lowerOf_13 ⟨Nat.zero_le _, Nat.zero_le _⟩) hS (fun H locs hW hS => ?_)
  refine lv_icmp_le (tgt := 23) hx hb dX1_lowerOf_16 (by decide) (fun c4 => ?_) (fun c4 => ?_)
  · have hs := ite_t hs c4
    refine lv_iload_n hx hb dX1_lowerOf_23 rfl (lv_at hl 3 rfl) ?_
    have h9 := Option.some.inj hs
    rw [← h9]
    exact wr_i hF hr hlocks (vp_nar_int _) hW hS dX1_lowerOf_24
  · have hs := ite_f hs c4
    refine lv_iload_n hx hb dX1_lowerOf_19 rfl (lv_at hl 2 rfl) ?_
    refine lv_goto (tgt := 24) hx hb dX1_lowerOf_20 (by decide) ?_
    have h9 := Option.some.inj hs
    rw [← h9]
    exact wr_i hF hr hlocks (vp_nar_int _) hW hS dX1_lowerOf_24

set_option maxHeartbeats 4000000 in
set_option maxRecDepth 100000 in
theorem cl_X1_meetingOf_18 {p : Program} {l : Launch} {e : Env} {s : State} {m : MethodId} {args : Array Value} {below : List Frame} {meth : Method} {c : Code} {G : va_G} {Λ : Lay} {μ : Mem} {r : Int32} (hOK : LayOK Λ) (hF : CallFix p m c cX1_meetingOf 6 s args tw RX1) (hKK : KK G Λ s) (hr : meth.sig.returnType = (some .int)) (hlocks : meth.locks = false) {x0 : Nat} (kx0 : inK Λ x0 1) {x3 : Int32} : ∀ (n : Nat) (x4 : Int32) (x5 : Int32) (H : Heap) (locs : List Loc) (ls : Array Slot), lpX1_meetingOf_18 Λ μ x0 x3 n x4 x5 = some r → Wd G Λ μ H → va_S (inL Λ) s.heap H locs → lv_has ls 6 [(0, .ref x0), (3, .int x3), (4, .int x4), (5, .int x5)] → W p l e (rmd 5) s m args below meth c H locs 0 0 (MQ below (QI G Λ r μ) args s 0 0 (inL Λ)) (F0 m 18 ls []) := by
  have hx := hF.1
  have hb := hF.2.1
  have hA : ∀ q, inL Λ q → inL Λ q := fun _ h => h
  intro n
  induction n with
  | zero =>
    intro x4 x5 H locs ls hs hW hS hl
    cases hs
  | succ n18 ih18 =>
    intro x4 x5 H locs ls hs hW hS hl
    rw [lpX1_meetingOf_18_s] at hs
    refine lv_iload hx hb dX1_meetingOf_18 (lv_at hl 3 rfl) ?_
    refine lv_aload_n hx hb dX1_meetingOf_20 rfl (lv_at hl 0 rfl) ?_
    refine gf_1_0 hF hKK hW kx0 dX1_meetingOf_21 ?_
    obtain ⟨q4, hq4, hs⟩ := obind_e hs
    refine end_i (run_V (q := (RX2, TX2, 2)) (ci := 2) hF hKK hW hS hl.1 (lk_1_0 hOK kx0) (by decide) rfl (c_X2_length l hOK (lk_1_0 hOK kx0) hq4) (kw_X1_48 hF.2.2.2.2 ⟨Nat.le_of_ble_eq_true rfl, Nat.le_of_ble_eq_true rfl⟩) rfl rfl (Nat.le_of_ble_eq_true rfl) dX1_meetingOf_24 ⟨Nat.zero_le _, Nat.zero_le _⟩) hS (fun H locs hW hS => ?_)
    refine lv_icmp_ge (tgt := 70) hx hb dX1_meetingOf_27 (by decide) (fun c5 => ?_) (fun c5 => ?_)
    · have hs := ite_t hs c5
      refine lv_iload hx hb dX1_meetingOf_70 (lv_at hl 2 rfl) ?_
      have h9 := Option.some.inj hs
      rw [← h9]
      exact wr_i hF hr hlocks (vp_nar_int _) hW hS dX1_meetingOf_72
    · have hs := ite_f hs c5
      refine lv_iload_n hx hb dX1_meetingOf_30 rfl (lv_at hl 1 rfl) ?_
      refine lv_iload hx hb dX1_meetingOf_31 (lv_at hl 3 rfl) ?_
      obtain ⟨q6, hq6, hs⟩ := obind_e hs
      refine end_i (run_N hF hKK hW hS hl.1 (c_X4_bit l hOK  hq6) (kw_X1_56 hKK.2.1.2.1 hF.2.2.2.2 ⟨Nat.le_of_ble_eq_true rfl, Nat.le_of_ble_eq_true rfl⟩) rfl rfl (Nat.le_of_ble_eq_true rfl) dX1_meetingOf_33 ⟨Nat.zero_le _, Nat.zero_le _⟩) hS (fun H locs hW hS => ?_)
      refine lv_iand hx hb dX1_meetingOf_36 ?_
      refine lv_if_eq (tgt := 64) hx hb dX1_meetingOf_37 (by decide) (fun c7 => ?_) (fun c7 => ?_)
      · have hs := ite_t hs c7
        obtain ⟨v8, ev8, hs⟩ := bnd_e hs
        refine lv_iinc (v := v8) (lv' := [(5, .int v8), (0, .ref x0), (3, .int x3), (4, .int x4)]) hx hb dX1_meetingOf_64 hl (k := 3) rfl (by rw [ev8]; rfl) (by decide) rfl (fun ls hl => ?_)
        refine lv_goto (tgt := 18) hx hb dX1_meetingOf_67 (by decide) ?_
        exact ih18 x4 v8 _ _ _ hs hW hS (lv_sub hl [1, 2, 3, 0] rfl)
      · have hs := ite_f hs c7
        refine lv_iload hx hb dX1_meetingOf_40 (lv_at hl 2 rfl) ?_
        refine lv_if_lt (tgt := 60) hx hb dX1_meetingOf_42 (by decide) (fun c9 => ?_) (fun c9 => ?_)
        · have hs := ite_t hs c9
          refine lv_iload hx hb dX1_meetingOf_60 (lv_at hl 3 rfl) ?_
          refine lv_istore (lv' := [(4, .int x5), (0, .ref x0), (3, .int x3), (5, .int x5)]) hx hb dX1_meetingOf_62 hl (by decide) rfl (fun ls hl => ?_)
          obtain ⟨v10, ev10, hs⟩ := bnd_e hs
          refine lv_iinc (v := v10) (lv' := [(5, .int v10), (4, .int x5), (0, .ref x0), (3, .int x3)]) hx hb dX1_meetingOf_64 hl (k := 3) rfl (by rw [ev10]; rfl) (by decide) rfl (fun ls hl => ?_)
          refine lv_goto (tgt := 18) hx hb dX1_meetingOf_67 (by decide) ?_
          exact ih18 x5 v10 _ _ _ hs hW hS (lv_sub hl [2, 3, 1, 0] rfl)
        · have hs := ite_f hs c9
          refine lv_aload_n hx hb dX1_meetingOf_45 rfl (lv_at hl 0 rfl) ?_
          refine lv_iload hx hb dX1_meetingOf_46 (lv_at hl 3 rfl) ?_
          obtain ⟨q11, hq11, hs⟩ := obind_e hs
          refine end_i (run_V (q := (RX1, TX1, 7)) (ci := 1) hF hKK hW hS hl.1 kx0 (by decide) rfl (c_X1_depthOf l hOK kx0 hq11) (kw_X1_127 hF.2.2.2.2 ⟨Nat.le_of_ble_eq_true rfl, Nat.le_of_ble_eq_true rfl⟩) rfl rfl (Nat.le_of_ble_eq_true rfl) dX1_meetingOf_48 ⟨Nat.zero_le _, Nat.zero_le _⟩) hS (fun H locs hW hS => ?_)
          refine lv_aload_n hx hb dX1_meetingOf_51 rfl (lv_at hl 0 rfl) ?_
          refine lv_iload hx hb dX1_meetingOf_52 (lv_at hl 2 rfl) ?_
          obtain ⟨q12, hq12, hs⟩ := obind_e hs
          refine end_i (run_V (q := (RX1, TX1, 7)) (ci := 1) hF hKK hW hS hl.1 kx0 (by decide) rfl (c_X1_depthOf l hOK kx0 hq12) (kw_X1_127 hF.2.2.2.2 ⟨Nat.le_of_ble_eq_true rfl, Nat.le_of_ble_eq_true rfl⟩) rfl rfl (Nat.le_of_ble_eq_true rfl) dX1_meetingOf_54 ⟨Nat.zero_le _, Nat.zero_le _⟩) hS (fun H locs hW hS => ?_)
          refine lv_icmp_le (tgt := 64) hx hb dX1_meetingOf_57 (by decide) (fun c13 => ?_) (fun c13 => ?_)
          · have hs := ite_t hs c13
            obtain ⟨v14, ev14, hs⟩ := bnd_e hs
            refine lv_iinc (v := v14) (lv' := [(5, .int v14), (0, .ref x0), (3, .int x3), (4, .int x4)]) hx hb dX1_meetingOf_64 hl (k := 3) rfl (by rw [ev14]; rfl) (by decide) rfl (fun ls hl => ?_)
            refine lv_goto (tgt := 18) hx hb dX1_meetingOf_67 (by decide) ?_
            exact ih18 x4 v14 _ _ _ hs hW hS (lv_sub hl [1, 2, 3, 0] rfl)
          · have hs := ite_f hs c13
            refine lv_iload hx hb dX1_meetingOf_60 (lv_at hl 3 rfl) ?_
            refine lv_istore (lv' := [(4, .int x5), (0, .ref x0), (3, .int x3), (5, .int x5)]) hx hb dX1_meetingOf_62 hl (by decide) rfl (fun ls hl => ?_)
            obtain ⟨v15, ev15, hs⟩ := bnd_e hs
            refine lv_iinc (v := v15) (lv' := [(5, .int v15), (4, .int x5), (0, .ref x0), (3, .int x3)]) hx hb dX1_meetingOf_64 hl (k := 3) rfl (by rw [ev15]; rfl) (by decide) rfl (fun ls hl => ?_)
            refine lv_goto (tgt := 18) hx hb dX1_meetingOf_67 (by decide) ?_
            exact ih18 x5 v15 _ _ _ hs hW hS (lv_sub hl [2, 3, 1, 0] rfl)

set_option maxHeartbeats 4000000 in
set_option maxRecDepth 100000 in
theorem c_X1_meetingOf (l : Launch) {G : va_G} {Λ : Lay} {μ : Mem} (hOK : LayOK Λ) {a0 : Nat} (k0 : inK Λ a0 1) {a1 : Int32} {a2 : Int32} {r : Int32} (hs : sX1_meetingOf Λ μ a0 a1 a2 = some r) : CM l G Λ yX1_meetingOf cX1_meetingOf 6 (some .int) 5 μ [.ref a0, .int a1, .int a2] (QI G Λ r μ) := by
  refine ofM (own := RX1) (by decide +kernel) rfl (Nat.le_of_ble_eq_true rfl) (fun p e s m args below meth c ls hF hKK hW hr hlocks hl => ?_)
  have hx := hF.1
  have hb := hF.2.1
  have hA : ∀ q, inL Λ q → inL Λ q := fun _ h => h
  have hS : va_S (inL Λ) s.heap s.heap [] := va_S.rf
  have hl : lv_has ls 6 [(0, .ref a0), (1, .int a1), (2, .int a2)] := hl
  unfold sX1_meetingOf at hs
  refine lv_aload_n hx hb dX1_meetingOf_0 rfl (lv_at hl 0 rfl) ?_
  refine lv_iload_n hx hb dX1_meetingOf_1 rfl (lv_at hl 1 rfl) ?_
  obtain ⟨q1, hq1, hs⟩ := obind_e hs
  refine end_i (run_V (q := (RX1, TX1, 7)) (ci := 1) hF hKK hW hS hl.1 k0 (by decide) rfl (c_X1_aboveOf l hOK k0 hq1) (kw_X1_121 hF.2.2.2.2 ⟨Nat.le_of_ble_eq_true rfl, Nat.le_of_ble_eq_true rfl⟩) rfl rfl (Nat.le_of_ble_eq_true rfl) dX1_meetingOf_2 ⟨Nat.zero_le _, Nat.zero_le _⟩) hS (fun H locs hW hS => ?_)
  refine lv_aload_n hx hb dX1_meetingOf_5 rfl (lv_at hl 0 rfl) ?_
  refine lv_iload_n hx hb dX1_meetingOf_6 rfl (lv_at hl 2 rfl) ?_
  obtain ⟨q2, hq2, hs⟩ := obind_e hs
  refine end_i (run_V (q := (RX1, TX1, 7)) (ci := 1) hF hKK hW hS hl.1 k0 (by decide) rfl (c_X1_aboveOf l hOK k0 hq2) (kw_X1_121 hF.2.2.2.2 ⟨Nat.le_of_ble_eq_true rfl, Nat.le_of_ble_eq_true rfl⟩) rfl rfl (Nat.le_of_ble_eq_true rfl) dX1_meetingOf_7 ⟨Nat.zero_le _, Nat.zero_le _⟩) hS (fun H locs hW hS => ?_)
  refine lv_iand hx hb dX1_meetingOf_10 ?_
  obtain ⟨v3, ev3, hs⟩ := bnd_e hs
  refine top_i ev3 ?_
  refine lv_istore_n (lv' := [(3, .int v3), (0, .ref a0), (1, .int a1), (2, .int a2)]) hx hb dX1_meetingOf_11 rfl hl (by decide) rfl (fun ls hl => ?_)
  refine lv_iconst (v := (-1 : Int32)) hx hb dX1_meetingOf_12 (by decide) ?_
  refine lv_istore (lv' := [(4, .int (-1 : Int32)), (3, .int v3), (0, .ref a0), (1, .int a1), (2, .int a2)]) hx hb dX1_meetingOf_13 hl (by decide) rfl (fun ls hl => ?_)
  refine lv_iconst (v := (0 : Int32)) hx hb dX1_meetingOf_15 (by decide) ?_
  refine lv_istore (lv' := [(5, .int (0 : Int32)), (4, .int (-1 : Int32)), (3, .int v3), (0, .ref a0), (1, .int a1), (2, .int a2)]) hx hb dX1_meetingOf_16 hl (by decide) rfl (fun ls hl => ?_)
  exact cl_X1_meetingOf_18 hOK hF hKK hr hlocks k0 fuel (-1 : Int32) (0 : Int32) _ _ _ hs hW hS (lv_sub hl [3, 2, 1, 0] rfl)

set_option maxHeartbeats 4000000 in
set_option maxRecDepth 100000 in
theorem cl_X1_middleWith_14 {p : Program} {l : Launch} {e : Env} {s : State} {m : MethodId} {args : Array Value} {below : List Frame} {meth : Method} {c : Code} {G : va_G} {Λ : Lay} {μ : Mem} {r : Int32} (hOK : LayOK Λ) (hF : CallFix p m c cX1_middleWith 7 s args tw RX1) (hKK : KK G Λ s) (hr : meth.sig.returnType = (some .int)) (hlocks : meth.locks = false) {x0 : Nat} (kx0 : inK Λ x0 1) {x2 : Int32} : ∀ (n : Nat) (x3 : Int32) (x4 : Int32) (x5 : Int32) (H : Heap) (locs : List Loc) (ls : Array Slot), lpX1_middleWith_14 Λ μ x0 x2 n x3 x4 x5 = some r → Wd G Λ μ H → va_S (inL Λ) s.heap H locs → lv_has ls 7 [(0, .ref x0), (2, .int x2), (3, .int x3), (4, .int x4), (5, .int x5)] → W p l e (rmd 5) s m args below meth c H locs 0 0 (MQ below (QI G Λ r μ) args s 0 0 (inL Λ)) (F0 m 14 ls []) := by
  have hx := hF.1
  have hb := hF.2.1
  have hA : ∀ q, inL Λ q → inL Λ q := fun _ h => h
  intro n
  induction n with
  | zero =>
    intro x3 x4 x5 H locs ls hs hW hS hl
    cases hs
  | succ n14 ih14 =>
    intro x3 x4 x5 H locs ls hs hW hS hl
    rw [lpX1_middleWith_14_s] at hs
    refine lv_iload hx hb dX1_middleWith_14 (lv_at hl 4 rfl) ?_
    refine lv_aload_n hx hb dX1_middleWith_16 rfl (lv_at hl 0 rfl) ?_
    refine gf_1_0 hF hKK hW kx0 dX1_middleWith_17 ?_
    obtain ⟨q2, hq2, hs⟩ := obind_e hs
    refine end_i (run_V (q := (RX2, TX2, 2)) (ci := 2) hF hKK hW hS hl.1 (lk_1_0 hOK kx0) (by decide) rfl (c_X2_length l hOK (lk_1_0 hOK kx0) hq2) (kw_X1_48 hF.2.2.2.2 ⟨Nat.le_of_ble_eq_true rfl, Nat.le_of_ble_eq_true rfl⟩) rfl rfl (Nat.le_of_ble_eq_true rfl) dX1_middleWith_20 ⟨Nat.zero_le _, Nat.zero_le _⟩) hS (fun H locs hW hS => ?_)
    refine lv_icmp_ge (tgt := 68) hx hb dX1_middleWith_23 (by decide) (fun c3 => ?_) (fun c3 => ?_)
    · have hs := ite_t hs c3
      refine lv_iload_n hx hb dX1_middleWith_68 rfl (lv_at hl 2 rfl) ?_
      have h9 := Option.some.inj hs
      rw [← h9]
      exact wr_i hF hr hlocks (vp_nar_int _) hW hS dX1_middleWith_69
    · have hs := ite_f hs c3
      refine lv_iload_n hx hb dX1_middleWith_26 rfl (lv_at hl 1 rfl) ?_
      refine lv_iload hx hb dX1_middleWith_27 (lv_at hl 4 rfl) ?_
      obtain ⟨q4, hq4, hs⟩ := obind_e hs
      refine end_i (run_N hF hKK hW hS hl.1 (c_X4_bit l hOK  hq4) (kw_X1_56 hKK.2.1.2.1 hF.2.2.2.2 ⟨Nat.le_of_ble_eq_true rfl, Nat.le_of_ble_eq_true rfl⟩) rfl rfl (Nat.le_of_ble_eq_true rfl) dX1_middleWith_29 ⟨Nat.zero_le _, Nat.zero_le _⟩) hS (fun H locs hW hS => ?_)
      refine lv_iand hx hb dX1_middleWith_32 ?_
      refine lv_if_eq (tgt := 62) hx hb dX1_middleWith_33 (by decide) (fun c5 => ?_) (fun c5 => ?_)
      · have hs := ite_t hs c5
        obtain ⟨v6, ev6, hs⟩ := bnd_e hs
        refine lv_iinc (v := v6) (lv' := [(5, .int v6), (0, .ref x0), (2, .int x2), (3, .int x3), (4, .int x4)]) hx hb dX1_middleWith_62 hl (k := 4) rfl (by rw [ev6]; rfl) (by decide) rfl (fun ls hl => ?_)
        refine lv_goto (tgt := 14) hx hb dX1_middleWith_65 (by decide) ?_
        exact ih14 x3 x4 v6 _ _ _ hs hW hS (lv_sub hl [1, 2, 3, 4, 0] rfl)
      · have hs := ite_f hs c5
        refine lv_aload_n hx hb dX1_middleWith_36 rfl (lv_at hl 0 rfl) ?_
        refine lv_iload hx hb dX1_middleWith_37 (lv_at hl 4 rfl) ?_
        obtain ⟨q7, hq7, hs⟩ := obind_e hs
        refine end_i (run_V (q := (RX1, TX1, 7)) (ci := 1) hF hKK hW hS hl.1 kx0 (by decide) rfl (c_X1_heaviestLeftWithout l hOK kx0 hq7) (kw_X1_149 hF.2.2.2.2 ⟨Nat.le_of_ble_eq_true rfl, Nat.le_of_ble_eq_true rfl⟩) rfl rfl (Nat.le_of_ble_eq_true rfl) dX1_middleWith_39 ⟨Nat.zero_le _, Nat.zero_le _⟩) hS (fun H locs hW hS => ?_)
        refine lv_istore (lv' := [(6, .int q7), (0, .ref x0), (2, .int x2), (3, .int x3), (4, .int x4), (5, .int x5)]) hx hb dX1_middleWith_42 hl (by decide) rfl (fun ls hl => ?_)
        refine lv_iload_n hx hb dX1_middleWith_44 rfl (lv_at hl 3 rfl) ?_
        refine lv_if_lt (tgt := 55) hx hb dX1_middleWith_45 (by decide) (fun c8 => ?_) (fun c8 => ?_)
        · have hs := ite_t hs c8
          refine lv_iload hx hb dX1_middleWith_55 (lv_at hl 5 rfl) ?_
          refine lv_istore_n (lv' := [(3, .int x5), (6, .int q7), (0, .ref x0), (2, .int x2), (4, .int x4), (5, .int x5)]) hx hb dX1_middleWith_57 rfl hl (by decide) rfl (fun ls hl => ?_)
          refine lv_iload hx hb dX1_middleWith_58 (lv_at hl 1 rfl) ?_
          refine lv_istore (lv' := [(4, .int q7), (3, .int x5), (6, .int q7), (0, .ref x0), (2, .int x2), (5, .int x5)]) hx hb dX1_middleWith_60 hl (by decide) rfl (fun ls hl => ?_)
          obtain ⟨v9, ev9, hs⟩ := bnd_e hs
          refine lv_iinc (v := v9) (lv' := [(5, .int v9), (4, .int q7), (3, .int x5), (6, .int q7), (0, .ref x0), (2, .int x2)]) hx hb dX1_middleWith_62 hl (k := 5) rfl (by rw [ev9]; rfl) (by decide) rfl (fun ls hl => ?_)
          refine lv_goto (tgt := 14) hx hb dX1_middleWith_65 (by decide) ?_
          exact ih14 x5 q7 v9 _ _ _ hs hW hS (lv_sub hl [4, 5, 2, 1, 0] rfl)
        · have hs := ite_f hs c8
          refine lv_iload hx hb dX1_middleWith_48 (lv_at hl 0 rfl) ?_
          refine lv_iload hx hb dX1_middleWith_50 (lv_at hl 4 rfl) ?_
          refine lv_icmp_ge (tgt := 62) hx hb dX1_middleWith_52 (by decide) (fun c10 => ?_) (fun c10 => ?_)
          · have hs := ite_t hs c10
            obtain ⟨v11, ev11, hs⟩ := bnd_e hs
            refine lv_iinc (v := v11) (lv' := [(5, .int v11), (6, .int q7), (0, .ref x0), (2, .int x2), (3, .int x3), (4, .int x4)]) hx hb dX1_middleWith_62 hl (k := 5) rfl (by rw [ev11]; rfl) (by decide) rfl (fun ls hl => ?_)
            refine lv_goto (tgt := 14) hx hb dX1_middleWith_65 (by decide) ?_
            exact ih14 x3 x4 v11 _ _ _ hs hW hS (lv_sub hl [2, 3, 4, 5, 0] rfl)
          · have hs := ite_f hs c10
            refine lv_iload hx hb dX1_middleWith_55 (lv_at hl 5 rfl) ?_
            refine lv_istore_n (lv' := [(3, .int x5), (6, .int q7), (0, .ref x0), (2, .int x2), (4, .int x4), (5, .int x5)]) hx hb dX1_middleWith_57 rfl hl (by decide) rfl (fun ls hl => ?_)
            refine lv_iload hx hb dX1_middleWith_58 (lv_at hl 1 rfl) ?_
            refine lv_istore (lv' := [(4, .int q7), (3, .int x5), (6, .int q7), (0, .ref x0), (2, .int x2), (5, .int x5)]) hx hb dX1_middleWith_60 hl (by decide) rfl (fun ls hl => ?_)
            obtain ⟨v12, ev12, hs⟩ := bnd_e hs
            refine lv_iinc (v := v12) (lv' := [(5, .int v12), (4, .int q7), (3, .int x5), (6, .int q7), (0, .ref x0), (2, .int x2)]) hx hb dX1_middleWith_62 hl (k := 5) rfl (by rw [ev12]; rfl) (by decide) rfl (fun ls hl => ?_)
            refine lv_goto (tgt := 14) hx hb dX1_middleWith_65 (by decide) ?_
            exact ih14 x5 q7 v12 _ _ _ hs hW hS (lv_sub hl [4, 5, 2, 1, 0] rfl)

set_option maxHeartbeats 4000000 in
set_option maxRecDepth 100000 in
theorem c_X1_middleWith (l : Launch) {G : va_G} {Λ : Lay} {μ : Mem} (hOK : LayOK Λ) {a0 : Nat} (k0 : inK Λ a0 1) {a1 : Int32} {r : Int32} (hs : sX1_middleWith Λ μ a0 a1 = some r) : CM l G Λ yX1_middleWith cX1_middleWith 7 (some .int) 5 μ [.ref a0, .int a1] (QI G Λ r μ) := by
  refine ofM (own := RX1) (by decide +kernel) rfl (Nat.le_of_ble_eq_true rfl) (fun p e s m args below meth c ls hF hKK hW hr hlocks hl => ?_)
  have hx := hF.1
  have hb := hF.2.1
  have hA : ∀ q, inL Λ q → inL Λ q := fun _ h => h
  have hS : va_S (inL Λ) s.heap s.heap [] := va_S.rf
  have hl : lv_has ls 7 [(0, .ref a0), (1, .int a1)] := hl
  unfold sX1_middleWith at hs
  refine lv_aload_n hx hb dX1_middleWith_0 rfl (lv_at hl 0 rfl) ?_
  refine lv_iload_n hx hb dX1_middleWith_1 rfl (lv_at hl 1 rfl) ?_
  obtain ⟨q1, hq1, hs⟩ := obind_e hs
  refine end_i (run_V (q := (RX1, TX1, 7)) (ci := 1) hF hKK hW hS hl.1 k0 (by decide) rfl (c_X1_banksWith l hOK k0 hq1) (kw_X1_146 hF.2.2.2.2 ⟨Nat.le_of_ble_eq_true rfl, Nat.le_of_ble_eq_true rfl⟩) rfl rfl (Nat.le_of_ble_eq_true rfl) dX1_middleWith_2 ⟨Nat.zero_le _, Nat.zero_le _⟩) hS (fun H locs hW hS => ?_)
  refine lv_istore_n (lv' := [(2, .int q1), (0, .ref a0), (1, .int a1)]) hx hb dX1_middleWith_5 rfl hl (by decide) rfl (fun ls hl => ?_)
  refine lv_iconst (v := (-1 : Int32)) hx hb dX1_middleWith_6 (by decide) ?_
  refine lv_istore_n (lv' := [(3, .int (-1 : Int32)), (2, .int q1), (0, .ref a0), (1, .int a1)]) hx hb dX1_middleWith_7 rfl hl (by decide) rfl (fun ls hl => ?_)
  refine lv_iconst (v := (0 : Int32)) hx hb dX1_middleWith_8 (by decide) ?_
  refine lv_istore (lv' := [(4, .int (0 : Int32)), (3, .int (-1 : Int32)), (2, .int q1), (0, .ref a0), (1, .int a1)]) hx hb dX1_middleWith_9 hl (by decide) rfl (fun ls hl => ?_)
  refine lv_iconst (v := (0 : Int32)) hx hb dX1_middleWith_11 (by decide) ?_
  refine lv_istore (lv' := [(5, .int (0 : Int32)), (4, .int (0 : Int32)), (3, .int (-1 : Int32)), (2, .int q1), (0, .ref a0), (1, .int a1)]) hx hb dX1_middleWith_12 hl (by decide) rfl (fun ls hl => ?_)
  exact cl_X1_middleWith_14 hOK hF hKK hr hlocks k0 fuel (-1 : Int32) (0 : Int32) (0 : Int32) _ _ _ hs hW hS (lv_sub hl [4, 3, 2, 1, 0] rfl)

set_option maxHeartbeats 4000000 in
set_option maxRecDepth 100000 in
theorem cl_X1_parts_4 {p : Program} {l : Launch} {e : Env} {s : State} {m : MethodId} {args : Array Value} {below : List Frame} {meth : Method} {c : Code} {G : va_G} {Λ : Lay} {μ : Mem} {r : Int32} (hOK : LayOK Λ) (hF : CallFix p m c cX1_parts 3 s args tw RX1) (hKK : KK G Λ s) (hr : meth.sig.returnType = (some .int)) (hlocks : meth.locks = false) {x0 : Nat} (kx0 : inK Λ x0 1) : ∀ (n : Nat) (x1 : Int32) (x2 : Int32) (H : Heap) (locs : List Loc) (ls : Array Slot), lpX1_parts_4 Λ μ x0 n x1 x2 = some r → Wd G Λ μ H → va_S (inL Λ) s.heap H locs → lv_has ls 3 [(0, .ref x0), (1, .int x1), (2, .int x2)] → W p l e (rmd 2) s m args below meth c H locs 0 0 (MQ below (QI G Λ r μ) args s 0 0 (inL Λ)) (F0 m 4 ls []) := by
  have hx := hF.1
  have hb := hF.2.1
  have hA : ∀ q, inL Λ q → inL Λ q := fun _ h => h
  intro n
  induction n with
  | zero =>
    intro x1 x2 H locs ls hs hW hS hl
    cases hs
  | succ n4 ih4 =>
    intro x1 x2 H locs ls hs hW hS hl
    rw [lpX1_parts_4_s] at hs
    refine lv_iload_n hx hb dX1_parts_4 rfl (lv_at hl 2 rfl) ?_
    refine lv_bipush (v := (12 : Int32)) hx hb dX1_parts_5 (by decide) ?_
    refine lv_icmp_ge (tgt := 32) hx hb dX1_parts_7 (by decide) (fun c1 => ?_) (fun c1 => ?_)
    · have hs := ite_t hs c1
      refine lv_iload_n hx hb dX1_parts_32 rfl (lv_at hl 1 rfl) ?_
      have h9 := Option.some.inj hs
      rw [← h9]
      exact wr_i hF hr hlocks (vp_nar_int _) hW hS dX1_parts_33
    · have hs := ite_f hs c1
      refine lv_iload_n hx hb dX1_parts_10 rfl (lv_at hl 1 rfl) ?_
      refine lv_aload_n hx hb dX1_parts_11 rfl (lv_at hl 0 rfl) ?_
      refine lv_iload_n hx hb dX1_parts_12 rfl (lv_at hl 2 rfl) ?_
      obtain ⟨q2, hq2, hs⟩ := obind_e hs
      refine end_i (run_V (q := (RX1, TX1, 7)) (ci := 1) hF hKK hW hS hl.1 kx0 (by decide) rfl (c_X1_isRoot l hOK kx0 hq2) (kw_X1_112 hF.2.2.2.2 ⟨Nat.le_of_ble_eq_true rfl, Nat.le_of_ble_eq_true rfl⟩) rfl rfl (Nat.le_of_ble_eq_true rfl) dX1_parts_13 ⟨Nat.zero_le _, Nat.zero_le _⟩) hS (fun H locs hW hS => ?_)
      refine lv_if_eq (tgt := 23) hx hb dX1_parts_16 (by decide) (fun c3 => ?_) (fun c3 => ?_)
      · have hs := ite_t hs c3
        refine lv_iconst (v := (0 : Int32)) hx hb dX1_parts_23 (by decide) ?_
        refine lv_iadd hx hb dX1_parts_24 ?_
        obtain ⟨v4, ev4, hs⟩ := bnd_e hs
        refine top_i ev4 ?_
        refine lv_istore_n (lv' := [(1, .int v4), (0, .ref x0), (2, .int x2)]) hx hb dX1_parts_25 rfl hl (by decide) rfl (fun ls hl => ?_)
        obtain ⟨v5, ev5, hs⟩ := bnd_e hs
        refine lv_iinc (v := v5) (lv' := [(2, .int v5), (1, .int v4), (0, .ref x0)]) hx hb dX1_parts_26 hl (k := 2) rfl (by rw [ev5]; rfl) (by decide) rfl (fun ls hl => ?_)
        refine lv_goto (tgt := 4) hx hb dX1_parts_29 (by decide) ?_
        exact ih4 v4 v5 _ _ _ hs hW hS (lv_sub hl [2, 1, 0] rfl)
      · have hs := ite_f hs c3
        refine lv_iconst (v := (1 : Int32)) hx hb dX1_parts_19 (by decide) ?_
        refine lv_goto (tgt := 24) hx hb dX1_parts_20 (by decide) ?_
        refine lv_iadd hx hb dX1_parts_24 ?_
        obtain ⟨v6, ev6, hs⟩ := bnd_e hs
        refine top_i ev6 ?_
        refine lv_istore_n (lv' := [(1, .int v6), (0, .ref x0), (2, .int x2)]) hx hb dX1_parts_25 rfl hl (by decide) rfl (fun ls hl => ?_)
        obtain ⟨v7, ev7, hs⟩ := bnd_e hs
        refine lv_iinc (v := v7) (lv' := [(2, .int v7), (1, .int v6), (0, .ref x0)]) hx hb dX1_parts_26 hl (k := 2) rfl (by rw [ev7]; rfl) (by decide) rfl (fun ls hl => ?_)
        refine lv_goto (tgt := 4) hx hb dX1_parts_29 (by decide) ?_
        exact ih4 v6 v7 _ _ _ hs hW hS (lv_sub hl [2, 1, 0] rfl)

set_option maxHeartbeats 4000000 in
set_option maxRecDepth 100000 in
theorem c_X1_parts (l : Launch) {G : va_G} {Λ : Lay} {μ : Mem} (hOK : LayOK Λ) {a0 : Nat} (k0 : inK Λ a0 1) {r : Int32} (hs : sX1_parts Λ μ a0 = some r) : CM l G Λ yX1_parts cX1_parts 3 (some .int) 2 μ [.ref a0] (QI G Λ r μ) := by
  refine ofM (own := RX1) (by decide +kernel) rfl (Nat.le_of_ble_eq_true rfl) (fun p e s m args below meth c ls hF hKK hW hr hlocks hl => ?_)
  have hx := hF.1
  have hb := hF.2.1
  have hA : ∀ q, inL Λ q → inL Λ q := fun _ h => h
  have hS : va_S (inL Λ) s.heap s.heap [] := va_S.rf
  have hl : lv_has ls 3 [(0, .ref a0)] := hl
  unfold sX1_parts at hs
  refine lv_iconst (v := (0 : Int32)) hx hb dX1_parts_0 (by decide) ?_
  refine lv_istore_n (lv' := [(1, .int (0 : Int32)), (0, .ref a0)]) hx hb dX1_parts_1 rfl hl (by decide) rfl (fun ls hl => ?_)
  refine lv_iconst (v := (0 : Int32)) hx hb dX1_parts_2 (by decide) ?_
  refine lv_istore_n (lv' := [(2, .int (0 : Int32)), (1, .int (0 : Int32)), (0, .ref a0)]) hx hb dX1_parts_3 rfl hl (by decide) rfl (fun ls hl => ?_)
  exact cl_X1_parts_4 hOK hF hKK hr hlocks k0 fuel (0 : Int32) (0 : Int32) _ _ _ hs hW hS (lv_sub hl [2, 1, 0] rfl)

set_option maxHeartbeats 4000000 in
set_option maxRecDepth 100000 in
theorem c_X1_ranksAhead (l : Launch) {G : va_G} {Λ : Lay} {μ : Mem} (hOK : LayOK Λ) {a0 : Nat} (k0 : inK Λ a0 1) {a1 : Int32} {a2 : Int32} {r : Int32} (hs : sX1_ranksAhead Λ μ a0 a1 a2 = some r) : CM l G Λ yX1_ranksAhead cX1_ranksAhead 7 (some .boolean) 3 μ [.ref a0, .int a1, .int a2] (QI G Λ r μ) := by
  refine ofM (own := RX1) (by decide +kernel) rfl (Nat.le_of_ble_eq_true rfl) (fun p e s m args below meth c ls hF hKK hW hr hlocks hl => ?_)
  have hx := hF.1
  have hb := hF.2.1
  have hA : ∀ q, inL Λ q → inL Λ q := fun _ h => h
  have hS : va_S (inL Λ) s.heap s.heap [] := va_S.rf
  have hl : lv_has ls 7 [(0, .ref a0), (1, .int a1), (2, .int a2)] := hl
  unfold sX1_ranksAhead at hs
  refine lv_aload_n hx hb dX1_ranksAhead_0 rfl (lv_at hl 0 rfl) ?_
  refine lv_aload_n hx hb dX1_ranksAhead_1 rfl (lv_at hl 0 rfl) ?_
  refine lv_iload_n hx hb dX1_ranksAhead_2 rfl (lv_at hl 1 rfl) ?_
  obtain ⟨q1, hq1, hs⟩ := obind_e hs
  refine end_r (run_V (q := (RX1, TX1, 7)) (ci := 1) hF hKK hW hS hl.1 k0 (by decide) rfl (c_X1_roundAt l hOK k0 hq1) (kw_X1_34 hF.2.2.2.2 ⟨Nat.le_of_ble_eq_true rfl, Nat.le_of_ble_eq_true rfl⟩) rfl rfl (Nat.le_of_ble_eq_true rfl) dX1_ranksAhead_3 ⟨Nat.zero_le _, Nat.zero_le _⟩) hS (fun H locs kq1 hW hS => ?_)
  obtain ⟨q2, hq2, hs⟩ := obind_e hs
  refine end_i (run_V (q := (RX2, TX2, 2)) (ci := 2) hF hKK hW hS hl.1 kq1 (by decide) rfl (c_X2_setOfAll l hOK kq1 hq2) (kw_X1_115 hF.2.2.2.2 ⟨Nat.le_of_ble_eq_true rfl, Nat.le_of_ble_eq_true rfl⟩) rfl rfl (Nat.le_of_ble_eq_true rfl) dX1_ranksAhead_6 ⟨Nat.zero_le _, Nat.zero_le _⟩) hS (fun H locs hW hS => ?_)
  obtain ⟨q3, hq3, hs⟩ := obind_e hs
  refine end_i (run_V (q := (RX1, TX1, 7)) (ci := 1) hF hKK hW hS hl.1 k0 (by decide) rfl (c_X1_weightOfAll l hOK k0 hq3) (kw_X1_143 hF.2.2.2.2 ⟨Nat.le_of_ble_eq_true rfl, Nat.le_of_ble_eq_true rfl⟩) rfl rfl (Nat.le_of_ble_eq_true rfl) dX1_ranksAhead_9 ⟨Nat.zero_le _, Nat.zero_le _⟩) hS (fun H locs hW hS => ?_)
  refine lv_istore_n (lv' := [(3, .int q3), (0, .ref a0), (1, .int a1), (2, .int a2)]) hx hb dX1_ranksAhead_12 rfl hl (by decide) rfl (fun ls hl => ?_)
  refine lv_aload_n hx hb dX1_ranksAhead_13 rfl (lv_at hl 1 rfl) ?_
  refine lv_aload_n hx hb dX1_ranksAhead_14 rfl (lv_at hl 1 rfl) ?_
  refine lv_iload_n hx hb dX1_ranksAhead_15 rfl (lv_at hl 3 rfl) ?_
  obtain ⟨q4, hq4, hs⟩ := obind_e hs
  refine end_r (run_V (q := (RX1, TX1, 7)) (ci := 1) hF hKK hW hS hl.1 k0 (by decide) rfl (c_X1_roundAt l hOK k0 hq4) (kw_X1_34 hF.2.2.2.2 ⟨Nat.le_of_ble_eq_true rfl, Nat.le_of_ble_eq_true rfl⟩) rfl rfl (Nat.le_of_ble_eq_true rfl) dX1_ranksAhead_16 ⟨Nat.zero_le _, Nat.zero_le _⟩) hS (fun H locs kq4 hW hS => ?_)
  obtain ⟨q5, hq5, hs⟩ := obind_e hs
  refine end_i (run_V (q := (RX2, TX2, 2)) (ci := 2) hF hKK hW hS hl.1 kq4 (by decide) rfl (c_X2_setOfAll l hOK kq4 hq5) (kw_X1_115 hF.2.2.2.2 ⟨Nat.le_of_ble_eq_true rfl, Nat.le_of_ble_eq_true rfl⟩) rfl rfl (Nat.le_of_ble_eq_true rfl) dX1_ranksAhead_19 ⟨Nat.zero_le _, Nat.zero_le _⟩) hS (fun H locs hW hS => ?_)
  obtain ⟨q6, hq6, hs⟩ := obind_e hs
  refine end_i (run_V (q := (RX1, TX1, 7)) (ci := 1) hF hKK hW hS hl.1 k0 (by decide) rfl (c_X1_weightOfAll l hOK k0 hq6) (kw_X1_143 hF.2.2.2.2 ⟨Nat.le_of_ble_eq_true rfl, Nat.le_of_ble_eq_true rfl⟩) rfl rfl (Nat.le_of_ble_eq_true rfl) dX1_ranksAhead_22 ⟨Nat.zero_le _, Nat.zero_le _⟩) hS (fun H locs hW hS => ?_)
  refine lv_istore (lv' := [(4, .int q6), (3, .int q3), (0, .ref a0), (1, .int a1), (2, .int a2)]) hx hb dX1_ranksAhead_25 hl (by decide) rfl (fun ls hl => ?_)
  refine lv_iload_n hx hb dX1_ranksAhead_27 rfl (lv_at hl 1 rfl) ?_
  refine lv_iload hx hb dX1_ranksAhead_28 (lv_at hl 0 rfl) ?_
  refine lv_icmp_eq (tgt := 45) hx hb dX1_ranksAhead_30 (by decide) (fun c7 => ?_) (fun c7 => ?_)
  · have hs := ite_t hs c7
    refine lv_aload_n hx hb dX1_ranksAhead_45 rfl (lv_at hl 2 rfl) ?_
    refine lv_iload_n hx hb dX1_ranksAhead_46 rfl (lv_at hl 3 rfl) ?_
    obtain ⟨q8, hq8, hs⟩ := obind_e hs
    refine end_r (run_V (q := (RX1, TX1, 7)) (ci := 1) hF hKK hW hS hl.1 k0 (by decide) rfl (c_X1_roundAt l hOK k0 hq8) (kw_X1_34 hF.2.2.2.2 ⟨Nat.le_of_ble_eq_true rfl, Nat.le_of_ble_eq_true rfl⟩) rfl rfl (Nat.le_of_ble_eq_true rfl) dX1_ranksAhead_47 ⟨Nat.zero_le _, Nat.zero_le _⟩) hS (fun H locs kq8 hW hS => ?_)
    obtain ⟨q9, hq9, hs⟩ := obind_e hs
    refine end_i (run_V (q := (RX2, TX2, 2)) (ci := 2) hF hKK hW hS hl.1 kq8 (by decide) rfl (c_X2_length l hOK kq8 hq9) (kw_X1_48 hF.2.2.2.2 ⟨Nat.le_of_ble_eq_true rfl, Nat.le_of_ble_eq_true rfl⟩) rfl rfl (Nat.le_of_ble_eq_true rfl) dX1_ranksAhead_50 ⟨Nat.zero_le _, Nat.zero_le _⟩) hS (fun H locs hW hS => ?_)
    refine lv_istore (lv' := [(5, .int q9), (4, .int q6), (3, .int q3), (0, .ref a0), (1, .int a1), (2, .int a2)]) hx hb dX1_ranksAhead_53 hl (by decide) rfl (fun ls hl => ?_)
    refine lv_aload_n hx hb dX1_ranksAhead_55 rfl (lv_at hl 3 rfl) ?_
    refine lv_iload_n hx hb dX1_ranksAhead_56 rfl (lv_at hl 5 rfl) ?_
    obtain ⟨q10, hq10, hs⟩ := obind_e hs
    refine end_r (run_V (q := (RX1, TX1, 7)) (ci := 1) hF hKK hW hS hl.1 k0 (by decide) rfl (c_X1_roundAt l hOK k0 hq10) (kw_X1_34 hF.2.2.2.2 ⟨Nat.le_of_ble_eq_true rfl, Nat.le_of_ble_eq_true rfl⟩) rfl rfl (Nat.le_of_ble_eq_true rfl) dX1_ranksAhead_57 ⟨Nat.zero_le _, Nat.zero_le _⟩) hS (fun H locs kq10 hW hS => ?_)
    obtain ⟨q11, hq11, hs⟩ := obind_e hs
    refine end_i (run_V (q := (RX2, TX2, 2)) (ci := 2) hF hKK hW hS hl.1 kq10 (by decide) rfl (c_X2_length l hOK kq10 hq11) (kw_X1_48 hF.2.2.2.2 ⟨Nat.le_of_ble_eq_true rfl, Nat.le_of_ble_eq_true rfl⟩) rfl rfl (Nat.le_of_ble_eq_true rfl) dX1_ranksAhead_60 ⟨Nat.zero_le _, Nat.zero_le _⟩) hS (fun H locs hW hS => ?_)
    refine lv_istore (lv' := [(6, .int q11), (5, .int q9), (4, .int q6), (3, .int q3), (0, .ref a0), (1, .int a1), (2, .int a2)]) hx hb dX1_ranksAhead_63 hl (by decide) rfl (fun ls hl => ?_)
    refine lv_iload hx hb dX1_ranksAhead_65 (lv_at hl 1 rfl) ?_
    refine lv_iload hx hb dX1_ranksAhead_67 (lv_at hl 0 rfl) ?_
    refine lv_icmp_eq (tgt := 87) hx hb dX1_ranksAhead_69 (by decide) (fun c12 => ?_) (fun c12 => ?_)
    · have hs := ite_t hs c12
      refine lv_iload_n hx hb dX1_ranksAhead_87 rfl (lv_at hl 5 rfl) ?_
      refine lv_iload_n hx hb dX1_ranksAhead_88 rfl (lv_at hl 6 rfl) ?_
      refine lv_icmp_ge (tgt := 96) hx hb dX1_ranksAhead_89 (by decide) (fun c13 => ?_) (fun c13 => ?_)
      · have hs := ite_t hs c13
        refine lv_iconst (v := (0 : Int32)) hx hb dX1_ranksAhead_96 (by decide) ?_
        have h9 := Option.some.inj hs
        rw [← h9]
        exact wr_i hF hr hlocks (isB_nar (Or.inl rfl)) hW hS dX1_ranksAhead_97
      · have hs := ite_f hs c13
        refine lv_iconst (v := (1 : Int32)) hx hb dX1_ranksAhead_92 (by decide) ?_
        refine lv_goto (tgt := 97) hx hb dX1_ranksAhead_93 (by decide) ?_
        have h9 := Option.some.inj hs
        rw [← h9]
        exact wr_i hF hr hlocks (isB_nar (Or.inr rfl)) hW hS dX1_ranksAhead_97
    · have hs := ite_f hs c12
      refine lv_iload hx hb dX1_ranksAhead_72 (lv_at hl 1 rfl) ?_
      refine lv_iload hx hb dX1_ranksAhead_74 (lv_at hl 0 rfl) ?_
      refine lv_icmp_le (tgt := 83) hx hb dX1_ranksAhead_76 (by decide) (fun c14 => ?_) (fun c14 => ?_)
      · have hs := ite_t hs c14
        refine lv_iconst (v := (0 : Int32)) hx hb dX1_ranksAhead_83 (by decide) ?_
        refine lv_goto (tgt := 97) hx hb dX1_ranksAhead_84 (by decide) ?_
        have h9 := Option.some.inj hs
        rw [← h9]
        exact wr_i hF hr hlocks (isB_nar (Or.inl rfl)) hW hS dX1_ranksAhead_97
      · have hs := ite_f hs c14
        refine lv_iconst (v := (1 : Int32)) hx hb dX1_ranksAhead_79 (by decide) ?_
        refine lv_goto (tgt := 97) hx hb dX1_ranksAhead_80 (by decide) ?_
        have h9 := Option.some.inj hs
        rw [← h9]
        exact wr_i hF hr hlocks (isB_nar (Or.inr rfl)) hW hS dX1_ranksAhead_97
  · have hs := ite_f hs c7
    refine lv_iload_n hx hb dX1_ranksAhead_33 rfl (lv_at hl 1 rfl) ?_
    refine lv_iload hx hb dX1_ranksAhead_34 (lv_at hl 0 rfl) ?_
    refine lv_icmp_le (tgt := 43) hx hb dX1_ranksAhead_36 (by decide) (fun c15 => ?_) (fun c15 => ?_)
    · have hs := ite_t hs c15
      refine lv_iconst (v := (0 : Int32)) hx hb dX1_ranksAhead_43 (by decide) ?_
      have h9 := Option.some.inj hs
      rw [← h9]
      exact wr_i hF hr hlocks (isB_nar (Or.inl rfl)) hW hS dX1_ranksAhead_44
    · have hs := ite_f hs c15
      refine lv_iconst (v := (1 : Int32)) hx hb dX1_ranksAhead_39 (by decide) ?_
      refine lv_goto (tgt := 44) hx hb dX1_ranksAhead_40 (by decide) ?_
      have h9 := Option.some.inj hs
      rw [← h9]
      exact wr_i hF hr hlocks (isB_nar (Or.inr rfl)) hW hS dX1_ranksAhead_44

set_option maxHeartbeats 4000000 in
set_option maxRecDepth 100000 in
theorem cl_X1_partsAheadOf_4 {p : Program} {l : Launch} {e : Env} {s : State} {m : MethodId} {args : Array Value} {below : List Frame} {meth : Method} {c : Code} {G : va_G} {Λ : Lay} {μ : Mem} {r : Int32} (hOK : LayOK Λ) (hF : CallFix p m c cX1_partsAheadOf 4 s args tw RX1) (hKK : KK G Λ s) (hr : meth.sig.returnType = (some .int)) (hlocks : meth.locks = false) {x0 : Nat} (kx0 : inK Λ x0 1) {x1 : Int32} : ∀ (n : Nat) (x2 : Int32) (x3 : Int32) (H : Heap) (locs : List Loc) (ls : Array Slot), lpX1_partsAheadOf_4 Λ μ x0 x1 n x2 x3 = some r → Wd G Λ μ H → va_S (inL Λ) s.heap H locs → lv_has ls 4 [(0, .ref x0), (1, .int x1), (2, .int x2), (3, .int x3)] → W p l e (rmd 4) s m args below meth c H locs 0 0 (MQ below (QI G Λ r μ) args s 0 0 (inL Λ)) (F0 m 4 ls []) := by
  have hx := hF.1
  have hb := hF.2.1
  have hA : ∀ q, inL Λ q → inL Λ q := fun _ h => h
  intro n
  induction n with
  | zero =>
    intro x2 x3 H locs ls hs hW hS hl
    cases hs
  | succ n4 ih4 =>
    intro x2 x3 H locs ls hs hW hS hl
    rw [lpX1_partsAheadOf_4_s] at hs
    refine lv_iload_n hx hb dX1_partsAheadOf_4 rfl (lv_at hl 3 rfl) ?_
    refine lv_bipush (v := (12 : Int32)) hx hb dX1_partsAheadOf_5 (by decide) ?_
    refine lv_icmp_ge (tgt := 41) hx hb dX1_partsAheadOf_7 (by decide) (fun c1 => ?_) (fun c1 => ?_)
    · have hs := ite_t hs c1
      refine lv_iload_n hx hb dX1_partsAheadOf_41 rfl (lv_at hl 2 rfl) ?_
      have h9 := Option.some.inj hs
      rw [← h9]
      exact wr_i hF hr hlocks (vp_nar_int _) hW hS dX1_partsAheadOf_42
    · have hs := ite_f hs c1
      refine lv_iload_n hx hb dX1_partsAheadOf_10 rfl (lv_at hl 3 rfl) ?_
      refine lv_iload_n hx hb dX1_partsAheadOf_11 rfl (lv_at hl 1 rfl) ?_
      refine lv_icmp_eq (tgt := 35) hx hb dX1_partsAheadOf_12 (by decide) (fun c2 => ?_) (fun c2 => ?_)
      · have hs := ite_t hs c2
        obtain ⟨v3, ev3, hs⟩ := bnd_e hs
        refine lv_iinc (v := v3) (lv' := [(3, .int v3), (0, .ref x0), (1, .int x1), (2, .int x2)]) hx hb dX1_partsAheadOf_35 hl (k := 3) rfl (by rw [ev3]; rfl) (by decide) rfl (fun ls hl => ?_)
        refine lv_goto (tgt := 4) hx hb dX1_partsAheadOf_38 (by decide) ?_
        exact ih4 x2 v3 _ _ _ hs hW hS (lv_sub hl [1, 2, 3, 0] rfl)
      · have hs := ite_f hs c2
        refine lv_aload_n hx hb dX1_partsAheadOf_15 rfl (lv_at hl 0 rfl) ?_
        refine lv_iload_n hx hb dX1_partsAheadOf_16 rfl (lv_at hl 3 rfl) ?_
        obtain ⟨q4, hq4, hs⟩ := obind_e hs
        refine end_i (run_V (q := (RX1, TX1, 7)) (ci := 1) hF hKK hW hS hl.1 kx0 (by decide) rfl (c_X1_isRoot l hOK kx0 hq4) (kw_X1_112 hF.2.2.2.2 ⟨Nat.le_of_ble_eq_true rfl, Nat.le_of_ble_eq_true rfl⟩) rfl rfl (Nat.le_of_ble_eq_true rfl) dX1_partsAheadOf_17 ⟨Nat.zero_le _, Nat.zero_le _⟩) hS (fun H locs hW hS => ?_)
        refine lv_if_eq (tgt := 35) hx hb dX1_partsAheadOf_20 (by decide) (fun c5 => ?_) (fun c5 => ?_)
        · have hs := ite_t hs c5
          obtain ⟨v6, ev6, hs⟩ := bnd_e hs
          refine lv_iinc (v := v6) (lv' := [(3, .int v6), (0, .ref x0), (1, .int x1), (2, .int x2)]) hx hb dX1_partsAheadOf_35 hl (k := 3) rfl (by rw [ev6]; rfl) (by decide) rfl (fun ls hl => ?_)
          refine lv_goto (tgt := 4) hx hb dX1_partsAheadOf_38 (by decide) ?_
          exact ih4 x2 v6 _ _ _ hs hW hS (lv_sub hl [1, 2, 3, 0] rfl)
        · have hs := ite_f hs c5
          refine lv_aload_n hx hb dX1_partsAheadOf_23 rfl (lv_at hl 0 rfl) ?_
          refine lv_iload_n hx hb dX1_partsAheadOf_24 rfl (lv_at hl 3 rfl) ?_
          refine lv_iload_n hx hb dX1_partsAheadOf_25 rfl (lv_at hl 1 rfl) ?_
          obtain ⟨q7, hq7, hs⟩ := obind_e hs
          refine end_i (run_V (q := (RX1, TX1, 7)) (ci := 1) hF hKK hW hS hl.1 kx0 (by decide) rfl (c_X1_ranksAhead l hOK kx0 hq7) (kw_X1_155 hF.2.2.2.2 ⟨Nat.le_of_ble_eq_true rfl, Nat.le_of_ble_eq_true rfl⟩) rfl rfl (Nat.le_of_ble_eq_true rfl) dX1_partsAheadOf_26 ⟨Nat.zero_le _, Nat.zero_le _⟩) hS (fun H locs hW hS => ?_)
          refine lv_if_eq (tgt := 35) hx hb dX1_partsAheadOf_29 (by decide) (fun c8 => ?_) (fun c8 => ?_)
          · have hs := ite_t hs c8
            obtain ⟨v9, ev9, hs⟩ := bnd_e hs
            refine lv_iinc (v := v9) (lv' := [(3, .int v9), (0, .ref x0), (1, .int x1), (2, .int x2)]) hx hb dX1_partsAheadOf_35 hl (k := 3) rfl (by rw [ev9]; rfl) (by decide) rfl (fun ls hl => ?_)
            refine lv_goto (tgt := 4) hx hb dX1_partsAheadOf_38 (by decide) ?_
            exact ih4 x2 v9 _ _ _ hs hW hS (lv_sub hl [1, 2, 3, 0] rfl)
          · have hs := ite_f hs c8
            obtain ⟨v10, ev10, hs⟩ := bnd_e hs
            refine lv_iinc (v := v10) (lv' := [(2, .int v10), (0, .ref x0), (1, .int x1), (3, .int x3)]) hx hb dX1_partsAheadOf_32 hl (k := 2) rfl (by rw [ev10]; rfl) (by decide) rfl (fun ls hl => ?_)
            obtain ⟨v11, ev11, hs⟩ := bnd_e hs
            refine lv_iinc (v := v11) (lv' := [(3, .int v11), (2, .int v10), (0, .ref x0), (1, .int x1)]) hx hb dX1_partsAheadOf_35 hl (k := 3) rfl (by rw [ev11]; rfl) (by decide) rfl (fun ls hl => ?_)
            refine lv_goto (tgt := 4) hx hb dX1_partsAheadOf_38 (by decide) ?_
            exact ih4 v10 v11 _ _ _ hs hW hS (lv_sub hl [2, 3, 1, 0] rfl)

set_option maxHeartbeats 4000000 in
set_option maxRecDepth 100000 in
theorem c_X1_partsAheadOf (l : Launch) {G : va_G} {Λ : Lay} {μ : Mem} (hOK : LayOK Λ) {a0 : Nat} (k0 : inK Λ a0 1) {a1 : Int32} {r : Int32} (hs : sX1_partsAheadOf Λ μ a0 a1 = some r) : CM l G Λ yX1_partsAheadOf cX1_partsAheadOf 4 (some .int) 4 μ [.ref a0, .int a1] (QI G Λ r μ) := by
  refine ofM (own := RX1) (by decide +kernel) rfl (Nat.le_of_ble_eq_true rfl) (fun p e s m args below meth c ls hF hKK hW hr hlocks hl => ?_)
  have hx := hF.1
  have hb := hF.2.1
  have hA : ∀ q, inL Λ q → inL Λ q := fun _ h => h
  have hS : va_S (inL Λ) s.heap s.heap [] := va_S.rf
  have hl : lv_has ls 4 [(0, .ref a0), (1, .int a1)] := hl
  unfold sX1_partsAheadOf at hs
  refine lv_iconst (v := (0 : Int32)) hx hb dX1_partsAheadOf_0 (by decide) ?_
  refine lv_istore_n (lv' := [(2, .int (0 : Int32)), (0, .ref a0), (1, .int a1)]) hx hb dX1_partsAheadOf_1 rfl hl (by decide) rfl (fun ls hl => ?_)
  refine lv_iconst (v := (0 : Int32)) hx hb dX1_partsAheadOf_2 (by decide) ?_
  refine lv_istore_n (lv' := [(3, .int (0 : Int32)), (2, .int (0 : Int32)), (0, .ref a0), (1, .int a1)]) hx hb dX1_partsAheadOf_3 rfl hl (by decide) rfl (fun ls hl => ?_)
  exact cl_X1_partsAheadOf_4 hOK hF hKK hr hlocks k0 fuel (0 : Int32) (0 : Int32) _ _ _ hs hW hS (lv_sub hl [2, 3, 1, 0] rfl)

set_option maxHeartbeats 4000000 in
set_option maxRecDepth 100000 in
theorem cl_X1_places_4 {p : Program} {l : Launch} {e : Env} {s : State} {m : MethodId} {args : Array Value} {below : List Frame} {meth : Method} {c : Code} {G : va_G} {Λ : Lay} {μ : Mem} {r : Int32} (hOK : LayOK Λ) (hF : CallFix p m c cX1_places 3 s args tw RX1) (hKK : KK G Λ s) (hr : meth.sig.returnType = (some .int)) (hlocks : meth.locks = false) {x0 : Nat} (kx0 : inK Λ x0 1) : ∀ (n : Nat) (x1 : Int32) (x2 : Int32) (H : Heap) (locs : List Loc) (ls : Array Slot), lpX1_places_4 Λ μ x0 n x1 x2 = some r → Wd G Λ μ H → va_S (inL Λ) s.heap H locs → lv_has ls 3 [(0, .ref x0), (1, .int x1), (2, .int x2)] → W p l e (rmd 1) s m args below meth c H locs 0 0 (MQ below (QI G Λ r μ) args s 0 0 (inL Λ)) (F0 m 4 ls []) := by
  have hx := hF.1
  have hb := hF.2.1
  have hA : ∀ q, inL Λ q → inL Λ q := fun _ h => h
  intro n
  induction n with
  | zero =>
    intro x1 x2 H locs ls hs hW hS hl
    cases hs
  | succ n4 ih4 =>
    intro x1 x2 H locs ls hs hW hS hl
    rw [lpX1_places_4_s] at hs
    refine lv_iload_n hx hb dX1_places_4 rfl (lv_at hl 2 rfl) ?_
    refine lv_bipush (v := (12 : Int32)) hx hb dX1_places_5 (by decide) ?_
    refine lv_icmp_ge (tgt := 27) hx hb dX1_places_7 (by decide) (fun c1 => ?_) (fun c1 => ?_)
    · have hs := ite_t hs c1
      refine lv_iload_n hx hb dX1_places_27 rfl (lv_at hl 1 rfl) ?_
      have h9 := Option.some.inj hs
      rw [← h9]
      exact wr_i hF hr hlocks (vp_nar_int _) hW hS dX1_places_28
    · have hs := ite_f hs c1
      refine lv_iload_n hx hb dX1_places_10 rfl (lv_at hl 1 rfl) ?_
      refine lv_aload_n hx hb dX1_places_11 rfl (lv_at hl 0 rfl) ?_
      refine lv_iload_n hx hb dX1_places_12 rfl (lv_at hl 2 rfl) ?_
      obtain ⟨q2, hq2, hs⟩ := obind_e hs
      refine end_r (run_V (q := (RX1, TX1, 7)) (ci := 1) hF hKK hW hS hl.1 kx0 (by decide) rfl (c_X1_roundAt l hOK kx0 hq2) (kw_X1_34 hF.2.2.2.2 ⟨Nat.le_of_ble_eq_true rfl, Nat.le_of_ble_eq_true rfl⟩) rfl rfl (Nat.le_of_ble_eq_true rfl) dX1_places_13 ⟨Nat.zero_le _, Nat.zero_le _⟩) hS (fun H locs kq2 hW hS => ?_)
      obtain ⟨q3, hq3, hs⟩ := obind_e hs
      refine end_i (run_V (q := (RX2, TX2, 2)) (ci := 2) hF hKK hW hS hl.1 kq2 (by decide) rfl (c_X2_length l hOK kq2 hq3) (kw_X1_48 hF.2.2.2.2 ⟨Nat.le_of_ble_eq_true rfl, Nat.le_of_ble_eq_true rfl⟩) rfl rfl (Nat.le_of_ble_eq_true rfl) dX1_places_16 ⟨Nat.zero_le _, Nat.zero_le _⟩) hS (fun H locs hW hS => ?_)
      refine lv_iadd hx hb dX1_places_19 ?_
      obtain ⟨v4, ev4, hs⟩ := bnd_e hs
      refine top_i ev4 ?_
      refine lv_istore_n (lv' := [(1, .int v4), (0, .ref x0), (2, .int x2)]) hx hb dX1_places_20 rfl hl (by decide) rfl (fun ls hl => ?_)
      obtain ⟨v5, ev5, hs⟩ := bnd_e hs
      refine lv_iinc (v := v5) (lv' := [(2, .int v5), (1, .int v4), (0, .ref x0)]) hx hb dX1_places_21 hl (k := 2) rfl (by rw [ev5]; rfl) (by decide) rfl (fun ls hl => ?_)
      refine lv_goto (tgt := 4) hx hb dX1_places_24 (by decide) ?_
      exact ih4 v4 v5 _ _ _ hs hW hS (lv_sub hl [2, 1, 0] rfl)

set_option maxHeartbeats 4000000 in
set_option maxRecDepth 100000 in
theorem c_X1_places (l : Launch) {G : va_G} {Λ : Lay} {μ : Mem} (hOK : LayOK Λ) {a0 : Nat} (k0 : inK Λ a0 1) {r : Int32} (hs : sX1_places Λ μ a0 = some r) : CM l G Λ yX1_places cX1_places 3 (some .int) 1 μ [.ref a0] (QI G Λ r μ) := by
  refine ofM (own := RX1) (by decide +kernel) rfl (Nat.le_of_ble_eq_true rfl) (fun p e s m args below meth c ls hF hKK hW hr hlocks hl => ?_)
  have hx := hF.1
  have hb := hF.2.1
  have hA : ∀ q, inL Λ q → inL Λ q := fun _ h => h
  have hS : va_S (inL Λ) s.heap s.heap [] := va_S.rf
  have hl : lv_has ls 3 [(0, .ref a0)] := hl
  unfold sX1_places at hs
  refine lv_iconst (v := (0 : Int32)) hx hb dX1_places_0 (by decide) ?_
  refine lv_istore_n (lv' := [(1, .int (0 : Int32)), (0, .ref a0)]) hx hb dX1_places_1 rfl hl (by decide) rfl (fun ls hl => ?_)
  refine lv_iconst (v := (0 : Int32)) hx hb dX1_places_2 (by decide) ?_
  refine lv_istore_n (lv' := [(2, .int (0 : Int32)), (1, .int (0 : Int32)), (0, .ref a0)]) hx hb dX1_places_3 rfl hl (by decide) rfl (fun ls hl => ?_)
  exact cl_X1_places_4 hOK hF hKK hr hlocks k0 fuel (0 : Int32) (0 : Int32) _ _ _ hs hW hS (lv_sub hl [2, 1, 0] rfl)

set_option maxHeartbeats 4000000 in
set_option maxRecDepth 100000 in
theorem c_X1_putWeight (l : Launch) {G : va_G} {Λ : Lay} {μ : Mem} (hOK : LayOK Λ) {a0 : Nat} (k0 : inK Λ a0 1) {a1 : Int32} {a2 : Int32} {r : Mem} (hs : sX1_putWeight Λ μ a0 a1 a2 = some r) : CM l G Λ yX1_putWeight cX1_putWeight 3 none 1 μ [.ref a0, .int a1, .int a2] (QV G Λ r) := by
  refine ofM (own := RX1) (by decide +kernel) rfl (Nat.le_of_ble_eq_true rfl) (fun p e s m args below meth c ls hF hKK hW hr hlocks hl => ?_)
  have hx := hF.1
  have hb := hF.2.1
  have hA : ∀ q, inL Λ q → inL Λ q := fun _ h => h
  have hS : va_S (inL Λ) s.heap s.heap [] := va_S.rf
  have hl : lv_has ls 3 [(0, .ref a0), (1, .int a1), (2, .int a2)] := hl
  unfold sX1_putWeight at hs
  refine lv_aload_n hx hb dX1_putWeight_0 rfl (lv_at hl 0 rfl) ?_
  refine gf_1_0 hF hKK hW k0 dX1_putWeight_1 ?_
  refine lv_iload_n hx hb dX1_putWeight_4 rfl (lv_at hl 1 rfl) ?_
  refine lv_iload_n hx hb dX1_putWeight_5 rfl (lv_at hl 2 rfl) ?_
  obtain ⟨q1, hq1, hs⟩ := obind_e hs
  refine end_v (run_V (q := (RX2, TX2, 2)) (ci := 2) hF hKK hW hS hl.1 (lk_1_0 hOK k0) (by decide) rfl (c_X2_put l hOK (lk_1_0 hOK k0) hq1) (kw_X1_74 hF.2.2.2.2 ⟨Nat.le_of_ble_eq_true rfl, Nat.le_of_ble_eq_true rfl⟩) rfl rfl (Nat.le_of_ble_eq_true rfl) dX1_putWeight_6 ⟨Nat.zero_le _, Nat.zero_le _⟩) hS (fun H locs hW hS => ?_)
  have h9 := Option.some.inj hs
  rw [← h9]
  exact wr_v hF hr hlocks hW hS dX1_putWeight_9

set_option maxHeartbeats 4000000 in
set_option maxRecDepth 100000 in
theorem cl_X1_raiseAll_5 {p : Program} {l : Launch} {e : Env} {s : State} {m : MethodId} {args : Array Value} {below : List Frame} {meth : Method} {c : Code} {G : va_G} {Λ : Lay} {r : (Int32 × Mem)} (hOK : LayOK Λ) (hF : CallFix p m c cX1_raiseAll 7 s args tw RX1) (hKK : KK G Λ s) (hr : meth.sig.returnType = (some .int)) (hlocks : meth.locks = false) {x0 : Nat} (kx0 : inK Λ x0 1) {x1 : Int32} {x2 : Int32} : ∀ (n : Nat) (μ : Mem) (x3 : Int32) (x4 : Int32) (H : Heap) (locs : List Loc) (ls : Array Slot), lpX1_raiseAll_5 Λ x0 x1 x2 n μ x3 x4 = some r → Wd G Λ μ H → va_S (inL Λ) s.heap H locs → lv_has ls 7 [(0, .ref x0), (1, .int x1), (2, .int x2), (3, .int x3), (4, .int x4)] → W p l e (rmd 1) s m args below meth c H locs 0 0 (MQ below (QI G Λ r.1 r.2) args s 0 0 (inL Λ)) (F0 m 5 ls []) := by
  have hx := hF.1
  have hb := hF.2.1
  have hA : ∀ q, inL Λ q → inL Λ q := fun _ h => h
  intro n
  induction n with
  | zero =>
    intro μ x3 x4 H locs ls hs hW hS hl
    cases hs
  | succ n5 ih5 =>
    intro μ x3 x4 H locs ls hs hW hS hl
    rw [lpX1_raiseAll_5_s] at hs
    refine lv_iload hx hb dX1_raiseAll_5 (lv_at hl 4 rfl) ?_
    refine lv_aload_n hx hb dX1_raiseAll_7 rfl (lv_at hl 0 rfl) ?_
    refine gf_1_0 hF hKK hW kx0 dX1_raiseAll_8 ?_
    obtain ⟨q1, hq1, hs⟩ := obind_e hs
    refine end_i (run_V (q := (RX2, TX2, 2)) (ci := 2) hF hKK hW hS hl.1 (lk_1_0 hOK kx0) (by decide) rfl (c_X2_length l hOK (lk_1_0 hOK kx0) hq1) (kw_X1_48 hF.2.2.2.2 ⟨Nat.le_of_ble_eq_true rfl, Nat.le_of_ble_eq_true rfl⟩) rfl rfl (Nat.le_of_ble_eq_true rfl) dX1_raiseAll_11 ⟨Nat.zero_le _, Nat.zero_le _⟩) hS (fun H locs hW hS => ?_)
    refine lv_icmp_ge (tgt := 80) hx hb dX1_raiseAll_14 (by decide) (fun c2 => ?_) (fun c2 => ?_)
    · have hs := ite_t hs c2
      refine lv_iload_n hx hb dX1_raiseAll_80 rfl (lv_at hl 3 rfl) ?_
      have h9 := Option.some.inj hs
      rw [← h9]
      exact wr_i hF hr hlocks (vp_nar_int _) hW hS dX1_raiseAll_81
    · have hs := ite_f hs c2
      refine lv_aload_n hx hb dX1_raiseAll_17 rfl (lv_at hl 0 rfl) ?_
      refine gf_1_0 hF hKK hW kx0 dX1_raiseAll_18 ?_
      refine lv_iload hx hb dX1_raiseAll_21 (lv_at hl 4 rfl) ?_
      obtain ⟨q3, hq3, hs⟩ := obind_e hs
      refine end_i (run_V (q := (RX2, TX2, 2)) (ci := 2) hF hKK hW hS hl.1 (lk_1_0 hOK kx0) (by decide) rfl (c_X2_get l hOK (lk_1_0 hOK kx0) hq3) (kw_X1_52 hF.2.2.2.2 ⟨Nat.le_of_ble_eq_true rfl, Nat.le_of_ble_eq_true rfl⟩) rfl rfl (Nat.le_of_ble_eq_true rfl) dX1_raiseAll_23 ⟨Nat.zero_le _, Nat.zero_le _⟩) hS (fun H locs hW hS => ?_)
      refine lv_istore (lv' := [(5, .int q3), (0, .ref x0), (1, .int x1), (2, .int x2), (3, .int x3), (4, .int x4)]) hx hb dX1_raiseAll_26 hl (by decide) rfl (fun ls hl => ?_)
      refine lv_iconst (v := (0 : Int32)) hx hb dX1_raiseAll_28 (by decide) ?_
      refine lv_bipush (v := (99 : Int32)) hx hb dX1_raiseAll_29 (by decide) ?_
      refine lv_iload hx hb dX1_raiseAll_31 (lv_at hl 0 rfl) ?_
      refine lv_iload_n hx hb dX1_raiseAll_33 rfl (lv_at hl 3 rfl) ?_
      refine lv_iadd hx hb dX1_raiseAll_34 ?_
      refine va_mmin hx hb (hF.2.2.1.trans hl.1.symm) hF.2.2.2.1 (hF.2.2.2.2 _ wd_358) (hF.2.2.2.2 _ wd_217) (hF.2.2.2.2 _ wd_22) (hF.2.2.2.2 _ wd_218) (Nat.le_of_ble_eq_true rfl) (Nat.le_of_ble_eq_true rfl) (Nat.zero_le _) (Nat.zero_le _) dX1_raiseAll_35 ?_
      refine va_mmax hx hb (hF.2.2.1.trans hl.1.symm) hF.2.2.2.1 (hF.2.2.2.2 _ wd_359) (hF.2.2.2.2 _ wd_360) (hF.2.2.2.2 _ wd_22) (hF.2.2.2.2 _ wd_361) (Nat.le_of_ble_eq_true rfl) (Nat.le_of_ble_eq_true rfl) (Nat.zero_le _) (Nat.zero_le _) dX1_raiseAll_38 ?_
      obtain ⟨v4, ev4, hs⟩ := bnd_e hs
      refine top_i ev4 ?_
      refine lv_istore (lv' := [(6, .int v4), (5, .int q3), (0, .ref x0), (1, .int x1), (2, .int x2), (3, .int x3), (4, .int x4)]) hx hb dX1_raiseAll_41 hl (by decide) rfl (fun ls hl => ?_)
      refine lv_iload_n hx hb dX1_raiseAll_43 rfl (lv_at hl 3 rfl) ?_
      refine lv_iload hx hb dX1_raiseAll_44 (lv_at hl 6 rfl) ?_
      obtain ⟨q5, hq5, hs⟩ := obind_e hs
      refine end_i (run_N hF hKK hW hS hl.1 (c_X4_bit l hOK  hq5) (kw_X1_56 hKK.2.1.2.1 hF.2.2.2.2 ⟨Nat.le_of_ble_eq_true rfl, Nat.le_of_ble_eq_true rfl⟩) rfl rfl (Nat.le_of_ble_eq_true rfl) dX1_raiseAll_46 ⟨Nat.zero_le _, Nat.zero_le _⟩) hS (fun H locs hW hS => ?_)
      refine lv_iand hx hb dX1_raiseAll_49 ?_
      refine lv_if_eq (tgt := 74) hx hb dX1_raiseAll_50 (by decide) (fun c6 => ?_) (fun c6 => ?_)
      · have hs := ite_t hs c6
        obtain ⟨v7, ev7, hs⟩ := bnd_e hs
        refine lv_iinc (v := v7) (lv' := [(4, .int v7), (6, .int v4), (5, .int q3), (0, .ref x0), (1, .int x1), (2, .int x2), (3, .int x3)]) hx hb dX1_raiseAll_74 hl (k := 6) rfl (by rw [ev7]; rfl) (by decide) rfl (fun ls hl => ?_)
        refine lv_goto (tgt := 5) hx hb dX1_raiseAll_77 (by decide) ?_
        exact ih5 μ x3 v7 _ _ _ hs hW hS (lv_sub hl [3, 4, 5, 6, 0] rfl)
      · have hs := ite_f hs c6
        refine lv_iload hx hb dX1_raiseAll_53 (lv_at hl 0 rfl) ?_
        refine lv_iload hx hb dX1_raiseAll_55 (lv_at hl 1 rfl) ?_
        refine lv_icmp_eq (tgt := 74) hx hb dX1_raiseAll_57 (by decide) (fun c8 => ?_) (fun c8 => ?_)
        · have hs := ite_t hs c8
          obtain ⟨v9, ev9, hs⟩ := bnd_e hs
          refine lv_iinc (v := v9) (lv' := [(4, .int v9), (6, .int v4), (5, .int q3), (0, .ref x0), (1, .int x1), (2, .int x2), (3, .int x3)]) hx hb dX1_raiseAll_74 hl (k := 6) rfl (by rw [ev9]; rfl) (by decide) rfl (fun ls hl => ?_)
          refine lv_goto (tgt := 5) hx hb dX1_raiseAll_77 (by decide) ?_
          exact ih5 μ x3 v9 _ _ _ hs hW hS (lv_sub hl [3, 4, 5, 6, 0] rfl)
        · have hs := ite_f hs c8
          refine lv_aload_n hx hb dX1_raiseAll_60 rfl (lv_at hl 2 rfl) ?_
          refine gf_1_0 hF hKK hW kx0 dX1_raiseAll_61 ?_
          refine lv_iload hx hb dX1_raiseAll_64 (lv_at hl 6 rfl) ?_
          refine lv_iload hx hb dX1_raiseAll_66 (lv_at hl 0 rfl) ?_
          obtain ⟨q10, hq10, hs⟩ := obind_e hs
          refine end_v (run_V (q := (RX2, TX2, 2)) (ci := 2) hF hKK hW hS hl.1 (lk_1_0 hOK kx0) (by decide) rfl (c_X2_put l hOK (lk_1_0 hOK kx0) hq10) (kw_X1_74 hF.2.2.2.2 ⟨Nat.le_of_ble_eq_true rfl, Nat.le_of_ble_eq_true rfl⟩) rfl rfl (Nat.le_of_ble_eq_true rfl) dX1_raiseAll_68 ⟨Nat.zero_le _, Nat.zero_le _⟩) hS (fun H locs hW hS => ?_)
          obtain ⟨v11, ev11, hs⟩ := bnd_e hs
          refine lv_iinc (v := v11) (lv' := [(3, .int v11), (6, .int v4), (5, .int q3), (0, .ref x0), (1, .int x1), (2, .int x2), (4, .int x4)]) hx hb dX1_raiseAll_71 hl (k := 5) rfl (by rw [ev11]; rfl) (by decide) rfl (fun ls hl => ?_)
          obtain ⟨v12, ev12, hs⟩ := bnd_e hs
          refine lv_iinc (v := v12) (lv' := [(4, .int v12), (3, .int v11), (6, .int v4), (5, .int q3), (0, .ref x0), (1, .int x1), (2, .int x2)]) hx hb dX1_raiseAll_74 hl (k := 6) rfl (by rw [ev12]; rfl) (by decide) rfl (fun ls hl => ?_)
          refine lv_goto (tgt := 5) hx hb dX1_raiseAll_77 (by decide) ?_
          exact ih5 q10 v11 v12 _ _ _ hs hW hS (lv_sub hl [4, 5, 6, 1, 0] rfl)

set_option maxHeartbeats 4000000 in
set_option maxRecDepth 100000 in
theorem c_X1_raiseAll (l : Launch) {G : va_G} {Λ : Lay} {μ : Mem} (hOK : LayOK Λ) {a0 : Nat} (k0 : inK Λ a0 1) {a1 : Int32} {a2 : Int32} {r : (Int32 × Mem)} (hs : sX1_raiseAll Λ μ a0 a1 a2 = some r) : CM l G Λ yX1_raiseAll cX1_raiseAll 7 (some .int) 1 μ [.ref a0, .int a1, .int a2] (QI G Λ r.1 r.2) := by
  refine ofM (own := RX1) (by decide +kernel) rfl (Nat.le_of_ble_eq_true rfl) (fun p e s m args below meth c ls hF hKK hW hr hlocks hl => ?_)
  have hx := hF.1
  have hb := hF.2.1
  have hA : ∀ q, inL Λ q → inL Λ q := fun _ h => h
  have hS : va_S (inL Λ) s.heap s.heap [] := va_S.rf
  have hl : lv_has ls 7 [(0, .ref a0), (1, .int a1), (2, .int a2)] := hl
  unfold sX1_raiseAll at hs
  refine lv_iconst (v := (0 : Int32)) hx hb dX1_raiseAll_0 (by decide) ?_
  refine lv_istore_n (lv' := [(3, .int (0 : Int32)), (0, .ref a0), (1, .int a1), (2, .int a2)]) hx hb dX1_raiseAll_1 rfl hl (by decide) rfl (fun ls hl => ?_)
  refine lv_iconst (v := (0 : Int32)) hx hb dX1_raiseAll_2 (by decide) ?_
  refine lv_istore (lv' := [(4, .int (0 : Int32)), (3, .int (0 : Int32)), (0, .ref a0), (1, .int a1), (2, .int a2)]) hx hb dX1_raiseAll_3 hl (by decide) rfl (fun ls hl => ?_)
  exact cl_X1_raiseAll_5 hOK hF hKK hr hlocks k0 fuel μ (0 : Int32) (0 : Int32) _ _ _ hs hW hS (lv_sub hl [2, 3, 4, 1, 0] rfl)

set_option maxHeartbeats 4000000 in
set_option maxRecDepth 100000 in
theorem cl_X1_rootRanked_2 {p : Program} {l : Launch} {e : Env} {s : State} {m : MethodId} {args : Array Value} {below : List Frame} {meth : Method} {c : Code} {G : va_G} {Λ : Lay} {μ : Mem} {r : Int32} (hOK : LayOK Λ) (hF : CallFix p m c cX1_rootRanked 3 s args tw RX1) (hKK : KK G Λ s) (hr : meth.sig.returnType = (some .int)) (hlocks : meth.locks = false) {x0 : Nat} (kx0 : inK Λ x0 1) {x1 : Int32} : ∀ (n : Nat) (x2 : Int32) (H : Heap) (locs : List Loc) (ls : Array Slot), lpX1_rootRanked_2 Λ μ x0 x1 n x2 = some r → Wd G Λ μ H → va_S (inL Λ) s.heap H locs → lv_has ls 3 [(0, .ref x0), (1, .int x1), (2, .int x2)] → W p l e (rmd 5) s m args below meth c H locs 0 0 (MQ below (QI G Λ r μ) args s 0 0 (inL Λ)) (F0 m 2 ls []) := by
  have hx := hF.1
  have hb := hF.2.1
  have hA : ∀ q, inL Λ q → inL Λ q := fun _ h => h
  intro n
  induction n with
  | zero =>
    intro x2 H locs ls hs hW hS hl
    cases hs
  | succ n2 ih2 =>
    intro x2 H locs ls hs hW hS hl
    rw [lpX1_rootRanked_2_s] at hs
    refine lv_iload_n hx hb dX1_rootRanked_2 rfl (lv_at hl 2 rfl) ?_
    refine lv_bipush (v := (12 : Int32)) hx hb dX1_rootRanked_3 (by decide) ?_
    refine lv_icmp_ge (tgt := 33) hx hb dX1_rootRanked_5 (by decide) (fun c1 => ?_) (fun c1 => ?_)
    · have hs := ite_t hs c1
      refine lv_iconst (v := (-1 : Int32)) hx hb dX1_rootRanked_33 (by decide) ?_
      have h9 := Option.some.inj hs
      rw [← h9]
      exact wr_i hF hr hlocks (vp_nar_int _) hW hS dX1_rootRanked_34
    · have hs := ite_f hs c1
      refine lv_aload_n hx hb dX1_rootRanked_8 rfl (lv_at hl 0 rfl) ?_
      refine lv_iload_n hx hb dX1_rootRanked_9 rfl (lv_at hl 2 rfl) ?_
      obtain ⟨q2, hq2, hs⟩ := obind_e hs
      refine end_i (run_V (q := (RX1, TX1, 7)) (ci := 1) hF hKK hW hS hl.1 kx0 (by decide) rfl (c_X1_isRoot l hOK kx0 hq2) (kw_X1_112 hF.2.2.2.2 ⟨Nat.le_of_ble_eq_true rfl, Nat.le_of_ble_eq_true rfl⟩) rfl rfl (Nat.le_of_ble_eq_true rfl) dX1_rootRanked_10 ⟨Nat.zero_le _, Nat.zero_le _⟩) hS (fun H locs hW hS => ?_)
      refine lv_if_eq (tgt := 27) hx hb dX1_rootRanked_13 (by decide) (fun c3 => ?_) (fun c3 => ?_)
      · have hs := ite_t hs c3
        obtain ⟨v4, ev4, hs⟩ := bnd_e hs
        refine lv_iinc (v := v4) (lv' := [(2, .int v4), (0, .ref x0), (1, .int x1)]) hx hb dX1_rootRanked_27 hl (k := 2) rfl (by rw [ev4]; rfl) (by decide) rfl (fun ls hl => ?_)
        refine lv_goto (tgt := 2) hx hb dX1_rootRanked_30 (by decide) ?_
        exact ih2 v4 _ _ _ hs hW hS (lv_sub hl [1, 2, 0] rfl)
      · have hs := ite_f hs c3
        refine lv_aload_n hx hb dX1_rootRanked_16 rfl (lv_at hl 0 rfl) ?_
        refine lv_iload_n hx hb dX1_rootRanked_17 rfl (lv_at hl 2 rfl) ?_
        obtain ⟨q5, hq5, hs⟩ := obind_e hs
        refine end_i (run_V (q := (RX1, TX1, 7)) (ci := 1) hF hKK hW hS hl.1 kx0 (by decide) rfl (c_X1_partsAheadOf l hOK kx0 hq5) (kw_X1_152 hF.2.2.2.2 ⟨Nat.le_of_ble_eq_true rfl, Nat.le_of_ble_eq_true rfl⟩) rfl rfl (Nat.le_of_ble_eq_true rfl) dX1_rootRanked_18 ⟨Nat.zero_le _, Nat.zero_le _⟩) hS (fun H locs hW hS => ?_)
        refine lv_iload_n hx hb dX1_rootRanked_21 rfl (lv_at hl 1 rfl) ?_
        refine lv_icmp_ne (tgt := 27) hx hb dX1_rootRanked_22 (by decide) (fun c6 => ?_) (fun c6 => ?_)
        · have hs := ite_f hs c6
          obtain ⟨v7, ev7, hs⟩ := bnd_e hs
          refine lv_iinc (v := v7) (lv' := [(2, .int v7), (0, .ref x0), (1, .int x1)]) hx hb dX1_rootRanked_27 hl (k := 2) rfl (by rw [ev7]; rfl) (by decide) rfl (fun ls hl => ?_)
          refine lv_goto (tgt := 2) hx hb dX1_rootRanked_30 (by decide) ?_
          exact ih2 v7 _ _ _ hs hW hS (lv_sub hl [1, 2, 0] rfl)
        · have hs := ite_t hs c6
          refine lv_iload_n hx hb dX1_rootRanked_25 rfl (lv_at hl 2 rfl) ?_
          have h9 := Option.some.inj hs
          rw [← h9]
          exact wr_i hF hr hlocks (vp_nar_int _) hW hS dX1_rootRanked_26

set_option maxHeartbeats 4000000 in
set_option maxRecDepth 100000 in
theorem c_X1_rootRanked (l : Launch) {G : va_G} {Λ : Lay} {μ : Mem} (hOK : LayOK Λ) {a0 : Nat} (k0 : inK Λ a0 1) {a1 : Int32} {r : Int32} (hs : sX1_rootRanked Λ μ a0 a1 = some r) : CM l G Λ yX1_rootRanked cX1_rootRanked 3 (some .int) 5 μ [.ref a0, .int a1] (QI G Λ r μ) := by
  refine ofM (own := RX1) (by decide +kernel) rfl (Nat.le_of_ble_eq_true rfl) (fun p e s m args below meth c ls hF hKK hW hr hlocks hl => ?_)
  have hx := hF.1
  have hb := hF.2.1
  have hA : ∀ q, inL Λ q → inL Λ q := fun _ h => h
  have hS : va_S (inL Λ) s.heap s.heap [] := va_S.rf
  have hl : lv_has ls 3 [(0, .ref a0), (1, .int a1)] := hl
  unfold sX1_rootRanked at hs
  refine lv_iconst (v := (0 : Int32)) hx hb dX1_rootRanked_0 (by decide) ?_
  refine lv_istore_n (lv' := [(2, .int (0 : Int32)), (0, .ref a0), (1, .int a1)]) hx hb dX1_rootRanked_1 rfl hl (by decide) rfl (fun ls hl => ?_)
  exact cl_X1_rootRanked_2 hOK hF hKK hr hlocks k0 fuel (0 : Int32) _ _ _ hs hW hS (lv_sub hl [1, 2, 0] rfl)

set_option maxHeartbeats 4000000 in
set_option maxRecDepth 100000 in
theorem cl_X1_ropes_4 {p : Program} {l : Launch} {e : Env} {s : State} {m : MethodId} {args : Array Value} {below : List Frame} {meth : Method} {c : Code} {G : va_G} {Λ : Lay} {μ : Mem} {r : Int32} (hOK : LayOK Λ) (hF : CallFix p m c cX1_ropes 3 s args tw RX1) (hKK : KK G Λ s) (hr : meth.sig.returnType = (some .int)) (hlocks : meth.locks = false) {x0 : Nat} (kx0 : inK Λ x0 1) : ∀ (n : Nat) (x1 : Int32) (x2 : Int32) (H : Heap) (locs : List Loc) (ls : Array Slot), lpX1_ropes_4 Λ μ x0 n x1 x2 = some r → Wd G Λ μ H → va_S (inL Λ) s.heap H locs → lv_has ls 3 [(0, .ref x0), (1, .int x1), (2, .int x2)] → W p l e (rmd 1) s m args below meth c H locs 0 0 (MQ below (QI G Λ r μ) args s 0 0 (inL Λ)) (F0 m 4 ls []) := by
  have hx := hF.1
  have hb := hF.2.1
  have hA : ∀ q, inL Λ q → inL Λ q := fun _ h => h
  intro n
  induction n with
  | zero =>
    intro x1 x2 H locs ls hs hW hS hl
    cases hs
  | succ n4 ih4 =>
    intro x1 x2 H locs ls hs hW hS hl
    rw [lpX1_ropes_4_s] at hs
    refine lv_iload_n hx hb dX1_ropes_4 rfl (lv_at hl 2 rfl) ?_
    refine lv_aload_n hx hb dX1_ropes_5 rfl (lv_at hl 0 rfl) ?_
    refine gf_1_1 hF hKK hW kx0 dX1_ropes_6 ?_
    obtain ⟨q1, hq1, hs⟩ := obind_e hs
    refine end_i (run_V (q := (RX2, TX2, 2)) (ci := 2) hF hKK hW hS hl.1 (lk_1_1 hOK kx0) (by decide) rfl (c_X2_length l hOK (lk_1_1 hOK kx0) hq1) (kw_X1_48 hF.2.2.2.2 ⟨Nat.le_of_ble_eq_true rfl, Nat.le_of_ble_eq_true rfl⟩) rfl rfl (Nat.le_of_ble_eq_true rfl) dX1_ropes_9 ⟨Nat.zero_le _, Nat.zero_le _⟩) hS (fun H locs hW hS => ?_)
    refine lv_icmp_ge (tgt := 35) hx hb dX1_ropes_12 (by decide) (fun c2 => ?_) (fun c2 => ?_)
    · have hs := ite_t hs c2
      refine lv_iload_n hx hb dX1_ropes_35 rfl (lv_at hl 1 rfl) ?_
      refine lv_iconst (v := (2 : Int32)) hx hb dX1_ropes_36 (by decide) ?_
      refine lv_idiv hx hb dX1_ropes_37 (by decide) ?_
      have h9 := Option.some.inj hs
      rw [← h9]
      exact wr_i hF hr hlocks (vp_nar_int _) hW hS dX1_ropes_38
    · have hs := ite_f hs c2
      refine lv_iload_n hx hb dX1_ropes_15 rfl (lv_at hl 1 rfl) ?_
      refine lv_aload_n hx hb dX1_ropes_16 rfl (lv_at hl 0 rfl) ?_
      refine gf_1_1 hF hKK hW kx0 dX1_ropes_17 ?_
      refine lv_iload_n hx hb dX1_ropes_20 rfl (lv_at hl 2 rfl) ?_
      obtain ⟨q3, hq3, hs⟩ := obind_e hs
      refine end_i (run_V (q := (RX2, TX2, 2)) (ci := 2) hF hKK hW hS hl.1 (lk_1_1 hOK kx0) (by decide) rfl (c_X2_get l hOK (lk_1_1 hOK kx0) hq3) (kw_X1_52 hF.2.2.2.2 ⟨Nat.le_of_ble_eq_true rfl, Nat.le_of_ble_eq_true rfl⟩) rfl rfl (Nat.le_of_ble_eq_true rfl) dX1_ropes_21 ⟨Nat.zero_le _, Nat.zero_le _⟩) hS (fun H locs hW hS => ?_)
      obtain ⟨q4, hq4, hs⟩ := obind_e hs
      refine end_i (run_S hF hKK hW hS hl.1 (c_J6_bitCount_0f7a4 l hOK  hq4) (kw_X1_66 hF.2.2.2.2 ⟨Nat.le_of_ble_eq_true rfl, Nat.le_of_ble_eq_true rfl⟩) rfl rfl (Nat.le_of_ble_eq_true rfl) dX1_ropes_24 ⟨Nat.zero_le _, Nat.zero_le _⟩) hS (fun H locs hW hS => ?_)
      refine lv_iadd hx hb dX1_ropes_27 ?_
      obtain ⟨v5, ev5, hs⟩ := bnd_e hs
      refine top_i ev5 ?_
      refine lv_istore_n (lv' := [(1, .int v5), (0, .ref x0), (2, .int x2)]) hx hb dX1_ropes_28 rfl hl (by decide) rfl (fun ls hl => ?_)
      obtain ⟨v6, ev6, hs⟩ := bnd_e hs
      refine lv_iinc (v := v6) (lv' := [(2, .int v6), (1, .int v5), (0, .ref x0)]) hx hb dX1_ropes_29 hl (k := 2) rfl (by rw [ev6]; rfl) (by decide) rfl (fun ls hl => ?_)
      refine lv_goto (tgt := 4) hx hb dX1_ropes_32 (by decide) ?_
      exact ih4 v5 v6 _ _ _ hs hW hS (lv_sub hl [2, 1, 0] rfl)

set_option maxHeartbeats 4000000 in
set_option maxRecDepth 100000 in
theorem c_X1_ropes (l : Launch) {G : va_G} {Λ : Lay} {μ : Mem} (hOK : LayOK Λ) {a0 : Nat} (k0 : inK Λ a0 1) {r : Int32} (hs : sX1_ropes Λ μ a0 = some r) : CM l G Λ yX1_ropes cX1_ropes 3 (some .int) 1 μ [.ref a0] (QI G Λ r μ) := by
  refine ofM (own := RX1) (by decide +kernel) rfl (Nat.le_of_ble_eq_true rfl) (fun p e s m args below meth c ls hF hKK hW hr hlocks hl => ?_)
  have hx := hF.1
  have hb := hF.2.1
  have hA : ∀ q, inL Λ q → inL Λ q := fun _ h => h
  have hS : va_S (inL Λ) s.heap s.heap [] := va_S.rf
  have hl : lv_has ls 3 [(0, .ref a0)] := hl
  unfold sX1_ropes at hs
  refine lv_iconst (v := (0 : Int32)) hx hb dX1_ropes_0 (by decide) ?_
  refine lv_istore_n (lv' := [(1, .int (0 : Int32)), (0, .ref a0)]) hx hb dX1_ropes_1 rfl hl (by decide) rfl (fun ls hl => ?_)
  refine lv_iconst (v := (0 : Int32)) hx hb dX1_ropes_2 (by decide) ?_
  refine lv_istore_n (lv' := [(2, .int (0 : Int32)), (1, .int (0 : Int32)), (0, .ref a0)]) hx hb dX1_ropes_3 rfl hl (by decide) rfl (fun ls hl => ?_)
  exact cl_X1_ropes_4 hOK hF hKK hr hlocks k0 fuel (0 : Int32) (0 : Int32) _ _ _ hs hW hS (lv_sub hl [2, 1, 0] rfl)

set_option maxHeartbeats 4000000 in
set_option maxRecDepth 100000 in
theorem cl_X1_stepsAbove_5 {p : Program} {l : Launch} {e : Env} {s : State} {m : MethodId} {args : Array Value} {below : List Frame} {meth : Method} {c : Code} {G : va_G} {Λ : Lay} {μ : Mem} {r : Int32} (hOK : LayOK Λ) (hF : CallFix p m c cX1_stepsAbove 5 s args tw RX1) (hKK : KK G Λ s) (hr : meth.sig.returnType = (some .int)) (hlocks : meth.locks = false) {x0 : Nat} (kx0 : inK Λ x0 1) {x2 : Int32} : ∀ (n : Nat) (x3 : Int32) (x4 : Int32) (H : Heap) (locs : List Loc) (ls : Array Slot), lpX1_stepsAbove_5 Λ μ x0 x2 n x3 x4 = some r → Wd G Λ μ H → va_S (inL Λ) s.heap H locs → lv_has ls 5 [(0, .ref x0), (2, .int x2), (3, .int x3), (4, .int x4)] → W p l e (rmd 4) s m args below meth c H locs 0 0 (MQ below (QI G Λ r μ) args s 0 0 (inL Λ)) (F0 m 5 ls []) := by
  have hx := hF.1
  have hb := hF.2.1
  have hA : ∀ q, inL Λ q → inL Λ q := fun _ h => h
  intro n
  induction n with
  | zero =>
    intro x3 x4 H locs ls hs hW hS hl
    cases hs
  | succ n5 ih5 =>
    intro x3 x4 H locs ls hs hW hS hl
    rw [lpX1_stepsAbove_5_s] at hs
    refine lv_iload hx hb dX1_stepsAbove_5 (lv_at hl 3 rfl) ?_
    refine lv_iload_n hx hb dX1_stepsAbove_7 rfl (lv_at hl 1 rfl) ?_
    refine lv_icmp_ge (tgt := 23) hx hb dX1_stepsAbove_8 (by decide) (fun c1 => ?_) (fun c1 => ?_)
    · have hs := ite_t hs c1
      refine lv_iload_n hx hb dX1_stepsAbove_23 rfl (lv_at hl 2 rfl) ?_
      have h9 := Option.some.inj hs
      rw [← h9]
      exact wr_i hF hr hlocks (vp_nar_int _) hW hS dX1_stepsAbove_24
    · have hs := ite_f hs c1
      refine lv_aload_n hx hb dX1_stepsAbove_11 rfl (lv_at hl 0 rfl) ?_
      refine lv_iload_n hx hb dX1_stepsAbove_12 rfl (lv_at hl 2 rfl) ?_
      obtain ⟨q2, hq2, hs⟩ := obind_e hs
      refine end_i (run_V (q := (RX1, TX1, 7)) (ci := 1) hF hKK hW hS hl.1 kx0 (by decide) rfl (c_X1_justAbove l hOK kx0 hq2) (kw_X1_124 hF.2.2.2.2 ⟨Nat.le_of_ble_eq_true rfl, Nat.le_of_ble_eq_true rfl⟩) rfl rfl (Nat.le_of_ble_eq_true rfl) dX1_stepsAbove_13 ⟨Nat.zero_le _, Nat.zero_le _⟩) hS (fun H locs hW hS => ?_)
      refine lv_istore_n (lv' := [(3, .int q2), (0, .ref x0), (2, .int x2), (4, .int x4)]) hx hb dX1_stepsAbove_16 rfl hl (by decide) rfl (fun ls hl => ?_)
      obtain ⟨v3, ev3, hs⟩ := bnd_e hs
      refine lv_iinc (v := v3) (lv' := [(4, .int v3), (3, .int q2), (0, .ref x0), (2, .int x2)]) hx hb dX1_stepsAbove_17 hl (k := 3) rfl (by rw [ev3]; rfl) (by decide) rfl (fun ls hl => ?_)
      refine lv_goto (tgt := 5) hx hb dX1_stepsAbove_20 (by decide) ?_
      exact ih5 q2 v3 _ _ _ hs hW hS (lv_sub hl [2, 3, 1, 0] rfl)

set_option maxHeartbeats 4000000 in
set_option maxRecDepth 100000 in
theorem c_X1_stepsAbove (l : Launch) {G : va_G} {Λ : Lay} {μ : Mem} (hOK : LayOK Λ) {a0 : Nat} (k0 : inK Λ a0 1) {a1 : Int32} {a2 : Int32} {r : Int32} (hs : sX1_stepsAbove Λ μ a0 a1 a2 = some r) : CM l G Λ yX1_stepsAbove cX1_stepsAbove 5 (some .int) 4 μ [.ref a0, .int a1, .int a2] (QI G Λ r μ) := by
  refine ofM (own := RX1) (by decide +kernel) rfl (Nat.le_of_ble_eq_true rfl) (fun p e s m args below meth c ls hF hKK hW hr hlocks hl => ?_)
  have hx := hF.1
  have hb := hF.2.1
  have hA : ∀ q, inL Λ q → inL Λ q := fun _ h => h
  have hS : va_S (inL Λ) s.heap s.heap [] := va_S.rf
  have hl : lv_has ls 5 [(0, .ref a0), (1, .int a1), (2, .int a2)] := hl
  unfold sX1_stepsAbove at hs
  refine lv_iload_n hx hb dX1_stepsAbove_0 rfl (lv_at hl 1 rfl) ?_
  refine lv_istore_n (lv' := [(3, .int a1), (0, .ref a0), (1, .int a1), (2, .int a2)]) hx hb dX1_stepsAbove_1 rfl hl (by decide) rfl (fun ls hl => ?_)
  refine lv_iconst (v := (0 : Int32)) hx hb dX1_stepsAbove_2 (by decide) ?_
  refine lv_istore (lv' := [(4, .int (0 : Int32)), (3, .int a1), (0, .ref a0), (1, .int a1), (2, .int a2)]) hx hb dX1_stepsAbove_3 hl (by decide) rfl (fun ls hl => ?_)
  exact cl_X1_stepsAbove_5 hOK hF hKK hr hlocks k0 fuel a1 (0 : Int32) _ _ _ hs hW hS (lv_sub hl [2, 4, 1, 0] rfl)

set_option maxHeartbeats 4000000 in
set_option maxRecDepth 100000 in
theorem cl_X1_sumOfDepths_4 {p : Program} {l : Launch} {e : Env} {s : State} {m : MethodId} {args : Array Value} {below : List Frame} {meth : Method} {c : Code} {G : va_G} {Λ : Lay} {μ : Mem} {r : Int32} (hOK : LayOK Λ) (hF : CallFix p m c cX1_sumOfDepths 3 s args tw RX1) (hKK : KK G Λ s) (hr : meth.sig.returnType = (some .int)) (hlocks : meth.locks = false) {x0 : Nat} (kx0 : inK Λ x0 1) : ∀ (n : Nat) (x1 : Int32) (x2 : Int32) (H : Heap) (locs : List Loc) (ls : Array Slot), lpX1_sumOfDepths_4 Λ μ x0 n x1 x2 = some r → Wd G Λ μ H → va_S (inL Λ) s.heap H locs → lv_has ls 3 [(0, .ref x0), (1, .int x1), (2, .int x2)] → W p l e (rmd 5) s m args below meth c H locs 0 0 (MQ below (QI G Λ r μ) args s 0 0 (inL Λ)) (F0 m 4 ls []) := by
  have hx := hF.1
  have hb := hF.2.1
  have hA : ∀ q, inL Λ q → inL Λ q := fun _ h => h
  intro n
  induction n with
  | zero =>
    intro x1 x2 H locs ls hs hW hS hl
    cases hs
  | succ n4 ih4 =>
    intro x1 x2 H locs ls hs hW hS hl
    rw [lpX1_sumOfDepths_4_s] at hs
    refine lv_iload_n hx hb dX1_sumOfDepths_4 rfl (lv_at hl 2 rfl) ?_
    refine lv_aload_n hx hb dX1_sumOfDepths_5 rfl (lv_at hl 0 rfl) ?_
    refine gf_1_0 hF hKK hW kx0 dX1_sumOfDepths_6 ?_
    obtain ⟨q1, hq1, hs⟩ := obind_e hs
    refine end_i (run_V (q := (RX2, TX2, 2)) (ci := 2) hF hKK hW hS hl.1 (lk_1_0 hOK kx0) (by decide) rfl (c_X2_length l hOK (lk_1_0 hOK kx0) hq1) (kw_X1_48 hF.2.2.2.2 ⟨Nat.le_of_ble_eq_true rfl, Nat.le_of_ble_eq_true rfl⟩) rfl rfl (Nat.le_of_ble_eq_true rfl) dX1_sumOfDepths_9 ⟨Nat.zero_le _, Nat.zero_le _⟩) hS (fun H locs hW hS => ?_)
    refine lv_icmp_ge (tgt := 29) hx hb dX1_sumOfDepths_12 (by decide) (fun c2 => ?_) (fun c2 => ?_)
    · have hs := ite_t hs c2
      refine lv_iload_n hx hb dX1_sumOfDepths_29 rfl (lv_at hl 1 rfl) ?_
      have h9 := Option.some.inj hs
      rw [← h9]
      exact wr_i hF hr hlocks (vp_nar_int _) hW hS dX1_sumOfDepths_30
    · have hs := ite_f hs c2
      refine lv_iload_n hx hb dX1_sumOfDepths_15 rfl (lv_at hl 1 rfl) ?_
      refine lv_aload_n hx hb dX1_sumOfDepths_16 rfl (lv_at hl 0 rfl) ?_
      refine lv_iload_n hx hb dX1_sumOfDepths_17 rfl (lv_at hl 2 rfl) ?_
      obtain ⟨q3, hq3, hs⟩ := obind_e hs
      refine end_i (run_V (q := (RX1, TX1, 7)) (ci := 1) hF hKK hW hS hl.1 kx0 (by decide) rfl (c_X1_depthOf l hOK kx0 hq3) (kw_X1_127 hF.2.2.2.2 ⟨Nat.le_of_ble_eq_true rfl, Nat.le_of_ble_eq_true rfl⟩) rfl rfl (Nat.le_of_ble_eq_true rfl) dX1_sumOfDepths_18 ⟨Nat.zero_le _, Nat.zero_le _⟩) hS (fun H locs hW hS => ?_)
      refine lv_iadd hx hb dX1_sumOfDepths_21 ?_
      obtain ⟨v4, ev4, hs⟩ := bnd_e hs
      refine top_i ev4 ?_
      refine lv_istore_n (lv' := [(1, .int v4), (0, .ref x0), (2, .int x2)]) hx hb dX1_sumOfDepths_22 rfl hl (by decide) rfl (fun ls hl => ?_)
      obtain ⟨v5, ev5, hs⟩ := bnd_e hs
      refine lv_iinc (v := v5) (lv' := [(2, .int v5), (1, .int v4), (0, .ref x0)]) hx hb dX1_sumOfDepths_23 hl (k := 2) rfl (by rw [ev5]; rfl) (by decide) rfl (fun ls hl => ?_)
      refine lv_goto (tgt := 4) hx hb dX1_sumOfDepths_26 (by decide) ?_
      exact ih4 v4 v5 _ _ _ hs hW hS (lv_sub hl [2, 1, 0] rfl)

set_option maxHeartbeats 4000000 in
set_option maxRecDepth 100000 in
theorem c_X1_sumOfDepths (l : Launch) {G : va_G} {Λ : Lay} {μ : Mem} (hOK : LayOK Λ) {a0 : Nat} (k0 : inK Λ a0 1) {r : Int32} (hs : sX1_sumOfDepths Λ μ a0 = some r) : CM l G Λ yX1_sumOfDepths cX1_sumOfDepths 3 (some .int) 5 μ [.ref a0] (QI G Λ r μ) := by
  refine ofM (own := RX1) (by decide +kernel) rfl (Nat.le_of_ble_eq_true rfl) (fun p e s m args below meth c ls hF hKK hW hr hlocks hl => ?_)
  have hx := hF.1
  have hb := hF.2.1
  have hA : ∀ q, inL Λ q → inL Λ q := fun _ h => h
  have hS : va_S (inL Λ) s.heap s.heap [] := va_S.rf
  have hl : lv_has ls 3 [(0, .ref a0)] := hl
  unfold sX1_sumOfDepths at hs
  refine lv_iconst (v := (0 : Int32)) hx hb dX1_sumOfDepths_0 (by decide) ?_
  refine lv_istore_n (lv' := [(1, .int (0 : Int32)), (0, .ref a0)]) hx hb dX1_sumOfDepths_1 rfl hl (by decide) rfl (fun ls hl => ?_)
  refine lv_iconst (v := (0 : Int32)) hx hb dX1_sumOfDepths_2 (by decide) ?_
  refine lv_istore_n (lv' := [(2, .int (0 : Int32)), (1, .int (0 : Int32)), (0, .ref a0)]) hx hb dX1_sumOfDepths_3 rfl hl (by decide) rfl (fun ls hl => ?_)
  exact cl_X1_sumOfDepths_4 hOK hF hKK hr hlocks k0 fuel (0 : Int32) (0 : Int32) _ _ _ hs hW hS (lv_sub hl [2, 1, 0] rfl)

set_option maxHeartbeats 4000000 in
set_option maxRecDepth 100000 in
theorem c_X1_tie (l : Launch) {G : va_G} {Λ : Lay} {μ : Mem} (hOK : LayOK Λ) {a0 : Nat} (k0 : inK Λ a0 1) {a1 : Int32} {a2 : Int32} {r : Mem} (hs : sX1_tie Λ μ a0 a1 a2 = some r) : CM l G Λ yX1_tie cX1_tie 6 none 3 μ [.ref a0, .int a1, .int a2] (QV G Λ r) := by
  refine ofM (own := RX1) (by decide +kernel) rfl (Nat.le_of_ble_eq_true rfl) (fun p e s m args below meth c ls hF hKK hW hr hlocks hl => ?_)
  have hx := hF.1
  have hb := hF.2.1
  have hA : ∀ q, inL Λ q → inL Λ q := fun _ h => h
  have hS : va_S (inL Λ) s.heap s.heap [] := va_S.rf
  have hl : lv_has ls 6 [(0, .ref a0), (1, .int a1), (2, .int a2)] := hl
  unfold sX1_tie at hs
  refine lv_aload_n hx hb dX1_tie_0 rfl (lv_at hl 0 rfl) ?_
  refine lv_iload_n hx hb dX1_tie_1 rfl (lv_at hl 2 rfl) ?_
  obtain ⟨q1, hq1, hs⟩ := obind_e hs
  refine end_r (run_V (q := (RX1, TX1, 7)) (ci := 1) hF hKK hW hS hl.1 k0 (by decide) rfl (c_X1_roundAt l hOK k0 hq1) (kw_X1_34 hF.2.2.2.2 ⟨Nat.le_of_ble_eq_true rfl, Nat.le_of_ble_eq_true rfl⟩) rfl rfl (Nat.le_of_ble_eq_true rfl) dX1_tie_2 ⟨Nat.zero_le _, Nat.zero_le _⟩) hS (fun H locs kq1 hW hS => ?_)
  refine lv_astore_n (lv' := [(3, .ref q1), (0, .ref a0), (1, .int a1), (2, .int a2)]) hx hb dX1_tie_5 rfl hl (by decide) rfl (fun ls hl => ?_)
  refine lv_aload_n hx hb dX1_tie_6 rfl (lv_at hl 1 rfl) ?_
  refine lv_iload_n hx hb dX1_tie_7 rfl (lv_at hl 2 rfl) ?_
  obtain ⟨q2, hq2, hs⟩ := obind_e hs
  refine end_r (run_V (q := (RX1, TX1, 7)) (ci := 1) hF hKK hW hS hl.1 k0 (by decide) rfl (c_X1_roundOf l hOK k0 hq2) (kw_X1_87 hF.2.2.2.2 ⟨Nat.le_of_ble_eq_true rfl, Nat.le_of_ble_eq_true rfl⟩) rfl rfl (Nat.le_of_ble_eq_true rfl) dX1_tie_8 ⟨Nat.zero_le _, Nat.zero_le _⟩) hS (fun H locs kq2 hW hS => ?_)
  refine lv_astore (lv' := [(4, .ref q2), (3, .ref q1), (0, .ref a0), (1, .int a1), (2, .int a2)]) hx hb dX1_tie_11 hl (by decide) rfl (fun ls hl => ?_)
  refine lv_aload hx hb dX1_tie_13 (lv_at hl 0 rfl) ?_
  refine lv_iload_n hx hb dX1_tie_15 rfl (lv_at hl 3 rfl) ?_
  obtain ⟨q3, hq3, hs⟩ := obind_e hs
  refine end_i (run_V (q := (RX2, TX2, 2)) (ci := 2) hF hKK hW hS hl.1 kq2 (by decide) rfl (c_X2_firstOf l hOK kq2 hq3) (kw_X1_90 hF.2.2.2.2 ⟨Nat.le_of_ble_eq_true rfl, Nat.le_of_ble_eq_true rfl⟩) rfl rfl (Nat.le_of_ble_eq_true rfl) dX1_tie_16 ⟨Nat.zero_le _, Nat.zero_le _⟩) hS (fun H locs hW hS => ?_)
  refine lv_istore (lv' := [(5, .int q3), (4, .ref q2), (3, .ref q1), (0, .ref a0), (1, .int a1), (2, .int a2)]) hx hb dX1_tie_19 hl (by decide) rfl (fun ls hl => ?_)
  refine lv_aload_n hx hb dX1_tie_21 rfl (lv_at hl 2 rfl) ?_
  refine lv_iload_n hx hb dX1_tie_22 rfl (lv_at hl 4 rfl) ?_
  obtain ⟨q4, hq4, hs⟩ := obind_e hs
  refine end_v (run_V (q := (RX2, TX2, 2)) (ci := 2) hF hKK hW hS hl.1 kq1 (by decide) rfl (c_X2_add l hOK kq1 hq4) (kw_X1_71 hF.2.2.2.2 ⟨Nat.le_of_ble_eq_true rfl, Nat.le_of_ble_eq_true rfl⟩) rfl rfl (Nat.le_of_ble_eq_true rfl) dX1_tie_23 ⟨Nat.zero_le _, Nat.zero_le _⟩) hS (fun H locs hW hS => ?_)
  refine lv_aload_n hx hb dX1_tie_26 rfl (lv_at hl 2 rfl) ?_
  refine lv_aload hx hb dX1_tie_27 (lv_at hl 1 rfl) ?_
  refine lv_iload hx hb dX1_tie_29 (lv_at hl 0 rfl) ?_
  refine lv_iconst (v := (1 : Int32)) hx hb dX1_tie_31 (by decide) ?_
  refine lv_iadd hx hb dX1_tie_32 ?_
  refine lv_aload hx hb dX1_tie_33 (lv_at hl 1 rfl) ?_
  obtain ⟨q5, hq5, hs⟩ := obind_e hs
  refine end_i (run_V (q := (RX2, TX2, 2)) (ci := 2) hF hKK hW hS hl.1 kq2 (by decide) rfl (c_X2_length l hOK kq2 hq5) (kw_X1_48 hF.2.2.2.2 ⟨Nat.le_of_ble_eq_true rfl, Nat.le_of_ble_eq_true rfl⟩) rfl rfl (Nat.le_of_ble_eq_true rfl) dX1_tie_35 ⟨Nat.zero_le _, Nat.zero_le _⟩) hS (fun H locs hW hS => ?_)
  refine lv_iconst (v := (1 : Int32)) hx hb dX1_tie_38 (by decide) ?_
  refine lv_isub hx hb dX1_tie_39 ?_
  obtain ⟨q6, hq6, hs⟩ := obind_e hs
  refine end_v (run_V (q := (RX2, TX2, 2)) (ci := 2) hF hKK hW hS hl.1 kq1 (by decide) rfl (c_X2_addPlaces l hOK kq1 kq2 hq6) (kw_X1_93 hF.2.2.2.2 ⟨Nat.le_of_ble_eq_true rfl, Nat.le_of_ble_eq_true rfl⟩) rfl rfl (Nat.le_of_ble_eq_true rfl) dX1_tie_40 ⟨Nat.zero_le _, Nat.zero_le _⟩) hS (fun H locs hW hS => ?_)
  refine lv_aload hx hb dX1_tie_43 (lv_at hl 1 rfl) ?_
  refine lv_iload hx hb dX1_tie_45 (lv_at hl 0 rfl) ?_
  refine lv_iconst (v := (1 : Int32)) hx hb dX1_tie_47 (by decide) ?_
  refine lv_iadd hx hb dX1_tie_48 ?_
  obtain ⟨q7, hq7, hs⟩ := obind_e hs
  refine end_v (run_V (q := (RX2, TX2, 2)) (ci := 2) hF hKK hW hS hl.1 kq2 (by decide) rfl (c_X2_shorten l hOK kq2 hq7) (kw_X1_100 hF.2.2.2.2 ⟨Nat.le_of_ble_eq_true rfl, Nat.le_of_ble_eq_true rfl⟩) rfl rfl (Nat.le_of_ble_eq_true rfl) dX1_tie_49 ⟨Nat.zero_le _, Nat.zero_le _⟩) hS (fun H locs hW hS => ?_)
  refine lv_aload hx hb dX1_tie_52 (lv_at hl 1 rfl) ?_
  refine lv_aload_n hx hb dX1_tie_54 rfl (lv_at hl 2 rfl) ?_
  refine lv_iconst (v := (0 : Int32)) hx hb dX1_tie_55 (by decide) ?_
  refine lv_aload_n hx hb dX1_tie_56 rfl (lv_at hl 2 rfl) ?_
  obtain ⟨q8, hq8, hs⟩ := obind_e hs
  refine end_i (run_V (q := (RX2, TX2, 2)) (ci := 2) hF hKK hW hS hl.1 kq1 (by decide) rfl (c_X2_length l hOK kq1 hq8) (kw_X1_48 hF.2.2.2.2 ⟨Nat.le_of_ble_eq_true rfl, Nat.le_of_ble_eq_true rfl⟩) rfl rfl (Nat.le_of_ble_eq_true rfl) dX1_tie_57 ⟨Nat.zero_le _, Nat.zero_le _⟩) hS (fun H locs hW hS => ?_)
  refine lv_iconst (v := (1 : Int32)) hx hb dX1_tie_60 (by decide) ?_
  refine lv_isub hx hb dX1_tie_61 ?_
  obtain ⟨q9, hq9, hs⟩ := obind_e hs
  refine end_v (run_V (q := (RX2, TX2, 2)) (ci := 2) hF hKK hW hS hl.1 kq2 (by decide) rfl (c_X2_addPlaces l hOK kq2 kq1 hq9) (kw_X1_93 hF.2.2.2.2 ⟨Nat.le_of_ble_eq_true rfl, Nat.le_of_ble_eq_true rfl⟩) rfl rfl (Nat.le_of_ble_eq_true rfl) dX1_tie_62 ⟨Nat.zero_le _, Nat.zero_le _⟩) hS (fun H locs hW hS => ?_)
  refine lv_aload_n hx hb dX1_tie_65 rfl (lv_at hl 2 rfl) ?_
  obtain ⟨q10, hq10, hs⟩ := obind_e hs
  refine end_v (run_V (q := (RX2, TX2, 2)) (ci := 2) hF hKK hW hS hl.1 kq1 (by decide) rfl (c_X2_clear l hOK kq1 hq10) (kw_X1_97 hF.2.2.2.2 ⟨Nat.le_of_ble_eq_true rfl, Nat.le_of_ble_eq_true rfl⟩) rfl rfl (Nat.le_of_ble_eq_true rfl) dX1_tie_66 ⟨Nat.zero_le _, Nat.zero_le _⟩) hS (fun H locs hW hS => ?_)
  refine lv_aload_n hx hb dX1_tie_69 rfl (lv_at hl 3 rfl) ?_
  refine gf_1_1 hF hKK hW k0 dX1_tie_70 ?_
  refine lv_iload_n hx hb dX1_tie_73 rfl (lv_at hl 4 rfl) ?_
  refine lv_aload_n hx hb dX1_tie_74 rfl (lv_at hl 3 rfl) ?_
  refine lv_iload_n hx hb dX1_tie_75 rfl (lv_at hl 4 rfl) ?_
  obtain ⟨q11, hq11, hs⟩ := obind_e hs
  refine end_i (run_V (q := (RX1, TX1, 7)) (ci := 1) hF hKK hW hS hl.1 k0 (by decide) rfl (c_X1_ropesOf l hOK k0 hq11) (kw_X1_63 hF.2.2.2.2 ⟨Nat.le_of_ble_eq_true rfl, Nat.le_of_ble_eq_true rfl⟩) rfl rfl (Nat.le_of_ble_eq_true rfl) dX1_tie_76 ⟨Nat.zero_le _, Nat.zero_le _⟩) hS (fun H locs hW hS => ?_)
  refine lv_iload_n hx hb dX1_tie_79 rfl (lv_at hl 5 rfl) ?_
  obtain ⟨q12, hq12, hs⟩ := obind_e hs
  refine end_i (run_N hF hKK hW hS hl.1 (c_X4_bit l hOK  hq12) (kw_X1_56 hKK.2.1.2.1 hF.2.2.2.2 ⟨Nat.le_of_ble_eq_true rfl, Nat.le_of_ble_eq_true rfl⟩) rfl rfl (Nat.le_of_ble_eq_true rfl) dX1_tie_80 ⟨Nat.zero_le _, Nat.zero_le _⟩) hS (fun H locs hW hS => ?_)
  refine lv_ior hx hb dX1_tie_83 ?_
  obtain ⟨q13, hq13, hs⟩ := obind_e hs
  refine end_v (run_V (q := (RX2, TX2, 2)) (ci := 2) hF hKK hW hS hl.1 (lk_1_1 hOK k0) (by decide) rfl (c_X2_put l hOK (lk_1_1 hOK k0) hq13) (kw_X1_74 hF.2.2.2.2 ⟨Nat.le_of_ble_eq_true rfl, Nat.le_of_ble_eq_true rfl⟩) rfl rfl (Nat.le_of_ble_eq_true rfl) dX1_tie_84 ⟨Nat.zero_le _, Nat.zero_le _⟩) hS (fun H locs hW hS => ?_)
  refine lv_aload_n hx hb dX1_tie_87 rfl (lv_at hl 3 rfl) ?_
  refine gf_1_1 hF hKK hW k0 dX1_tie_88 ?_
  refine lv_iload_n hx hb dX1_tie_91 rfl (lv_at hl 5 rfl) ?_
  refine lv_aload_n hx hb dX1_tie_92 rfl (lv_at hl 3 rfl) ?_
  refine lv_iload_n hx hb dX1_tie_93 rfl (lv_at hl 5 rfl) ?_
  obtain ⟨q14, hq14, hs⟩ := obind_e hs
  refine end_i (run_V (q := (RX1, TX1, 7)) (ci := 1) hF hKK hW hS hl.1 k0 (by decide) rfl (c_X1_ropesOf l hOK k0 hq14) (kw_X1_63 hF.2.2.2.2 ⟨Nat.le_of_ble_eq_true rfl, Nat.le_of_ble_eq_true rfl⟩) rfl rfl (Nat.le_of_ble_eq_true rfl) dX1_tie_94 ⟨Nat.zero_le _, Nat.zero_le _⟩) hS (fun H locs hW hS => ?_)
  refine lv_iload_n hx hb dX1_tie_97 rfl (lv_at hl 4 rfl) ?_
  obtain ⟨q15, hq15, hs⟩ := obind_e hs
  refine end_i (run_N hF hKK hW hS hl.1 (c_X4_bit l hOK  hq15) (kw_X1_56 hKK.2.1.2.1 hF.2.2.2.2 ⟨Nat.le_of_ble_eq_true rfl, Nat.le_of_ble_eq_true rfl⟩) rfl rfl (Nat.le_of_ble_eq_true rfl) dX1_tie_98 ⟨Nat.zero_le _, Nat.zero_le _⟩) hS (fun H locs hW hS => ?_)
  refine lv_ior hx hb dX1_tie_101 ?_
  obtain ⟨q16, hq16, hs⟩ := obind_e hs
  refine end_v (run_V (q := (RX2, TX2, 2)) (ci := 2) hF hKK hW hS hl.1 (lk_1_1 hOK k0) (by decide) rfl (c_X2_put l hOK (lk_1_1 hOK k0) hq16) (kw_X1_74 hF.2.2.2.2 ⟨Nat.le_of_ble_eq_true rfl, Nat.le_of_ble_eq_true rfl⟩) rfl rfl (Nat.le_of_ble_eq_true rfl) dX1_tie_102 ⟨Nat.zero_le _, Nat.zero_le _⟩) hS (fun H locs hW hS => ?_)
  refine lv_aload_n hx hb dX1_tie_105 rfl (lv_at hl 3 rfl) ?_
  refine lv_dup hx hb dX1_tie_106 rfl ?_
  refine gf_1_4 hF hKK hW k0 dX1_tie_107 ?_
  refine lv_iconst (v := (1 : Int32)) hx hb dX1_tie_110 (by decide) ?_
  refine lv_iadd hx hb dX1_tie_111 ?_
  obtain ⟨μ17, eμ17, hs⟩ := bnd_e hs
  refine pf_1_4 hOK hF hKK hW hS hA k0 eμ17 dX1_tie_112 (fun H locs hW hS => ?_)
  have h9 := Option.some.inj hs
  rw [← h9]
  exact wr_v hF hr hlocks hW hS dX1_tie_115

set_option maxHeartbeats 4000000 in
set_option maxRecDepth 100000 in
theorem c_X1_turnTo (l : Launch) {G : va_G} {Λ : Lay} {μ : Mem} (hOK : LayOK Λ) {a0 : Nat} (k0 : inK Λ a0 1) {a1 : Int32} {r : Mem} (hs : sX1_turnTo Λ μ a0 a1 = some r) : CM l G Λ yX1_turnTo cX1_turnTo 5 none 3 μ [.ref a0, .int a1] (QV G Λ r) := by
  refine ofM (own := RX1) (by decide +kernel) rfl (Nat.le_of_ble_eq_true rfl) (fun p e s m args below meth c ls hF hKK hW hr hlocks hl => ?_)
  have hx := hF.1
  have hb := hF.2.1
  have hA : ∀ q, inL Λ q → inL Λ q := fun _ h => h
  have hS : va_S (inL Λ) s.heap s.heap [] := va_S.rf
  have hl : lv_has ls 5 [(0, .ref a0), (1, .int a1)] := hl
  unfold sX1_turnTo at hs
  refine lv_aload_n hx hb dX1_turnTo_0 rfl (lv_at hl 0 rfl) ?_
  refine lv_iload_n hx hb dX1_turnTo_1 rfl (lv_at hl 1 rfl) ?_
  obtain ⟨q1, hq1, hs⟩ := obind_e hs
  refine end_r (run_V (q := (RX1, TX1, 7)) (ci := 1) hF hKK hW hS hl.1 k0 (by decide) rfl (c_X1_roundOf l hOK k0 hq1) (kw_X1_87 hF.2.2.2.2 ⟨Nat.le_of_ble_eq_true rfl, Nat.le_of_ble_eq_true rfl⟩) rfl rfl (Nat.le_of_ble_eq_true rfl) dX1_turnTo_2 ⟨Nat.zero_le _, Nat.zero_le _⟩) hS (fun H locs kq1 hW hS => ?_)
  refine lv_astore_n (lv' := [(2, .ref q1), (0, .ref a0), (1, .int a1)]) hx hb dX1_turnTo_5 rfl hl (by decide) rfl (fun ls hl => ?_)
  refine lv_aload_n hx hb dX1_turnTo_6 rfl (lv_at hl 1 rfl) ?_
  refine lv_iload_n hx hb dX1_turnTo_7 rfl (lv_at hl 2 rfl) ?_
  obtain ⟨q2, hq2, hs⟩ := obind_e hs
  refine end_r (run_V (q := (RX1, TX1, 7)) (ci := 1) hF hKK hW hS hl.1 k0 (by decide) rfl (c_X1_roundAt l hOK k0 hq2) (kw_X1_34 hF.2.2.2.2 ⟨Nat.le_of_ble_eq_true rfl, Nat.le_of_ble_eq_true rfl⟩) rfl rfl (Nat.le_of_ble_eq_true rfl) dX1_turnTo_8 ⟨Nat.zero_le _, Nat.zero_le _⟩) hS (fun H locs kq2 hW hS => ?_)
  refine lv_astore_n (lv' := [(3, .ref q2), (2, .ref q1), (0, .ref a0), (1, .int a1)]) hx hb dX1_turnTo_11 rfl hl (by decide) rfl (fun ls hl => ?_)
  refine lv_aload_n hx hb dX1_turnTo_12 rfl (lv_at hl 1 rfl) ?_
  refine lv_iload_n hx hb dX1_turnTo_13 rfl (lv_at hl 3 rfl) ?_
  obtain ⟨q3, hq3, hs⟩ := obind_e hs
  refine end_i (run_V (q := (RX2, TX2, 2)) (ci := 2) hF hKK hW hS hl.1 kq1 (by decide) rfl (c_X2_firstOf l hOK kq1 hq3) (kw_X1_90 hF.2.2.2.2 ⟨Nat.le_of_ble_eq_true rfl, Nat.le_of_ble_eq_true rfl⟩) rfl rfl (Nat.le_of_ble_eq_true rfl) dX1_turnTo_14 ⟨Nat.zero_le _, Nat.zero_le _⟩) hS (fun H locs hW hS => ?_)
  refine lv_istore (lv' := [(4, .int q3), (3, .ref q2), (2, .ref q1), (0, .ref a0), (1, .int a1)]) hx hb dX1_turnTo_17 hl (by decide) rfl (fun ls hl => ?_)
  refine lv_iload hx hb dX1_turnTo_19 (lv_at hl 0 rfl) ?_
  refine lv_if_gt (tgt := 25) hx hb dX1_turnTo_21 (by decide) (fun c4 => ?_) (fun c4 => ?_)
  · have hs := ite_t hs c4
    refine lv_aload_n hx hb dX1_turnTo_25 rfl (lv_at hl 1 rfl) ?_
    refine lv_aload_n hx hb dX1_turnTo_26 rfl (lv_at hl 2 rfl) ?_
    refine lv_iload hx hb dX1_turnTo_27 (lv_at hl 0 rfl) ?_
    refine lv_aload_n hx hb dX1_turnTo_29 rfl (lv_at hl 2 rfl) ?_
    obtain ⟨q5, hq5, hs⟩ := obind_e hs
    refine end_i (run_V (q := (RX2, TX2, 2)) (ci := 2) hF hKK hW hS hl.1 kq1 (by decide) rfl (c_X2_length l hOK kq1 hq5) (kw_X1_48 hF.2.2.2.2 ⟨Nat.le_of_ble_eq_true rfl, Nat.le_of_ble_eq_true rfl⟩) rfl rfl (Nat.le_of_ble_eq_true rfl) dX1_turnTo_30 ⟨Nat.zero_le _, Nat.zero_le _⟩) hS (fun H locs hW hS => ?_)
    refine lv_iconst (v := (1 : Int32)) hx hb dX1_turnTo_33 (by decide) ?_
    refine lv_isub hx hb dX1_turnTo_34 ?_
    obtain ⟨q6, hq6, hs⟩ := obind_e hs
    refine end_v (run_V (q := (RX2, TX2, 2)) (ci := 2) hF hKK hW hS hl.1 kq2 (by decide) rfl (c_X2_addPlaces l hOK kq2 kq1 hq6) (kw_X1_93 hF.2.2.2.2 ⟨Nat.le_of_ble_eq_true rfl, Nat.le_of_ble_eq_true rfl⟩) rfl rfl (Nat.le_of_ble_eq_true rfl) dX1_turnTo_35 ⟨Nat.zero_le _, Nat.zero_le _⟩) hS (fun H locs hW hS => ?_)
    refine lv_aload_n hx hb dX1_turnTo_38 rfl (lv_at hl 1 rfl) ?_
    refine lv_aload_n hx hb dX1_turnTo_39 rfl (lv_at hl 2 rfl) ?_
    refine lv_iconst (v := (1 : Int32)) hx hb dX1_turnTo_40 (by decide) ?_
    refine lv_iload hx hb dX1_turnTo_41 (lv_at hl 0 rfl) ?_
    obtain ⟨q7, hq7, hs⟩ := obind_e hs
    refine end_v (run_V (q := (RX2, TX2, 2)) (ci := 2) hF hKK hW hS hl.1 kq2 (by decide) rfl (c_X2_addPlaces l hOK kq2 kq1 hq7) (kw_X1_93 hF.2.2.2.2 ⟨Nat.le_of_ble_eq_true rfl, Nat.le_of_ble_eq_true rfl⟩) rfl rfl (Nat.le_of_ble_eq_true rfl) dX1_turnTo_43 ⟨Nat.zero_le _, Nat.zero_le _⟩) hS (fun H locs hW hS => ?_)
    refine lv_aload_n hx hb dX1_turnTo_46 rfl (lv_at hl 2 rfl) ?_
    obtain ⟨q8, hq8, hs⟩ := obind_e hs
    refine end_v (run_V (q := (RX2, TX2, 2)) (ci := 2) hF hKK hW hS hl.1 kq1 (by decide) rfl (c_X2_clear l hOK kq1 hq8) (kw_X1_97 hF.2.2.2.2 ⟨Nat.le_of_ble_eq_true rfl, Nat.le_of_ble_eq_true rfl⟩) rfl rfl (Nat.le_of_ble_eq_true rfl) dX1_turnTo_47 ⟨Nat.zero_le _, Nat.zero_le _⟩) hS (fun H locs hW hS => ?_)
    have h9 := Option.some.inj hs
    rw [← h9]
    exact wr_v hF hr hlocks hW hS dX1_turnTo_50
  · have hs := ite_f hs c4
    have h9 := Option.some.inj hs
    rw [← h9]
    exact wr_v hF hr hlocks hW hS dX1_turnTo_24

set_option maxHeartbeats 4000000 in
set_option maxRecDepth 100000 in
theorem c_X1_turnsSoFar (l : Launch) {G : va_G} {Λ : Lay} {μ : Mem} (hOK : LayOK Λ) {a0 : Nat} (k0 : inK Λ a0 1) {r : Int32} (hs : sX1_turnsSoFar Λ μ a0 = some r) : CM l G Λ yX1_turnsSoFar cX1_turnsSoFar 1 (some .int) 0 μ [.ref a0] (QI G Λ r μ) := by
  refine ofM (own := RX1) (by decide +kernel) rfl (Nat.le_of_ble_eq_true rfl) (fun p e s m args below meth c ls hF hKK hW hr hlocks hl => ?_)
  have hx := hF.1
  have hb := hF.2.1
  have hA : ∀ q, inL Λ q → inL Λ q := fun _ h => h
  have hS : va_S (inL Λ) s.heap s.heap [] := va_S.rf
  have hl : lv_has ls 1 [(0, .ref a0)] := hl
  unfold sX1_turnsSoFar at hs
  refine lv_aload_n hx hb dX1_turnsSoFar_0 rfl (lv_at hl 0 rfl) ?_
  refine gf_1_6 hF hKK hW k0 dX1_turnsSoFar_1 ?_
  have h9 := Option.some.inj hs
  rw [← h9]
  exact wr_i hF hr hlocks (vp_nar_int _) hW hS dX1_turnsSoFar_4

set_option maxHeartbeats 4000000 in
set_option maxRecDepth 100000 in
theorem c_X1_untie (l : Launch) {G : va_G} {Λ : Lay} {μ : Mem} (hOK : LayOK Λ) {a0 : Nat} (k0 : inK Λ a0 1) {a1 : Int32} {a2 : Int32} {r : Mem} (hs : sX1_untie Λ μ a0 a1 a2 = some r) : CM l G Λ yX1_untie cX1_untie 6 none 3 μ [.ref a0, .int a1, .int a2] (QV G Λ r) := by
  refine ofM (own := RX1) (by decide +kernel) rfl (Nat.le_of_ble_eq_true rfl) (fun p e s m args below meth c ls hF hKK hW hr hlocks hl => ?_)
  have hx := hF.1
  have hb := hF.2.1
  have hA : ∀ q, inL Λ q → inL Λ q := fun _ h => h
  have hS : va_S (inL Λ) s.heap s.heap [] := va_S.rf
  have hl : lv_has ls 6 [(0, .ref a0), (1, .int a1), (2, .int a2)] := hl
  unfold sX1_untie at hs
  refine lv_aload_n hx hb dX1_untie_0 rfl (lv_at hl 0 rfl) ?_
  refine lv_iload_n hx hb dX1_untie_1 rfl (lv_at hl 1 rfl) ?_
  obtain ⟨q1, hq1, hs⟩ := obind_e hs
  refine end_r (run_V (q := (RX1, TX1, 7)) (ci := 1) hF hKK hW hS hl.1 k0 (by decide) rfl (c_X1_roundOf l hOK k0 hq1) (kw_X1_87 hF.2.2.2.2 ⟨Nat.le_of_ble_eq_true rfl, Nat.le_of_ble_eq_true rfl⟩) rfl rfl (Nat.le_of_ble_eq_true rfl) dX1_untie_2 ⟨Nat.zero_le _, Nat.zero_le _⟩) hS (fun H locs kq1 hW hS => ?_)
  refine lv_astore_n (lv' := [(3, .ref q1), (0, .ref a0), (1, .int a1), (2, .int a2)]) hx hb dX1_untie_5 rfl hl (by decide) rfl (fun ls hl => ?_)
  refine lv_aload_n hx hb dX1_untie_6 rfl (lv_at hl 0 rfl) ?_
  refine lv_iload_n hx hb dX1_untie_7 rfl (lv_at hl 2 rfl) ?_
  obtain ⟨q2, hq2, hs⟩ := obind_e hs
  refine end_i (run_V (q := (RX2, TX2, 2)) (ci := 2) hF hKK hW hS hl.1 kq1 (by decide) rfl (c_X2_firstOf l hOK kq1 hq2) (kw_X1_90 hF.2.2.2.2 ⟨Nat.le_of_ble_eq_true rfl, Nat.le_of_ble_eq_true rfl⟩) rfl rfl (Nat.le_of_ble_eq_true rfl) dX1_untie_8 ⟨Nat.zero_le _, Nat.zero_le _⟩) hS (fun H locs hW hS => ?_)
  refine lv_istore (lv' := [(4, .int q2), (3, .ref q1), (0, .ref a0), (1, .int a1), (2, .int a2)]) hx hb dX1_untie_11 hl (by decide) rfl (fun ls hl => ?_)
  refine lv_aload_n hx hb dX1_untie_13 rfl (lv_at hl 1 rfl) ?_
  refine lv_iload_n hx hb dX1_untie_14 rfl (lv_at hl 3 rfl) ?_
  obtain ⟨q3, hq3, hs⟩ := obind_e hs
  refine end_i (run_V (q := (RX2, TX2, 2)) (ci := 2) hF hKK hW hS hl.1 kq1 (by decide) rfl (c_X2_lastOf l hOK kq1 hq3) (kw_X1_103 hF.2.2.2.2 ⟨Nat.le_of_ble_eq_true rfl, Nat.le_of_ble_eq_true rfl⟩) rfl rfl (Nat.le_of_ble_eq_true rfl) dX1_untie_15 ⟨Nat.zero_le _, Nat.zero_le _⟩) hS (fun H locs hW hS => ?_)
  refine lv_istore (lv' := [(5, .int q3), (4, .int q2), (3, .ref q1), (0, .ref a0), (1, .int a1), (2, .int a2)]) hx hb dX1_untie_18 hl (by decide) rfl (fun ls hl => ?_)
  refine lv_aload_n hx hb dX1_untie_20 rfl (lv_at hl 3 rfl) ?_
  refine lv_iload_n hx hb dX1_untie_21 rfl (lv_at hl 4 rfl) ?_
  obtain ⟨q4, hq4, hs⟩ := obind_e hs
  refine end_r (run_V (q := (RX1, TX1, 7)) (ci := 1) hF hKK hW hS hl.1 k0 (by decide) rfl (c_X1_roundAt l hOK k0 hq4) (kw_X1_34 hF.2.2.2.2 ⟨Nat.le_of_ble_eq_true rfl, Nat.le_of_ble_eq_true rfl⟩) rfl rfl (Nat.le_of_ble_eq_true rfl) dX1_untie_22 ⟨Nat.zero_le _, Nat.zero_le _⟩) hS (fun H locs kq4 hW hS => ?_)
  refine lv_aload_n hx hb dX1_untie_25 rfl (lv_at hl 2 rfl) ?_
  refine lv_iload hx hb dX1_untie_26 (lv_at hl 1 rfl) ?_
  refine lv_iload hx hb dX1_untie_28 (lv_at hl 0 rfl) ?_
  obtain ⟨q5, hq5, hs⟩ := obind_e hs
  refine end_v (run_V (q := (RX2, TX2, 2)) (ci := 2) hF hKK hW hS hl.1 kq4 (by decide) rfl (c_X2_addPlaces l hOK kq4 kq1 hq5) (kw_X1_93 hF.2.2.2.2 ⟨Nat.le_of_ble_eq_true rfl, Nat.le_of_ble_eq_true rfl⟩) rfl rfl (Nat.le_of_ble_eq_true rfl) dX1_untie_30 ⟨Nat.zero_le _, Nat.zero_le _⟩) hS (fun H locs hW hS => ?_)
  refine lv_aload_n hx hb dX1_untie_33 rfl (lv_at hl 2 rfl) ?_
  refine lv_iload hx hb dX1_untie_34 (lv_at hl 1 rfl) ?_
  refine lv_iload hx hb dX1_untie_36 (lv_at hl 0 rfl) ?_
  refine lv_iconst (v := (1 : Int32)) hx hb dX1_untie_38 (by decide) ?_
  refine lv_iadd hx hb dX1_untie_39 ?_
  obtain ⟨q6, hq6, hs⟩ := obind_e hs
  refine end_v (run_V (q := (RX2, TX2, 2)) (ci := 2) hF hKK hW hS hl.1 kq1 (by decide) rfl (c_X2_dropPlaces l hOK kq1 hq6) (kw_X1_106 hF.2.2.2.2 ⟨Nat.le_of_ble_eq_true rfl, Nat.le_of_ble_eq_true rfl⟩) rfl rfl (Nat.le_of_ble_eq_true rfl) dX1_untie_40 ⟨Nat.zero_le _, Nat.zero_le _⟩) hS (fun H locs hW hS => ?_)
  refine lv_aload_n hx hb dX1_untie_43 rfl (lv_at hl 3 rfl) ?_
  refine gf_1_1 hF hKK hW k0 dX1_untie_44 ?_
  refine lv_iload_n hx hb dX1_untie_47 rfl (lv_at hl 4 rfl) ?_
  refine lv_aload_n hx hb dX1_untie_48 rfl (lv_at hl 3 rfl) ?_
  refine lv_iload_n hx hb dX1_untie_49 rfl (lv_at hl 4 rfl) ?_
  obtain ⟨q7, hq7, hs⟩ := obind_e hs
  refine end_i (run_V (q := (RX1, TX1, 7)) (ci := 1) hF hKK hW hS hl.1 k0 (by decide) rfl (c_X1_ropesOf l hOK k0 hq7) (kw_X1_63 hF.2.2.2.2 ⟨Nat.le_of_ble_eq_true rfl, Nat.le_of_ble_eq_true rfl⟩) rfl rfl (Nat.le_of_ble_eq_true rfl) dX1_untie_50 ⟨Nat.zero_le _, Nat.zero_le _⟩) hS (fun H locs hW hS => ?_)
  refine lv_iload_n hx hb dX1_untie_53 rfl (lv_at hl 5 rfl) ?_
  obtain ⟨q8, hq8, hs⟩ := obind_e hs
  refine end_i (run_N hF hKK hW hS hl.1 (c_X4_bit l hOK  hq8) (kw_X1_56 hKK.2.1.2.1 hF.2.2.2.2 ⟨Nat.le_of_ble_eq_true rfl, Nat.le_of_ble_eq_true rfl⟩) rfl rfl (Nat.le_of_ble_eq_true rfl) dX1_untie_54 ⟨Nat.zero_le _, Nat.zero_le _⟩) hS (fun H locs hW hS => ?_)
  refine lv_iconst (v := (-1 : Int32)) hx hb dX1_untie_57 (by decide) ?_
  refine lv_ixor hx hb dX1_untie_58 ?_
  refine lv_iand hx hb dX1_untie_59 ?_
  obtain ⟨q9, hq9, hs⟩ := obind_e hs
  refine end_v (run_V (q := (RX2, TX2, 2)) (ci := 2) hF hKK hW hS hl.1 (lk_1_1 hOK k0) (by decide) rfl (c_X2_put l hOK (lk_1_1 hOK k0) hq9) (kw_X1_74 hF.2.2.2.2 ⟨Nat.le_of_ble_eq_true rfl, Nat.le_of_ble_eq_true rfl⟩) rfl rfl (Nat.le_of_ble_eq_true rfl) dX1_untie_60 ⟨Nat.zero_le _, Nat.zero_le _⟩) hS (fun H locs hW hS => ?_)
  refine lv_aload_n hx hb dX1_untie_63 rfl (lv_at hl 3 rfl) ?_
  refine gf_1_1 hF hKK hW k0 dX1_untie_64 ?_
  refine lv_iload_n hx hb dX1_untie_67 rfl (lv_at hl 5 rfl) ?_
  refine lv_aload_n hx hb dX1_untie_68 rfl (lv_at hl 3 rfl) ?_
  refine lv_iload_n hx hb dX1_untie_69 rfl (lv_at hl 5 rfl) ?_
  obtain ⟨q10, hq10, hs⟩ := obind_e hs
  refine end_i (run_V (q := (RX1, TX1, 7)) (ci := 1) hF hKK hW hS hl.1 k0 (by decide) rfl (c_X1_ropesOf l hOK k0 hq10) (kw_X1_63 hF.2.2.2.2 ⟨Nat.le_of_ble_eq_true rfl, Nat.le_of_ble_eq_true rfl⟩) rfl rfl (Nat.le_of_ble_eq_true rfl) dX1_untie_70 ⟨Nat.zero_le _, Nat.zero_le _⟩) hS (fun H locs hW hS => ?_)
  refine lv_iload_n hx hb dX1_untie_73 rfl (lv_at hl 4 rfl) ?_
  obtain ⟨q11, hq11, hs⟩ := obind_e hs
  refine end_i (run_N hF hKK hW hS hl.1 (c_X4_bit l hOK  hq11) (kw_X1_56 hKK.2.1.2.1 hF.2.2.2.2 ⟨Nat.le_of_ble_eq_true rfl, Nat.le_of_ble_eq_true rfl⟩) rfl rfl (Nat.le_of_ble_eq_true rfl) dX1_untie_74 ⟨Nat.zero_le _, Nat.zero_le _⟩) hS (fun H locs hW hS => ?_)
  refine lv_iconst (v := (-1 : Int32)) hx hb dX1_untie_77 (by decide) ?_
  refine lv_ixor hx hb dX1_untie_78 ?_
  refine lv_iand hx hb dX1_untie_79 ?_
  obtain ⟨q12, hq12, hs⟩ := obind_e hs
  refine end_v (run_V (q := (RX2, TX2, 2)) (ci := 2) hF hKK hW hS hl.1 (lk_1_1 hOK k0) (by decide) rfl (c_X2_put l hOK (lk_1_1 hOK k0) hq12) (kw_X1_74 hF.2.2.2.2 ⟨Nat.le_of_ble_eq_true rfl, Nat.le_of_ble_eq_true rfl⟩) rfl rfl (Nat.le_of_ble_eq_true rfl) dX1_untie_80 ⟨Nat.zero_le _, Nat.zero_le _⟩) hS (fun H locs hW hS => ?_)
  refine lv_aload_n hx hb dX1_untie_83 rfl (lv_at hl 3 rfl) ?_
  refine lv_dup hx hb dX1_untie_84 rfl ?_
  refine gf_1_5 hF hKK hW k0 dX1_untie_85 ?_
  refine lv_iconst (v := (1 : Int32)) hx hb dX1_untie_88 (by decide) ?_
  refine lv_iadd hx hb dX1_untie_89 ?_
  obtain ⟨μ13, eμ13, hs⟩ := bnd_e hs
  refine pf_1_5 hOK hF hKK hW hS hA k0 eμ13 dX1_untie_90 (fun H locs hW hS => ?_)
  have h9 := Option.some.inj hs
  rw [← h9]
  exact wr_v hF hr hlocks hW hS dX1_untie_93
