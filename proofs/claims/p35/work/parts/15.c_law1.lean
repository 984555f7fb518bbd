/-! printed by wip/gen35/build.py out of the decode rows: do not edit by hand -/
set_option maxHeartbeats 4000000 in
set_option maxRecDepth 100000 in
theorem c_L_isDiffering (l : Launch) {G : va_G} {Λ : Lay} {μ : Mem} (hOK : LayOK Λ) {a0 : Nat} (k0 : inK Λ a0 4) {a1 : Int32} {a2 : Int32} {r : Int32} (hs : sL_isDiffering Λ μ a0 a1 a2 = some r) : CM l G Λ yL_isDiffering cL_isDiffering 4 (some .boolean) 7 μ [.ref a0, .int a1, .int a2] (QI G Λ r μ) := by
  refine ofM (own := RL) (by decide +kernel) rfl (Nat.le_of_ble_eq_true rfl) (fun p e s m args below meth c ls hF hKK hW hr hlocks hl => ?_)
  have hx := hF.1
  have hb := hF.2.1
  have hA : ∀ q, inL Λ q → inL Λ q := fun _ h => h
  have hS : va_S (inL Λ) s.heap s.heap [] := va_S.rf
  have hl : lv_has ls 4 [(0, .ref a0), (1, .int a1), (2, .int a2)] := hl
  unfold sL_isDiffering at hs
  refine lv_aload_n hx hb dL_isDiffering_0 rfl (lv_at hl 0 rfl) ?_
  refine lv_iload_n hx hb dL_isDiffering_1 rfl (lv_at hl 1 rfl) ?_
  refine lv_iload_n hx hb dL_isDiffering_2 rfl (lv_at hl 2 rfl) ?_
  obtain ⟨q1, hq1, hs⟩ := obind_e hs
  refine end_i (run_V (q := (RX4, TX4, 11)) (ci := 4) hF hKK hW hS hl.1 k0 (by decide) rfl (c_X4_isBelow l hOK k0 hq1) (kw_L_84 hF.2.2.2.2 ⟨Nat.le_of_ble_eq_true rfl, Nat.le_of_ble_eq_true rfl⟩) rfl rfl (Nat.le_of_ble_eq_true rfl) dL_isDiffering_3 ⟨Nat.zero_le _, Nat.zero_le _⟩) hS (fun H locs hW hS => ?_)
  refine lv_iconst (v := (1 : Int32)) hx hb dL_isDiffering_6 (by decide) ?_
  obtain ⟨kj2, ekj2, hs⟩ := bnd_e hs
  have hj2 : ∀ (j2 : Int32) (H : Heap) (locs : List Loc) (ls : Array Slot), kj2 j2 = some r → Wd G Λ μ H → va_S (inL Λ) s.heap H locs → lv_has ls 4 [(0, .ref a0), (1, .int a1), (2, .int a2)] → W p l e (rmd 7) s m args below meth c H locs 0 0 (MQ below (QI G Λ r μ) args s 0 0 (inL Λ)) (F0 m 15 ls [.int j2]) := by
    intro j2 H locs ls hs hW hS hl
    have hs := kj1 ekj2 hs
    refine lv_istore_n (lv' := [(3, .int j2), (0, .ref a0), (1, .int a1), (2, .int a2)]) hx hb dL_isDiffering_15 rfl hl (by decide) rfl (fun ls hl => ?_)
    refine lv_aload_n hx hb dL_isDiffering_16 rfl (lv_at hl 1 rfl) ?_
    refine lv_iload_n hx hb dL_isDiffering_17 rfl (lv_at hl 2 rfl) ?_
    refine lv_iload_n hx hb dL_isDiffering_18 rfl (lv_at hl 3 rfl) ?_
    obtain ⟨q3, hq3, hs⟩ := obind_e hs
    refine end_i (run_V (q := (RX4, TX4, 11)) (ci := 4) hF hKK hW hS hl.1 k0 (by decide) rfl (c_X4_wouldDiffer l hOK k0 hq3) (kw_L_110 hF.2.2.2.2 ⟨Nat.le_of_ble_eq_true rfl, Nat.le_of_ble_eq_true rfl⟩) rfl rfl (Nat.le_of_ble_eq_true rfl) dL_isDiffering_19 ⟨Nat.zero_le _, Nat.zero_le _⟩) hS (fun H locs hW hS => ?_)
    refine lv_aload_n hx hb dL_isDiffering_22 rfl (lv_at hl 1 rfl) ?_
    refine lv_iload_n hx hb dL_isDiffering_23 rfl (lv_at hl 2 rfl) ?_
    refine lv_iconst (v := (2 : Int32)) hx hb dL_isDiffering_24 (by decide) ?_
    obtain ⟨q4, hq4, hs⟩ := obind_e hs
    refine end_i (run_V (q := (RX4, TX4, 11)) (ci := 4) hF hKK hW hS hl.1 k0 (by decide) rfl (c_X4_partOf l hOK k0 hq4) (kw_L_75 hF.2.2.2.2 ⟨Nat.le_of_ble_eq_true rfl, Nat.le_of_ble_eq_true rfl⟩) rfl rfl (Nat.le_of_ble_eq_true rfl) dL_isDiffering_25 ⟨Nat.zero_le _, Nat.zero_le _⟩) hS (fun H locs hW hS => ?_)
    refine lv_iconst (v := (2 : Int32)) hx hb dL_isDiffering_28 (by decide) ?_
    refine lv_aload_n hx hb dL_isDiffering_29 rfl (lv_at hl 1 rfl) ?_
    refine lv_iload_n hx hb dL_isDiffering_30 rfl (lv_at hl 0 rfl) ?_
    refine lv_bipush (v := (8 : Int32)) hx hb dL_isDiffering_31 (by decide) ?_
    obtain ⟨q5, hq5, hs⟩ := obind_e hs
    refine end_i (run_V (q := (RX4, TX4, 11)) (ci := 4) hF hKK hW hS hl.1 k0 (by decide) rfl (c_X4_bankOf l hOK k0 hq5) (kw_L_34 hF.2.2.2.2 ⟨Nat.le_of_ble_eq_true rfl, Nat.le_of_ble_eq_true rfl⟩) rfl rfl (Nat.le_of_ble_eq_true rfl) dL_isDiffering_33 ⟨Nat.zero_le _, Nat.zero_le _⟩) hS (fun H locs hW hS => ?_)
    refine lv_imul hx hb dL_isDiffering_36 ?_
    refine lv_isub hx hb dL_isDiffering_37 ?_
    refine va_mabs hx hb (hF.2.2.1.trans hl.1.symm) hF.2.2.2.1 (hF.2.2.2.2 _ wd_744) (hF.2.2.2.2 _ wd_742) (hF.2.2.2.2 _ wd_22) (hF.2.2.2.2 _ wd_743) (Nat.le_of_ble_eq_true rfl) (Nat.le_of_ble_eq_true rfl) (Nat.zero_le _) (Nat.zero_le _) dL_isDiffering_38 ?_
    obtain ⟨kj6, ekj6, hs⟩ := bnd_e hs
    have hj6 : ∀ (j6 : Int32) (H : Heap) (locs : List Loc) (ls : Array Slot), kj6 j6 = some r → Wd G Λ μ H → va_S (inL Λ) s.heap H locs → lv_has ls 4 [] → W p l e (rmd 7) s m args below meth c H locs 0 0 (MQ below (QI G Λ r μ) args s 0 0 (inL Λ)) (F0 m 49 ls [.int j6]) := by
      intro j6 H locs ls hs hW hS hl
      have hs := kj1 ekj6 hs
      obtain ⟨g7, hs⟩ := gd_some hs
      have h9 := Option.some.inj hs
      rw [← h9]
      exact wr_i hF hr hlocks (isB_nar g7) hW hS dL_isDiffering_49
    refine lv_icmp_ne (tgt := 48) hx hb dL_isDiffering_41 (by decide) (fun c8 => ?_) (fun c8 => ?_)
    · have hs := ite_f hs c8
      refine lv_iconst (v := (0 : Int32)) hx hb dL_isDiffering_48 (by decide) ?_
      exact hj6 (0 : Int32) _ _ _ hs hW hS (lv_sub hl [] rfl)
    · have hs := ite_t hs c8
      refine lv_iconst (v := (1 : Int32)) hx hb dL_isDiffering_44 (by decide) ?_
      refine lv_goto (tgt := 49) hx hb dL_isDiffering_45 (by decide) ?_
      exact hj6 (1 : Int32) _ _ _ hs hW hS (lv_sub hl [] rfl)
  refine lv_icmp_ne (tgt := 14) hx hb dL_isDiffering_7 (by decide) (fun c9 => ?_) (fun c9 => ?_)
  · have hs := ite_f hs c9
    refine lv_iload_n hx hb dL_isDiffering_14 rfl (lv_at hl 2 rfl) ?_
    exact hj2 a2 _ _ _ hs hW hS (lv_sub hl [0, 1, 2] rfl)
  · have hs := ite_t hs c9
    refine lv_iload_n hx hb dL_isDiffering_10 rfl (lv_at hl 1 rfl) ?_
    refine lv_goto (tgt := 15) hx hb dL_isDiffering_11 (by decide) ?_
    exact hj2 a1 _ _ _ hs hW hS (lv_sub hl [0, 1, 2] rfl)

set_option maxHeartbeats 4000000 in
set_option maxRecDepth 100000 in
theorem c_L_isAhead (l : Launch) {G : va_G} {Λ : Lay} {μ : Mem} (hOK : LayOK Λ) {a0 : Nat} (k0 : inK Λ a0 4) {a1 : Int32} {a2 : Int32} {r : Int32} (hs : sL_isAhead Λ μ a0 a1 a2 = some r) : CM l G Λ yL_isAhead cL_isAhead 5 (some .boolean) 7 μ [.ref a0, .int a1, .int a2] (QI G Λ r μ) := by
  refine ofM (own := RL) (by decide +kernel) rfl (Nat.le_of_ble_eq_true rfl) (fun p e s m args below meth c ls hF hKK hW hr hlocks hl => ?_)
  have hx := hF.1
  have hb := hF.2.1
  have hA : ∀ q, inL Λ q → inL Λ q := fun _ h => h
  have hS : va_S (inL Λ) s.heap s.heap [] := va_S.rf
  have hl : lv_has ls 5 [(0, .ref a0), (1, .int a1), (2, .int a2)] := hl
  unfold sL_isAhead at hs
  refine lv_aload_n hx hb dL_isAhead_0 rfl (lv_at hl 0 rfl) ?_
  refine lv_iload_n hx hb dL_isAhead_1 rfl (lv_at hl 1 rfl) ?_
  refine lv_iconst (v := (2 : Int32)) hx hb dL_isAhead_2 (by decide) ?_
  obtain ⟨q1, hq1, hs⟩ := obind_e hs
  refine end_i (run_V (q := (RX4, TX4, 11)) (ci := 4) hF hKK hW hS hl.1 k0 (by decide) rfl (c_X4_partOf l hOK k0 hq1) (kw_L_75 hF.2.2.2.2 ⟨Nat.le_of_ble_eq_true rfl, Nat.le_of_ble_eq_true rfl⟩) rfl rfl (Nat.le_of_ble_eq_true rfl) dL_isAhead_3 ⟨Nat.zero_le _, Nat.zero_le _⟩) hS (fun H locs hW hS => ?_)
  refine lv_aload_n hx hb dL_isAhead_6 rfl (lv_at hl 0 rfl) ?_
  refine lv_iload_n hx hb dL_isAhead_7 rfl (lv_at hl 2 rfl) ?_
  refine lv_iconst (v := (2 : Int32)) hx hb dL_isAhead_8 (by decide) ?_
  obtain ⟨q2, hq2, hs⟩ := obind_e hs
  refine end_i (run_V (q := (RX4, TX4, 11)) (ci := 4) hF hKK hW hS hl.1 k0 (by decide) rfl (c_X4_partOf l hOK k0 hq2) (kw_L_75 hF.2.2.2.2 ⟨Nat.le_of_ble_eq_true rfl, Nat.le_of_ble_eq_true rfl⟩) rfl rfl (Nat.le_of_ble_eq_true rfl) dL_isAhead_9 ⟨Nat.zero_le _, Nat.zero_le _⟩) hS (fun H locs hW hS => ?_)
  refine lv_isub hx hb dL_isAhead_12 ?_
  obtain ⟨v3, ev3, hs⟩ := bnd_e hs
  refine top_i ev3 ?_
  refine lv_istore_n (lv' := [(3, .int v3), (0, .ref a0), (1, .int a1), (2, .int a2)]) hx hb dL_isAhead_13 rfl hl (by decide) rfl (fun ls hl => ?_)
  refine lv_aload_n hx hb dL_isAhead_14 rfl (lv_at hl 1 rfl) ?_
  refine lv_iload_n hx hb dL_isAhead_15 rfl (lv_at hl 2 rfl) ?_
  refine lv_iconst (v := (0 : Int32)) hx hb dL_isAhead_16 (by decide) ?_
  obtain ⟨q4, hq4, hs⟩ := obind_e hs
  refine end_i (run_V (q := (RX4, TX4, 11)) (ci := 4) hF hKK hW hS hl.1 k0 (by decide) rfl (c_X4_partOf l hOK k0 hq4) (kw_L_75 hF.2.2.2.2 ⟨Nat.le_of_ble_eq_true rfl, Nat.le_of_ble_eq_true rfl⟩) rfl rfl (Nat.le_of_ble_eq_true rfl) dL_isAhead_17 ⟨Nat.zero_le _, Nat.zero_le _⟩) hS (fun H locs hW hS => ?_)
  refine lv_aload_n hx hb dL_isAhead_20 rfl (lv_at hl 1 rfl) ?_
  refine lv_iload_n hx hb dL_isAhead_21 rfl (lv_at hl 3 rfl) ?_
  refine lv_iconst (v := (0 : Int32)) hx hb dL_isAhead_22 (by decide) ?_
  obtain ⟨q5, hq5, hs⟩ := obind_e hs
  refine end_i (run_V (q := (RX4, TX4, 11)) (ci := 4) hF hKK hW hS hl.1 k0 (by decide) rfl (c_X4_partOf l hOK k0 hq5) (kw_L_75 hF.2.2.2.2 ⟨Nat.le_of_ble_eq_true rfl, Nat.le_of_ble_eq_true rfl⟩) rfl rfl (Nat.le_of_ble_eq_true rfl) dL_isAhead_23 ⟨Nat.zero_le _, Nat.zero_le _⟩) hS (fun H locs hW hS => ?_)
  refine lv_isub hx hb dL_isAhead_26 ?_
  obtain ⟨v6, ev6, hs⟩ := bnd_e hs
  refine top_i ev6 ?_
  refine lv_istore (lv' := [(4, .int v6), (3, .int v3), (0, .ref a0), (1, .int a1), (2, .int a2)]) hx hb dL_isAhead_27 hl (by decide) rfl (fun ls hl => ?_)
  refine lv_iload_n hx hb dL_isAhead_29 rfl (lv_at hl 1 rfl) ?_
  obtain ⟨kj7, ekj7, hs⟩ := bnd_e hs
  have hj7 : ∀ (j7 : Int32) (H : Heap) (locs : List Loc) (ls : Array Slot), kj7 j7 = some r → Wd G Λ μ H → va_S (inL Λ) s.heap H locs → lv_has ls 5 [] → W p l e (rmd 7) s m args below meth c H locs 0 0 (MQ below (QI G Λ r μ) args s 0 0 (inL Λ)) (F0 m 57 ls [.int j7]) := by
    intro j7 H locs ls hs hW hS hl
    have hs := kj1 ekj7 hs
    obtain ⟨g8, hs⟩ := gd_some hs
    have h9 := Option.some.inj hs
    rw [← h9]
    exact wr_i hF hr hlocks (isB_nar g8) hW hS dL_isAhead_57
  obtain ⟨kj9, ekj9, hs⟩ := bnd_e hs
  have hj9 : ∀ (H : Heap) (locs : List Loc) (ls : Array Slot), kj9 = some r → Wd G Λ μ H → va_S (inL Λ) s.heap H locs → lv_has ls 5 [] → W p l e (rmd 7) s m args below meth c H locs 0 0 (MQ below (QI G Λ r μ) args s 0 0 (inL Λ)) (F0 m 52 ls []) := by
    intro  H locs ls hs hW hS hl
    have hs := ekj9.symm.trans hs
    refine lv_iconst (v := (1 : Int32)) hx hb dL_isAhead_52 (by decide) ?_
    refine lv_goto (tgt := 57) hx hb dL_isAhead_53 (by decide) ?_
    exact hj7 (1 : Int32) _ _ _ hs hW hS (lv_sub hl [] rfl)
  refine lv_if_gt (tgt := 52) hx hb dL_isAhead_30 (by decide) (fun c10 => ?_) (fun c10 => ?_)
  · have hs := ite_t hs c10
    exact hj9 _ _ _ hs hW hS (lv_sub hl [] rfl)
  · have hs := ite_f hs c10
    refine lv_iload_n hx hb dL_isAhead_33 rfl (lv_at hl 1 rfl) ?_
    obtain ⟨kj11, ekj11, hs⟩ := bnd_e hs
    have hj11 : ∀ (H : Heap) (locs : List Loc) (ls : Array Slot), kj11 = some r → Wd G Λ μ H → va_S (inL Λ) s.heap H locs → lv_has ls 5 [] → W p l e (rmd 7) s m args below meth c H locs 0 0 (MQ below (QI G Λ r μ) args s 0 0 (inL Λ)) (F0 m 56 ls []) := by
      intro  H locs ls hs hW hS hl
      have hs := ekj11.symm.trans hs
      refine lv_iconst (v := (0 : Int32)) hx hb dL_isAhead_56 (by decide) ?_
      exact hj7 (0 : Int32) _ _ _ hs hW hS (lv_sub hl [] rfl)
    refine lv_if_ne (tgt := 56) hx hb dL_isAhead_34 (by decide) (fun c12 => ?_) (fun c12 => ?_)
    · have hs := ite_f hs c12
      exact hj11 _ _ _ hs hW hS (lv_sub hl [] rfl)
    · have hs := ite_t hs c12
      refine lv_iload hx hb dL_isAhead_37 (lv_at hl 0 rfl) ?_
      refine lv_if_gt (tgt := 52) hx hb dL_isAhead_39 (by decide) (fun c13 => ?_) (fun c13 => ?_)
      · have hs := ite_t hs c13
        exact hj9 _ _ _ hs hW hS (lv_sub hl [] rfl)
      · have hs := ite_f hs c13
        refine lv_iload hx hb dL_isAhead_42 (lv_at hl 0 rfl) ?_
        refine lv_if_ne (tgt := 56) hx hb dL_isAhead_44 (by decide) (fun c14 => ?_) (fun c14 => ?_)
        · have hs := ite_f hs c14
          exact hj11 _ _ _ hs hW hS (lv_sub hl [] rfl)
        · have hs := ite_t hs c14
          refine lv_iload_n hx hb dL_isAhead_47 rfl (lv_at hl 3 rfl) ?_
          refine lv_iload_n hx hb dL_isAhead_48 rfl (lv_at hl 4 rfl) ?_
          refine lv_icmp_ge (tgt := 56) hx hb dL_isAhead_49 (by decide) (fun c15 => ?_) (fun c15 => ?_)
          · have hs := ite_t hs c15
            exact hj11 _ _ _ hs hW hS (lv_sub hl [] rfl)
          · have hs := ite_f hs c15
            exact hj9 _ _ _ hs hW hS (lv_sub hl [] rfl)

set_option maxHeartbeats 4000000 in
set_option maxRecDepth 100000 in
theorem cl_L_digest_59 {p : Program} {l : Launch} {e : Env} {s : State} {m : MethodId} {args : Array Value} {below : List Frame} {meth : Method} {c : Code} {G : va_G} {Λ : Lay} {μ : Mem} {r : Int64} (hOK : LayOK Λ) (hF : CallFix p m c cL_digest 5 s args tw RL) (hKK : KK G Λ s) (hr : meth.sig.returnType = (some .long)) (hlocks : meth.locks = false) {x0 : Nat} (kx0 : inK Λ x0 4) {x3 : Int32} (k : Int64 → Option Int64) (hk : ∀ (x1 : Int64), k x1 = some r → ∀ (H : Heap) (locs : List Loc) (ls : Array Slot), Wd G Λ μ H → va_S (inL Λ) s.heap H locs → lv_has ls 5 [(0, .ref x0), (1, .long x1), (3, .int x3)] → W p l e (rmd 7) s m args below meth c H locs 0 0 (MQ below (QL G Λ r μ) args s 0 0 (inL Λ)) (F0 m 91 ls [])) : ∀ (n : Nat) (x1 : Int64) (x4 : Int32) (H : Heap) (locs : List Loc) (ls : Array Slot), lpL_digest_59 Λ μ x0 x3 k n x1 x4 = some r → Wd G Λ μ H → va_S (inL Λ) s.heap H locs → lv_has ls 5 [(0, .ref x0), (1, .long x1), (3, .int x3), (4, .int x4)] → W p l e (rmd 7) s m args below meth c H locs 0 0 (MQ below (QL G Λ r μ) args s 0 0 (inL Λ)) (F0 m 59 ls []) := by
  have hx := hF.1
  have hb := hF.2.1
  have hA : ∀ q, inL Λ q → inL Λ q := fun _ h => h
  intro n
  induction n with
  | zero =>
    intro x1 x4 H locs ls hs hW hS hl
    cases hs
  | succ n59 ih59 =>
    intro x1 x4 H locs ls hs hW hS hl
    rw [lpL_digest_59_s] at hs
    refine lv_iload hx hb dL_digest_59 (lv_at hl 3 rfl) ?_
    refine lv_aload_n hx hb dL_digest_61 rfl (lv_at hl 0 rfl) ?_
    refine lv_iload_n hx hb dL_digest_62 rfl (lv_at hl 2 rfl) ?_
    refine lv_iconst (v := (1 : Int32)) hx hb dL_digest_63 (by decide) ?_
    obtain ⟨q7, hq7, hs⟩ := obind_e hs
    refine end_i (run_V (q := (RX4, TX4, 11)) (ci := 4) hF hKK hW hS hl.1 kx0 (by decide) rfl (c_X4_partOf l hOK kx0 hq7) (kw_L_75 hF.2.2.2.2 ⟨Nat.le_of_ble_eq_true rfl, Nat.le_of_ble_eq_true rfl⟩) rfl rfl (Nat.le_of_ble_eq_true rfl) dL_digest_64 ⟨Nat.zero_le _, Nat.zero_le _⟩) hS (fun H locs hW hS => ?_)
    refine lv_icmp_ge (tgt := 91) hx hb dL_digest_67 (by decide) (fun c8 => ?_) (fun c8 => ?_)
    · have hs := ite_t hs c8
      exact hk x1 hs _ _ _ hW hS (lv_sub hl [0, 1, 2] rfl)
    · have hs := ite_f hs c8
      refine lv_ldc2 (v := (31 : Int64)) hx hb hF.2.2.2.1 (hF.2.2.2.2 _ wd_558) dL_digest_70 ?_
      refine lv_lload_n hx hb dL_digest_73 rfl (lv_at hl 1 rfl) ?_
      refine lv_lmul hx hb dL_digest_74 ?_
      refine lv_aload_n hx hb dL_digest_75 rfl (lv_at hl 0 rfl) ?_
      refine lv_iload_n hx hb dL_digest_76 rfl (lv_at hl 2 rfl) ?_
      refine lv_iload hx hb dL_digest_77 (lv_at hl 3 rfl) ?_
      obtain ⟨q9, hq9, hs⟩ := obind_e hs
      refine end_i (run_V (q := (RX4, TX4, 11)) (ci := 4) hF hKK hW hS hl.1 kx0 (by decide) rfl (c_X4_inRound l hOK kx0 hq9) (kw_L_78 hF.2.2.2.2 ⟨Nat.le_of_ble_eq_true rfl, Nat.le_of_ble_eq_true rfl⟩) rfl rfl (Nat.le_of_ble_eq_true rfl) dL_digest_79 ⟨Nat.zero_le _, Nat.zero_le _⟩) hS (fun H locs hW hS => ?_)
      refine lv_i2l (v := (Int32.toInt64 q9)) hx hb dL_digest_82 rfl ?_
      refine lv_ladd hx hb dL_digest_83 ?_
      obtain ⟨v10, ev10, hs⟩ := bnd_e hs
      refine top_l ev10 ?_
      refine lv_lstore_n (lv' := [(1, .long v10), (0, .ref x0), (3, .int x3), (4, .int x4)]) hx hb dL_digest_84 rfl hl (by decide) rfl (fun ls hl => ?_)
      obtain ⟨v11, ev11, hs⟩ := bnd_e hs
      refine lv_iinc (v := v11) (lv' := [(4, .int v11), (1, .long v10), (0, .ref x0), (3, .int x3)]) hx hb dL_digest_85 hl (k := 3) rfl (by rw [ev11]; rfl) (by decide) rfl (fun ls hl => ?_)
      refine lv_goto (tgt := 59) hx hb dL_digest_88 (by decide) ?_
      exact ih59 v10 v11 _ _ _ hs hW hS (lv_sub hl [2, 1, 3, 0] rfl)

set_option maxHeartbeats 4000000 in
set_option maxRecDepth 100000 in
theorem cl_L_digest_33 {p : Program} {l : Launch} {e : Env} {s : State} {m : MethodId} {args : Array Value} {below : List Frame} {meth : Method} {c : Code} {G : va_G} {Λ : Lay} {μ : Mem} {r : Int64} (hOK : LayOK Λ) (hF : CallFix p m c cL_digest 5 s args tw RL) (hKK : KK G Λ s) (hr : meth.sig.returnType = (some .long)) (hlocks : meth.locks = false) {x0 : Nat} (kx0 : inK Λ x0 4) : ∀ (n : Nat) (x1 : Int64) (x3 : Int32) (H : Heap) (locs : List Loc) (ls : Array Slot), lpL_digest_33 Λ μ x0 n x1 x3 = some r → Wd G Λ μ H → va_S (inL Λ) s.heap H locs → lv_has ls 5 [(0, .ref x0), (1, .long x1), (3, .int x3)] → W p l e (rmd 7) s m args below meth c H locs 0 0 (MQ below (QL G Λ r μ) args s 0 0 (inL Λ)) (F0 m 33 ls []) := by
  have hx := hF.1
  have hb := hF.2.1
  have hA : ∀ q, inL Λ q → inL Λ q := fun _ h => h
  intro n
  induction n with
  | zero =>
    intro x1 x3 H locs ls hs hW hS hl
    cases hs
  | succ n33 ih33 =>
    intro x1 x3 H locs ls hs hW hS hl
    rw [lpL_digest_33_s] at hs
    refine lv_iload_n hx hb dL_digest_33 rfl (lv_at hl 2 rfl) ?_
    refine lv_aload_n hx hb dL_digest_34 rfl (lv_at hl 0 rfl) ?_
    refine lv_iconst (v := (0 : Int32)) hx hb dL_digest_35 (by decide) ?_
    obtain ⟨q3, hq3, hs⟩ := obind_e hs
    refine end_i (run_V (q := (RX4, TX4, 11)) (ci := 4) hF hKK hW hS hl.1 kx0 (by decide) rfl (c_X4_account l hOK kx0 hq3) (kw_L_72 hF.2.2.2.2 ⟨Nat.le_of_ble_eq_true rfl, Nat.le_of_ble_eq_true rfl⟩) rfl rfl (Nat.le_of_ble_eq_true rfl) dL_digest_36 ⟨Nat.zero_le _, Nat.zero_le _⟩) hS (fun H locs hW hS => ?_)
    refine lv_icmp_ge (tgt := 97) hx hb dL_digest_39 (by decide) (fun c4 => ?_) (fun c4 => ?_)
    · have hs := ite_t hs c4
      refine lv_lload_n hx hb dL_digest_97 rfl (lv_at hl 1 rfl) ?_
      have h9 := Option.some.inj hs
      rw [← h9]
      exact wr_l hF hr hlocks hW hS dL_digest_98
    · have hs := ite_f hs c4
      refine lv_ldc2 (v := (31 : Int64)) hx hb hF.2.2.2.1 (hF.2.2.2.2 _ wd_558) dL_digest_42 ?_
      refine lv_lload_n hx hb dL_digest_45 rfl (lv_at hl 1 rfl) ?_
      refine lv_lmul hx hb dL_digest_46 ?_
      refine lv_aload_n hx hb dL_digest_47 rfl (lv_at hl 0 rfl) ?_
      refine lv_iload_n hx hb dL_digest_48 rfl (lv_at hl 2 rfl) ?_
      refine lv_iconst (v := (0 : Int32)) hx hb dL_digest_49 (by decide) ?_
      obtain ⟨q5, hq5, hs⟩ := obind_e hs
      refine end_i (run_V (q := (RX4, TX4, 11)) (ci := 4) hF hKK hW hS hl.1 kx0 (by decide) rfl (c_X4_bankOf l hOK kx0 hq5) (kw_L_34 hF.2.2.2.2 ⟨Nat.le_of_ble_eq_true rfl, Nat.le_of_ble_eq_true rfl⟩) rfl rfl (Nat.le_of_ble_eq_true rfl) dL_digest_50 ⟨Nat.zero_le _, Nat.zero_le _⟩) hS (fun H locs hW hS => ?_)
      refine lv_i2l (v := (Int32.toInt64 q5)) hx hb dL_digest_53 rfl ?_
      refine lv_ladd hx hb dL_digest_54 ?_
      obtain ⟨v6, ev6, hs⟩ := bnd_e hs
      refine top_l ev6 ?_
      refine lv_lstore_n (lv' := [(1, .long v6), (0, .ref x0), (3, .int x3)]) hx hb dL_digest_55 rfl hl (by decide) rfl (fun ls hl => ?_)
      refine lv_iconst (v := (0 : Int32)) hx hb dL_digest_56 (by decide) ?_
      refine lv_istore (lv' := [(4, .int (0 : Int32)), (1, .long v6), (0, .ref x0), (3, .int x3)]) hx hb dL_digest_57 hl (by decide) rfl (fun ls hl => ?_)
      refine cl_L_digest_59 hOK hF hKK hr hlocks kx0 _ (fun x1_z12 hs H locs ls hW hS hl => ?_) fuel v6 (0 : Int32) _ _ _ hs hW hS (lv_sub hl [2, 1, 3, 0] rfl)
      obtain ⟨v13, ev13, hs⟩ := bnd_e hs
      refine lv_iinc (v := v13) (lv' := [(3, .int v13), (0, .ref x0), (1, .long x1_z12)]) hx hb dL_digest_91 hl (k := 2) rfl (by rw [ev13]; rfl) (by decide) rfl (fun ls hl => ?_)
      refine lv_goto (tgt := 33) hx hb dL_digest_94 (by decide) ?_
      exact ih33 x1_z12 v13 _ _ _ hs hW hS (lv_sub hl [1, 2, 0] rfl)

set_option maxHeartbeats 4000000 in
set_option maxRecDepth 100000 in
theorem cl_L_digest_6 {p : Program} {l : Launch} {e : Env} {s : State} {m : MethodId} {args : Array Value} {below : List Frame} {meth : Method} {c : Code} {G : va_G} {Λ : Lay} {μ : Mem} {r : Int64} (hOK : LayOK Λ) (hF : CallFix p m c cL_digest 5 s args tw RL) (hKK : KK G Λ s) (hr : meth.sig.returnType = (some .long)) (hlocks : meth.locks = false) {x0 : Nat} (kx0 : inK Λ x0 4) : ∀ (n : Nat) (x1 : Int64) (x3 : Int32) (H : Heap) (locs : List Loc) (ls : Array Slot), lpL_digest_6 Λ μ x0 n x1 x3 = some r → Wd G Λ μ H → va_S (inL Λ) s.heap H locs → lv_has ls 5 [(0, .ref x0), (1, .long x1), (3, .int x3)] → W p l e (rmd 7) s m args below meth c H locs 0 0 (MQ below (QL G Λ r μ) args s 0 0 (inL Λ)) (F0 m 6 ls []) := by
  have hx := hF.1
  have hb := hF.2.1
  have hA : ∀ q, inL Λ q → inL Λ q := fun _ h => h
  intro n
  induction n with
  | zero =>
    intro x1 x3 H locs ls hs hW hS hl
    cases hs
  | succ n6 ih6 =>
    intro x1 x3 H locs ls hs hW hS hl
    rw [lpL_digest_6_s] at hs
    refine lv_iload_n hx hb dL_digest_6 rfl (lv_at hl 2 rfl) ?_
    refine lv_bipush (v := (9 : Int32)) hx hb dL_digest_7 (by decide) ?_
    refine lv_icmp_ge (tgt := 31) hx hb dL_digest_9 (by decide) (fun c2 => ?_) (fun c2 => ?_)
    · have hs := ite_t hs c2
      refine lv_iconst (v := (0 : Int32)) hx hb dL_digest_31 (by decide) ?_
      refine lv_istore_n (lv' := [(3, .int (0 : Int32)), (0, .ref x0), (1, .long x1)]) hx hb dL_digest_32 rfl hl (by decide) rfl (fun ls hl => ?_)
      exact cl_L_digest_33 hOK hF hKK hr hlocks kx0 fuel x1 (0 : Int32) _ _ _ hs hW hS (lv_sub hl [1, 2, 0] rfl)
    · have hs := ite_f hs c2
      refine lv_ldc2 (v := (31 : Int64)) hx hb hF.2.2.2.1 (hF.2.2.2.2 _ wd_558) dL_digest_12 ?_
      refine lv_lload_n hx hb dL_digest_15 rfl (lv_at hl 1 rfl) ?_
      refine lv_lmul hx hb dL_digest_16 ?_
      refine lv_aload_n hx hb dL_digest_17 rfl (lv_at hl 0 rfl) ?_
      refine lv_iload_n hx hb dL_digest_18 rfl (lv_at hl 2 rfl) ?_
      obtain ⟨q14, hq14, hs⟩ := obind_e hs
      refine end_i (run_V (q := (RX4, TX4, 11)) (ci := 4) hF hKK hW hS hl.1 kx0 (by decide) rfl (c_X4_account l hOK kx0 hq14) (kw_L_72 hF.2.2.2.2 ⟨Nat.le_of_ble_eq_true rfl, Nat.le_of_ble_eq_true rfl⟩) rfl rfl (Nat.le_of_ble_eq_true rfl) dL_digest_19 ⟨Nat.zero_le _, Nat.zero_le _⟩) hS (fun H locs hW hS => ?_)
      refine lv_i2l (v := (Int32.toInt64 q14)) hx hb dL_digest_22 rfl ?_
      refine lv_ladd hx hb dL_digest_23 ?_
      obtain ⟨v15, ev15, hs⟩ := bnd_e hs
      refine top_l ev15 ?_
      refine lv_lstore_n (lv' := [(1, .long v15), (0, .ref x0), (3, .int x3)]) hx hb dL_digest_24 rfl hl (by decide) rfl (fun ls hl => ?_)
      obtain ⟨v16, ev16, hs⟩ := bnd_e hs
      refine lv_iinc (v := v16) (lv' := [(3, .int v16), (1, .long v15), (0, .ref x0)]) hx hb dL_digest_25 hl (k := 2) rfl (by rw [ev16]; rfl) (by decide) rfl (fun ls hl => ?_)
      refine lv_goto (tgt := 6) hx hb dL_digest_28 (by decide) ?_
      exact ih6 v15 v16 _ _ _ hs hW hS (lv_sub hl [2, 1, 0] rfl)

set_option maxHeartbeats 4000000 in
set_option maxRecDepth 100000 in
theorem c_L_digest (l : Launch) {G : va_G} {Λ : Lay} {μ : Mem} (hOK : LayOK Λ) {a0 : Nat} (k0 : inK Λ a0 4) {r : Int64} (hs : sL_digest Λ μ a0 = some r) : CM l G Λ yL_digest cL_digest 5 (some .long) 7 μ [.ref a0] (QL G Λ r μ) := by
  refine ofM (own := RL) (by decide +kernel) rfl (Nat.le_of_ble_eq_true rfl) (fun p e s m args below meth c ls hF hKK hW hr hlocks hl => ?_)
  have hx := hF.1
  have hb := hF.2.1
  have hA : ∀ q, inL Λ q → inL Λ q := fun _ h => h
  have hS : va_S (inL Λ) s.heap s.heap [] := va_S.rf
  have hl : lv_has ls 5 [(0, .ref a0)] := hl
  unfold sL_digest at hs
  refine lv_ldc2 (v := (7 : Int64)) hx hb hF.2.2.2.1 (hF.2.2.2.2 _ wd_557) dL_digest_0 ?_
  obtain ⟨v1, ev1, hs⟩ := bnd_e hs
  refine top_l ev1 ?_
  refine lv_lstore_n (lv' := [(1, .long v1), (0, .ref a0)]) hx hb dL_digest_3 rfl hl (by decide) rfl (fun ls hl => ?_)
  refine lv_iconst (v := (0 : Int32)) hx hb dL_digest_4 (by decide) ?_
  refine lv_istore_n (lv' := [(3, .int (0 : Int32)), (1, .long v1), (0, .ref a0)]) hx hb dL_digest_5 rfl hl (by decide) rfl (fun ls hl => ?_)
  exact cl_L_digest_6 hOK hF hKK hr hlocks k0 fuel v1 (0 : Int32) _ _ _ hs hW hS (lv_sub hl [2, 1, 0] rfl)

set_option maxHeartbeats 4000000 in
set_option maxRecDepth 100000 in
theorem cl_L_isBank_156 {p : Program} {l : Launch} {e : Env} {s : State} {m : MethodId} {args : Array Value} {below : List Frame} {meth : Method} {c : Code} {G : va_G} {Λ : Lay} {μ : Mem} {r : Int32} (hOK : LayOK Λ) (hF : CallFix p m c cL_isBank 11 s args tw RL) (hKK : KK G Λ s) (hr : meth.sig.returnType = (some .boolean)) (hlocks : meth.locks = false) {x0 : Nat} (kx0 : inK Λ x0 4) {x1 : Int32} {x2 : Int32} {x3 : Int32} : ∀ (n : Nat) (x5 : Int32) (x6 : Int32) (x7 : Int32) (x8 : Int32) (x9 : Int32) (H : Heap) (locs : List Loc) (ls : Array Slot), lpL_isBank_156 Λ μ x0 x1 x2 x3 n x5 x6 x7 x8 x9 = some r → Wd G Λ μ H → va_S (inL Λ) s.heap H locs → lv_has ls 11 [(0, .ref x0), (1, .int x1), (2, .int x2), (3, .int x3), (5, .int x5), (6, .int x6), (7, .int x7), (8, .int x8), (9, .int x9)] → W p l e (rmd 7) s m args below meth c H locs 0 0 (MQ below (QI G Λ r μ) args s 0 0 (inL Λ)) (F0 m 156 ls []) := by
  have hx := hF.1
  have hb := hF.2.1
  have hA : ∀ q, inL Λ q → inL Λ q := fun _ h => h
  intro n
  induction n with
  | zero =>
    intro x5 x6 x7 x8 x9 H locs ls hs hW hS hl
    cases hs
  | succ n156 ih156 =>
    intro x5 x6 x7 x8 x9 H locs ls hs hW hS hl
    rw [lpL_isBank_156_s] at hs
    refine lv_iload hx hb dL_isBank_156 (lv_at hl 7 rfl) ?_
    obtain ⟨kj6, ekj6, hs⟩ := bnd_e hs
    have hj6 : ∀ (H : Heap) (locs : List Loc) (ls : Array Slot), kj6 = some r → Wd G Λ μ H → va_S (inL Λ) s.heap H locs → lv_has ls 11 [(0, .ref x0), (1, .int x1), (5, .int x5), (6, .int x6), (7, .int x7), (8, .int x8)] → W p l e (rmd 7) s m args below meth c H locs 0 0 (MQ below (QI G Λ r μ) args s 0 0 (inL Λ)) (F0 m 277 ls []) := by
      intro  H locs ls hs hW hS hl
      have hs := ekj6.symm.trans hs
      refine lv_iload hx hb dL_isBank_277 (lv_at hl 5 rfl) ?_
      obtain ⟨kj7, ekj7, hs⟩ := bnd_e hs
      have hj7 : ∀ (j7 : Int32) (H : Heap) (locs : List Loc) (ls : Array Slot), kj7 j7 = some r → Wd G Λ μ H → va_S (inL Λ) s.heap H locs → lv_has ls 11 [] → W p l e (rmd 7) s m args below meth c H locs 0 0 (MQ below (QI G Λ r μ) args s 0 0 (inL Λ)) (F0 m 342 ls [.int j7]) := by
        intro j7 H locs ls hs hW hS hl
        have hs := kj1 ekj7 hs
        obtain ⟨g8, hs⟩ := gd_some hs
        have h9 := Option.some.inj hs
        rw [← h9]
        exact wr_i hF hr hlocks (isB_nar g8) hW hS dL_isBank_342
      obtain ⟨kj9, ekj9, hs⟩ := bnd_e hs
      have hj9 : ∀ (H : Heap) (locs : List Loc) (ls : Array Slot), kj9 = some r → Wd G Λ μ H → va_S (inL Λ) s.heap H locs → lv_has ls 11 [] → W p l e (rmd 7) s m args below meth c H locs 0 0 (MQ below (QI G Λ r μ) args s 0 0 (inL Λ)) (F0 m 341 ls []) := by
        intro  H locs ls hs hW hS hl
        have hs := ekj9.symm.trans hs
        refine lv_iconst (v := (0 : Int32)) hx hb dL_isBank_341 (by decide) ?_
        exact hj7 (0 : Int32) _ _ _ hs hW hS (lv_sub hl [] rfl)
      refine lv_if_eq (tgt := 341) hx hb dL_isBank_279 (by decide) (fun c10 => ?_) (fun c10 => ?_)
      · have hs := ite_t hs c10
        exact hj9 _ _ _ hs hW hS (lv_sub hl [] rfl)
      · have hs := ite_f hs c10
        refine lv_iload hx hb dL_isBank_282 (lv_at hl 2 rfl) ?_
        refine lv_aload_n hx hb dL_isBank_284 rfl (lv_at hl 0 rfl) ?_
        refine lv_iload_n hx hb dL_isBank_285 rfl (lv_at hl 1 rfl) ?_
        refine lv_bipush (v := (7 : Int32)) hx hb dL_isBank_286 (by decide) ?_
        obtain ⟨q11, hq11, hs⟩ := obind_e hs
        refine end_i (run_V (q := (RX4, TX4, 11)) (ci := 4) hF hKK hW hS hl.1 kx0 (by decide) rfl (c_X4_bankOf l hOK kx0 hq11) (kw_L_34 hF.2.2.2.2 ⟨Nat.le_of_ble_eq_true rfl, Nat.le_of_ble_eq_true rfl⟩) rfl rfl (Nat.le_of_ble_eq_true rfl) dL_isBank_288 ⟨Nat.zero_le _, Nat.zero_le _⟩) hS (fun H locs hW hS => ?_)
        refine lv_icmp_ne (tgt := 341) hx hb dL_isBank_291 (by decide) (fun c12 => ?_) (fun c12 => ?_)
        · have hs := ite_f hs c12
          exact hj9 _ _ _ hs hW hS (lv_sub hl [] rfl)
        · have hs := ite_t hs c12
          refine lv_iload hx hb dL_isBank_294 (lv_at hl 3 rfl) ?_
          refine lv_aload_n hx hb dL_isBank_296 rfl (lv_at hl 0 rfl) ?_
          refine lv_iload_n hx hb dL_isBank_297 rfl (lv_at hl 1 rfl) ?_
          refine lv_bipush (v := (8 : Int32)) hx hb dL_isBank_298 (by decide) ?_
          obtain ⟨q13, hq13, hs⟩ := obind_e hs
          refine end_i (run_V (q := (RX4, TX4, 11)) (ci := 4) hF hKK hW hS hl.1 kx0 (by decide) rfl (c_X4_bankOf l hOK kx0 hq13) (kw_L_34 hF.2.2.2.2 ⟨Nat.le_of_ble_eq_true rfl, Nat.le_of_ble_eq_true rfl⟩) rfl rfl (Nat.le_of_ble_eq_true rfl) dL_isBank_300 ⟨Nat.zero_le _, Nat.zero_le _⟩) hS (fun H locs hW hS => ?_)
          refine lv_icmp_ne (tgt := 341) hx hb dL_isBank_303 (by decide) (fun c14 => ?_) (fun c14 => ?_)
          · have hs := ite_f hs c14
            exact hj9 _ _ _ hs hW hS (lv_sub hl [] rfl)
          · have hs := ite_t hs c14
            refine lv_iload hx hb dL_isBank_306 (lv_at hl 3 rfl) ?_
            refine lv_aload_n hx hb dL_isBank_308 rfl (lv_at hl 0 rfl) ?_
            refine lv_iload_n hx hb dL_isBank_309 rfl (lv_at hl 1 rfl) ?_
            obtain ⟨q15, hq15, hs⟩ := obind_e hs
            refine end_i (run_V (q := (RX4, TX4, 11)) (ci := 4) hF hKK hW hS hl.1 kx0 (by decide) rfl (c_X4_belowAgain l hOK kx0 hq15) (kw_L_87 hF.2.2.2.2 ⟨Nat.le_of_ble_eq_true rfl, Nat.le_of_ble_eq_true rfl⟩) rfl rfl (Nat.le_of_ble_eq_true rfl) dL_isBank_310 ⟨Nat.zero_le _, Nat.zero_le _⟩) hS (fun H locs hW hS => ?_)
            refine lv_icmp_ne (tgt := 341) hx hb dL_isBank_313 (by decide) (fun c16 => ?_) (fun c16 => ?_)
            · have hs := ite_f hs c16
              exact hj9 _ _ _ hs hW hS (lv_sub hl [] rfl)
            · have hs := ite_t hs c16
              refine lv_iload hx hb dL_isBank_316 (lv_at hl 4 rfl) ?_
              refine lv_aload_n hx hb dL_isBank_318 rfl (lv_at hl 0 rfl) ?_
              refine lv_iload_n hx hb dL_isBank_319 rfl (lv_at hl 1 rfl) ?_
              refine lv_iconst (v := (5 : Int32)) hx hb dL_isBank_320 (by decide) ?_
              obtain ⟨q17, hq17, hs⟩ := obind_e hs
              refine end_i (run_V (q := (RX4, TX4, 11)) (ci := 4) hF hKK hW hS hl.1 kx0 (by decide) rfl (c_X4_bankOf l hOK kx0 hq17) (kw_L_34 hF.2.2.2.2 ⟨Nat.le_of_ble_eq_true rfl, Nat.le_of_ble_eq_true rfl⟩) rfl rfl (Nat.le_of_ble_eq_true rfl) dL_isBank_321 ⟨Nat.zero_le _, Nat.zero_le _⟩) hS (fun H locs hW hS => ?_)
              refine lv_icmp_ne (tgt := 341) hx hb dL_isBank_324 (by decide) (fun c18 => ?_) (fun c18 => ?_)
              · have hs := ite_f hs c18
                exact hj9 _ _ _ hs hW hS (lv_sub hl [] rfl)
              · have hs := ite_t hs c18
                refine lv_aload_n hx hb dL_isBank_327 rfl (lv_at hl 0 rfl) ?_
                refine lv_iload_n hx hb dL_isBank_328 rfl (lv_at hl 1 rfl) ?_
                refine lv_iload_n hx hb dL_isBank_329 rfl (lv_at hl 1 rfl) ?_
                obtain ⟨q19, hq19, hs⟩ := obind_e hs
                refine end_i (run_V (q := (RX4, TX4, 11)) (ci := 4) hF hKK hW hS hl.1 kx0 (by decide) rfl (c_X4_isBelow l hOK kx0 hq19) (kw_L_84 hF.2.2.2.2 ⟨Nat.le_of_ble_eq_true rfl, Nat.le_of_ble_eq_true rfl⟩) rfl rfl (Nat.le_of_ble_eq_true rfl) dL_isBank_330 ⟨Nat.zero_le _, Nat.zero_le _⟩) hS (fun H locs hW hS => ?_)
                refine lv_iconst (v := (1 : Int32)) hx hb dL_isBank_333 (by decide) ?_
                refine lv_icmp_ne (tgt := 341) hx hb dL_isBank_334 (by decide) (fun c20 => ?_) (fun c20 => ?_)
                · have hs := ite_f hs c20
                  exact hj9 _ _ _ hs hW hS (lv_sub hl [] rfl)
                · have hs := ite_t hs c20
                  refine lv_iconst (v := (1 : Int32)) hx hb dL_isBank_337 (by decide) ?_
                  refine lv_goto (tgt := 342) hx hb dL_isBank_338 (by decide) ?_
                  exact hj7 (1 : Int32) _ _ _ hs hW hS (lv_sub hl [] rfl)
    refine lv_if_eq (tgt := 277) hx hb dL_isBank_158 (by decide) (fun c21 => ?_) (fun c21 => ?_)
    · have hs := ite_t hs c21
      exact hj6 _ _ _ hs hW hS (lv_sub hl [0, 1, 4, 5, 6, 7] rfl)
    · have hs := ite_f hs c21
      refine lv_iload hx hb dL_isBank_161 (lv_at hl 8 rfl) ?_
      refine lv_aload_n hx hb dL_isBank_163 rfl (lv_at hl 0 rfl) ?_
      refine lv_iconst (v := (0 : Int32)) hx hb dL_isBank_164 (by decide) ?_
      obtain ⟨q22, hq22, hs⟩ := obind_e hs
      refine end_i (run_V (q := (RX4, TX4, 11)) (ci := 4) hF hKK hW hS hl.1 kx0 (by decide) rfl (c_X4_account l hOK kx0 hq22) (kw_L_72 hF.2.2.2.2 ⟨Nat.le_of_ble_eq_true rfl, Nat.le_of_ble_eq_true rfl⟩) rfl rfl (Nat.le_of_ble_eq_true rfl) dL_isBank_165 ⟨Nat.zero_le _, Nat.zero_le _⟩) hS (fun H locs hW hS => ?_)
      refine lv_icmp_ge (tgt := 277) hx hb dL_isBank_168 (by decide) (fun c23 => ?_) (fun c23 => ?_)
      · have hs := ite_t hs c23
        exact hj6 _ _ _ hs hW hS (lv_sub hl [0, 1, 4, 5, 6, 7] rfl)
      · have hs := ite_f hs c23
        refine lv_aload_n hx hb dL_isBank_171 rfl (lv_at hl 0 rfl) ?_
        refine lv_iload hx hb dL_isBank_172 (lv_at hl 8 rfl) ?_
        refine lv_iload_n hx hb dL_isBank_174 rfl (lv_at hl 1 rfl) ?_
        obtain ⟨q24, hq24, hs⟩ := obind_e hs
        refine end_i (run_V (q := (RX4, TX4, 11)) (ci := 4) hF hKK hW hS hl.1 kx0 (by decide) rfl (c_X4_isBelow l hOK kx0 hq24) (kw_L_84 hF.2.2.2.2 ⟨Nat.le_of_ble_eq_true rfl, Nat.le_of_ble_eq_true rfl⟩) rfl rfl (Nat.le_of_ble_eq_true rfl) dL_isBank_175 ⟨Nat.zero_le _, Nat.zero_le _⟩) hS (fun H locs hW hS => ?_)
        refine lv_iconst (v := (1 : Int32)) hx hb dL_isBank_178 (by decide) ?_
        obtain ⟨kj25, ekj25, hs⟩ := bnd_e hs
        have hj25 : ∀ (j25 : Int32) (H : Heap) (locs : List Loc) (ls : Array Slot), kj25 j25 = some r → Wd G Λ μ H → va_S (inL Λ) s.heap H locs → lv_has ls 11 [(0, .ref x0), (1, .int x1), (2, .int x2), (3, .int x3), (5, .int x5), (6, .int x6), (7, .int x7), (9, .int x9)] → W p l e (rmd 7) s m args below meth c H locs 0 0 (MQ below (QI G Λ r μ) args s 0 0 (inL Λ)) (F0 m 187 ls [.int j25]) := by
          intro j25 H locs ls hs hW hS hl
          have hs := kj1 ekj25 hs
          refine lv_istore (lv' := [(10, .int j25), (0, .ref x0), (1, .int x1), (2, .int x2), (3, .int x3), (5, .int x5), (6, .int x6), (7, .int x7), (9, .int x9)]) hx hb dL_isBank_187 hl (by decide) rfl (fun ls hl => ?_)
          refine lv_iload hx hb dL_isBank_189 (lv_at hl 5 rfl) ?_
          refine lv_iload hx hb dL_isBank_191 (lv_at hl 0 rfl) ?_
          obtain ⟨kj26, ekj26, hs⟩ := bnd_e hs
          have hj26 : ∀ (j26 : Int32) (H : Heap) (locs : List Loc) (ls : Array Slot), kj26 j26 = some r → Wd G Λ μ H → va_S (inL Λ) s.heap H locs → lv_has ls 11 [(10, .int j25), (0, .ref x0), (1, .int x1), (2, .int x2), (3, .int x3), (6, .int x6), (7, .int x7), (9, .int x9)] → W p l e (rmd 7) s m args below meth c H locs 0 0 (MQ below (QI G Λ r μ) args s 0 0 (inL Λ)) (F0 m 201 ls [.int j26, .int x5]) := by
            intro j26 H locs ls hs hW hS hl
            have hs := kj1 ekj26 hs
            refine lv_iadd hx hb dL_isBank_201 ?_
            obtain ⟨v27, ev27, hs⟩ := bnd_e hs
            refine top_i ev27 ?_
            refine lv_istore (lv' := [(5, .int v27), (10, .int j25), (0, .ref x0), (1, .int x1), (2, .int x2), (3, .int x3), (6, .int x6), (7, .int x7), (9, .int x9)]) hx hb dL_isBank_202 hl (by decide) rfl (fun ls hl => ?_)
            refine lv_iload hx hb dL_isBank_204 (lv_at hl 6 rfl) ?_
            refine lv_iload hx hb dL_isBank_206 (lv_at hl 1 rfl) ?_
            obtain ⟨kj28, ekj28, hs⟩ := bnd_e hs
            have hj28 : ∀ (j28 : Int32) (H : Heap) (locs : List Loc) (ls : Array Slot), kj28 j28 = some r → Wd G Λ μ H → va_S (inL Λ) s.heap H locs → lv_has ls 11 [(5, .int v27), (10, .int j25), (0, .ref x0), (1, .int x1), (2, .int x2), (3, .int x3), (7, .int x7), (9, .int x9)] → W p l e (rmd 7) s m args below meth c H locs 0 0 (MQ below (QI G Λ r μ) args s 0 0 (inL Λ)) (F0 m 222 ls [.int j28, .int x6]) := by
              intro j28 H locs ls hs hW hS hl
              have hs := kj1 ekj28 hs
              refine lv_iadd hx hb dL_isBank_222 ?_
              obtain ⟨v29, ev29, hs⟩ := bnd_e hs
              refine top_i ev29 ?_
              refine lv_istore (lv' := [(6, .int v29), (5, .int v27), (10, .int j25), (0, .ref x0), (1, .int x1), (2, .int x2), (3, .int x3), (7, .int x7), (9, .int x9)]) hx hb dL_isBank_223 hl (by decide) rfl (fun ls hl => ?_)
              refine lv_iload hx hb dL_isBank_225 (lv_at hl 7 rfl) ?_
              refine lv_aload_n hx hb dL_isBank_227 rfl (lv_at hl 3 rfl) ?_
              refine lv_iload_n hx hb dL_isBank_228 rfl (lv_at hl 4 rfl) ?_
              refine lv_iload hx hb dL_isBank_229 (lv_at hl 8 rfl) ?_
              obtain ⟨q30, hq30, hs⟩ := obind_e hs
              refine end_i (run_V (q := (RX4, TX4, 11)) (ci := 4) hF hKK hW hS hl.1 kx0 (by decide) rfl (c_X4_isRope l hOK kx0 hq30) (kw_L_81 hF.2.2.2.2 ⟨Nat.le_of_ble_eq_true rfl, Nat.le_of_ble_eq_true rfl⟩) rfl rfl (Nat.le_of_ble_eq_true rfl) dL_isBank_231 ⟨Nat.zero_le _, Nat.zero_le _⟩) hS (fun H locs hW hS => ?_)
              refine lv_iadd hx hb dL_isBank_234 ?_
              obtain ⟨v31, ev31, hs⟩ := bnd_e hs
              refine top_i ev31 ?_
              refine lv_istore (lv' := [(7, .int v31), (6, .int v29), (5, .int v27), (10, .int j25), (0, .ref x0), (1, .int x1), (2, .int x2), (3, .int x3), (9, .int x9)]) hx hb dL_isBank_235 hl (by decide) rfl (fun ls hl => ?_)
              refine lv_iload hx hb dL_isBank_237 (lv_at hl 3 rfl) ?_
              obtain ⟨kj32, ekj32, hs⟩ := bnd_e hs
              have hj32 : ∀ (j32 : Int32) (H : Heap) (locs : List Loc) (ls : Array Slot), kj32 j32 = some r → Wd G Λ μ H → va_S (inL Λ) s.heap H locs → lv_has ls 11 [(7, .int v31), (6, .int v29), (5, .int v27), (0, .ref x0), (1, .int x1), (2, .int x2), (3, .int x3), (9, .int x9)] → W p l e (rmd 7) s m args below meth c H locs 0 0 (MQ below (QI G Λ r μ) args s 0 0 (inL Λ)) (F0 m 269 ls [.int j32]) := by
                intro j32 H locs ls hs hW hS hl
                have hs := kj1 ekj32 hs
                refine lv_istore (lv' := [(8, .int j32), (7, .int v31), (6, .int v29), (5, .int v27), (0, .ref x0), (1, .int x1), (2, .int x2), (3, .int x3), (9, .int x9)]) hx hb dL_isBank_269 hl (by decide) rfl (fun ls hl => ?_)
                obtain ⟨v33, ev33, hs⟩ := bnd_e hs
                refine lv_iinc (v := v33) (lv' := [(9, .int v33), (8, .int j32), (7, .int v31), (6, .int v29), (5, .int v27), (0, .ref x0), (1, .int x1), (2, .int x2), (3, .int x3)]) hx hb dL_isBank_271 hl (k := 8) rfl (by rw [ev33]; rfl) (by decide) rfl (fun ls hl => ?_)
                refine lv_goto (tgt := 156) hx hb dL_isBank_274 (by decide) ?_
                exact ih156 v27 v29 v31 j32 v33 _ _ _ hs hW hS (lv_sub hl [5, 6, 7, 8, 4, 3, 2, 1, 0] rfl)
              obtain ⟨kj34, ekj34, hs⟩ := bnd_e hs
              have hj34 : ∀ (H : Heap) (locs : List Loc) (ls : Array Slot), kj34 = some r → Wd G Λ μ H → va_S (inL Λ) s.heap H locs → lv_has ls 11 [(7, .int v31), (6, .int v29), (5, .int v27), (0, .ref x0), (1, .int x1), (2, .int x2), (3, .int x3), (9, .int x9)] → W p l e (rmd 7) s m args below meth c H locs 0 0 (MQ below (QI G Λ r μ) args s 0 0 (inL Λ)) (F0 m 264 ls []) := by
                intro  H locs ls hs hW hS hl
                have hs := ekj34.symm.trans hs
                refine lv_iconst (v := (1 : Int32)) hx hb dL_isBank_264 (by decide) ?_
                refine lv_goto (tgt := 269) hx hb dL_isBank_265 (by decide) ?_
                exact hj32 (1 : Int32) _ _ _ hs hW hS (lv_sub hl [0, 1, 2, 3, 4, 5, 6, 7] rfl)
              refine lv_if_eq (tgt := 264) hx hb dL_isBank_239 (by decide) (fun c35 => ?_) (fun c35 => ?_)
              · have hs := ite_t hs c35
                exact hj34 _ _ _ hs hW hS (lv_sub hl [0, 1, 2, 4, 5, 6, 7, 8] rfl)
              · have hs := ite_f hs c35
                refine lv_aload_n hx hb dL_isBank_242 rfl (lv_at hl 4 rfl) ?_
                refine lv_iload hx hb dL_isBank_243 (lv_at hl 8 rfl) ?_
                refine lv_iconst (v := (3 : Int32)) hx hb dL_isBank_245 (by decide) ?_
                obtain ⟨q36, hq36, hs⟩ := obind_e hs
                refine end_i (run_V (q := (RX4, TX4, 11)) (ci := 4) hF hKK hW hS hl.1 kx0 (by decide) rfl (c_X4_bankOf l hOK kx0 hq36) (kw_L_34 hF.2.2.2.2 ⟨Nat.le_of_ble_eq_true rfl, Nat.le_of_ble_eq_true rfl⟩) rfl rfl (Nat.le_of_ble_eq_true rfl) dL_isBank_246 ⟨Nat.zero_le _, Nat.zero_le _⟩) hS (fun H locs hW hS => ?_)
                refine lv_iload_n hx hb dL_isBank_249 rfl (lv_at hl 6 rfl) ?_
                obtain ⟨kj37, ekj37, hs⟩ := bnd_e hs
                have hj37 : ∀ (H : Heap) (locs : List Loc) (ls : Array Slot), kj37 = some r → Wd G Λ μ H → va_S (inL Λ) s.heap H locs → lv_has ls 11 [(7, .int v31), (6, .int v29), (5, .int v27), (0, .ref x0), (1, .int x1), (2, .int x2), (3, .int x3), (9, .int x9)] → W p l e (rmd 7) s m args below meth c H locs 0 0 (MQ below (QI G Λ r μ) args s 0 0 (inL Λ)) (F0 m 268 ls []) := by
                  intro  H locs ls hs hW hS hl
                  have hs := ekj37.symm.trans hs
                  refine lv_iconst (v := (0 : Int32)) hx hb dL_isBank_268 (by decide) ?_
                  exact hj32 (0 : Int32) _ _ _ hs hW hS (lv_sub hl [0, 1, 2, 3, 4, 5, 6, 7] rfl)
                refine lv_icmp_lt (tgt := 268) hx hb dL_isBank_250 (by decide) (fun c38 => ?_) (fun c38 => ?_)
                · have hs := ite_t hs c38
                  exact hj37 _ _ _ hs hW hS (lv_sub hl [0, 1, 2, 4, 5, 6, 7, 8] rfl)
                · have hs := ite_f hs c38
                  refine lv_aload_n hx hb dL_isBank_253 rfl (lv_at hl 4 rfl) ?_
                  refine lv_iload hx hb dL_isBank_254 (lv_at hl 8 rfl) ?_
                  refine lv_iconst (v := (4 : Int32)) hx hb dL_isBank_256 (by decide) ?_
                  obtain ⟨q39, hq39, hs⟩ := obind_e hs
                  refine end_i (run_V (q := (RX4, TX4, 11)) (ci := 4) hF hKK hW hS hl.1 kx0 (by decide) rfl (c_X4_bankOf l hOK kx0 hq39) (kw_L_34 hF.2.2.2.2 ⟨Nat.le_of_ble_eq_true rfl, Nat.le_of_ble_eq_true rfl⟩) rfl rfl (Nat.le_of_ble_eq_true rfl) dL_isBank_257 ⟨Nat.zero_le _, Nat.zero_le _⟩) hS (fun H locs hW hS => ?_)
                  refine lv_iload_n hx hb dL_isBank_260 rfl (lv_at hl 7 rfl) ?_
                  refine lv_icmp_gt (tgt := 268) hx hb dL_isBank_261 (by decide) (fun c40 => ?_) (fun c40 => ?_)
                  · have hs := ite_t hs c40
                    exact hj37 _ _ _ hs hW hS (lv_sub hl [0, 1, 2, 4, 5, 6, 7, 8] rfl)
                  · have hs := ite_f hs c40
                    exact hj34 _ _ _ hs hW hS (lv_sub hl [0, 1, 2, 4, 5, 6, 7, 8] rfl)
            refine lv_if_eq (tgt := 221) hx hb dL_isBank_208 (by decide) (fun c41 => ?_) (fun c41 => ?_)
            · have hs := ite_t hs c41
              refine lv_iconst (v := (0 : Int32)) hx hb dL_isBank_221 (by decide) ?_
              exact hj28 (0 : Int32) _ _ _ hs hW hS (lv_sub hl [0, 1, 2, 3, 4, 5, 7, 8] rfl)
            · have hs := ite_f hs c41
              refine lv_aload_n hx hb dL_isBank_211 rfl (lv_at hl 2 rfl) ?_
              refine lv_iload hx hb dL_isBank_212 (lv_at hl 8 rfl) ?_
              refine lv_iconst (v := (0 : Int32)) hx hb dL_isBank_214 (by decide) ?_
              obtain ⟨q42, hq42, hs⟩ := obind_e hs
              refine end_i (run_V (q := (RX4, TX4, 11)) (ci := 4) hF hKK hW hS hl.1 kx0 (by decide) rfl (c_X4_bankOf l hOK kx0 hq42) (kw_L_34 hF.2.2.2.2 ⟨Nat.le_of_ble_eq_true rfl, Nat.le_of_ble_eq_true rfl⟩) rfl rfl (Nat.le_of_ble_eq_true rfl) dL_isBank_215 ⟨Nat.zero_le _, Nat.zero_le _⟩) hS (fun H locs hW hS => ?_)
              refine lv_goto (tgt := 222) hx hb dL_isBank_218 (by decide) ?_
              exact hj28 q42 _ _ _ hs hW hS (lv_sub hl [0, 1, 2, 3, 4, 5, 7, 8] rfl)
          refine lv_if_eq (tgt := 200) hx hb dL_isBank_193 (by decide) (fun c43 => ?_) (fun c43 => ?_)
          · have hs := ite_t hs c43
            refine lv_iconst (v := (0 : Int32)) hx hb dL_isBank_200 (by decide) ?_
            exact hj26 (0 : Int32) _ _ _ hs hW hS (lv_sub hl [0, 1, 2, 3, 4, 6, 7, 8] rfl)
          · have hs := ite_f hs c43
            refine lv_iconst (v := (1 : Int32)) hx hb dL_isBank_196 (by decide) ?_
            refine lv_goto (tgt := 201) hx hb dL_isBank_197 (by decide) ?_
            exact hj26 (1 : Int32) _ _ _ hs hW hS (lv_sub hl [0, 1, 2, 3, 4, 6, 7, 8] rfl)
        refine lv_icmp_ne (tgt := 186) hx hb dL_isBank_179 (by decide) (fun c44 => ?_) (fun c44 => ?_)
        · have hs := ite_f hs c44
          refine lv_iconst (v := (0 : Int32)) hx hb dL_isBank_186 (by decide) ?_
          exact hj25 (0 : Int32) _ _ _ hs hW hS (lv_sub hl [0, 1, 2, 3, 4, 5, 6, 8] rfl)
        · have hs := ite_t hs c44
          refine lv_iconst (v := (1 : Int32)) hx hb dL_isBank_182 (by decide) ?_
          refine lv_goto (tgt := 187) hx hb dL_isBank_183 (by decide) ?_
          exact hj25 (1 : Int32) _ _ _ hs hW hS (lv_sub hl [0, 1, 2, 3, 4, 5, 6, 8] rfl)

set_option maxHeartbeats 4000000 in
set_option maxRecDepth 100000 in
theorem c_L_isBank (l : Launch) {G : va_G} {Λ : Lay} {μ : Mem} (hOK : LayOK Λ) {a0 : Nat} (k0 : inK Λ a0 4) {a1 : Int32} {r : Int32} (hs : sL_isBank Λ μ a0 a1 = some r) : CM l G Λ yL_isBank cL_isBank 11 (some .boolean) 7 μ [.ref a0, .int a1] (QI G Λ r μ) := by
  refine ofM (own := RL) (by decide +kernel) rfl (Nat.le_of_ble_eq_true rfl) (fun p e s m args below meth c ls hF hKK hW hr hlocks hl => ?_)
  have hx := hF.1
  have hb := hF.2.1
  have hA : ∀ q, inL Λ q → inL Λ q := fun _ h => h
  have hS : va_S (inL Λ) s.heap s.heap [] := va_S.rf
  have hl : lv_has ls 11 [(0, .ref a0), (1, .int a1)] := hl
  unfold sL_isBank at hs
  refine lv_aload_n hx hb dL_isBank_0 rfl (lv_at hl 0 rfl) ?_
  refine lv_iload_n hx hb dL_isBank_1 rfl (lv_at hl 1 rfl) ?_
  refine lv_iconst (v := (3 : Int32)) hx hb dL_isBank_2 (by decide) ?_
  obtain ⟨q1, hq1, hs⟩ := obind_e hs
  refine end_i (run_V (q := (RX4, TX4, 11)) (ci := 4) hF hKK hW hS hl.1 k0 (by decide) rfl (c_X4_bankOf l hOK k0 hq1) (kw_L_34 hF.2.2.2.2 ⟨Nat.le_of_ble_eq_true rfl, Nat.le_of_ble_eq_true rfl⟩) rfl rfl (Nat.le_of_ble_eq_true rfl) dL_isBank_3 ⟨Nat.zero_le _, Nat.zero_le _⟩) hS (fun H locs hW hS => ?_)
  refine lv_istore_n (lv' := [(2, .int q1), (0, .ref a0), (1, .int a1)]) hx hb dL_isBank_6 rfl hl (by decide) rfl (fun ls hl => ?_)
  refine lv_aload_n hx hb dL_isBank_7 rfl (lv_at hl 1 rfl) ?_
  refine lv_iload_n hx hb dL_isBank_8 rfl (lv_at hl 2 rfl) ?_
  refine lv_iconst (v := (4 : Int32)) hx hb dL_isBank_9 (by decide) ?_
  obtain ⟨q2, hq2, hs⟩ := obind_e hs
  refine end_i (run_V (q := (RX4, TX4, 11)) (ci := 4) hF hKK hW hS hl.1 k0 (by decide) rfl (c_X4_bankOf l hOK k0 hq2) (kw_L_34 hF.2.2.2.2 ⟨Nat.le_of_ble_eq_true rfl, Nat.le_of_ble_eq_true rfl⟩) rfl rfl (Nat.le_of_ble_eq_true rfl) dL_isBank_10 ⟨Nat.zero_le _, Nat.zero_le _⟩) hS (fun H locs hW hS => ?_)
  refine lv_istore_n (lv' := [(3, .int q2), (2, .int q1), (0, .ref a0), (1, .int a1)]) hx hb dL_isBank_13 rfl hl (by decide) rfl (fun ls hl => ?_)
  refine lv_aload_n hx hb dL_isBank_14 rfl (lv_at hl 2 rfl) ?_
  refine lv_iload_n hx hb dL_isBank_15 rfl (lv_at hl 3 rfl) ?_
  refine lv_bipush (v := (6 : Int32)) hx hb dL_isBank_16 (by decide) ?_
  obtain ⟨q3, hq3, hs⟩ := obind_e hs
  refine end_i (run_V (q := (RX4, TX4, 11)) (ci := 4) hF hKK hW hS hl.1 k0 (by decide) rfl (c_X4_bankOf l hOK k0 hq3) (kw_L_34 hF.2.2.2.2 ⟨Nat.le_of_ble_eq_true rfl, Nat.le_of_ble_eq_true rfl⟩) rfl rfl (Nat.le_of_ble_eq_true rfl) dL_isBank_18 ⟨Nat.zero_le _, Nat.zero_le _⟩) hS (fun H locs hW hS => ?_)
  refine lv_istore (lv' := [(4, .int q3), (3, .int q2), (2, .int q1), (0, .ref a0), (1, .int a1)]) hx hb dL_isBank_21 hl (by decide) rfl (fun ls hl => ?_)
  refine lv_iconst (v := (0 : Int32)) hx hb dL_isBank_23 (by decide) ?_
  refine lv_istore (lv' := [(5, .int (0 : Int32)), (4, .int q3), (3, .int q2), (2, .int q1), (0, .ref a0), (1, .int a1)]) hx hb dL_isBank_24 hl (by decide) rfl (fun ls hl => ?_)
  refine lv_iconst (v := (0 : Int32)) hx hb dL_isBank_26 (by decide) ?_
  refine lv_istore (lv' := [(6, .int (0 : Int32)), (5, .int (0 : Int32)), (4, .int q3), (3, .int q2), (2, .int q1), (0, .ref a0), (1, .int a1)]) hx hb dL_isBank_27 hl (by decide) rfl (fun ls hl => ?_)
  refine lv_iconst (v := (0 : Int32)) hx hb dL_isBank_29 (by decide) ?_
  refine lv_istore (lv' := [(7, .int (0 : Int32)), (6, .int (0 : Int32)), (5, .int (0 : Int32)), (4, .int q3), (3, .int q2), (2, .int q1), (0, .ref a0), (1, .int a1)]) hx hb dL_isBank_30 hl (by decide) rfl (fun ls hl => ?_)
  refine lv_aload_n hx hb dL_isBank_32 rfl (lv_at hl 6 rfl) ?_
  refine lv_iload_n hx hb dL_isBank_33 rfl (lv_at hl 7 rfl) ?_
  refine lv_iload_n hx hb dL_isBank_34 rfl (lv_at hl 5 rfl) ?_
  obtain ⟨q4, hq4, hs⟩ := obind_e hs
  refine end_i (run_V (q := (RX4, TX4, 11)) (ci := 4) hF hKK hW hS hl.1 k0 (by decide) rfl (c_X4_inRound l hOK k0 hq4) (kw_L_78 hF.2.2.2.2 ⟨Nat.le_of_ble_eq_true rfl, Nat.le_of_ble_eq_true rfl⟩) rfl rfl (Nat.le_of_ble_eq_true rfl) dL_isBank_35 ⟨Nat.zero_le _, Nat.zero_le _⟩) hS (fun H locs hW hS => ?_)
  refine lv_iload_n hx hb dL_isBank_38 rfl (lv_at hl 7 rfl) ?_
  obtain ⟨kj5, ekj5, hs⟩ := bnd_e hs
  have hj5 : ∀ (j5 : Int32) (H : Heap) (locs : List Loc) (ls : Array Slot), kj5 j5 = some r → Wd G Λ μ H → va_S (inL Λ) s.heap H locs → lv_has ls 11 [(7, .int (0 : Int32)), (6, .int (0 : Int32)), (5, .int (0 : Int32)), (3, .int q2), (2, .int q1), (0, .ref a0), (1, .int a1)] → W p l e (rmd 7) s m args below meth c H locs 0 0 (MQ below (QI G Λ r μ) args s 0 0 (inL Λ)) (F0 m 151 ls [.int j5]) := by
    intro j5 H locs ls hs hW hS hl
    have hs := kj1 ekj5 hs
    refine lv_istore (lv' := [(8, .int j5), (7, .int (0 : Int32)), (6, .int (0 : Int32)), (5, .int (0 : Int32)), (3, .int q2), (2, .int q1), (0, .ref a0), (1, .int a1)]) hx hb dL_isBank_151 hl (by decide) rfl (fun ls hl => ?_)
    refine lv_iconst (v := (0 : Int32)) hx hb dL_isBank_153 (by decide) ?_
    refine lv_istore (lv' := [(9, .int (0 : Int32)), (8, .int j5), (7, .int (0 : Int32)), (6, .int (0 : Int32)), (5, .int (0 : Int32)), (3, .int q2), (2, .int q1), (0, .ref a0), (1, .int a1)]) hx hb dL_isBank_154 hl (by decide) rfl (fun ls hl => ?_)
    exact cl_L_isBank_156 hOK hF hKK hr hlocks k0 fuel (0 : Int32) (0 : Int32) (0 : Int32) j5 (0 : Int32) _ _ _ hs hW hS (lv_sub hl [7, 8, 6, 5, 4, 3, 2, 1, 0] rfl)
  obtain ⟨kj45, ekj45, hs⟩ := bnd_e hs
  have hj45 : ∀ (H : Heap) (locs : List Loc) (ls : Array Slot), kj45 = some r → Wd G Λ μ H → va_S (inL Λ) s.heap H locs → lv_has ls 11 [(7, .int (0 : Int32)), (6, .int (0 : Int32)), (5, .int (0 : Int32)), (3, .int q2), (2, .int q1), (0, .ref a0), (1, .int a1)] → W p l e (rmd 7) s m args below meth c H locs 0 0 (MQ below (QI G Λ r μ) args s 0 0 (inL Λ)) (F0 m 150 ls []) := by
    intro  H locs ls hs hW hS hl
    have hs := ekj45.symm.trans hs
    refine lv_iconst (v := (0 : Int32)) hx hb dL_isBank_150 (by decide) ?_
    exact hj5 (0 : Int32) _ _ _ hs hW hS (lv_sub hl [0, 1, 2, 3, 4, 5, 6] rfl)
  refine lv_icmp_ne (tgt := 150) hx hb dL_isBank_39 (by decide) (fun c46 => ?_) (fun c46 => ?_)
  · have hs := ite_f hs c46
    exact hj45 _ _ _ hs hW hS (lv_sub hl [0, 1, 2, 4, 5, 6, 7] rfl)
  · have hs := ite_t hs c46
    refine lv_aload_n hx hb dL_isBank_42 rfl (lv_at hl 6 rfl) ?_
    refine lv_iload_n hx hb dL_isBank_43 rfl (lv_at hl 7 rfl) ?_
    refine lv_iload_n hx hb dL_isBank_44 rfl (lv_at hl 4 rfl) ?_
    obtain ⟨q47, hq47, hs⟩ := obind_e hs
    refine end_i (run_V (q := (RX4, TX4, 11)) (ci := 4) hF hKK hW hS hl.1 k0 (by decide) rfl (c_X4_inRound l hOK k0 hq47) (kw_L_78 hF.2.2.2.2 ⟨Nat.le_of_ble_eq_true rfl, Nat.le_of_ble_eq_true rfl⟩) rfl rfl (Nat.le_of_ble_eq_true rfl) dL_isBank_45 ⟨Nat.zero_le _, Nat.zero_le _⟩) hS (fun H locs hW hS => ?_)
    refine lv_iload_n hx hb dL_isBank_48 rfl (lv_at hl 7 rfl) ?_
    refine lv_icmp_ne (tgt := 150) hx hb dL_isBank_49 (by decide) (fun c48 => ?_) (fun c48 => ?_)
    · have hs := ite_f hs c48
      exact hj45 _ _ _ hs hW hS (lv_sub hl [0, 1, 2, 4, 5, 6, 7] rfl)
    · have hs := ite_t hs c48
      refine lv_iload_n hx hb dL_isBank_52 rfl (lv_at hl 5 rfl) ?_
      refine lv_iload_n hx hb dL_isBank_53 rfl (lv_at hl 4 rfl) ?_
      refine lv_icmp_gt (tgt := 150) hx hb dL_isBank_54 (by decide) (fun c49 => ?_) (fun c49 => ?_)
      · have hs := ite_t hs c49
        exact hj45 _ _ _ hs hW hS (lv_sub hl [0, 1, 2, 4, 5, 6, 7] rfl)
      · have hs := ite_f hs c49
        refine lv_iload hx hb dL_isBank_57 (lv_at hl 3 rfl) ?_
        refine lv_bipush (v := (-4 : Int32)) hx hb dL_isBank_59 (by decide) ?_
        obtain ⟨kj50, ekj50, hs⟩ := bnd_e hs
        have hj50 : ∀ (j50 : Int32) (H : Heap) (locs : List Loc) (ls : Array Slot), kj50 j50 = some r → Wd G Λ μ H → va_S (inL Λ) s.heap H locs → lv_has ls 11 [(7, .int (0 : Int32)), (6, .int (0 : Int32)), (5, .int (0 : Int32)), (4, .int q3), (3, .int q2), (2, .int q1), (0, .ref a0), (1, .int a1)] → W p l e (rmd 7) s m args below meth c H locs 0 0 (MQ below (QI G Λ r μ) args s 0 0 (inL Λ)) (F0 m 69 ls [.int j50]) := by
          intro j50 H locs ls hs hW hS hl
          have hs := kj1 ekj50 hs
          refine lv_aload_n hx hb dL_isBank_69 rfl (lv_at hl 6 rfl) ?_
          refine lv_iload_n hx hb dL_isBank_70 rfl (lv_at hl 7 rfl) ?_
          refine lv_iconst (v := (1 : Int32)) hx hb dL_isBank_71 (by decide) ?_
          obtain ⟨q51, hq51, hs⟩ := obind_e hs
          refine end_i (run_V (q := (RX4, TX4, 11)) (ci := 4) hF hKK hW hS hl.1 k0 (by decide) rfl (c_X4_bankOf l hOK k0 hq51) (kw_L_34 hF.2.2.2.2 ⟨Nat.le_of_ble_eq_true rfl, Nat.le_of_ble_eq_true rfl⟩) rfl rfl (Nat.le_of_ble_eq_true rfl) dL_isBank_72 ⟨Nat.zero_le _, Nat.zero_le _⟩) hS (fun H locs hW hS => ?_)
          refine lv_iload_n hx hb dL_isBank_75 rfl (lv_at hl 7 rfl) ?_
          obtain ⟨kj52, ekj52, hs⟩ := bnd_e hs
          have hj52 : ∀ (j52 : Int32) (H : Heap) (locs : List Loc) (ls : Array Slot), kj52 j52 = some r → Wd G Λ μ H → va_S (inL Λ) s.heap H locs → lv_has ls 11 [(7, .int (0 : Int32)), (6, .int (0 : Int32)), (5, .int (0 : Int32)), (4, .int q3), (3, .int q2), (2, .int q1), (0, .ref a0), (1, .int a1)] → W p l e (rmd 7) s m args below meth c H locs 0 0 (MQ below (QI G Λ r μ) args s 0 0 (inL Λ)) (F0 m 84 ls [.int j52, .int j50]) := by
            intro j52 H locs ls hs hW hS hl
            have hs := kj1 ekj52 hs
            refine lv_icmp_ne (tgt := 150) hx hb dL_isBank_84 (by decide) (fun c53 => ?_) (fun c53 => ?_)
            · have hs := ite_f hs c53
              exact hj45 _ _ _ hs hW hS (lv_sub hl [0, 1, 2, 4, 5, 6, 7] rfl)
            · have hs := ite_t hs c53
              refine lv_iload hx hb dL_isBank_87 (lv_at hl 3 rfl) ?_
              refine lv_bipush (v := (-4 : Int32)) hx hb dL_isBank_89 (by decide) ?_
              obtain ⟨kj54, ekj54, hs⟩ := bnd_e hs
              have hj54 : ∀ (H : Heap) (locs : List Loc) (ls : Array Slot), kj54 = some r → Wd G Λ μ H → va_S (inL Λ) s.heap H locs → lv_has ls 11 [(7, .int (0 : Int32)), (6, .int (0 : Int32)), (5, .int (0 : Int32)), (3, .int q2), (2, .int q1), (0, .ref a0), (1, .int a1)] → W p l e (rmd 7) s m args below meth c H locs 0 0 (MQ below (QI G Λ r μ) args s 0 0 (inL Λ)) (F0 m 146 ls []) := by
                intro  H locs ls hs hW hS hl
                have hs := ekj54.symm.trans hs
                refine lv_iconst (v := (1 : Int32)) hx hb dL_isBank_146 (by decide) ?_
                refine lv_goto (tgt := 151) hx hb dL_isBank_147 (by decide) ?_
                exact hj5 (1 : Int32) _ _ _ hs hW hS (lv_sub hl [0, 1, 2, 3, 4, 5, 6] rfl)
              refine lv_icmp_ne (tgt := 106) hx hb dL_isBank_91 (by decide) (fun c55 => ?_) (fun c55 => ?_)
              · have hs := ite_f hs c55
                refine lv_aload_n hx hb dL_isBank_106 rfl (lv_at hl 6 rfl) ?_
                refine lv_iload hx hb dL_isBank_107 (lv_at hl 3 rfl) ?_
                refine lv_iload_n hx hb dL_isBank_109 rfl (lv_at hl 7 rfl) ?_
                obtain ⟨q56, hq56, hs⟩ := obind_e hs
                refine end_i (run_V (q := (RX4, TX4, 11)) (ci := 4) hF hKK hW hS hl.1 k0 (by decide) rfl (c_X4_isRope l hOK k0 hq56) (kw_L_81 hF.2.2.2.2 ⟨Nat.le_of_ble_eq_true rfl, Nat.le_of_ble_eq_true rfl⟩) rfl rfl (Nat.le_of_ble_eq_true rfl) dL_isBank_110 ⟨Nat.zero_le _, Nat.zero_le _⟩) hS (fun H locs hW hS => ?_)
                refine lv_iconst (v := (1 : Int32)) hx hb dL_isBank_113 (by decide) ?_
                refine lv_icmp_ne (tgt := 150) hx hb dL_isBank_114 (by decide) (fun c57 => ?_) (fun c57 => ?_)
                · have hs := ite_f hs c57
                  exact hj45 _ _ _ hs hW hS (lv_sub hl [0, 1, 2, 4, 5, 6, 7] rfl)
                · have hs := ite_t hs c57
                  refine lv_aload_n hx hb dL_isBank_117 rfl (lv_at hl 6 rfl) ?_
                  refine lv_iload_n hx hb dL_isBank_118 rfl (lv_at hl 7 rfl) ?_
                  refine lv_iconst (v := (2 : Int32)) hx hb dL_isBank_119 (by decide) ?_
                  obtain ⟨q58, hq58, hs⟩ := obind_e hs
                  refine end_i (run_V (q := (RX4, TX4, 11)) (ci := 4) hF hKK hW hS hl.1 k0 (by decide) rfl (c_X4_bankOf l hOK k0 hq58) (kw_L_34 hF.2.2.2.2 ⟨Nat.le_of_ble_eq_true rfl, Nat.le_of_ble_eq_true rfl⟩) rfl rfl (Nat.le_of_ble_eq_true rfl) dL_isBank_120 ⟨Nat.zero_le _, Nat.zero_le _⟩) hS (fun H locs hW hS => ?_)
                  refine lv_aload_n hx hb dL_isBank_123 rfl (lv_at hl 6 rfl) ?_
                  refine lv_iload hx hb dL_isBank_124 (lv_at hl 3 rfl) ?_
                  refine lv_iconst (v := (2 : Int32)) hx hb dL_isBank_126 (by decide) ?_
                  obtain ⟨q59, hq59, hs⟩ := obind_e hs
                  refine end_i (run_V (q := (RX4, TX4, 11)) (ci := 4) hF hKK hW hS hl.1 k0 (by decide) rfl (c_X4_bankOf l hOK k0 hq59) (kw_L_34 hF.2.2.2.2 ⟨Nat.le_of_ble_eq_true rfl, Nat.le_of_ble_eq_true rfl⟩) rfl rfl (Nat.le_of_ble_eq_true rfl) dL_isBank_127 ⟨Nat.zero_le _, Nat.zero_le _⟩) hS (fun H locs hW hS => ?_)
                  refine lv_iconst (v := (1 : Int32)) hx hb dL_isBank_130 (by decide) ?_
                  refine lv_iadd hx hb dL_isBank_131 ?_
                  refine lv_icmp_ne (tgt := 150) hx hb dL_isBank_132 (by decide) (fun c60 => ?_) (fun c60 => ?_)
                  · have hs := ite_f hs c60
                    exact hj45 _ _ _ hs hW hS (lv_sub hl [0, 1, 2, 4, 5, 6, 7] rfl)
                  · have hs := ite_t hs c60
                    refine lv_aload_n hx hb dL_isBank_135 rfl (lv_at hl 6 rfl) ?_
                    refine lv_iload_n hx hb dL_isBank_136 rfl (lv_at hl 7 rfl) ?_
                    refine lv_iload hx hb dL_isBank_137 (lv_at hl 3 rfl) ?_
                    obtain ⟨q61, hq61, hs⟩ := obind_e hs
                    refine end_i (run_V (q := (RX4, TX4, 11)) (ci := 4) hF hKK hW hS hl.1 k0 (by decide) rfl (c_X4_isBelow l hOK k0 hq61) (kw_L_84 hF.2.2.2.2 ⟨Nat.le_of_ble_eq_true rfl, Nat.le_of_ble_eq_true rfl⟩) rfl rfl (Nat.le_of_ble_eq_true rfl) dL_isBank_139 ⟨Nat.zero_le _, Nat.zero_le _⟩) hS (fun H locs hW hS => ?_)
                    refine lv_iconst (v := (1 : Int32)) hx hb dL_isBank_142 (by decide) ?_
                    refine lv_icmp_ne (tgt := 150) hx hb dL_isBank_143 (by decide) (fun c62 => ?_) (fun c62 => ?_)
                    · have hs := ite_f hs c62
                      exact hj45 _ _ _ hs hW hS (lv_sub hl [0, 1, 2, 4, 5, 6, 7] rfl)
                    · have hs := ite_t hs c62
                      exact hj54 _ _ _ hs hW hS (lv_sub hl [0, 1, 2, 4, 5, 6, 7] rfl)
              · have hs := ite_t hs c55
                refine lv_aload_n hx hb dL_isBank_94 rfl (lv_at hl 6 rfl) ?_
                refine lv_iload_n hx hb dL_isBank_95 rfl (lv_at hl 7 rfl) ?_
                refine lv_iconst (v := (2 : Int32)) hx hb dL_isBank_96 (by decide) ?_
                obtain ⟨q63, hq63, hs⟩ := obind_e hs
                refine end_i (run_V (q := (RX4, TX4, 11)) (ci := 4) hF hKK hW hS hl.1 k0 (by decide) rfl (c_X4_bankOf l hOK k0 hq63) (kw_L_34 hF.2.2.2.2 ⟨Nat.le_of_ble_eq_true rfl, Nat.le_of_ble_eq_true rfl⟩) rfl rfl (Nat.le_of_ble_eq_true rfl) dL_isBank_97 ⟨Nat.zero_le _, Nat.zero_le _⟩) hS (fun H locs hW hS => ?_)
                refine lv_if_ne (tgt := 150) hx hb dL_isBank_100 (by decide) (fun c64 => ?_) (fun c64 => ?_)
                · have hs := ite_f hs c64
                  exact hj45 _ _ _ hs hW hS (lv_sub hl [0, 1, 2, 4, 5, 6, 7] rfl)
                · have hs := ite_t hs c64
                  refine lv_goto (tgt := 146) hx hb dL_isBank_103 (by decide) ?_
                  exact hj54 _ _ _ hs hW hS (lv_sub hl [0, 1, 2, 4, 5, 6, 7] rfl)
          refine lv_icmp_ne (tgt := 83) hx hb dL_isBank_76 (by decide) (fun c65 => ?_) (fun c65 => ?_)
          · have hs := ite_f hs c65
            refine lv_iconst (v := (0 : Int32)) hx hb dL_isBank_83 (by decide) ?_
            exact hj52 (0 : Int32) _ _ _ hs hW hS (lv_sub hl [0, 1, 2, 3, 4, 5, 6, 7] rfl)
          · have hs := ite_t hs c65
            refine lv_iconst (v := (1 : Int32)) hx hb dL_isBank_79 (by decide) ?_
            refine lv_goto (tgt := 84) hx hb dL_isBank_80 (by decide) ?_
            exact hj52 (1 : Int32) _ _ _ hs hW hS (lv_sub hl [0, 1, 2, 3, 4, 5, 6, 7] rfl)
        refine lv_icmp_ne (tgt := 68) hx hb dL_isBank_61 (by decide) (fun c66 => ?_) (fun c66 => ?_)
        · have hs := ite_f hs c66
          refine lv_iconst (v := (0 : Int32)) hx hb dL_isBank_68 (by decide) ?_
          exact hj50 (0 : Int32) _ _ _ hs hW hS (lv_sub hl [0, 1, 2, 3, 4, 5, 6, 7] rfl)
        · have hs := ite_t hs c66
          refine lv_iconst (v := (1 : Int32)) hx hb dL_isBank_64 (by decide) ?_
          refine lv_goto (tgt := 69) hx hb dL_isBank_65 (by decide) ?_
          exact hj50 (1 : Int32) _ _ _ hs hW hS (lv_sub hl [0, 1, 2, 3, 4, 5, 6, 7] rfl)

set_option maxHeartbeats 4000000 in
set_option maxRecDepth 100000 in
theorem cl_L_isPair_321 {p : Program} {l : Launch} {e : Env} {s : State} {m : MethodId} {args : Array Value} {below : List Frame} {meth : Method} {c : Code} {G : va_G} {Λ : Lay} {μ : Mem} {r : Int32} (hOK : LayOK Λ) (hF : CallFix p m c cL_isPair 8 s args tw RL) (hKK : KK G Λ s) (hr : meth.sig.returnType = (some .boolean)) (hlocks : meth.locks = false) {x0 : Nat} (kx0 : inK Λ x0 4) {x1 : Int32} {x2 : Int32} {x5 : Int32} : ∀ (n : Nat) (x6 : Int32) (x7 : Int32) (H : Heap) (locs : List Loc) (ls : Array Slot), lpL_isPair_321 Λ μ x0 x1 x2 x5 n x6 x7 = some r → Wd G Λ μ H → va_S (inL Λ) s.heap H locs → lv_has ls 8 [(0, .ref x0), (1, .int x1), (2, .int x2), (5, .int x5), (6, .int x6), (7, .int x7)] → W p l e (rmd 8) s m args below meth c H locs 0 0 (MQ below (QI G Λ r μ) args s 0 0 (inL Λ)) (F0 m 321 ls []) := by
  have hx := hF.1
  have hb := hF.2.1
  have hA : ∀ q, inL Λ q → inL Λ q := fun _ h => h
  intro n
  induction n with
  | zero =>
    intro x6 x7 H locs ls hs hW hS hl
    cases hs
  | succ n321 ih321 =>
    intro x6 x7 H locs ls hs hW hS hl
    rw [lpL_isPair_321_s] at hs
    refine lv_iload hx hb dL_isPair_321 (lv_at hl 4 rfl) ?_
    obtain ⟨kj21, ekj21, hs⟩ := bnd_e hs
    have hj21 : ∀ (H : Heap) (locs : List Loc) (ls : Array Slot), kj21 = some r → Wd G Λ μ H → va_S (inL Λ) s.heap H locs → lv_has ls 8 [(0, .ref x0), (1, .int x1), (2, .int x2), (5, .int x5), (6, .int x6)] → W p l e (rmd 8) s m args below meth c H locs 0 0 (MQ below (QI G Λ r μ) args s 0 0 (inL Λ)) (F0 m 394 ls []) := by
      intro  H locs ls hs hW hS hl
      have hs := ekj21.symm.trans hs
      refine lv_iload hx hb dL_isPair_394 (lv_at hl 4 rfl) ?_
      obtain ⟨kj22, ekj22, hs⟩ := bnd_e hs
      have hj22 : ∀ (j22 : Int32) (H : Heap) (locs : List Loc) (ls : Array Slot), kj22 j22 = some r → Wd G Λ μ H → va_S (inL Λ) s.heap H locs → lv_has ls 8 [] → W p l e (rmd 8) s m args below meth c H locs 0 0 (MQ below (QI G Λ r μ) args s 0 0 (inL Λ)) (F0 m 419 ls [.int j22]) := by
        intro j22 H locs ls hs hW hS hl
        have hs := kj1 ekj22 hs
        obtain ⟨g23, hs⟩ := gd_some hs
        have h9 := Option.some.inj hs
        rw [← h9]
        exact wr_i hF hr hlocks (isB_nar g23) hW hS dL_isPair_419
      obtain ⟨kj24, ekj24, hs⟩ := bnd_e hs
      have hj24 : ∀ (H : Heap) (locs : List Loc) (ls : Array Slot), kj24 = some r → Wd G Λ μ H → va_S (inL Λ) s.heap H locs → lv_has ls 8 [] → W p l e (rmd 8) s m args below meth c H locs 0 0 (MQ below (QI G Λ r μ) args s 0 0 (inL Λ)) (F0 m 418 ls []) := by
        intro  H locs ls hs hW hS hl
        have hs := ekj24.symm.trans hs
        refine lv_iconst (v := (0 : Int32)) hx hb dL_isPair_418 (by decide) ?_
        exact hj22 (0 : Int32) _ _ _ hs hW hS (lv_sub hl [] rfl)
      refine lv_if_eq (tgt := 418) hx hb dL_isPair_396 (by decide) (fun c25 => ?_) (fun c25 => ?_)
      · have hs := ite_t hs c25
        exact hj24 _ _ _ hs hW hS (lv_sub hl [] rfl)
      · have hs := ite_f hs c25
        refine lv_iload hx hb dL_isPair_399 (lv_at hl 3 rfl) ?_
        refine lv_iconst (v := (1 : Int32)) hx hb dL_isPair_401 (by decide) ?_
        obtain ⟨kj26, ekj26, hs⟩ := bnd_e hs
        have hj26 : ∀ (H : Heap) (locs : List Loc) (ls : Array Slot), kj26 = some r → Wd G Λ μ H → va_S (inL Λ) s.heap H locs → lv_has ls 8 [] → W p l e (rmd 8) s m args below meth c H locs 0 0 (MQ below (QI G Λ r μ) args s 0 0 (inL Λ)) (F0 m 414 ls []) := by
          intro  H locs ls hs hW hS hl
          have hs := ekj26.symm.trans hs
          refine lv_iconst (v := (1 : Int32)) hx hb dL_isPair_414 (by decide) ?_
          refine lv_goto (tgt := 419) hx hb dL_isPair_415 (by decide) ?_
          exact hj22 (1 : Int32) _ _ _ hs hW hS (lv_sub hl [] rfl)
        refine lv_icmp_ne (tgt := 414) hx hb dL_isPair_402 (by decide) (fun c27 => ?_) (fun c27 => ?_)
        · have hs := ite_f hs c27
          exact hj26 _ _ _ hs hW hS (lv_sub hl [] rfl)
        · have hs := ite_t hs c27
          refine lv_aload_n hx hb dL_isPair_405 rfl (lv_at hl 0 rfl) ?_
          refine lv_iload_n hx hb dL_isPair_406 rfl (lv_at hl 1 rfl) ?_
          refine lv_iload_n hx hb dL_isPair_407 rfl (lv_at hl 2 rfl) ?_
          obtain ⟨q28, hq28, hs⟩ := obind_e hs
          refine end_i (run_S hF hKK hW hS hl.1 (c_L_isDiffering l hOK kx0 hq28) (kw_L_106 hF.2.2.2.2 ⟨Nat.le_of_ble_eq_true rfl, Nat.le_of_ble_eq_true rfl⟩) rfl rfl (Nat.le_of_ble_eq_true rfl) dL_isPair_408 ⟨Nat.zero_le _, Nat.zero_le _⟩) hS (fun H locs hW hS => ?_)
          refine lv_if_eq (tgt := 418) hx hb dL_isPair_411 (by decide) (fun c29 => ?_) (fun c29 => ?_)
          · have hs := ite_t hs c29
            exact hj24 _ _ _ hs hW hS (lv_sub hl [] rfl)
          · have hs := ite_f hs c29
            exact hj26 _ _ _ hs hW hS (lv_sub hl [] rfl)
    refine lv_if_eq (tgt := 394) hx hb dL_isPair_323 (by decide) (fun c30 => ?_) (fun c30 => ?_)
    · have hs := ite_t hs c30
      exact hj21 _ _ _ hs hW hS (lv_sub hl [0, 1, 2, 3, 4] rfl)
    · have hs := ite_f hs c30
      refine lv_iload hx hb dL_isPair_326 (lv_at hl 5 rfl) ?_
      refine lv_iload hx hb dL_isPair_328 (lv_at hl 3 rfl) ?_
      refine lv_icmp_gt (tgt := 394) hx hb dL_isPair_330 (by decide) (fun c31 => ?_) (fun c31 => ?_)
      · have hs := ite_t hs c31
        exact hj21 _ _ _ hs hW hS (lv_sub hl [0, 1, 2, 3, 4] rfl)
      · have hs := ite_f hs c31
        refine lv_aload_n hx hb dL_isPair_333 rfl (lv_at hl 0 rfl) ?_
        refine lv_aload_n hx hb dL_isPair_334 rfl (lv_at hl 0 rfl) ?_
        refine lv_iload_n hx hb dL_isPair_335 rfl (lv_at hl 1 rfl) ?_
        refine lv_iload_n hx hb dL_isPair_336 rfl (lv_at hl 2 rfl) ?_
        refine lv_iload hx hb dL_isPair_337 (lv_at hl 5 rfl) ?_
        refine lv_iconst (v := (1 : Int32)) hx hb dL_isPair_339 (by decide) ?_
        refine lv_isub hx hb dL_isPair_340 ?_
        obtain ⟨q32, hq32, hs⟩ := obind_e hs
        refine end_i (run_V (q := (RX4, TX4, 11)) (ci := 4) hF hKK hW hS hl.1 kx0 (by decide) rfl (c_X4_way l hOK kx0 hq32) (kw_L_96 hF.2.2.2.2 ⟨Nat.le_of_ble_eq_true rfl, Nat.le_of_ble_eq_true rfl⟩) rfl rfl (Nat.le_of_ble_eq_true rfl) dL_isPair_341 ⟨Nat.zero_le _, Nat.zero_le _⟩) hS (fun H locs hW hS => ?_)
        refine lv_aload_n hx hb dL_isPair_344 rfl (lv_at hl 0 rfl) ?_
        refine lv_iload_n hx hb dL_isPair_345 rfl (lv_at hl 1 rfl) ?_
        refine lv_iload_n hx hb dL_isPair_346 rfl (lv_at hl 2 rfl) ?_
        refine lv_iload hx hb dL_isPair_347 (lv_at hl 5 rfl) ?_
        obtain ⟨q33, hq33, hs⟩ := obind_e hs
        refine end_i (run_V (q := (RX4, TX4, 11)) (ci := 4) hF hKK hW hS hl.1 kx0 (by decide) rfl (c_X4_way l hOK kx0 hq33) (kw_L_96 hF.2.2.2.2 ⟨Nat.le_of_ble_eq_true rfl, Nat.le_of_ble_eq_true rfl⟩) rfl rfl (Nat.le_of_ble_eq_true rfl) dL_isPair_349 ⟨Nat.zero_le _, Nat.zero_le _⟩) hS (fun H locs hW hS => ?_)
        obtain ⟨q34, hq34, hs⟩ := obind_e hs
        refine end_i (run_V (q := (RX4, TX4, 11)) (ci := 4) hF hKK hW hS hl.1 kx0 (by decide) rfl (c_X4_isRope l hOK kx0 hq34) (kw_L_81 hF.2.2.2.2 ⟨Nat.le_of_ble_eq_true rfl, Nat.le_of_ble_eq_true rfl⟩) rfl rfl (Nat.le_of_ble_eq_true rfl) dL_isPair_352 ⟨Nat.zero_le _, Nat.zero_le _⟩) hS (fun H locs hW hS => ?_)
        refine lv_iconst (v := (1 : Int32)) hx hb dL_isPair_355 (by decide) ?_
        obtain ⟨kj35, ekj35, hs⟩ := bnd_e hs
        have hj35 : ∀ (j35 : Int32) (H : Heap) (locs : List Loc) (ls : Array Slot), kj35 j35 = some r → Wd G Λ μ H → va_S (inL Λ) s.heap H locs → lv_has ls 8 [(0, .ref x0), (1, .int x1), (2, .int x2), (5, .int x5), (7, .int x7)] → W p l e (rmd 8) s m args below meth c H locs 0 0 (MQ below (QI G Λ r μ) args s 0 0 (inL Λ)) (F0 m 386 ls [.int j35]) := by
          intro j35 H locs ls hs hW hS hl
          have hs := kj1 ekj35 hs
          refine lv_istore (lv' := [(6, .int j35), (0, .ref x0), (1, .int x1), (2, .int x2), (5, .int x5), (7, .int x7)]) hx hb dL_isPair_386 hl (by decide) rfl (fun ls hl => ?_)
          obtain ⟨v36, ev36, hs⟩ := bnd_e hs
          refine lv_iinc (v := v36) (lv' := [(7, .int v36), (6, .int j35), (0, .ref x0), (1, .int x1), (2, .int x2), (5, .int x5)]) hx hb dL_isPair_388 hl (k := 5) rfl (by rw [ev36]; rfl) (by decide) rfl (fun ls hl => ?_)
          refine lv_goto (tgt := 321) hx hb dL_isPair_391 (by decide) ?_
          exact ih321 j35 v36 _ _ _ hs hW hS (lv_sub hl [2, 3, 4, 5, 1, 0] rfl)
        obtain ⟨kj37, ekj37, hs⟩ := bnd_e hs
        have hj37 : ∀ (H : Heap) (locs : List Loc) (ls : Array Slot), kj37 = some r → Wd G Λ μ H → va_S (inL Λ) s.heap H locs → lv_has ls 8 [(0, .ref x0), (1, .int x1), (2, .int x2), (5, .int x5), (7, .int x7)] → W p l e (rmd 8) s m args below meth c H locs 0 0 (MQ below (QI G Λ r μ) args s 0 0 (inL Λ)) (F0 m 385 ls []) := by
          intro  H locs ls hs hW hS hl
          have hs := ekj37.symm.trans hs
          refine lv_iconst (v := (0 : Int32)) hx hb dL_isPair_385 (by decide) ?_
          exact hj35 (0 : Int32) _ _ _ hs hW hS (lv_sub hl [0, 1, 2, 3, 4] rfl)
        refine lv_icmp_ne (tgt := 385) hx hb dL_isPair_356 (by decide) (fun c38 => ?_) (fun c38 => ?_)
        · have hs := ite_f hs c38
          exact hj37 _ _ _ hs hW hS (lv_sub hl [0, 1, 2, 3, 5] rfl)
        · have hs := ite_t hs c38
          refine lv_aload_n hx hb dL_isPair_359 rfl (lv_at hl 0 rfl) ?_
          refine lv_iload_n hx hb dL_isPair_360 rfl (lv_at hl 1 rfl) ?_
          refine lv_iload_n hx hb dL_isPair_361 rfl (lv_at hl 2 rfl) ?_
          refine lv_iload hx hb dL_isPair_362 (lv_at hl 5 rfl) ?_
          obtain ⟨q39, hq39, hs⟩ := obind_e hs
          refine end_i (run_V (q := (RX4, TX4, 11)) (ci := 4) hF hKK hW hS hl.1 kx0 (by decide) rfl (c_X4_way l hOK kx0 hq39) (kw_L_96 hF.2.2.2.2 ⟨Nat.le_of_ble_eq_true rfl, Nat.le_of_ble_eq_true rfl⟩) rfl rfl (Nat.le_of_ble_eq_true rfl) dL_isPair_364 ⟨Nat.zero_le _, Nat.zero_le _⟩) hS (fun H locs hW hS => ?_)
          refine lv_aload_n hx hb dL_isPair_367 rfl (lv_at hl 0 rfl) ?_
          refine lv_iload_n hx hb dL_isPair_368 rfl (lv_at hl 2 rfl) ?_
          refine lv_iload_n hx hb dL_isPair_369 rfl (lv_at hl 1 rfl) ?_
          refine lv_iload hx hb dL_isPair_370 (lv_at hl 3 rfl) ?_
          refine lv_iload hx hb dL_isPair_372 (lv_at hl 5 rfl) ?_
          refine lv_isub hx hb dL_isPair_374 ?_
          obtain ⟨q40, hq40, hs⟩ := obind_e hs
          refine end_i (run_V (q := (RX4, TX4, 11)) (ci := 4) hF hKK hW hS hl.1 kx0 (by decide) rfl (c_X4_way l hOK kx0 hq40) (kw_L_96 hF.2.2.2.2 ⟨Nat.le_of_ble_eq_true rfl, Nat.le_of_ble_eq_true rfl⟩) rfl rfl (Nat.le_of_ble_eq_true rfl) dL_isPair_375 ⟨Nat.zero_le _, Nat.zero_le _⟩) hS (fun H locs hW hS => ?_)
          refine lv_icmp_ne (tgt := 385) hx hb dL_isPair_378 (by decide) (fun c41 => ?_) (fun c41 => ?_)
          · have hs := ite_f hs c41
            exact hj37 _ _ _ hs hW hS (lv_sub hl [0, 1, 2, 3, 5] rfl)
          · have hs := ite_t hs c41
            refine lv_iconst (v := (1 : Int32)) hx hb dL_isPair_381 (by decide) ?_
            refine lv_goto (tgt := 386) hx hb dL_isPair_382 (by decide) ?_
            exact hj35 (1 : Int32) _ _ _ hs hW hS (lv_sub hl [0, 1, 2, 3, 5] rfl)

set_option maxHeartbeats 4000000 in
set_option maxRecDepth 100000 in
theorem c_L_isPair (l : Launch) {G : va_G} {Λ : Lay} {μ : Mem} (hOK : LayOK Λ) {a0 : Nat} (k0 : inK Λ a0 4) {a1 : Int32} {a2 : Int32} {r : Int32} (hs : sL_isPair Λ μ a0 a1 a2 = some r) : CM l G Λ yL_isPair cL_isPair 8 (some .boolean) 8 μ [.ref a0, .int a1, .int a2] (QI G Λ r μ) := by
  refine ofM (own := RL) (by decide +kernel) rfl (Nat.le_of_ble_eq_true rfl) (fun p e s m args below meth c ls hF hKK hW hr hlocks hl => ?_)
  have hx := hF.1
  have hb := hF.2.1
  have hA : ∀ q, inL Λ q → inL Λ q := fun _ h => h
  have hS : va_S (inL Λ) s.heap s.heap [] := va_S.rf
  have hl : lv_has ls 8 [(0, .ref a0), (1, .int a1), (2, .int a2)] := hl
  unfold sL_isPair at hs
  refine lv_aload_n hx hb dL_isPair_0 rfl (lv_at hl 0 rfl) ?_
  refine lv_iload_n hx hb dL_isPair_1 rfl (lv_at hl 1 rfl) ?_
  refine lv_iload_n hx hb dL_isPair_2 rfl (lv_at hl 2 rfl) ?_
  obtain ⟨q1, hq1, hs⟩ := obind_e hs
  refine end_i (run_V (q := (RX4, TX4, 11)) (ci := 4) hF hKK hW hS hl.1 k0 (by decide) rfl (c_X4_areJoined l hOK k0 hq1) (kw_L_90 hF.2.2.2.2 ⟨Nat.le_of_ble_eq_true rfl, Nat.le_of_ble_eq_true rfl⟩) rfl rfl (Nat.le_of_ble_eq_true rfl) dL_isPair_3 ⟨Nat.zero_le _, Nat.zero_le _⟩) hS (fun H locs hW hS => ?_)
  refine lv_iconst (v := (1 : Int32)) hx hb dL_isPair_6 (by decide) ?_
  obtain ⟨kj2, ekj2, hs⟩ := bnd_e hs
  have hj2 : ∀ (j2 : Int32) (H : Heap) (locs : List Loc) (ls : Array Slot), kj2 j2 = some r → Wd G Λ μ H → va_S (inL Λ) s.heap H locs → lv_has ls 8 [(0, .ref a0), (1, .int a1), (2, .int a2)] → W p l e (rmd 8) s m args below meth c H locs 0 0 (MQ below (QI G Λ r μ) args s 0 0 (inL Λ)) (F0 m 15 ls [.int j2]) := by
    intro j2 H locs ls hs hW hS hl
    have hs := kj1 ekj2 hs
    refine lv_istore_n (lv' := [(3, .int j2), (0, .ref a0), (1, .int a1), (2, .int a2)]) hx hb dL_isPair_15 rfl hl (by decide) rfl (fun ls hl => ?_)
    refine lv_aload_n hx hb dL_isPair_16 rfl (lv_at hl 1 rfl) ?_
    refine lv_iload_n hx hb dL_isPair_17 rfl (lv_at hl 2 rfl) ?_
    refine lv_iload_n hx hb dL_isPair_18 rfl (lv_at hl 3 rfl) ?_
    obtain ⟨q3, hq3, hs⟩ := obind_e hs
    refine end_i (run_V (q := (RX4, TX4, 11)) (ci := 4) hF hKK hW hS hl.1 k0 (by decide) rfl (c_X4_meet l hOK k0 hq3) (kw_L_93 hF.2.2.2.2 ⟨Nat.le_of_ble_eq_true rfl, Nat.le_of_ble_eq_true rfl⟩) rfl rfl (Nat.le_of_ble_eq_true rfl) dL_isPair_19 ⟨Nat.zero_le _, Nat.zero_le _⟩) hS (fun H locs hW hS => ?_)
    refine lv_istore (lv' := [(4, .int q3), (3, .int j2), (0, .ref a0), (1, .int a1), (2, .int a2)]) hx hb dL_isPair_22 hl (by decide) rfl (fun ls hl => ?_)
    refine lv_aload_n hx hb dL_isPair_24 rfl (lv_at hl 2 rfl) ?_
    refine lv_iload_n hx hb dL_isPair_25 rfl (lv_at hl 3 rfl) ?_
    refine lv_iload_n hx hb dL_isPair_26 rfl (lv_at hl 4 rfl) ?_
    refine lv_iconst (v := (-1 : Int32)) hx hb dL_isPair_27 (by decide) ?_
    obtain ⟨q4, hq4, hs⟩ := obind_e hs
    refine end_i (run_V (q := (RX4, TX4, 11)) (ci := 4) hF hKK hW hS hl.1 k0 (by decide) rfl (c_X4_way l hOK k0 hq4) (kw_L_96 hF.2.2.2.2 ⟨Nat.le_of_ble_eq_true rfl, Nat.le_of_ble_eq_true rfl⟩) rfl rfl (Nat.le_of_ble_eq_true rfl) dL_isPair_28 ⟨Nat.zero_le _, Nat.zero_le _⟩) hS (fun H locs hW hS => ?_)
    refine lv_istore (lv' := [(5, .int q4), (4, .int q3), (3, .int j2), (0, .ref a0), (1, .int a1), (2, .int a2)]) hx hb dL_isPair_31 hl (by decide) rfl (fun ls hl => ?_)
    refine lv_aload_n hx hb dL_isPair_33 rfl (lv_at hl 3 rfl) ?_
    refine lv_iload_n hx hb dL_isPair_34 rfl (lv_at hl 4 rfl) ?_
    refine lv_iload_n hx hb dL_isPair_35 rfl (lv_at hl 5 rfl) ?_
    obtain ⟨q5, hq5, hs⟩ := obind_e hs
    refine end_i (run_V (q := (RX4, TX4, 11)) (ci := 4) hF hKK hW hS hl.1 k0 (by decide) rfl (c_X4_areJoinedAgain l hOK k0 hq5) (kw_L_100 hF.2.2.2.2 ⟨Nat.le_of_ble_eq_true rfl, Nat.le_of_ble_eq_true rfl⟩) rfl rfl (Nat.le_of_ble_eq_true rfl) dL_isPair_36 ⟨Nat.zero_le _, Nat.zero_le _⟩) hS (fun H locs hW hS => ?_)
    refine lv_iload_n hx hb dL_isPair_39 rfl (lv_at hl 2 rfl) ?_
    obtain ⟨kj6, ekj6, hs⟩ := bnd_e hs
    have hj6 : ∀ (j6 : Int32) (H : Heap) (locs : List Loc) (ls : Array Slot), kj6 j6 = some r → Wd G Λ μ H → va_S (inL Λ) s.heap H locs → lv_has ls 8 [(5, .int q4), (4, .int q3), (3, .int j2), (0, .ref a0), (1, .int a1), (2, .int a2)] → W p l e (rmd 8) s m args below meth c H locs 0 0 (MQ below (QI G Λ r μ) args s 0 0 (inL Λ)) (F0 m 48 ls [.int j6, .int q5]) := by
      intro j6 H locs ls hs hW hS hl
      have hs := kj1 ekj6 hs
      obtain ⟨kj7, ekj7, hs⟩ := bnd_e hs
      have hj7 : ∀ (j7 : Int32) (H : Heap) (locs : List Loc) (ls : Array Slot), kj7 j7 = some r → Wd G Λ μ H → va_S (inL Λ) s.heap H locs → lv_has ls 8 [(5, .int q4), (4, .int q3), (3, .int j2), (0, .ref a0), (1, .int a1), (2, .int a2)] → W p l e (rmd 8) s m args below meth c H locs 0 0 (MQ below (QI G Λ r μ) args s 0 0 (inL Λ)) (F0 m 152 ls [.int j7]) := by
        intro j7 H locs ls hs hW hS hl
        have hs := kj1 ekj7 hs
        refine lv_istore (lv' := [(6, .int j7), (5, .int q4), (4, .int q3), (3, .int j2), (0, .ref a0), (1, .int a1), (2, .int a2)]) hx hb dL_isPair_152 hl (by decide) rfl (fun ls hl => ?_)
        refine lv_iload hx hb dL_isPair_154 (lv_at hl 0 rfl) ?_
        obtain ⟨kj8, ekj8, hs⟩ := bnd_e hs
        have hj8 : ∀ (H : Heap) (locs : List Loc) (ls : Array Slot), kj8 = some r → Wd G Λ μ H → va_S (inL Λ) s.heap H locs → lv_has ls 8 [(6, .int j7), (0, .ref a0), (1, .int a1), (2, .int a2)] → W p l e (rmd 8) s m args below meth c H locs 0 0 (MQ below (QI G Λ r μ) args s 0 0 (inL Λ)) (F0 m 163 ls []) := by
          intro  H locs ls hs hW hS hl
          have hs := ekj8.symm.trans hs
          refine lv_iload hx hb dL_isPair_163 (lv_at hl 0 rfl) ?_
          obtain ⟨kj9, ekj9, hs⟩ := bnd_e hs
          have hj9 : ∀ (j9 : Int32) (H : Heap) (locs : List Loc) (ls : Array Slot), kj9 j9 = some r → Wd G Λ μ H → va_S (inL Λ) s.heap H locs → lv_has ls 8 [] → W p l e (rmd 8) s m args below meth c H locs 0 0 (MQ below (QI G Λ r μ) args s 0 0 (inL Λ)) (F0 m 182 ls [.int j9]) := by
            intro j9 H locs ls hs hW hS hl
            have hs := kj1 ekj9 hs
            obtain ⟨g10, hs⟩ := gd_some hs
            have h9 := Option.some.inj hs
            rw [← h9]
            exact wr_i hF hr hlocks (isB_nar g10) hW hS dL_isPair_182
          obtain ⟨kj11, ekj11, hs⟩ := bnd_e hs
          have hj11 : ∀ (H : Heap) (locs : List Loc) (ls : Array Slot), kj11 = some r → Wd G Λ μ H → va_S (inL Λ) s.heap H locs → lv_has ls 8 [] → W p l e (rmd 8) s m args below meth c H locs 0 0 (MQ below (QI G Λ r μ) args s 0 0 (inL Λ)) (F0 m 181 ls []) := by
            intro  H locs ls hs hW hS hl
            have hs := ekj11.symm.trans hs
            refine lv_iconst (v := (0 : Int32)) hx hb dL_isPair_181 (by decide) ?_
            exact hj9 (0 : Int32) _ _ _ hs hW hS (lv_sub hl [] rfl)
          refine lv_if_eq (tgt := 181) hx hb dL_isPair_165 (by decide) (fun c12 => ?_) (fun c12 => ?_)
          · have hs := ite_t hs c12
            exact hj11 _ _ _ hs hW hS (lv_sub hl [] rfl)
          · have hs := ite_f hs c12
            refine lv_aload_n hx hb dL_isPair_168 rfl (lv_at hl 1 rfl) ?_
            refine lv_iload_n hx hb dL_isPair_169 rfl (lv_at hl 2 rfl) ?_
            refine lv_iload_n hx hb dL_isPair_170 rfl (lv_at hl 3 rfl) ?_
            obtain ⟨q13, hq13, hs⟩ := obind_e hs
            refine end_i (run_V (q := (RX4, TX4, 11)) (ci := 4) hF hKK hW hS hl.1 k0 (by decide) rfl (c_X4_isRope l hOK k0 hq13) (kw_L_81 hF.2.2.2.2 ⟨Nat.le_of_ble_eq_true rfl, Nat.le_of_ble_eq_true rfl⟩) rfl rfl (Nat.le_of_ble_eq_true rfl) dL_isPair_171 ⟨Nat.zero_le _, Nat.zero_le _⟩) hS (fun H locs hW hS => ?_)
            refine lv_if_ne (tgt := 181) hx hb dL_isPair_174 (by decide) (fun c14 => ?_) (fun c14 => ?_)
            · have hs := ite_f hs c14
              exact hj11 _ _ _ hs hW hS (lv_sub hl [] rfl)
            · have hs := ite_t hs c14
              refine lv_iconst (v := (1 : Int32)) hx hb dL_isPair_177 (by decide) ?_
              refine lv_goto (tgt := 182) hx hb dL_isPair_178 (by decide) ?_
              exact hj9 (1 : Int32) _ _ _ hs hW hS (lv_sub hl [] rfl)
        refine lv_if_eq (tgt := 163) hx hb dL_isPair_156 (by decide) (fun c15 => ?_) (fun c15 => ?_)
        · have hs := ite_t hs c15
          exact hj8 _ _ _ hs hW hS (lv_sub hl [0, 4, 5, 6] rfl)
        · have hs := ite_f hs c15
          refine lv_iload_n hx hb dL_isPair_159 rfl (lv_at hl 3 rfl) ?_
          refine lv_if_ne (tgt := 183) hx hb dL_isPair_160 (by decide) (fun c16 => ?_) (fun c16 => ?_)
          · have hs := ite_f hs c16
            refine lv_iload hx hb dL_isPair_183 (lv_at hl 1 rfl) ?_
            refine lv_aload_n hx hb dL_isPair_185 rfl (lv_at hl 4 rfl) ?_
            refine lv_iload_n hx hb dL_isPair_186 rfl (lv_at hl 5 rfl) ?_
            refine lv_iconst (v := (2 : Int32)) hx hb dL_isPair_187 (by decide) ?_
            obtain ⟨q17, hq17, hs⟩ := obind_e hs
            refine end_i (run_V (q := (RX4, TX4, 11)) (ci := 4) hF hKK hW hS hl.1 k0 (by decide) rfl (c_X4_bankOf l hOK k0 hq17) (kw_L_34 hF.2.2.2.2 ⟨Nat.le_of_ble_eq_true rfl, Nat.le_of_ble_eq_true rfl⟩) rfl rfl (Nat.le_of_ble_eq_true rfl) dL_isPair_188 ⟨Nat.zero_le _, Nat.zero_le _⟩) hS (fun H locs hW hS => ?_)
            refine lv_aload_n hx hb dL_isPair_191 rfl (lv_at hl 4 rfl) ?_
            refine lv_iload_n hx hb dL_isPair_192 rfl (lv_at hl 6 rfl) ?_
            refine lv_iconst (v := (2 : Int32)) hx hb dL_isPair_193 (by decide) ?_
            obtain ⟨q18, hq18, hs⟩ := obind_e hs
            refine end_i (run_V (q := (RX4, TX4, 11)) (ci := 4) hF hKK hW hS hl.1 k0 (by decide) rfl (c_X4_bankOf l hOK k0 hq18) (kw_L_34 hF.2.2.2.2 ⟨Nat.le_of_ble_eq_true rfl, Nat.le_of_ble_eq_true rfl⟩) rfl rfl (Nat.le_of_ble_eq_true rfl) dL_isPair_194 ⟨Nat.zero_le _, Nat.zero_le _⟩) hS (fun H locs hW hS => ?_)
            refine lv_iadd hx hb dL_isPair_197 ?_
            refine lv_iconst (v := (2 : Int32)) hx hb dL_isPair_198 (by decide) ?_
            refine lv_aload_n hx hb dL_isPair_199 rfl (lv_at hl 4 rfl) ?_
            refine lv_iload hx hb dL_isPair_200 (lv_at hl 2 rfl) ?_
            refine lv_iconst (v := (2 : Int32)) hx hb dL_isPair_202 (by decide) ?_
            obtain ⟨q19, hq19, hs⟩ := obind_e hs
            refine end_i (run_V (q := (RX4, TX4, 11)) (ci := 4) hF hKK hW hS hl.1 k0 (by decide) rfl (c_X4_bankOf l hOK k0 hq19) (kw_L_34 hF.2.2.2.2 ⟨Nat.le_of_ble_eq_true rfl, Nat.le_of_ble_eq_true rfl⟩) rfl rfl (Nat.le_of_ble_eq_true rfl) dL_isPair_203 ⟨Nat.zero_le _, Nat.zero_le _⟩) hS (fun H locs hW hS => ?_)
            refine lv_imul hx hb dL_isPair_206 ?_
            refine lv_isub hx hb dL_isPair_207 ?_
            obtain ⟨kj20, ekj20, hs⟩ := bnd_e hs
            have hj20 : ∀ (j20 : Int32) (H : Heap) (locs : List Loc) (ls : Array Slot), kj20 j20 = some r → Wd G Λ μ H → va_S (inL Λ) s.heap H locs → lv_has ls 8 [(5, .int q4), (0, .ref a0), (1, .int a1), (2, .int a2)] → W p l e (rmd 8) s m args below meth c H locs 0 0 (MQ below (QI G Λ r μ) args s 0 0 (inL Λ)) (F0 m 316 ls [.int j20]) := by
              intro j20 H locs ls hs hW hS hl
              have hs := kj1 ekj20 hs
              refine lv_istore (lv' := [(6, .int j20), (5, .int q4), (0, .ref a0), (1, .int a1), (2, .int a2)]) hx hb dL_isPair_316 hl (by decide) rfl (fun ls hl => ?_)
              refine lv_iconst (v := (1 : Int32)) hx hb dL_isPair_318 (by decide) ?_
              refine lv_istore (lv' := [(7, .int (1 : Int32)), (6, .int j20), (5, .int q4), (0, .ref a0), (1, .int a1), (2, .int a2)]) hx hb dL_isPair_319 hl (by decide) rfl (fun ls hl => ?_)
              exact cl_L_isPair_321 hOK hF hKK hr hlocks k0 fuel j20 (1 : Int32) _ _ _ hs hW hS (lv_sub hl [3, 4, 5, 2, 1, 0] rfl)
            obtain ⟨kj42, ekj42, hs⟩ := bnd_e hs
            have hj42 : ∀ (H : Heap) (locs : List Loc) (ls : Array Slot), kj42 = some r → Wd G Λ μ H → va_S (inL Λ) s.heap H locs → lv_has ls 8 [(5, .int q4), (0, .ref a0), (1, .int a1), (2, .int a2)] → W p l e (rmd 8) s m args below meth c H locs 0 0 (MQ below (QI G Λ r μ) args s 0 0 (inL Λ)) (F0 m 315 ls []) := by
              intro  H locs ls hs hW hS hl
              have hs := ekj42.symm.trans hs
              refine lv_iconst (v := (0 : Int32)) hx hb dL_isPair_315 (by decide) ?_
              exact hj20 (0 : Int32) _ _ _ hs hW hS (lv_sub hl [0, 1, 2, 3] rfl)
            refine lv_icmp_ne (tgt := 315) hx hb dL_isPair_208 (by decide) (fun c43 => ?_) (fun c43 => ?_)
            · have hs := ite_f hs c43
              exact hj42 _ _ _ hs hW hS (lv_sub hl [1, 4, 5, 6] rfl)
            · have hs := ite_t hs c43
              refine lv_aload_n hx hb dL_isPair_211 rfl (lv_at hl 4 rfl) ?_
              refine lv_iload_n hx hb dL_isPair_212 rfl (lv_at hl 5 rfl) ?_
              refine lv_iload hx hb dL_isPair_213 (lv_at hl 2 rfl) ?_
              obtain ⟨q44, hq44, hs⟩ := obind_e hs
              refine end_i (run_V (q := (RX4, TX4, 11)) (ci := 4) hF hKK hW hS hl.1 k0 (by decide) rfl (c_X4_isBelow l hOK k0 hq44) (kw_L_84 hF.2.2.2.2 ⟨Nat.le_of_ble_eq_true rfl, Nat.le_of_ble_eq_true rfl⟩) rfl rfl (Nat.le_of_ble_eq_true rfl) dL_isPair_215 ⟨Nat.zero_le _, Nat.zero_le _⟩) hS (fun H locs hW hS => ?_)
              refine lv_iconst (v := (1 : Int32)) hx hb dL_isPair_218 (by decide) ?_
              refine lv_icmp_ne (tgt := 315) hx hb dL_isPair_219 (by decide) (fun c45 => ?_) (fun c45 => ?_)
              · have hs := ite_f hs c45
                exact hj42 _ _ _ hs hW hS (lv_sub hl [1, 4, 5, 6] rfl)
              · have hs := ite_t hs c45
                refine lv_aload_n hx hb dL_isPair_222 rfl (lv_at hl 4 rfl) ?_
                refine lv_iload_n hx hb dL_isPair_223 rfl (lv_at hl 6 rfl) ?_
                refine lv_iload hx hb dL_isPair_224 (lv_at hl 2 rfl) ?_
                obtain ⟨q46, hq46, hs⟩ := obind_e hs
                refine end_i (run_V (q := (RX4, TX4, 11)) (ci := 4) hF hKK hW hS hl.1 k0 (by decide) rfl (c_X4_isBelow l hOK k0 hq46) (kw_L_84 hF.2.2.2.2 ⟨Nat.le_of_ble_eq_true rfl, Nat.le_of_ble_eq_true rfl⟩) rfl rfl (Nat.le_of_ble_eq_true rfl) dL_isPair_226 ⟨Nat.zero_le _, Nat.zero_le _⟩) hS (fun H locs hW hS => ?_)
                refine lv_iconst (v := (1 : Int32)) hx hb dL_isPair_229 (by decide) ?_
                refine lv_icmp_ne (tgt := 315) hx hb dL_isPair_230 (by decide) (fun c47 => ?_) (fun c47 => ?_)
                · have hs := ite_f hs c47
                  exact hj42 _ _ _ hs hW hS (lv_sub hl [1, 4, 5, 6] rfl)
                · have hs := ite_t hs c47
                  refine lv_aload_n hx hb dL_isPair_233 rfl (lv_at hl 4 rfl) ?_
                  refine lv_iload_n hx hb dL_isPair_234 rfl (lv_at hl 5 rfl) ?_
                  refine lv_iload_n hx hb dL_isPair_235 rfl (lv_at hl 6 rfl) ?_
                  refine lv_iconst (v := (0 : Int32)) hx hb dL_isPair_236 (by decide) ?_
                  obtain ⟨q48, hq48, hs⟩ := obind_e hs
                  refine end_i (run_V (q := (RX4, TX4, 11)) (ci := 4) hF hKK hW hS hl.1 k0 (by decide) rfl (c_X4_way l hOK k0 hq48) (kw_L_96 hF.2.2.2.2 ⟨Nat.le_of_ble_eq_true rfl, Nat.le_of_ble_eq_true rfl⟩) rfl rfl (Nat.le_of_ble_eq_true rfl) dL_isPair_237 ⟨Nat.zero_le _, Nat.zero_le _⟩) hS (fun H locs hW hS => ?_)
                  refine lv_iload_n hx hb dL_isPair_240 rfl (lv_at hl 5 rfl) ?_
                  refine lv_icmp_ne (tgt := 315) hx hb dL_isPair_241 (by decide) (fun c49 => ?_) (fun c49 => ?_)
                  · have hs := ite_f hs c49
                    exact hj42 _ _ _ hs hW hS (lv_sub hl [1, 4, 5, 6] rfl)
                  · have hs := ite_t hs c49
                    refine lv_aload_n hx hb dL_isPair_244 rfl (lv_at hl 4 rfl) ?_
                    refine lv_iload_n hx hb dL_isPair_245 rfl (lv_at hl 5 rfl) ?_
                    refine lv_iload_n hx hb dL_isPair_246 rfl (lv_at hl 6 rfl) ?_
                    refine lv_iload hx hb dL_isPair_247 (lv_at hl 1 rfl) ?_
                    obtain ⟨q50, hq50, hs⟩ := obind_e hs
                    refine end_i (run_V (q := (RX4, TX4, 11)) (ci := 4) hF hKK hW hS hl.1 k0 (by decide) rfl (c_X4_way l hOK k0 hq50) (kw_L_96 hF.2.2.2.2 ⟨Nat.le_of_ble_eq_true rfl, Nat.le_of_ble_eq_true rfl⟩) rfl rfl (Nat.le_of_ble_eq_true rfl) dL_isPair_249 ⟨Nat.zero_le _, Nat.zero_le _⟩) hS (fun H locs hW hS => ?_)
                    refine lv_iload_n hx hb dL_isPair_252 rfl (lv_at hl 6 rfl) ?_
                    refine lv_icmp_ne (tgt := 315) hx hb dL_isPair_253 (by decide) (fun c51 => ?_) (fun c51 => ?_)
                    · have hs := ite_f hs c51
                      exact hj42 _ _ _ hs hW hS (lv_sub hl [1, 4, 5, 6] rfl)
                    · have hs := ite_t hs c51
                      refine lv_aload_n hx hb dL_isPair_256 rfl (lv_at hl 4 rfl) ?_
                      refine lv_iload_n hx hb dL_isPair_257 rfl (lv_at hl 5 rfl) ?_
                      refine lv_iload_n hx hb dL_isPair_258 rfl (lv_at hl 6 rfl) ?_
                      refine lv_iload hx hb dL_isPair_259 (lv_at hl 1 rfl) ?_
                      refine lv_iconst (v := (1 : Int32)) hx hb dL_isPair_261 (by decide) ?_
                      refine lv_iadd hx hb dL_isPair_262 ?_
                      obtain ⟨q52, hq52, hs⟩ := obind_e hs
                      refine end_i (run_V (q := (RX4, TX4, 11)) (ci := 4) hF hKK hW hS hl.1 k0 (by decide) rfl (c_X4_way l hOK k0 hq52) (kw_L_96 hF.2.2.2.2 ⟨Nat.le_of_ble_eq_true rfl, Nat.le_of_ble_eq_true rfl⟩) rfl rfl (Nat.le_of_ble_eq_true rfl) dL_isPair_263 ⟨Nat.zero_le _, Nat.zero_le _⟩) hS (fun H locs hW hS => ?_)
                      refine lv_iconst (v := (-1 : Int32)) hx hb dL_isPair_266 (by decide) ?_
                      refine lv_icmp_ne (tgt := 315) hx hb dL_isPair_267 (by decide) (fun c53 => ?_) (fun c53 => ?_)
                      · have hs := ite_f hs c53
                        exact hj42 _ _ _ hs hW hS (lv_sub hl [1, 4, 5, 6] rfl)
                      · have hs := ite_t hs c53
                        refine lv_iload hx hb dL_isPair_270 (lv_at hl 1 rfl) ?_
                        refine lv_aload_n hx hb dL_isPair_272 rfl (lv_at hl 4 rfl) ?_
                        refine lv_iload_n hx hb dL_isPair_273 rfl (lv_at hl 6 rfl) ?_
                        refine lv_iload_n hx hb dL_isPair_274 rfl (lv_at hl 5 rfl) ?_
                        refine lv_iconst (v := (-1 : Int32)) hx hb dL_isPair_275 (by decide) ?_
                        obtain ⟨q54, hq54, hs⟩ := obind_e hs
                        refine end_i (run_V (q := (RX4, TX4, 11)) (ci := 4) hF hKK hW hS hl.1 k0 (by decide) rfl (c_X4_way l hOK k0 hq54) (kw_L_96 hF.2.2.2.2 ⟨Nat.le_of_ble_eq_true rfl, Nat.le_of_ble_eq_true rfl⟩) rfl rfl (Nat.le_of_ble_eq_true rfl) dL_isPair_276 ⟨Nat.zero_le _, Nat.zero_le _⟩) hS (fun H locs hW hS => ?_)
                        refine lv_icmp_ne (tgt := 315) hx hb dL_isPair_279 (by decide) (fun c55 => ?_) (fun c55 => ?_)
                        · have hs := ite_f hs c55
                          exact hj42 _ _ _ hs hW hS (lv_sub hl [1, 4, 5, 6] rfl)
                        · have hs := ite_t hs c55
                          refine lv_iload hx hb dL_isPair_282 (lv_at hl 1 rfl) ?_
                          refine lv_iconst (v := (1 : Int32)) hx hb dL_isPair_284 (by decide) ?_
                          obtain ⟨kj56, ekj56, hs⟩ := bnd_e hs
                          have hj56 : ∀ (j56 : Int32) (H : Heap) (locs : List Loc) (ls : Array Slot), kj56 j56 = some r → Wd G Λ μ H → va_S (inL Λ) s.heap H locs → lv_has ls 8 [(5, .int q4), (0, .ref a0), (1, .int a1), (2, .int a2)] → W p l e (rmd 8) s m args below meth c H locs 0 0 (MQ below (QI G Λ r μ) args s 0 0 (inL Λ)) (F0 m 293 ls [.int j56]) := by
                            intro j56 H locs ls hs hW hS hl
                            have hs := kj1 ekj56 hs
                            refine lv_aload_n hx hb dL_isPair_293 rfl (lv_at hl 1 rfl) ?_
                            refine lv_iload_n hx hb dL_isPair_294 rfl (lv_at hl 2 rfl) ?_
                            refine lv_iload_n hx hb dL_isPair_295 rfl (lv_at hl 3 rfl) ?_
                            obtain ⟨q57, hq57, hs⟩ := obind_e hs
                            refine end_i (run_V (q := (RX4, TX4, 11)) (ci := 4) hF hKK hW hS hl.1 k0 (by decide) rfl (c_X4_isRope l hOK k0 hq57) (kw_L_81 hF.2.2.2.2 ⟨Nat.le_of_ble_eq_true rfl, Nat.le_of_ble_eq_true rfl⟩) rfl rfl (Nat.le_of_ble_eq_true rfl) dL_isPair_296 ⟨Nat.zero_le _, Nat.zero_le _⟩) hS (fun H locs hW hS => ?_)
                            refine lv_iconst (v := (1 : Int32)) hx hb dL_isPair_299 (by decide) ?_
                            obtain ⟨kj58, ekj58, hs⟩ := bnd_e hs
                            have hj58 : ∀ (j58 : Int32) (H : Heap) (locs : List Loc) (ls : Array Slot), kj58 j58 = some r → Wd G Λ μ H → va_S (inL Λ) s.heap H locs → lv_has ls 8 [(5, .int q4), (0, .ref a0), (1, .int a1), (2, .int a2)] → W p l e (rmd 8) s m args below meth c H locs 0 0 (MQ below (QI G Λ r μ) args s 0 0 (inL Λ)) (F0 m 308 ls [.int j58, .int j56]) := by
                              intro j58 H locs ls hs hW hS hl
                              have hs := kj1 ekj58 hs
                              refine lv_icmp_ne (tgt := 315) hx hb dL_isPair_308 (by decide) (fun c59 => ?_) (fun c59 => ?_)
                              · have hs := ite_f hs c59
                                exact hj42 _ _ _ hs hW hS (lv_sub hl [0, 1, 2, 3] rfl)
                              · have hs := ite_t hs c59
                                refine lv_iconst (v := (1 : Int32)) hx hb dL_isPair_311 (by decide) ?_
                                refine lv_goto (tgt := 316) hx hb dL_isPair_312 (by decide) ?_
                                exact hj20 (1 : Int32) _ _ _ hs hW hS (lv_sub hl [0, 1, 2, 3] rfl)
                            refine lv_icmp_ne (tgt := 307) hx hb dL_isPair_300 (by decide) (fun c60 => ?_) (fun c60 => ?_)
                            · have hs := ite_f hs c60
                              refine lv_iconst (v := (0 : Int32)) hx hb dL_isPair_307 (by decide) ?_
                              exact hj58 (0 : Int32) _ _ _ hs hW hS (lv_sub hl [0, 1, 2, 3] rfl)
                            · have hs := ite_t hs c60
                              refine lv_iconst (v := (1 : Int32)) hx hb dL_isPair_303 (by decide) ?_
                              refine lv_goto (tgt := 308) hx hb dL_isPair_304 (by decide) ?_
                              exact hj58 (1 : Int32) _ _ _ hs hW hS (lv_sub hl [0, 1, 2, 3] rfl)
                          refine lv_icmp_ne (tgt := 292) hx hb dL_isPair_285 (by decide) (fun c61 => ?_) (fun c61 => ?_)
                          · have hs := ite_f hs c61
                            refine lv_iconst (v := (0 : Int32)) hx hb dL_isPair_292 (by decide) ?_
                            exact hj56 (0 : Int32) _ _ _ hs hW hS (lv_sub hl [1, 4, 5, 6] rfl)
                          · have hs := ite_t hs c61
                            refine lv_iconst (v := (1 : Int32)) hx hb dL_isPair_288 (by decide) ?_
                            refine lv_goto (tgt := 293) hx hb dL_isPair_289 (by decide) ?_
                            exact hj56 (1 : Int32) _ _ _ hs hW hS (lv_sub hl [1, 4, 5, 6] rfl)
          · have hs := ite_t hs c16
            exact hj8 _ _ _ hs hW hS (lv_sub hl [0, 4, 5, 6] rfl)
      obtain ⟨kj62, ekj62, hs⟩ := bnd_e hs
      have hj62 : ∀ (H : Heap) (locs : List Loc) (ls : Array Slot), kj62 = some r → Wd G Λ μ H → va_S (inL Λ) s.heap H locs → lv_has ls 8 [(5, .int q4), (4, .int q3), (3, .int j2), (0, .ref a0), (1, .int a1), (2, .int a2)] → W p l e (rmd 8) s m args below meth c H locs 0 0 (MQ below (QI G Λ r μ) args s 0 0 (inL Λ)) (F0 m 151 ls []) := by
        intro  H locs ls hs hW hS hl
        have hs := ekj62.symm.trans hs
        refine lv_iconst (v := (0 : Int32)) hx hb dL_isPair_151 (by decide) ?_
        exact hj7 (0 : Int32) _ _ _ hs hW hS (lv_sub hl [0, 1, 2, 3, 4, 5] rfl)
      refine lv_icmp_ne (tgt := 151) hx hb dL_isPair_48 (by decide) (fun c63 => ?_) (fun c63 => ?_)
      · have hs := ite_f hs c63
        exact hj62 _ _ _ hs hW hS (lv_sub hl [0, 1, 2, 3, 4, 5] rfl)
      · have hs := ite_t hs c63
        refine lv_iload_n hx hb dL_isPair_51 rfl (lv_at hl 2 rfl) ?_
        refine lv_aload_n hx hb dL_isPair_52 rfl (lv_at hl 3 rfl) ?_
        refine lv_iload_n hx hb dL_isPair_53 rfl (lv_at hl 4 rfl) ?_
        refine lv_iconst (v := (1 : Int32)) hx hb dL_isPair_54 (by decide) ?_
        obtain ⟨q64, hq64, hs⟩ := obind_e hs
        refine end_i (run_V (q := (RX4, TX4, 11)) (ci := 4) hF hKK hW hS hl.1 k0 (by decide) rfl (c_X4_bankOf l hOK k0 hq64) (kw_L_34 hF.2.2.2.2 ⟨Nat.le_of_ble_eq_true rfl, Nat.le_of_ble_eq_true rfl⟩) rfl rfl (Nat.le_of_ble_eq_true rfl) dL_isPair_55 ⟨Nat.zero_le _, Nat.zero_le _⟩) hS (fun H locs hW hS => ?_)
        refine lv_aload_n hx hb dL_isPair_58 rfl (lv_at hl 3 rfl) ?_
        refine lv_iload_n hx hb dL_isPair_59 rfl (lv_at hl 5 rfl) ?_
        refine lv_iconst (v := (1 : Int32)) hx hb dL_isPair_60 (by decide) ?_
        obtain ⟨q65, hq65, hs⟩ := obind_e hs
        refine end_i (run_V (q := (RX4, TX4, 11)) (ci := 4) hF hKK hW hS hl.1 k0 (by decide) rfl (c_X4_bankOf l hOK k0 hq65) (kw_L_34 hF.2.2.2.2 ⟨Nat.le_of_ble_eq_true rfl, Nat.le_of_ble_eq_true rfl⟩) rfl rfl (Nat.le_of_ble_eq_true rfl) dL_isPair_61 ⟨Nat.zero_le _, Nat.zero_le _⟩) hS (fun H locs hW hS => ?_)
        obtain ⟨kj66, ekj66, hs⟩ := bnd_e hs
        have hj66 : ∀ (j66 : Int32) (H : Heap) (locs : List Loc) (ls : Array Slot), kj66 j66 = some r → Wd G Λ μ H → va_S (inL Λ) s.heap H locs → lv_has ls 8 [(5, .int q4), (4, .int q3), (3, .int j2), (0, .ref a0), (1, .int a1), (2, .int a2)] → W p l e (rmd 8) s m args below meth c H locs 0 0 (MQ below (QI G Λ r μ) args s 0 0 (inL Λ)) (F0 m 72 ls [.int j66, .int j2]) := by
          intro j66 H locs ls hs hW hS hl
          have hs := kj1 ekj66 hs
          refine lv_icmp_ne (tgt := 151) hx hb dL_isPair_72 (by decide) (fun c67 => ?_) (fun c67 => ?_)
          · have hs := ite_f hs c67
            exact hj62 _ _ _ hs hW hS (lv_sub hl [0, 1, 2, 3, 4, 5] rfl)
          · have hs := ite_t hs c67
            refine lv_iload hx hb dL_isPair_75 (lv_at hl 1 rfl) ?_
            refine lv_bipush (v := (-4 : Int32)) hx hb dL_isPair_77 (by decide) ?_
            obtain ⟨kj68, ekj68, hs⟩ := bnd_e hs
            have hj68 : ∀ (j68 : Int32) (H : Heap) (locs : List Loc) (ls : Array Slot), kj68 j68 = some r → Wd G Λ μ H → va_S (inL Λ) s.heap H locs → lv_has ls 8 [(5, .int q4), (4, .int q3), (3, .int j2), (0, .ref a0), (1, .int a1), (2, .int a2)] → W p l e (rmd 8) s m args below meth c H locs 0 0 (MQ below (QI G Λ r μ) args s 0 0 (inL Λ)) (F0 m 87 ls [.int j68]) := by
              intro j68 H locs ls hs hW hS hl
              have hs := kj1 ekj68 hs
              refine lv_iload_n hx hb dL_isPair_87 rfl (lv_at hl 2 rfl) ?_
              obtain ⟨kj69, ekj69, hs⟩ := bnd_e hs
              have hj69 : ∀ (j69 : Int32) (H : Heap) (locs : List Loc) (ls : Array Slot), kj69 j69 = some r → Wd G Λ μ H → va_S (inL Λ) s.heap H locs → lv_has ls 8 [(5, .int q4), (4, .int q3), (3, .int j2), (0, .ref a0), (1, .int a1), (2, .int a2)] → W p l e (rmd 8) s m args below meth c H locs 0 0 (MQ below (QI G Λ r μ) args s 0 0 (inL Λ)) (F0 m 96 ls [.int j69, .int j68]) := by
                intro j69 H locs ls hs hW hS hl
                have hs := kj1 ekj69 hs
                refine lv_icmp_ne (tgt := 151) hx hb dL_isPair_96 (by decide) (fun c70 => ?_) (fun c70 => ?_)
                · have hs := ite_f hs c70
                  exact hj62 _ _ _ hs hW hS (lv_sub hl [0, 1, 2, 3, 4, 5] rfl)
                · have hs := ite_t hs c70
                  refine lv_iload hx hb dL_isPair_99 (lv_at hl 0 rfl) ?_
                  refine lv_bipush (v := (-4 : Int32)) hx hb dL_isPair_101 (by decide) ?_
                  obtain ⟨kj71, ekj71, hs⟩ := bnd_e hs
                  have hj71 : ∀ (j71 : Int32) (H : Heap) (locs : List Loc) (ls : Array Slot), kj71 j71 = some r → Wd G Λ μ H → va_S (inL Λ) s.heap H locs → lv_has ls 8 [(5, .int q4), (4, .int q3), (3, .int j2), (0, .ref a0), (1, .int a1), (2, .int a2)] → W p l e (rmd 8) s m args below meth c H locs 0 0 (MQ below (QI G Λ r μ) args s 0 0 (inL Λ)) (F0 m 111 ls [.int j71]) := by
                    intro j71 H locs ls hs hW hS hl
                    have hs := kj1 ekj71 hs
                    refine lv_iload_n hx hb dL_isPair_111 rfl (lv_at hl 2 rfl) ?_
                    obtain ⟨kj72, ekj72, hs⟩ := bnd_e hs
                    have hj72 : ∀ (j72 : Int32) (H : Heap) (locs : List Loc) (ls : Array Slot), kj72 j72 = some r → Wd G Λ μ H → va_S (inL Λ) s.heap H locs → lv_has ls 8 [(5, .int q4), (4, .int q3), (3, .int j2), (0, .ref a0), (1, .int a1), (2, .int a2)] → W p l e (rmd 8) s m args below meth c H locs 0 0 (MQ below (QI G Λ r μ) args s 0 0 (inL Λ)) (F0 m 120 ls [.int j72, .int j71]) := by
                      intro j72 H locs ls hs hW hS hl
                      have hs := kj1 ekj72 hs
                      refine lv_icmp_ne (tgt := 151) hx hb dL_isPair_120 (by decide) (fun c73 => ?_) (fun c73 => ?_)
                      · have hs := ite_f hs c73
                        exact hj62 _ _ _ hs hW hS (lv_sub hl [0, 1, 2, 3, 4, 5] rfl)
                      · have hs := ite_t hs c73
                        refine lv_aload_n hx hb dL_isPair_123 rfl (lv_at hl 3 rfl) ?_
                        refine lv_iload_n hx hb dL_isPair_124 rfl (lv_at hl 4 rfl) ?_
                        refine lv_iload_n hx hb dL_isPair_125 rfl (lv_at hl 5 rfl) ?_
                        obtain ⟨q74, hq74, hs⟩ := obind_e hs
                        refine end_i (run_V (q := (RX4, TX4, 11)) (ci := 4) hF hKK hW hS hl.1 k0 (by decide) rfl (c_X4_would l hOK k0 hq74) (kw_L_103 hF.2.2.2.2 ⟨Nat.le_of_ble_eq_true rfl, Nat.le_of_ble_eq_true rfl⟩) rfl rfl (Nat.le_of_ble_eq_true rfl) dL_isPair_126 ⟨Nat.zero_le _, Nat.zero_le _⟩) hS (fun H locs hW hS => ?_)
                        refine lv_iload_n hx hb dL_isPair_129 rfl (lv_at hl 2 rfl) ?_
                        obtain ⟨kj75, ekj75, hs⟩ := bnd_e hs
                        have hj75 : ∀ (j75 : Int32) (H : Heap) (locs : List Loc) (ls : Array Slot), kj75 j75 = some r → Wd G Λ μ H → va_S (inL Λ) s.heap H locs → lv_has ls 8 [(5, .int q4), (4, .int q3), (3, .int j2), (0, .ref a0), (1, .int a1), (2, .int a2)] → W p l e (rmd 8) s m args below meth c H locs 0 0 (MQ below (QI G Λ r μ) args s 0 0 (inL Λ)) (F0 m 144 ls [.int j75, .int q74]) := by
                          intro j75 H locs ls hs hW hS hl
                          have hs := kj1 ekj75 hs
                          refine lv_icmp_ne (tgt := 151) hx hb dL_isPair_144 (by decide) (fun c76 => ?_) (fun c76 => ?_)
                          · have hs := ite_f hs c76
                            exact hj62 _ _ _ hs hW hS (lv_sub hl [0, 1, 2, 3, 4, 5] rfl)
                          · have hs := ite_t hs c76
                            refine lv_iconst (v := (1 : Int32)) hx hb dL_isPair_147 (by decide) ?_
                            refine lv_goto (tgt := 152) hx hb dL_isPair_148 (by decide) ?_
                            exact hj7 (1 : Int32) _ _ _ hs hW hS (lv_sub hl [0, 1, 2, 3, 4, 5] rfl)
                        refine lv_if_eq (tgt := 138) hx hb dL_isPair_130 (by decide) (fun c77 => ?_) (fun c77 => ?_)
                        · have hs := ite_t hs c77
                          refine lv_aload_n hx hb dL_isPair_138 rfl (lv_at hl 3 rfl) ?_
                          refine lv_iload_n hx hb dL_isPair_139 rfl (lv_at hl 4 rfl) ?_
                          refine lv_iconst (v := (1 : Int32)) hx hb dL_isPair_140 (by decide) ?_
                          obtain ⟨q78, hq78, hs⟩ := obind_e hs
                          refine end_i (run_V (q := (RX4, TX4, 11)) (ci := 4) hF hKK hW hS hl.1 k0 (by decide) rfl (c_X4_bankOf l hOK k0 hq78) (kw_L_34 hF.2.2.2.2 ⟨Nat.le_of_ble_eq_true rfl, Nat.le_of_ble_eq_true rfl⟩) rfl rfl (Nat.le_of_ble_eq_true rfl) dL_isPair_141 ⟨Nat.zero_le _, Nat.zero_le _⟩) hS (fun H locs hW hS => ?_)
                          exact hj75 q78 _ _ _ hs hW hS (lv_sub hl [0, 1, 2, 3, 4, 5] rfl)
                        · have hs := ite_f hs c77
                          refine lv_bipush (v := (-4 : Int32)) hx hb dL_isPair_133 (by decide) ?_
                          refine lv_goto (tgt := 144) hx hb dL_isPair_135 (by decide) ?_
                          exact hj75 (-4 : Int32) _ _ _ hs hW hS (lv_sub hl [0, 1, 2, 3, 4, 5] rfl)
                    refine lv_if_ne (tgt := 119) hx hb dL_isPair_112 (by decide) (fun c79 => ?_) (fun c79 => ?_)
                    · have hs := ite_f hs c79
                      refine lv_iconst (v := (0 : Int32)) hx hb dL_isPair_119 (by decide) ?_
                      exact hj72 (0 : Int32) _ _ _ hs hW hS (lv_sub hl [0, 1, 2, 3, 4, 5] rfl)
                    · have hs := ite_t hs c79
                      refine lv_iconst (v := (1 : Int32)) hx hb dL_isPair_115 (by decide) ?_
                      refine lv_goto (tgt := 120) hx hb dL_isPair_116 (by decide) ?_
                      exact hj72 (1 : Int32) _ _ _ hs hW hS (lv_sub hl [0, 1, 2, 3, 4, 5] rfl)
                  refine lv_icmp_ne (tgt := 110) hx hb dL_isPair_103 (by decide) (fun c80 => ?_) (fun c80 => ?_)
                  · have hs := ite_f hs c80
                    refine lv_iconst (v := (0 : Int32)) hx hb dL_isPair_110 (by decide) ?_
                    exact hj71 (0 : Int32) _ _ _ hs hW hS (lv_sub hl [0, 1, 2, 3, 4, 5] rfl)
                  · have hs := ite_t hs c80
                    refine lv_iconst (v := (1 : Int32)) hx hb dL_isPair_106 (by decide) ?_
                    refine lv_goto (tgt := 111) hx hb dL_isPair_107 (by decide) ?_
                    exact hj71 (1 : Int32) _ _ _ hs hW hS (lv_sub hl [0, 1, 2, 3, 4, 5] rfl)
              refine lv_if_ne (tgt := 95) hx hb dL_isPair_88 (by decide) (fun c81 => ?_) (fun c81 => ?_)
              · have hs := ite_f hs c81
                refine lv_iconst (v := (0 : Int32)) hx hb dL_isPair_95 (by decide) ?_
                exact hj69 (0 : Int32) _ _ _ hs hW hS (lv_sub hl [0, 1, 2, 3, 4, 5] rfl)
              · have hs := ite_t hs c81
                refine lv_iconst (v := (1 : Int32)) hx hb dL_isPair_91 (by decide) ?_
                refine lv_goto (tgt := 96) hx hb dL_isPair_92 (by decide) ?_
                exact hj69 (1 : Int32) _ _ _ hs hW hS (lv_sub hl [0, 1, 2, 3, 4, 5] rfl)
            refine lv_icmp_ne (tgt := 86) hx hb dL_isPair_79 (by decide) (fun c82 => ?_) (fun c82 => ?_)
            · have hs := ite_f hs c82
              refine lv_iconst (v := (0 : Int32)) hx hb dL_isPair_86 (by decide) ?_
              exact hj68 (0 : Int32) _ _ _ hs hW hS (lv_sub hl [0, 1, 2, 3, 4, 5] rfl)
            · have hs := ite_t hs c82
              refine lv_iconst (v := (1 : Int32)) hx hb dL_isPair_82 (by decide) ?_
              refine lv_goto (tgt := 87) hx hb dL_isPair_83 (by decide) ?_
              exact hj68 (1 : Int32) _ _ _ hs hW hS (lv_sub hl [0, 1, 2, 3, 4, 5] rfl)
        refine lv_icmp_ne (tgt := 71) hx hb dL_isPair_64 (by decide) (fun c83 => ?_) (fun c83 => ?_)
        · have hs := ite_f hs c83
          refine lv_iconst (v := (0 : Int32)) hx hb dL_isPair_71 (by decide) ?_
          exact hj66 (0 : Int32) _ _ _ hs hW hS (lv_sub hl [0, 1, 2, 3, 4, 5] rfl)
        · have hs := ite_t hs c83
          refine lv_iconst (v := (1 : Int32)) hx hb dL_isPair_67 (by decide) ?_
          refine lv_goto (tgt := 72) hx hb dL_isPair_68 (by decide) ?_
          exact hj66 (1 : Int32) _ _ _ hs hW hS (lv_sub hl [0, 1, 2, 3, 4, 5] rfl)
    refine lv_if_eq (tgt := 47) hx hb dL_isPair_40 (by decide) (fun c84 => ?_) (fun c84 => ?_)
    · have hs := ite_t hs c84
      refine lv_iconst (v := (0 : Int32)) hx hb dL_isPair_47 (by decide) ?_
      exact hj6 (0 : Int32) _ _ _ hs hW hS (lv_sub hl [0, 1, 2, 3, 4, 5] rfl)
    · have hs := ite_f hs c84
      refine lv_iconst (v := (1 : Int32)) hx hb dL_isPair_43 (by decide) ?_
      refine lv_goto (tgt := 48) hx hb dL_isPair_44 (by decide) ?_
      exact hj6 (1 : Int32) _ _ _ hs hW hS (lv_sub hl [0, 1, 2, 3, 4, 5] rfl)
  refine lv_icmp_ne (tgt := 14) hx hb dL_isPair_7 (by decide) (fun c85 => ?_) (fun c85 => ?_)
  · have hs := ite_f hs c85
    refine lv_iconst (v := (0 : Int32)) hx hb dL_isPair_14 (by decide) ?_
    exact hj2 (0 : Int32) _ _ _ hs hW hS (lv_sub hl [0, 1, 2] rfl)
  · have hs := ite_t hs c85
    refine lv_iconst (v := (1 : Int32)) hx hb dL_isPair_10 (by decide) ?_
    refine lv_goto (tgt := 15) hx hb dL_isPair_11 (by decide) ?_
    exact hj2 (1 : Int32) _ _ _ hs hW hS (lv_sub hl [0, 1, 2] rfl)
