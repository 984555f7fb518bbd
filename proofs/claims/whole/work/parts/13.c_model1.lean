/-! printed by wip/gen/build.py out of the decode rows: do not edit by hand -/
set_option maxHeartbeats 4000000 in
set_option maxRecDepth 100000 in
theorem c_X5_place (l : Launch) {G : va_G} {Λ : Lay} {μ : Mem} (hOK : LayOK Λ) {a0 : Nat} (k0 : inK Λ a0 5) {a1 : Int32} {a2 : Int32} {r : Int32} (hs : sX5_place Λ μ a0 a1 a2 = some r) : CM l G Λ yX5_place cX5_place 3 (some .int) 0 μ [.ref a0, .int a1, .int a2] (QI G Λ r μ) := by
  refine ofM (own := RX5) (by decide +kernel) rfl (Nat.le_of_ble_eq_true rfl) (fun p e s m args below meth c ls hF hKK hW hr hlocks hl => ?_)
  have hx := hF.1
  have hb := hF.2.1
  have hA : ∀ q, inL Λ q → inL Λ q := fun _ h => h
  have hS : va_S (inL Λ) s.heap s.heap [] := va_S.rf
  have hl : lv_has ls 3 [(0, .ref a0), (1, .int a1), (2, .int a2)] := hl
  unfold sX5_place at hs
  refine lv_aload_n hx hb dX5_place_0 rfl (lv_at hl 0 rfl) ?_
  refine gf_5_0 hF hKK hW k0 dX5_place_1 ?_
  refine lv_bipush (v := (16 : Int32)) hx hb dX5_place_4 (by decide) ?_
  refine lv_bipush (v := (24 : Int32)) hx hb dX5_place_6 (by decide) ?_
  refine lv_iload_n hx hb dX5_place_8 rfl (lv_at hl 1 rfl) ?_
  refine lv_imul hx hb dX5_place_9 ?_
  refine lv_iadd hx hb dX5_place_10 ?_
  refine lv_iconst (v := (1 : Int32)) hx hb dX5_place_11 (by decide) ?_
  refine lv_iadd hx hb dX5_place_12 ?_
  refine lv_iload_n hx hb dX5_place_13 rfl (lv_at hl 2 rfl) ?_
  refine lv_iadd hx hb dX5_place_14 ?_
  obtain ⟨g1, hs⟩ := gd_some hs
  refine ga_ld hF hKK hW (lk_5_0 hOK k0) g1 dX5_place_15 ?_
  have h9 := Option.some.inj hs
  rw [← h9]
  exact wr_i hF hr hlocks (vp_nar_int _) hW hS dX5_place_16

set_option maxHeartbeats 4000000 in
set_option maxRecDepth 100000 in
theorem c_X5_size (l : Launch) {G : va_G} {Λ : Lay} {μ : Mem} (hOK : LayOK Λ) {a0 : Nat} (k0 : inK Λ a0 5) {a1 : Int32} {r : Int32} (hs : sX5_size Λ μ a0 a1 = some r) : CM l G Λ yX5_size cX5_size 2 (some .int) 0 μ [.ref a0, .int a1] (QI G Λ r μ) := by
  refine ofM (own := RX5) (by decide +kernel) rfl (Nat.le_of_ble_eq_true rfl) (fun p e s m args below meth c ls hF hKK hW hr hlocks hl => ?_)
  have hx := hF.1
  have hb := hF.2.1
  have hA : ∀ q, inL Λ q → inL Λ q := fun _ h => h
  have hS : va_S (inL Λ) s.heap s.heap [] := va_S.rf
  have hl : lv_has ls 2 [(0, .ref a0), (1, .int a1)] := hl
  unfold sX5_size at hs
  refine lv_aload_n hx hb dX5_size_0 rfl (lv_at hl 0 rfl) ?_
  refine gf_5_0 hF hKK hW k0 dX5_size_1 ?_
  refine lv_bipush (v := (16 : Int32)) hx hb dX5_size_4 (by decide) ?_
  refine lv_bipush (v := (24 : Int32)) hx hb dX5_size_6 (by decide) ?_
  refine lv_iload_n hx hb dX5_size_8 rfl (lv_at hl 1 rfl) ?_
  refine lv_imul hx hb dX5_size_9 ?_
  refine lv_iadd hx hb dX5_size_10 ?_
  obtain ⟨g1, hs⟩ := gd_some hs
  refine ga_ld hF hKK hW (lk_5_0 hOK k0) g1 dX5_size_11 ?_
  have h9 := Option.some.inj hs
  rw [← h9]
  exact wr_i hF hr hlocks (vp_nar_int _) hW hS dX5_size_12

set_option maxHeartbeats 4000000 in
set_option maxRecDepth 100000 in
theorem cl_X5_firstIn_2 {p : Program} {l : Launch} {e : Env} {s : State} {m : MethodId} {args : Array Value} {below : List Frame} {meth : Method} {c : Code} {G : va_G} {Λ : Lay} {μ : Mem} {r : Int32} (hOK : LayOK Λ) (hF : CallFix p m c cX5_firstIn 4 s args tw RX5) (hKK : KK G Λ s) (hr : meth.sig.returnType = (some .int)) (hlocks : meth.locks = false) {x0 : Nat} (kx0 : inK Λ x0 5) {x1 : Int32} {x2 : Int32} : ∀ (n : Nat) (x3 : Int32) (H : Heap) (locs : List Loc) (ls : Array Slot), lpX5_firstIn_2 Λ μ x0 x1 x2 n x3 = some r → Wd G Λ μ H → va_S (inL Λ) s.heap H locs → lv_has ls 4 [(0, .ref x0), (1, .int x1), (2, .int x2), (3, .int x3)] → W p l e (rmd 1) s m args below meth c H locs 0 0 (MQ below (QI G Λ r μ) args s 0 0 (inL Λ)) (F0 m 2 ls []) := by
  have hx := hF.1
  have hb := hF.2.1
  have hA : ∀ q, inL Λ q → inL Λ q := fun _ h => h
  intro n
  induction n with
  | zero =>
    intro x3 H locs ls hs hW hS hl
    cases hs
  | succ n2 ih2 =>
    intro x3 H locs ls hs hW hS hl
    rw [lpX5_firstIn_2_s] at hs
    refine lv_iload_n hx hb dX5_firstIn_2 rfl (lv_at hl 3 rfl) ?_
    refine lv_aload_n hx hb dX5_firstIn_3 rfl (lv_at hl 0 rfl) ?_
    refine lv_iload_n hx hb dX5_firstIn_4 rfl (lv_at hl 1 rfl) ?_
    obtain ⟨q1, hq1, hs⟩ := obind_e hs
    refine end_i (run_V (q := (RX5, TX5, 21)) (ci := 5) hF hKK hW hS hl.1 kx0 (by decide) rfl (c_X5_size l hOK kx0 hq1) (kw_X5_66 hF.2.2.2.2 ⟨Nat.le_of_ble_eq_true rfl, Nat.le_of_ble_eq_true rfl⟩) rfl rfl (Nat.le_of_ble_eq_true rfl) dX5_firstIn_5 ⟨Nat.zero_le _, Nat.zero_le _⟩) hS (fun H locs hW hS => ?_)
    refine lv_icmp_ge (tgt := 29) hx hb dX5_firstIn_8 (by decide) (fun c2 => ?_) (fun c2 => ?_)
    · have hs := ite_t hs c2
      refine lv_iconst (v := (-1 : Int32)) hx hb dX5_firstIn_29 (by decide) ?_
      have h9 := Option.some.inj hs
      rw [← h9]
      exact wr_i hF hr hlocks (vp_nar_int _) hW hS dX5_firstIn_30
    · have hs := ite_f hs c2
      refine lv_aload_n hx hb dX5_firstIn_11 rfl (lv_at hl 0 rfl) ?_
      refine lv_iload_n hx hb dX5_firstIn_12 rfl (lv_at hl 1 rfl) ?_
      refine lv_iload_n hx hb dX5_firstIn_13 rfl (lv_at hl 3 rfl) ?_
      obtain ⟨q3, hq3, hs⟩ := obind_e hs
      refine end_i (run_V (q := (RX5, TX5, 21)) (ci := 5) hF hKK hW hS hl.1 kx0 (by decide) rfl (c_X5_place l hOK kx0 hq3) (kw_X5_70 hF.2.2.2.2 ⟨Nat.le_of_ble_eq_true rfl, Nat.le_of_ble_eq_true rfl⟩) rfl rfl (Nat.le_of_ble_eq_true rfl) dX5_firstIn_14 ⟨Nat.zero_le _, Nat.zero_le _⟩) hS (fun H locs hW hS => ?_)
      refine lv_iload_n hx hb dX5_firstIn_17 rfl (lv_at hl 2 rfl) ?_
      refine lv_icmp_ne (tgt := 23) hx hb dX5_firstIn_18 (by decide) (fun c4 => ?_) (fun c4 => ?_)
      · have hs := ite_f hs c4
        obtain ⟨v5, ev5, hs⟩ := bnd_e hs
        refine lv_iinc (v := v5) (lv' := [(3, .int v5), (0, .ref x0), (1, .int x1), (2, .int x2)]) hx hb dX5_firstIn_23 hl (k := 3) rfl (by rw [ev5]; rfl) (by decide) rfl (fun ls hl => ?_)
        refine lv_goto (tgt := 2) hx hb dX5_firstIn_26 (by decide) ?_
        exact ih2 v5 _ _ _ hs hW hS (lv_sub hl [1, 2, 3, 0] rfl)
      · have hs := ite_t hs c4
        refine lv_iload_n hx hb dX5_firstIn_21 rfl (lv_at hl 3 rfl) ?_
        have h9 := Option.some.inj hs
        rw [← h9]
        exact wr_i hF hr hlocks (vp_nar_int _) hW hS dX5_firstIn_22

set_option maxHeartbeats 4000000 in
set_option maxRecDepth 100000 in
theorem c_X5_firstIn (l : Launch) {G : va_G} {Λ : Lay} {μ : Mem} (hOK : LayOK Λ) {a0 : Nat} (k0 : inK Λ a0 5) {a1 : Int32} {a2 : Int32} {r : Int32} (hs : sX5_firstIn Λ μ a0 a1 a2 = some r) : CM l G Λ yX5_firstIn cX5_firstIn 4 (some .int) 1 μ [.ref a0, .int a1, .int a2] (QI G Λ r μ) := by
  refine ofM (own := RX5) (by decide +kernel) rfl (Nat.le_of_ble_eq_true rfl) (fun p e s m args below meth c ls hF hKK hW hr hlocks hl => ?_)
  have hx := hF.1
  have hb := hF.2.1
  have hA : ∀ q, inL Λ q → inL Λ q := fun _ h => h
  have hS : va_S (inL Λ) s.heap s.heap [] := va_S.rf
  have hl : lv_has ls 4 [(0, .ref a0), (1, .int a1), (2, .int a2)] := hl
  unfold sX5_firstIn at hs
  refine lv_iconst (v := (0 : Int32)) hx hb dX5_firstIn_0 (by decide) ?_
  refine lv_istore_n (lv' := [(3, .int (0 : Int32)), (0, .ref a0), (1, .int a1), (2, .int a2)]) hx hb dX5_firstIn_1 rfl hl (by decide) rfl (fun ls hl => ?_)
  exact cl_X5_firstIn_2 hOK hF hKK hr hlocks k0 fuel (0 : Int32) _ _ _ hs hW hS (lv_sub hl [1, 2, 3, 0] rfl)

set_option maxHeartbeats 4000000 in
set_option maxRecDepth 100000 in
theorem cl_X5_roundOf_2 {p : Program} {l : Launch} {e : Env} {s : State} {m : MethodId} {args : Array Value} {below : List Frame} {meth : Method} {c : Code} {G : va_G} {Λ : Lay} {μ : Mem} {r : Int32} (hOK : LayOK Λ) (hF : CallFix p m c cX5_roundOf 3 s args tw RX5) (hKK : KK G Λ s) (hr : meth.sig.returnType = (some .int)) (hlocks : meth.locks = false) {x0 : Nat} (kx0 : inK Λ x0 5) {x1 : Int32} : ∀ (n : Nat) (x2 : Int32) (H : Heap) (locs : List Loc) (ls : Array Slot), lpX5_roundOf_2 Λ μ x0 x1 n x2 = some r → Wd G Λ μ H → va_S (inL Λ) s.heap H locs → lv_has ls 3 [(0, .ref x0), (1, .int x1), (2, .int x2)] → W p l e (rmd 2) s m args below meth c H locs 0 0 (MQ below (QI G Λ r μ) args s 0 0 (inL Λ)) (F0 m 2 ls []) := by
  have hx := hF.1
  have hb := hF.2.1
  have hA : ∀ q, inL Λ q → inL Λ q := fun _ h => h
  intro n
  induction n with
  | zero =>
    intro x2 H locs ls hs hW hS hl
    cases hs
  | succ n2 ih2 =>
    intro x2 H locs ls hs hW hS hl
    rw [lpX5_roundOf_2_s] at hs
    refine lv_aload_n hx hb dX5_roundOf_2 rfl (lv_at hl 0 rfl) ?_
    refine lv_iload_n hx hb dX5_roundOf_3 rfl (lv_at hl 2 rfl) ?_
    refine lv_iload_n hx hb dX5_roundOf_4 rfl (lv_at hl 1 rfl) ?_
    obtain ⟨q1, hq1, hs⟩ := obind_e hs
    refine end_i (run_V (q := (RX5, TX5, 21)) (ci := 5) hF hKK hW hS hl.1 kx0 (by decide) rfl (c_X5_firstIn l hOK kx0 hq1) (kw_X5_74 hF.2.2.2.2 ⟨Nat.le_of_ble_eq_true rfl, Nat.le_of_ble_eq_true rfl⟩) rfl rfl (Nat.le_of_ble_eq_true rfl) dX5_roundOf_5 ⟨Nat.zero_le _, Nat.zero_le _⟩) hS (fun H locs hW hS => ?_)
    refine lv_if_ge (tgt := 17) hx hb dX5_roundOf_8 (by decide) (fun c2 => ?_) (fun c2 => ?_)
    · have hs := ite_t hs c2
      refine lv_iload_n hx hb dX5_roundOf_17 rfl (lv_at hl 2 rfl) ?_
      have h9 := Option.some.inj hs
      rw [← h9]
      exact wr_i hF hr hlocks (vp_nar_int _) hW hS dX5_roundOf_18
    · have hs := ite_f hs c2
      obtain ⟨v3, ev3, hs⟩ := bnd_e hs
      refine lv_iinc (v := v3) (lv' := [(2, .int v3), (0, .ref x0), (1, .int x1)]) hx hb dX5_roundOf_11 hl (k := 2) rfl (by rw [ev3]; rfl) (by decide) rfl (fun ls hl => ?_)
      refine lv_goto (tgt := 2) hx hb dX5_roundOf_14 (by decide) ?_
      exact ih2 v3 _ _ _ hs hW hS (lv_sub hl [1, 2, 0] rfl)

set_option maxHeartbeats 4000000 in
set_option maxRecDepth 100000 in
theorem c_X5_roundOf (l : Launch) {G : va_G} {Λ : Lay} {μ : Mem} (hOK : LayOK Λ) {a0 : Nat} (k0 : inK Λ a0 5) {a1 : Int32} {r : Int32} (hs : sX5_roundOf Λ μ a0 a1 = some r) : CM l G Λ yX5_roundOf cX5_roundOf 3 (some .int) 2 μ [.ref a0, .int a1] (QI G Λ r μ) := by
  refine ofM (own := RX5) (by decide +kernel) rfl (Nat.le_of_ble_eq_true rfl) (fun p e s m args below meth c ls hF hKK hW hr hlocks hl => ?_)
  have hx := hF.1
  have hb := hF.2.1
  have hA : ∀ q, inL Λ q → inL Λ q := fun _ h => h
  have hS : va_S (inL Λ) s.heap s.heap [] := va_S.rf
  have hl : lv_has ls 3 [(0, .ref a0), (1, .int a1)] := hl
  unfold sX5_roundOf at hs
  refine lv_iconst (v := (0 : Int32)) hx hb dX5_roundOf_0 (by decide) ?_
  refine lv_istore_n (lv' := [(2, .int (0 : Int32)), (0, .ref a0), (1, .int a1)]) hx hb dX5_roundOf_1 rfl hl (by decide) rfl (fun ls hl => ?_)
  exact cl_X5_roundOf_2 hOK hF hKK hr hlocks k0 fuel (0 : Int32) _ _ _ hs hW hS (lv_sub hl [1, 2, 0] rfl)

set_option maxHeartbeats 4000000 in
set_option maxRecDepth 100000 in
theorem c_X5_first (l : Launch) {G : va_G} {Λ : Lay} {μ : Mem} (hOK : LayOK Λ) {a0 : Nat} (k0 : inK Λ a0 5) {a1 : Int32} {r : Int32} (hs : sX5_first Λ μ a0 a1 = some r) : CM l G Λ yX5_first cX5_first 2 (some .int) 3 μ [.ref a0, .int a1] (QI G Λ r μ) := by
  refine ofM (own := RX5) (by decide +kernel) rfl (Nat.le_of_ble_eq_true rfl) (fun p e s m args below meth c ls hF hKK hW hr hlocks hl => ?_)
  have hx := hF.1
  have hb := hF.2.1
  have hA : ∀ q, inL Λ q → inL Λ q := fun _ h => h
  have hS : va_S (inL Λ) s.heap s.heap [] := va_S.rf
  have hl : lv_has ls 2 [(0, .ref a0), (1, .int a1)] := hl
  unfold sX5_first at hs
  refine lv_aload_n hx hb dX5_first_0 rfl (lv_at hl 0 rfl) ?_
  refine lv_aload_n hx hb dX5_first_1 rfl (lv_at hl 0 rfl) ?_
  refine lv_iload_n hx hb dX5_first_2 rfl (lv_at hl 1 rfl) ?_
  obtain ⟨q1, hq1, hs⟩ := obind_e hs
  refine end_i (run_V (q := (RX5, TX5, 21)) (ci := 5) hF hKK hW hS hl.1 k0 (by decide) rfl (c_X5_roundOf l hOK k0 hq1) (kw_X5_77 hF.2.2.2.2 ⟨Nat.le_of_ble_eq_true rfl, Nat.le_of_ble_eq_true rfl⟩) rfl rfl (Nat.le_of_ble_eq_true rfl) dX5_first_3 ⟨Nat.zero_le _, Nat.zero_le _⟩) hS (fun H locs hW hS => ?_)
  refine lv_iload_n hx hb dX5_first_6 rfl (lv_at hl 1 rfl) ?_
  obtain ⟨q2, hq2, hs⟩ := obind_e hs
  refine end_i (run_V (q := (RX5, TX5, 21)) (ci := 5) hF hKK hW hS hl.1 k0 (by decide) rfl (c_X5_firstIn l hOK k0 hq2) (kw_X5_74 hF.2.2.2.2 ⟨Nat.le_of_ble_eq_true rfl, Nat.le_of_ble_eq_true rfl⟩) rfl rfl (Nat.le_of_ble_eq_true rfl) dX5_first_7 ⟨Nat.zero_le _, Nat.zero_le _⟩) hS (fun H locs hW hS => ?_)
  have h9 := Option.some.inj hs
  rw [← h9]
  exact wr_i hF hr hlocks (vp_nar_int _) hW hS dX5_first_10

set_option maxHeartbeats 4000000 in
set_option maxRecDepth 100000 in
theorem c_X5_above (l : Launch) {G : va_G} {Λ : Lay} {μ : Mem} (hOK : LayOK Λ) {a0 : Nat} (k0 : inK Λ a0 5) {a1 : Int32} {r : Int32} (hs : sX5_above Λ μ a0 a1 = some r) : CM l G Λ yX5_above cX5_above 3 (some .int) 4 μ [.ref a0, .int a1] (QI G Λ r μ) := by
  refine ofM (own := RX5) (by decide +kernel) rfl (Nat.le_of_ble_eq_true rfl) (fun p e s m args below meth c ls hF hKK hW hr hlocks hl => ?_)
  have hx := hF.1
  have hb := hF.2.1
  have hA : ∀ q, inL Λ q → inL Λ q := fun _ h => h
  have hS : va_S (inL Λ) s.heap s.heap [] := va_S.rf
  have hl : lv_has ls 3 [(0, .ref a0), (1, .int a1)] := hl
  unfold sX5_above at hs
  refine lv_aload_n hx hb dX5_above_0 rfl (lv_at hl 0 rfl) ?_
  refine lv_iload_n hx hb dX5_above_1 rfl (lv_at hl 1 rfl) ?_
  obtain ⟨q1, hq1, hs⟩ := obind_e hs
  refine end_i (run_V (q := (RX5, TX5, 21)) (ci := 5) hF hKK hW hS hl.1 k0 (by decide) rfl (c_X5_first l hOK k0 hq1) (kw_X5_123 hF.2.2.2.2 ⟨Nat.le_of_ble_eq_true rfl, Nat.le_of_ble_eq_true rfl⟩) rfl rfl (Nat.le_of_ble_eq_true rfl) dX5_above_2 ⟨Nat.zero_le _, Nat.zero_le _⟩) hS (fun H locs hW hS => ?_)
  refine lv_istore_n (lv' := [(2, .int q1), (0, .ref a0), (1, .int a1)]) hx hb dX5_above_5 rfl hl (by decide) rfl (fun ls hl => ?_)
  refine lv_iload_n hx hb dX5_above_6 rfl (lv_at hl 0 rfl) ?_
  refine lv_if_ne (tgt := 15) hx hb dX5_above_7 (by decide) (fun c2 => ?_) (fun c2 => ?_)
  · have hs := ite_f hs c2
    refine lv_aload_n hx hb dX5_above_15 rfl (lv_at hl 1 rfl) ?_
    refine lv_aload_n hx hb dX5_above_16 rfl (lv_at hl 1 rfl) ?_
    refine lv_iload_n hx hb dX5_above_17 rfl (lv_at hl 2 rfl) ?_
    obtain ⟨q3, hq3, hs⟩ := obind_e hs
    refine end_i (run_V (q := (RX5, TX5, 21)) (ci := 5) hF hKK hW hS hl.1 k0 (by decide) rfl (c_X5_roundOf l hOK k0 hq3) (kw_X5_77 hF.2.2.2.2 ⟨Nat.le_of_ble_eq_true rfl, Nat.le_of_ble_eq_true rfl⟩) rfl rfl (Nat.le_of_ble_eq_true rfl) dX5_above_18 ⟨Nat.zero_le _, Nat.zero_le _⟩) hS (fun H locs hW hS => ?_)
    refine lv_iload_n hx hb dX5_above_21 rfl (lv_at hl 0 rfl) ?_
    refine lv_iconst (v := (1 : Int32)) hx hb dX5_above_22 (by decide) ?_
    refine lv_isub hx hb dX5_above_23 ?_
    obtain ⟨q4, hq4, hs⟩ := obind_e hs
    refine end_i (run_V (q := (RX5, TX5, 21)) (ci := 5) hF hKK hW hS hl.1 k0 (by decide) rfl (c_X5_place l hOK k0 hq4) (kw_X5_70 hF.2.2.2.2 ⟨Nat.le_of_ble_eq_true rfl, Nat.le_of_ble_eq_true rfl⟩) rfl rfl (Nat.le_of_ble_eq_true rfl) dX5_above_24 ⟨Nat.zero_le _, Nat.zero_le _⟩) hS (fun H locs hW hS => ?_)
    have h9 := Option.some.inj hs
    rw [← h9]
    exact wr_i hF hr hlocks (vp_nar_int _) hW hS dX5_above_27
  · have hs := ite_t hs c2
    refine lv_bipush (v := (-4 : Int32)) hx hb dX5_above_10 (by decide) ?_
    refine lv_goto (tgt := 27) hx hb dX5_above_12 (by decide) ?_
    have h9 := Option.some.inj hs
    rw [← h9]
    exact wr_i hF hr hlocks (vp_nar_int _) hW hS dX5_above_27

set_option maxHeartbeats 4000000 in
set_option maxRecDepth 100000 in
theorem cl_X5_allPlaces_4 {p : Program} {l : Launch} {e : Env} {s : State} {m : MethodId} {args : Array Value} {below : List Frame} {meth : Method} {c : Code} {G : va_G} {Λ : Lay} {μ : Mem} {r : Int32} (hOK : LayOK Λ) (hF : CallFix p m c cX5_allPlaces 3 s args tw RX5) (hKK : KK G Λ s) (hr : meth.sig.returnType = (some .int)) (hlocks : meth.locks = false) {x0 : Nat} (kx0 : inK Λ x0 5) : ∀ (n : Nat) (x1 : Int32) (x2 : Int32) (H : Heap) (locs : List Loc) (ls : Array Slot), lpX5_allPlaces_4 Λ μ x0 n x1 x2 = some r → Wd G Λ μ H → va_S (inL Λ) s.heap H locs → lv_has ls 3 [(0, .ref x0), (1, .int x1), (2, .int x2)] → W p l e (rmd 1) s m args below meth c H locs 0 0 (MQ below (QI G Λ r μ) args s 0 0 (inL Λ)) (F0 m 4 ls []) := by
  have hx := hF.1
  have hb := hF.2.1
  have hA : ∀ q, inL Λ q → inL Λ q := fun _ h => h
  intro n
  induction n with
  | zero =>
    intro x1 x2 H locs ls hs hW hS hl
    cases hs
  | succ n4 ih4 =>
    intro x1 x2 H locs ls hs hW hS hl
    rw [lpX5_allPlaces_4_s] at hs
    refine lv_iload_n hx hb dX5_allPlaces_4 rfl (lv_at hl 2 rfl) ?_
    refine lv_bipush (v := (12 : Int32)) hx hb dX5_allPlaces_5 (by decide) ?_
    refine lv_icmp_ge (tgt := 24) hx hb dX5_allPlaces_7 (by decide) (fun c1 => ?_) (fun c1 => ?_)
    · have hs := ite_t hs c1
      refine lv_iload_n hx hb dX5_allPlaces_24 rfl (lv_at hl 1 rfl) ?_
      have h9 := Option.some.inj hs
      rw [← h9]
      exact wr_i hF hr hlocks (vp_nar_int _) hW hS dX5_allPlaces_25
    · have hs := ite_f hs c1
      refine lv_iload_n hx hb dX5_allPlaces_10 rfl (lv_at hl 1 rfl) ?_
      refine lv_aload_n hx hb dX5_allPlaces_11 rfl (lv_at hl 0 rfl) ?_
      refine lv_iload_n hx hb dX5_allPlaces_12 rfl (lv_at hl 2 rfl) ?_
      obtain ⟨q2, hq2, hs⟩ := obind_e hs
      refine end_i (run_V (q := (RX5, TX5, 21)) (ci := 5) hF hKK hW hS hl.1 kx0 (by decide) rfl (c_X5_size l hOK kx0 hq2) (kw_X5_66 hF.2.2.2.2 ⟨Nat.le_of_ble_eq_true rfl, Nat.le_of_ble_eq_true rfl⟩) rfl rfl (Nat.le_of_ble_eq_true rfl) dX5_allPlaces_13 ⟨Nat.zero_le _, Nat.zero_le _⟩) hS (fun H locs hW hS => ?_)
      refine lv_iadd hx hb dX5_allPlaces_16 ?_
      obtain ⟨v3, ev3, hs⟩ := bnd_e hs
      refine top_i ev3 ?_
      refine lv_istore_n (lv' := [(1, .int v3), (0, .ref x0), (2, .int x2)]) hx hb dX5_allPlaces_17 rfl hl (by decide) rfl (fun ls hl => ?_)
      obtain ⟨v4, ev4, hs⟩ := bnd_e hs
      refine lv_iinc (v := v4) (lv' := [(2, .int v4), (1, .int v3), (0, .ref x0)]) hx hb dX5_allPlaces_18 hl (k := 2) rfl (by rw [ev4]; rfl) (by decide) rfl (fun ls hl => ?_)
      refine lv_goto (tgt := 4) hx hb dX5_allPlaces_21 (by decide) ?_
      exact ih4 v3 v4 _ _ _ hs hW hS (lv_sub hl [2, 1, 0] rfl)

set_option maxHeartbeats 4000000 in
set_option maxRecDepth 100000 in
theorem c_X5_allPlaces (l : Launch) {G : va_G} {Λ : Lay} {μ : Mem} (hOK : LayOK Λ) {a0 : Nat} (k0 : inK Λ a0 5) {r : Int32} (hs : sX5_allPlaces Λ μ a0 = some r) : CM l G Λ yX5_allPlaces cX5_allPlaces 3 (some .int) 1 μ [.ref a0] (QI G Λ r μ) := by
  refine ofM (own := RX5) (by decide +kernel) rfl (Nat.le_of_ble_eq_true rfl) (fun p e s m args below meth c ls hF hKK hW hr hlocks hl => ?_)
  have hx := hF.1
  have hb := hF.2.1
  have hA : ∀ q, inL Λ q → inL Λ q := fun _ h => h
  have hS : va_S (inL Λ) s.heap s.heap [] := va_S.rf
  have hl : lv_has ls 3 [(0, .ref a0)] := hl
  unfold sX5_allPlaces at hs
  refine lv_iconst (v := (0 : Int32)) hx hb dX5_allPlaces_0 (by decide) ?_
  refine lv_istore_n (lv' := [(1, .int (0 : Int32)), (0, .ref a0)]) hx hb dX5_allPlaces_1 rfl hl (by decide) rfl (fun ls hl => ?_)
  refine lv_iconst (v := (0 : Int32)) hx hb dX5_allPlaces_2 (by decide) ?_
  refine lv_istore_n (lv' := [(2, .int (0 : Int32)), (1, .int (0 : Int32)), (0, .ref a0)]) hx hb dX5_allPlaces_3 rfl hl (by decide) rfl (fun ls hl => ?_)
  exact cl_X5_allPlaces_4 hOK hF hKK hr hlocks k0 fuel (0 : Int32) (0 : Int32) _ _ _ hs hW hS (lv_sub hl [2, 1, 0] rfl)

set_option maxHeartbeats 4000000 in
set_option maxRecDepth 100000 in
theorem c_X5_weight (l : Launch) {G : va_G} {Λ : Lay} {μ : Mem} (hOK : LayOK Λ) {a0 : Nat} (k0 : inK Λ a0 5) {a1 : Int32} {r : Int32} (hs : sX5_weight Λ μ a0 a1 = some r) : CM l G Λ yX5_weight cX5_weight 2 (some .int) 0 μ [.ref a0, .int a1] (QI G Λ r μ) := by
  refine ofM (own := RX5) (by decide +kernel) rfl (Nat.le_of_ble_eq_true rfl) (fun p e s m args below meth c ls hF hKK hW hr hlocks hl => ?_)
  have hx := hF.1
  have hb := hF.2.1
  have hA : ∀ q, inL Λ q → inL Λ q := fun _ h => h
  have hS : va_S (inL Λ) s.heap s.heap [] := va_S.rf
  have hl : lv_has ls 2 [(0, .ref a0), (1, .int a1)] := hl
  unfold sX5_weight at hs
  refine lv_aload_n hx hb dX5_weight_0 rfl (lv_at hl 0 rfl) ?_
  refine gf_5_0 hF hKK hW k0 dX5_weight_1 ?_
  refine lv_iconst (v := (4 : Int32)) hx hb dX5_weight_4 (by decide) ?_
  refine lv_iload_n hx hb dX5_weight_5 rfl (lv_at hl 1 rfl) ?_
  refine lv_iadd hx hb dX5_weight_6 ?_
  obtain ⟨g1, hs⟩ := gd_some hs
  refine ga_ld hF hKK hW (lk_5_0 hOK k0) g1 dX5_weight_7 ?_
  have h9 := Option.some.inj hs
  rw [← h9]
  exact wr_i hF hr hlocks (vp_nar_int _) hW hS dX5_weight_8

set_option maxHeartbeats 4000000 in
set_option maxRecDepth 100000 in
theorem cl_X5_allWeights_4 {p : Program} {l : Launch} {e : Env} {s : State} {m : MethodId} {args : Array Value} {below : List Frame} {meth : Method} {c : Code} {G : va_G} {Λ : Lay} {μ : Mem} {r : Int32} (hOK : LayOK Λ) (hF : CallFix p m c cX5_allWeights 3 s args tw RX5) (hKK : KK G Λ s) (hr : meth.sig.returnType = (some .int)) (hlocks : meth.locks = false) {x0 : Nat} (kx0 : inK Λ x0 5) : ∀ (n : Nat) (x1 : Int32) (x2 : Int32) (H : Heap) (locs : List Loc) (ls : Array Slot), lpX5_allWeights_4 Λ μ x0 n x1 x2 = some r → Wd G Λ μ H → va_S (inL Λ) s.heap H locs → lv_has ls 3 [(0, .ref x0), (1, .int x1), (2, .int x2)] → W p l e (rmd 1) s m args below meth c H locs 0 0 (MQ below (QI G Λ r μ) args s 0 0 (inL Λ)) (F0 m 4 ls []) := by
  have hx := hF.1
  have hb := hF.2.1
  have hA : ∀ q, inL Λ q → inL Λ q := fun _ h => h
  intro n
  induction n with
  | zero =>
    intro x1 x2 H locs ls hs hW hS hl
    cases hs
  | succ n4 ih4 =>
    intro x1 x2 H locs ls hs hW hS hl
    rw [lpX5_allWeights_4_s] at hs
    refine lv_iload_n hx hb dX5_allWeights_4 rfl (lv_at hl 2 rfl) ?_
    refine lv_aload_n hx hb dX5_allWeights_5 rfl (lv_at hl 0 rfl) ?_
    refine gf_5_0 hF hKK hW kx0 dX5_allWeights_6 ?_
    refine lv_iconst (v := (0 : Int32)) hx hb dX5_allWeights_9 (by decide) ?_
    obtain ⟨g1, hs⟩ := gd_some hs
    refine ga_ld hF hKK hW (lk_5_0 hOK kx0) g1 dX5_allWeights_10 ?_
    refine lv_icmp_ge (tgt := 28) hx hb dX5_allWeights_11 (by decide) (fun c2 => ?_) (fun c2 => ?_)
    · have hs := ite_t hs c2
      refine lv_iload_n hx hb dX5_allWeights_28 rfl (lv_at hl 1 rfl) ?_
      have h9 := Option.some.inj hs
      rw [← h9]
      exact wr_i hF hr hlocks (vp_nar_int _) hW hS dX5_allWeights_29
    · have hs := ite_f hs c2
      refine lv_iload_n hx hb dX5_allWeights_14 rfl (lv_at hl 1 rfl) ?_
      refine lv_aload_n hx hb dX5_allWeights_15 rfl (lv_at hl 0 rfl) ?_
      refine lv_iload_n hx hb dX5_allWeights_16 rfl (lv_at hl 2 rfl) ?_
      obtain ⟨q3, hq3, hs⟩ := obind_e hs
      refine end_i (run_V (q := (RX5, TX5, 21)) (ci := 5) hF hKK hW hS hl.1 kx0 (by decide) rfl (c_X5_weight l hOK kx0 hq3) (kw_X5_103 hF.2.2.2.2 ⟨Nat.le_of_ble_eq_true rfl, Nat.le_of_ble_eq_true rfl⟩) rfl rfl (Nat.le_of_ble_eq_true rfl) dX5_allWeights_17 ⟨Nat.zero_le _, Nat.zero_le _⟩) hS (fun H locs hW hS => ?_)
      refine lv_iadd hx hb dX5_allWeights_20 ?_
      obtain ⟨v4, ev4, hs⟩ := bnd_e hs
      refine top_i ev4 ?_
      refine lv_istore_n (lv' := [(1, .int v4), (0, .ref x0), (2, .int x2)]) hx hb dX5_allWeights_21 rfl hl (by decide) rfl (fun ls hl => ?_)
      obtain ⟨v5, ev5, hs⟩ := bnd_e hs
      refine lv_iinc (v := v5) (lv' := [(2, .int v5), (1, .int v4), (0, .ref x0)]) hx hb dX5_allWeights_22 hl (k := 2) rfl (by rw [ev5]; rfl) (by decide) rfl (fun ls hl => ?_)
      refine lv_goto (tgt := 4) hx hb dX5_allWeights_25 (by decide) ?_
      exact ih4 v4 v5 _ _ _ hs hW hS (lv_sub hl [2, 1, 0] rfl)

set_option maxHeartbeats 4000000 in
set_option maxRecDepth 100000 in
theorem c_X5_allWeights (l : Launch) {G : va_G} {Λ : Lay} {μ : Mem} (hOK : LayOK Λ) {a0 : Nat} (k0 : inK Λ a0 5) {r : Int32} (hs : sX5_allWeights Λ μ a0 = some r) : CM l G Λ yX5_allWeights cX5_allWeights 3 (some .int) 1 μ [.ref a0] (QI G Λ r μ) := by
  refine ofM (own := RX5) (by decide +kernel) rfl (Nat.le_of_ble_eq_true rfl) (fun p e s m args below meth c ls hF hKK hW hr hlocks hl => ?_)
  have hx := hF.1
  have hb := hF.2.1
  have hA : ∀ q, inL Λ q → inL Λ q := fun _ h => h
  have hS : va_S (inL Λ) s.heap s.heap [] := va_S.rf
  have hl : lv_has ls 3 [(0, .ref a0)] := hl
  unfold sX5_allWeights at hs
  refine lv_iconst (v := (0 : Int32)) hx hb dX5_allWeights_0 (by decide) ?_
  refine lv_istore_n (lv' := [(1, .int (0 : Int32)), (0, .ref a0)]) hx hb dX5_allWeights_1 rfl hl (by decide) rfl (fun ls hl => ?_)
  refine lv_iconst (v := (0 : Int32)) hx hb dX5_allWeights_2 (by decide) ?_
  refine lv_istore_n (lv' := [(2, .int (0 : Int32)), (1, .int (0 : Int32)), (0, .ref a0)]) hx hb dX5_allWeights_3 rfl hl (by decide) rfl (fun ls hl => ?_)
  exact cl_X5_allWeights_4 hOK hF hKK hr hlocks k0 fuel (0 : Int32) (0 : Int32) _ _ _ hs hW hS (lv_sub hl [2, 1, 0] rfl)

set_option maxHeartbeats 4000000 in
set_option maxRecDepth 100000 in
theorem c_X5_areOne (l : Launch) {G : va_G} {Λ : Lay} {μ : Mem} (hOK : LayOK Λ) {a0 : Nat} (k0 : inK Λ a0 5) {a1 : Int32} {a2 : Int32} {r : Int32} (hs : sX5_areOne Λ μ a0 a1 a2 = some r) : CM l G Λ yX5_areOne cX5_areOne 3 (some .boolean) 3 μ [.ref a0, .int a1, .int a2] (QI G Λ r μ) := by
  refine ofM (own := RX5) (by decide +kernel) rfl (Nat.le_of_ble_eq_true rfl) (fun p e s m args below meth c ls hF hKK hW hr hlocks hl => ?_)
  have hx := hF.1
  have hb := hF.2.1
  have hA : ∀ q, inL Λ q → inL Λ q := fun _ h => h
  have hS : va_S (inL Λ) s.heap s.heap [] := va_S.rf
  have hl : lv_has ls 3 [(0, .ref a0), (1, .int a1), (2, .int a2)] := hl
  unfold sX5_areOne at hs
  refine lv_aload_n hx hb dX5_areOne_0 rfl (lv_at hl 0 rfl) ?_
  refine lv_iload_n hx hb dX5_areOne_1 rfl (lv_at hl 1 rfl) ?_
  obtain ⟨q1, hq1, hs⟩ := obind_e hs
  refine end_i (run_V (q := (RX5, TX5, 21)) (ci := 5) hF hKK hW hS hl.1 k0 (by decide) rfl (c_X5_roundOf l hOK k0 hq1) (kw_X5_77 hF.2.2.2.2 ⟨Nat.le_of_ble_eq_true rfl, Nat.le_of_ble_eq_true rfl⟩) rfl rfl (Nat.le_of_ble_eq_true rfl) dX5_areOne_2 ⟨Nat.zero_le _, Nat.zero_le _⟩) hS (fun H locs hW hS => ?_)
  refine lv_aload_n hx hb dX5_areOne_5 rfl (lv_at hl 0 rfl) ?_
  refine lv_iload_n hx hb dX5_areOne_6 rfl (lv_at hl 2 rfl) ?_
  obtain ⟨q2, hq2, hs⟩ := obind_e hs
  refine end_i (run_V (q := (RX5, TX5, 21)) (ci := 5) hF hKK hW hS hl.1 k0 (by decide) rfl (c_X5_roundOf l hOK k0 hq2) (kw_X5_77 hF.2.2.2.2 ⟨Nat.le_of_ble_eq_true rfl, Nat.le_of_ble_eq_true rfl⟩) rfl rfl (Nat.le_of_ble_eq_true rfl) dX5_areOne_7 ⟨Nat.zero_le _, Nat.zero_le _⟩) hS (fun H locs hW hS => ?_)
  refine lv_icmp_ne (tgt := 17) hx hb dX5_areOne_10 (by decide) (fun c3 => ?_) (fun c3 => ?_)
  · have hs := ite_f hs c3
    refine lv_iconst (v := (0 : Int32)) hx hb dX5_areOne_17 (by decide) ?_
    have h9 := Option.some.inj hs
    rw [← h9]
    exact wr_i hF hr hlocks (isB_nar (Or.inl rfl)) hW hS dX5_areOne_18
  · have hs := ite_t hs c3
    refine lv_iconst (v := (1 : Int32)) hx hb dX5_areOne_13 (by decide) ?_
    refine lv_goto (tgt := 18) hx hb dX5_areOne_14 (by decide) ?_
    have h9 := Option.some.inj hs
    rw [← h9]
    exact wr_i hF hr hlocks (isB_nar (Or.inr rfl)) hW hS dX5_areOne_18

set_option maxHeartbeats 4000000 in
set_option maxRecDepth 100000 in
theorem cl_X5_last_14 {p : Program} {l : Launch} {e : Env} {s : State} {m : MethodId} {args : Array Value} {below : List Frame} {meth : Method} {c : Code} {G : va_G} {Λ : Lay} {μ : Mem} {r : Int32} (hOK : LayOK Λ) (hF : CallFix p m c cX5_last 4 s args tw RX5) (hKK : KK G Λ s) (hr : meth.sig.returnType = (some .int)) (hlocks : meth.locks = false) {x0 : Nat} (kx0 : inK Λ x0 5) {x1 : Int32} {x2 : Int32} : ∀ (n : Nat) (x3 : Int32) (H : Heap) (locs : List Loc) (ls : Array Slot), lpX5_last_14 Λ μ x0 x1 x2 n x3 = some r → Wd G Λ μ H → va_S (inL Λ) s.heap H locs → lv_has ls 4 [(0, .ref x0), (1, .int x1), (2, .int x2), (3, .int x3)] → W p l e (rmd 3) s m args below meth c H locs 0 0 (MQ below (QI G Λ r μ) args s 0 0 (inL Λ)) (F0 m 14 ls []) := by
  have hx := hF.1
  have hb := hF.2.1
  have hA : ∀ q, inL Λ q → inL Λ q := fun _ h => h
  intro n
  induction n with
  | zero =>
    intro x3 H locs ls hs hW hS hl
    cases hs
  | succ n14 ih14 =>
    intro x3 H locs ls hs hW hS hl
    rw [lpX5_last_14_s] at hs
    refine lv_aload_n hx hb dX5_last_14 rfl (lv_at hl 0 rfl) ?_
    refine lv_iload_n hx hb dX5_last_15 rfl (lv_at hl 2 rfl) ?_
    refine lv_iload_n hx hb dX5_last_16 rfl (lv_at hl 3 rfl) ?_
    obtain ⟨q4, hq4, hs⟩ := obind_e hs
    refine end_i (run_V (q := (RX5, TX5, 21)) (ci := 5) hF hKK hW hS hl.1 kx0 (by decide) rfl (c_X5_place l hOK kx0 hq4) (kw_X5_70 hF.2.2.2.2 ⟨Nat.le_of_ble_eq_true rfl, Nat.le_of_ble_eq_true rfl⟩) rfl rfl (Nat.le_of_ble_eq_true rfl) dX5_last_17 ⟨Nat.zero_le _, Nat.zero_le _⟩) hS (fun H locs hW hS => ?_)
    refine lv_iload_n hx hb dX5_last_20 rfl (lv_at hl 1 rfl) ?_
    refine lv_icmp_eq (tgt := 30) hx hb dX5_last_21 (by decide) (fun c5 => ?_) (fun c5 => ?_)
    · have hs := ite_t hs c5
      refine lv_iload_n hx hb dX5_last_30 rfl (lv_at hl 3 rfl) ?_
      have h9 := Option.some.inj hs
      rw [← h9]
      exact wr_i hF hr hlocks (vp_nar_int _) hW hS dX5_last_31
    · have hs := ite_f hs c5
      obtain ⟨v6, ev6, hs⟩ := bnd_e hs
      refine lv_iinc (v := v6) (lv' := [(3, .int v6), (0, .ref x0), (1, .int x1), (2, .int x2)]) hx hb dX5_last_24 hl (k := 3) rfl (by rw [ev6]; rfl) (by decide) rfl (fun ls hl => ?_)
      refine lv_goto (tgt := 14) hx hb dX5_last_27 (by decide) ?_
      exact ih14 v6 _ _ _ hs hW hS (lv_sub hl [1, 2, 3, 0] rfl)

set_option maxHeartbeats 4000000 in
set_option maxRecDepth 100000 in
theorem c_X5_last (l : Launch) {G : va_G} {Λ : Lay} {μ : Mem} (hOK : LayOK Λ) {a0 : Nat} (k0 : inK Λ a0 5) {a1 : Int32} {r : Int32} (hs : sX5_last Λ μ a0 a1 = some r) : CM l G Λ yX5_last cX5_last 4 (some .int) 3 μ [.ref a0, .int a1] (QI G Λ r μ) := by
  refine ofM (own := RX5) (by decide +kernel) rfl (Nat.le_of_ble_eq_true rfl) (fun p e s m args below meth c ls hF hKK hW hr hlocks hl => ?_)
  have hx := hF.1
  have hb := hF.2.1
  have hA : ∀ q, inL Λ q → inL Λ q := fun _ h => h
  have hS : va_S (inL Λ) s.heap s.heap [] := va_S.rf
  have hl : lv_has ls 4 [(0, .ref a0), (1, .int a1)] := hl
  unfold sX5_last at hs
  refine lv_aload_n hx hb dX5_last_0 rfl (lv_at hl 0 rfl) ?_
  refine lv_iload_n hx hb dX5_last_1 rfl (lv_at hl 1 rfl) ?_
  obtain ⟨q1, hq1, hs⟩ := obind_e hs
  refine end_i (run_V (q := (RX5, TX5, 21)) (ci := 5) hF hKK hW hS hl.1 k0 (by decide) rfl (c_X5_roundOf l hOK k0 hq1) (kw_X5_77 hF.2.2.2.2 ⟨Nat.le_of_ble_eq_true rfl, Nat.le_of_ble_eq_true rfl⟩) rfl rfl (Nat.le_of_ble_eq_true rfl) dX5_last_2 ⟨Nat.zero_le _, Nat.zero_le _⟩) hS (fun H locs hW hS => ?_)
  refine lv_istore_n (lv' := [(2, .int q1), (0, .ref a0), (1, .int a1)]) hx hb dX5_last_5 rfl hl (by decide) rfl (fun ls hl => ?_)
  refine lv_aload_n hx hb dX5_last_6 rfl (lv_at hl 1 rfl) ?_
  refine lv_iload_n hx hb dX5_last_7 rfl (lv_at hl 0 rfl) ?_
  obtain ⟨q2, hq2, hs⟩ := obind_e hs
  refine end_i (run_V (q := (RX5, TX5, 21)) (ci := 5) hF hKK hW hS hl.1 k0 (by decide) rfl (c_X5_size l hOK k0 hq2) (kw_X5_66 hF.2.2.2.2 ⟨Nat.le_of_ble_eq_true rfl, Nat.le_of_ble_eq_true rfl⟩) rfl rfl (Nat.le_of_ble_eq_true rfl) dX5_last_8 ⟨Nat.zero_le _, Nat.zero_le _⟩) hS (fun H locs hW hS => ?_)
  refine lv_iconst (v := (1 : Int32)) hx hb dX5_last_11 (by decide) ?_
  refine lv_isub hx hb dX5_last_12 ?_
  obtain ⟨v3, ev3, hs⟩ := bnd_e hs
  refine top_i ev3 ?_
  refine lv_istore_n (lv' := [(3, .int v3), (2, .int q1), (0, .ref a0), (1, .int a1)]) hx hb dX5_last_13 rfl hl (by decide) rfl (fun ls hl => ?_)
  exact cl_X5_last_14 hOK hF hKK hr hlocks k0 fuel v3 _ _ _ hs hW hS (lv_sub hl [2, 3, 1, 0] rfl)

set_option maxHeartbeats 4000000 in
set_option maxRecDepth 100000 in
theorem c_X5_below (l : Launch) {G : va_G} {Λ : Lay} {μ : Mem} (hOK : LayOK Λ) {a0 : Nat} (k0 : inK Λ a0 5) {a1 : Int32} {a2 : Int32} {r : Int32} (hs : sX5_below Λ μ a0 a1 a2 = some r) : CM l G Λ yX5_below cX5_below 3 (some .boolean) 4 μ [.ref a0, .int a1, .int a2] (QI G Λ r μ) := by
  refine ofM (own := RX5) (by decide +kernel) rfl (Nat.le_of_ble_eq_true rfl) (fun p e s m args below meth c ls hF hKK hW hr hlocks hl => ?_)
  have hx := hF.1
  have hb := hF.2.1
  have hA : ∀ q, inL Λ q → inL Λ q := fun _ h => h
  have hS : va_S (inL Λ) s.heap s.heap [] := va_S.rf
  have hl : lv_has ls 3 [(0, .ref a0), (1, .int a1), (2, .int a2)] := hl
  unfold sX5_below at hs
  refine lv_aload_n hx hb dX5_below_0 rfl (lv_at hl 0 rfl) ?_
  refine lv_iload_n hx hb dX5_below_1 rfl (lv_at hl 1 rfl) ?_
  refine lv_iload_n hx hb dX5_below_2 rfl (lv_at hl 2 rfl) ?_
  obtain ⟨q1, hq1, hs⟩ := obind_e hs
  refine end_i (run_V (q := (RX5, TX5, 21)) (ci := 5) hF hKK hW hS hl.1 k0 (by decide) rfl (c_X5_areOne l hOK k0 hq1) (kw_X5_110 hF.2.2.2.2 ⟨Nat.le_of_ble_eq_true rfl, Nat.le_of_ble_eq_true rfl⟩) rfl rfl (Nat.le_of_ble_eq_true rfl) dX5_below_3 ⟨Nat.zero_le _, Nat.zero_le _⟩) hS (fun H locs hW hS => ?_)
  refine lv_if_eq (tgt := 39) hx hb dX5_below_6 (by decide) (fun c2 => ?_) (fun c2 => ?_)
  · have hs := ite_t hs c2
    refine lv_iconst (v := (0 : Int32)) hx hb dX5_below_39 (by decide) ?_
    have h9 := Option.some.inj hs
    rw [← h9]
    exact wr_i hF hr hlocks (isB_nar (Or.inl rfl)) hW hS dX5_below_40
  · have hs := ite_f hs c2
    refine lv_aload_n hx hb dX5_below_9 rfl (lv_at hl 0 rfl) ?_
    refine lv_iload_n hx hb dX5_below_10 rfl (lv_at hl 1 rfl) ?_
    obtain ⟨q3, hq3, hs⟩ := obind_e hs
    refine end_i (run_V (q := (RX5, TX5, 21)) (ci := 5) hF hKK hW hS hl.1 k0 (by decide) rfl (c_X5_first l hOK k0 hq3) (kw_X5_123 hF.2.2.2.2 ⟨Nat.le_of_ble_eq_true rfl, Nat.le_of_ble_eq_true rfl⟩) rfl rfl (Nat.le_of_ble_eq_true rfl) dX5_below_11 ⟨Nat.zero_le _, Nat.zero_le _⟩) hS (fun H locs hW hS => ?_)
    refine lv_aload_n hx hb dX5_below_14 rfl (lv_at hl 0 rfl) ?_
    refine lv_iload_n hx hb dX5_below_15 rfl (lv_at hl 2 rfl) ?_
    obtain ⟨q4, hq4, hs⟩ := obind_e hs
    refine end_i (run_V (q := (RX5, TX5, 21)) (ci := 5) hF hKK hW hS hl.1 k0 (by decide) rfl (c_X5_first l hOK k0 hq4) (kw_X5_123 hF.2.2.2.2 ⟨Nat.le_of_ble_eq_true rfl, Nat.le_of_ble_eq_true rfl⟩) rfl rfl (Nat.le_of_ble_eq_true rfl) dX5_below_16 ⟨Nat.zero_le _, Nat.zero_le _⟩) hS (fun H locs hW hS => ?_)
    refine lv_icmp_lt (tgt := 39) hx hb dX5_below_19 (by decide) (fun c5 => ?_) (fun c5 => ?_)
    · have hs := ite_t hs c5
      refine lv_iconst (v := (0 : Int32)) hx hb dX5_below_39 (by decide) ?_
      have h9 := Option.some.inj hs
      rw [← h9]
      exact wr_i hF hr hlocks (isB_nar (Or.inl rfl)) hW hS dX5_below_40
    · have hs := ite_f hs c5
      refine lv_aload_n hx hb dX5_below_22 rfl (lv_at hl 0 rfl) ?_
      refine lv_iload_n hx hb dX5_below_23 rfl (lv_at hl 1 rfl) ?_
      obtain ⟨q6, hq6, hs⟩ := obind_e hs
      refine end_i (run_V (q := (RX5, TX5, 21)) (ci := 5) hF hKK hW hS hl.1 k0 (by decide) rfl (c_X5_last l hOK k0 hq6) (kw_X5_132 hF.2.2.2.2 ⟨Nat.le_of_ble_eq_true rfl, Nat.le_of_ble_eq_true rfl⟩) rfl rfl (Nat.le_of_ble_eq_true rfl) dX5_below_24 ⟨Nat.zero_le _, Nat.zero_le _⟩) hS (fun H locs hW hS => ?_)
      refine lv_aload_n hx hb dX5_below_27 rfl (lv_at hl 0 rfl) ?_
      refine lv_iload_n hx hb dX5_below_28 rfl (lv_at hl 2 rfl) ?_
      obtain ⟨q7, hq7, hs⟩ := obind_e hs
      refine end_i (run_V (q := (RX5, TX5, 21)) (ci := 5) hF hKK hW hS hl.1 k0 (by decide) rfl (c_X5_last l hOK k0 hq7) (kw_X5_132 hF.2.2.2.2 ⟨Nat.le_of_ble_eq_true rfl, Nat.le_of_ble_eq_true rfl⟩) rfl rfl (Nat.le_of_ble_eq_true rfl) dX5_below_29 ⟨Nat.zero_le _, Nat.zero_le _⟩) hS (fun H locs hW hS => ?_)
      refine lv_icmp_gt (tgt := 39) hx hb dX5_below_32 (by decide) (fun c8 => ?_) (fun c8 => ?_)
      · have hs := ite_t hs c8
        refine lv_iconst (v := (0 : Int32)) hx hb dX5_below_39 (by decide) ?_
        have h9 := Option.some.inj hs
        rw [← h9]
        exact wr_i hF hr hlocks (isB_nar (Or.inl rfl)) hW hS dX5_below_40
      · have hs := ite_f hs c8
        refine lv_iconst (v := (1 : Int32)) hx hb dX5_below_35 (by decide) ?_
        refine lv_goto (tgt := 40) hx hb dX5_below_36 (by decide) ?_
        have h9 := Option.some.inj hs
        rw [← h9]
        exact wr_i hF hr hlocks (isB_nar (Or.inr rfl)) hW hS dX5_below_40

set_option maxHeartbeats 4000000 in
set_option maxRecDepth 100000 in
theorem cl_X5_depth_4 {p : Program} {l : Launch} {e : Env} {s : State} {m : MethodId} {args : Array Value} {below : List Frame} {meth : Method} {c : Code} {G : va_G} {Λ : Lay} {μ : Mem} {r : Int32} (hOK : LayOK Λ) (hF : CallFix p m c cX5_depth 4 s args tw RX5) (hKK : KK G Λ s) (hr : meth.sig.returnType = (some .int)) (hlocks : meth.locks = false) {x0 : Nat} (kx0 : inK Λ x0 5) {x1 : Int32} : ∀ (n : Nat) (x2 : Int32) (x3 : Int32) (H : Heap) (locs : List Loc) (ls : Array Slot), lpX5_depth_4 Λ μ x0 x1 n x2 x3 = some r → Wd G Λ μ H → va_S (inL Λ) s.heap H locs → lv_has ls 4 [(0, .ref x0), (1, .int x1), (2, .int x2), (3, .int x3)] → W p l e (rmd 5) s m args below meth c H locs 0 0 (MQ below (QI G Λ r μ) args s 0 0 (inL Λ)) (F0 m 4 ls []) := by
  have hx := hF.1
  have hb := hF.2.1
  have hA : ∀ q, inL Λ q → inL Λ q := fun _ h => h
  intro n
  induction n with
  | zero =>
    intro x2 x3 H locs ls hs hW hS hl
    cases hs
  | succ n4 ih4 =>
    intro x2 x3 H locs ls hs hW hS hl
    rw [lpX5_depth_4_s] at hs
    refine lv_iload_n hx hb dX5_depth_4 rfl (lv_at hl 3 rfl) ?_
    refine lv_aload_n hx hb dX5_depth_5 rfl (lv_at hl 0 rfl) ?_
    refine gf_5_0 hF hKK hW kx0 dX5_depth_6 ?_
    refine lv_iconst (v := (0 : Int32)) hx hb dX5_depth_9 (by decide) ?_
    obtain ⟨g1, hs⟩ := gd_some hs
    refine ga_ld hF hKK hW (lk_5_0 hOK kx0) g1 dX5_depth_10 ?_
    refine lv_icmp_ge (tgt := 42) hx hb dX5_depth_11 (by decide) (fun c2 => ?_) (fun c2 => ?_)
    · have hs := ite_t hs c2
      refine lv_iload_n hx hb dX5_depth_42 rfl (lv_at hl 2 rfl) ?_
      have h9 := Option.some.inj hs
      rw [← h9]
      exact wr_i hF hr hlocks (vp_nar_int _) hW hS dX5_depth_43
    · have hs := ite_f hs c2
      refine lv_iload_n hx hb dX5_depth_14 rfl (lv_at hl 2 rfl) ?_
      refine lv_iload_n hx hb dX5_depth_15 rfl (lv_at hl 3 rfl) ?_
      refine lv_iload_n hx hb dX5_depth_16 rfl (lv_at hl 1 rfl) ?_
      refine lv_icmp_eq (tgt := 33) hx hb dX5_depth_17 (by decide) (fun c3 => ?_) (fun c3 => ?_)
      · have hs := ite_t hs c3
        refine lv_iconst (v := (0 : Int32)) hx hb dX5_depth_33 (by decide) ?_
        refine lv_iadd hx hb dX5_depth_34 ?_
        obtain ⟨v4, ev4, hs⟩ := bnd_e hs
        refine top_i ev4 ?_
        refine lv_istore_n (lv' := [(2, .int v4), (0, .ref x0), (1, .int x1), (3, .int x3)]) hx hb dX5_depth_35 rfl hl (by decide) rfl (fun ls hl => ?_)
        obtain ⟨v5, ev5, hs⟩ := bnd_e hs
        refine lv_iinc (v := v5) (lv' := [(3, .int v5), (2, .int v4), (0, .ref x0), (1, .int x1)]) hx hb dX5_depth_36 hl (k := 3) rfl (by rw [ev5]; rfl) (by decide) rfl (fun ls hl => ?_)
        refine lv_goto (tgt := 4) hx hb dX5_depth_39 (by decide) ?_
        exact ih4 v4 v5 _ _ _ hs hW hS (lv_sub hl [2, 3, 1, 0] rfl)
      · have hs := ite_f hs c3
        refine lv_aload_n hx hb dX5_depth_20 rfl (lv_at hl 0 rfl) ?_
        refine lv_iload_n hx hb dX5_depth_21 rfl (lv_at hl 1 rfl) ?_
        refine lv_iload_n hx hb dX5_depth_22 rfl (lv_at hl 3 rfl) ?_
        obtain ⟨q6, hq6, hs⟩ := obind_e hs
        refine end_i (run_V (q := (RX5, TX5, 21)) (ci := 5) hF hKK hW hS hl.1 kx0 (by decide) rfl (c_X5_below l hOK kx0 hq6) (kw_X5_138 hF.2.2.2.2 ⟨Nat.le_of_ble_eq_true rfl, Nat.le_of_ble_eq_true rfl⟩) rfl rfl (Nat.le_of_ble_eq_true rfl) dX5_depth_23 ⟨Nat.zero_le _, Nat.zero_le _⟩) hS (fun H locs hW hS => ?_)
        refine lv_if_eq (tgt := 33) hx hb dX5_depth_26 (by decide) (fun c7 => ?_) (fun c7 => ?_)
        · have hs := ite_t hs c7
          refine lv_iconst (v := (0 : Int32)) hx hb dX5_depth_33 (by decide) ?_
          refine lv_iadd hx hb dX5_depth_34 ?_
          obtain ⟨v8, ev8, hs⟩ := bnd_e hs
          refine top_i ev8 ?_
          refine lv_istore_n (lv' := [(2, .int v8), (0, .ref x0), (1, .int x1), (3, .int x3)]) hx hb dX5_depth_35 rfl hl (by decide) rfl (fun ls hl => ?_)
          obtain ⟨v9, ev9, hs⟩ := bnd_e hs
          refine lv_iinc (v := v9) (lv' := [(3, .int v9), (2, .int v8), (0, .ref x0), (1, .int x1)]) hx hb dX5_depth_36 hl (k := 3) rfl (by rw [ev9]; rfl) (by decide) rfl (fun ls hl => ?_)
          refine lv_goto (tgt := 4) hx hb dX5_depth_39 (by decide) ?_
          exact ih4 v8 v9 _ _ _ hs hW hS (lv_sub hl [2, 3, 1, 0] rfl)
        · have hs := ite_f hs c7
          refine lv_iconst (v := (1 : Int32)) hx hb dX5_depth_29 (by decide) ?_
          refine lv_goto (tgt := 34) hx hb dX5_depth_30 (by decide) ?_
          refine lv_iadd hx hb dX5_depth_34 ?_
          obtain ⟨v10, ev10, hs⟩ := bnd_e hs
          refine top_i ev10 ?_
          refine lv_istore_n (lv' := [(2, .int v10), (0, .ref x0), (1, .int x1), (3, .int x3)]) hx hb dX5_depth_35 rfl hl (by decide) rfl (fun ls hl => ?_)
          obtain ⟨v11, ev11, hs⟩ := bnd_e hs
          refine lv_iinc (v := v11) (lv' := [(3, .int v11), (2, .int v10), (0, .ref x0), (1, .int x1)]) hx hb dX5_depth_36 hl (k := 3) rfl (by rw [ev11]; rfl) (by decide) rfl (fun ls hl => ?_)
          refine lv_goto (tgt := 4) hx hb dX5_depth_39 (by decide) ?_
          exact ih4 v10 v11 _ _ _ hs hW hS (lv_sub hl [2, 3, 1, 0] rfl)

set_option maxHeartbeats 4000000 in
set_option maxRecDepth 100000 in
theorem c_X5_depth (l : Launch) {G : va_G} {Λ : Lay} {μ : Mem} (hOK : LayOK Λ) {a0 : Nat} (k0 : inK Λ a0 5) {a1 : Int32} {r : Int32} (hs : sX5_depth Λ μ a0 a1 = some r) : CM l G Λ yX5_depth cX5_depth 4 (some .int) 5 μ [.ref a0, .int a1] (QI G Λ r μ) := by
  refine ofM (own := RX5) (by decide +kernel) rfl (Nat.le_of_ble_eq_true rfl) (fun p e s m args below meth c ls hF hKK hW hr hlocks hl => ?_)
  have hx := hF.1
  have hb := hF.2.1
  have hA : ∀ q, inL Λ q → inL Λ q := fun _ h => h
  have hS : va_S (inL Λ) s.heap s.heap [] := va_S.rf
  have hl : lv_has ls 4 [(0, .ref a0), (1, .int a1)] := hl
  unfold sX5_depth at hs
  refine lv_iconst (v := (0 : Int32)) hx hb dX5_depth_0 (by decide) ?_
  refine lv_istore_n (lv' := [(2, .int (0 : Int32)), (0, .ref a0), (1, .int a1)]) hx hb dX5_depth_1 rfl hl (by decide) rfl (fun ls hl => ?_)
  refine lv_iconst (v := (0 : Int32)) hx hb dX5_depth_2 (by decide) ?_
  refine lv_istore_n (lv' := [(3, .int (0 : Int32)), (2, .int (0 : Int32)), (0, .ref a0), (1, .int a1)]) hx hb dX5_depth_3 rfl hl (by decide) rfl (fun ls hl => ?_)
  exact cl_X5_depth_4 hOK hF hKK hr hlocks k0 fuel (0 : Int32) (0 : Int32) _ _ _ hs hW hS (lv_sub hl [2, 3, 1, 0] rfl)

set_option maxHeartbeats 4000000 in
set_option maxRecDepth 100000 in
theorem cl_X5_greatestDepth_4 {p : Program} {l : Launch} {e : Env} {s : State} {m : MethodId} {args : Array Value} {below : List Frame} {meth : Method} {c : Code} {G : va_G} {Λ : Lay} {μ : Mem} {r : Int32} (hOK : LayOK Λ) (hF : CallFix p m c cX5_greatestDepth 5 s args tw RX5) (hKK : KK G Λ s) (hr : meth.sig.returnType = (some .int)) (hlocks : meth.locks = false) {x0 : Nat} (kx0 : inK Λ x0 5) {x1 : Int32} : ∀ (n : Nat) (x2 : Int32) (x3 : Int32) (H : Heap) (locs : List Loc) (ls : Array Slot), lpX5_greatestDepth_4 Λ μ x0 x1 n x2 x3 = some r → Wd G Λ μ H → va_S (inL Λ) s.heap H locs → lv_has ls 5 [(0, .ref x0), (1, .int x1), (2, .int x2), (3, .int x3)] → W p l e (rmd 6) s m args below meth c H locs 0 0 (MQ below (QI G Λ r μ) args s 0 0 (inL Λ)) (F0 m 4 ls []) := by
  have hx := hF.1
  have hb := hF.2.1
  have hA : ∀ q, inL Λ q → inL Λ q := fun _ h => h
  intro n
  induction n with
  | zero =>
    intro x2 x3 H locs ls hs hW hS hl
    cases hs
  | succ n4 ih4 =>
    intro x2 x3 H locs ls hs hW hS hl
    rw [lpX5_greatestDepth_4_s] at hs
    refine lv_iload_n hx hb dX5_greatestDepth_4 rfl (lv_at hl 3 rfl) ?_
    refine lv_aload_n hx hb dX5_greatestDepth_5 rfl (lv_at hl 0 rfl) ?_
    refine lv_iload_n hx hb dX5_greatestDepth_6 rfl (lv_at hl 1 rfl) ?_
    obtain ⟨q1, hq1, hs⟩ := obind_e hs
    refine end_i (run_V (q := (RX5, TX5, 21)) (ci := 5) hF hKK hW hS hl.1 kx0 (by decide) rfl (c_X5_size l hOK kx0 hq1) (kw_X5_66 hF.2.2.2.2 ⟨Nat.le_of_ble_eq_true rfl, Nat.le_of_ble_eq_true rfl⟩) rfl rfl (Nat.le_of_ble_eq_true rfl) dX5_greatestDepth_7 ⟨Nat.zero_le _, Nat.zero_le _⟩) hS (fun H locs hW hS => ?_)
    refine lv_icmp_ge (tgt := 44) hx hb dX5_greatestDepth_10 (by decide) (fun c2 => ?_) (fun c2 => ?_)
    · have hs := ite_t hs c2
      refine lv_iload_n hx hb dX5_greatestDepth_44 rfl (lv_at hl 2 rfl) ?_
      have h9 := Option.some.inj hs
      rw [← h9]
      exact wr_i hF hr hlocks (vp_nar_int _) hW hS dX5_greatestDepth_45
    · have hs := ite_f hs c2
      refine lv_aload_n hx hb dX5_greatestDepth_13 rfl (lv_at hl 0 rfl) ?_
      refine lv_aload_n hx hb dX5_greatestDepth_14 rfl (lv_at hl 0 rfl) ?_
      refine lv_iload_n hx hb dX5_greatestDepth_15 rfl (lv_at hl 1 rfl) ?_
      refine lv_iload_n hx hb dX5_greatestDepth_16 rfl (lv_at hl 3 rfl) ?_
      obtain ⟨q3, hq3, hs⟩ := obind_e hs
      refine end_i (run_V (q := (RX5, TX5, 21)) (ci := 5) hF hKK hW hS hl.1 kx0 (by decide) rfl (c_X5_place l hOK kx0 hq3) (kw_X5_70 hF.2.2.2.2 ⟨Nat.le_of_ble_eq_true rfl, Nat.le_of_ble_eq_true rfl⟩) rfl rfl (Nat.le_of_ble_eq_true rfl) dX5_greatestDepth_17 ⟨Nat.zero_le _, Nat.zero_le _⟩) hS (fun H locs hW hS => ?_)
      obtain ⟨q4, hq4, hs⟩ := obind_e hs
      refine end_i (run_V (q := (RX5, TX5, 21)) (ci := 5) hF hKK hW hS hl.1 kx0 (by decide) rfl (c_X5_depth l hOK kx0 hq4) (kw_X5_144 hF.2.2.2.2 ⟨Nat.le_of_ble_eq_true rfl, Nat.le_of_ble_eq_true rfl⟩) rfl rfl (Nat.le_of_ble_eq_true rfl) dX5_greatestDepth_20 ⟨Nat.zero_le _, Nat.zero_le _⟩) hS (fun H locs hW hS => ?_)
      refine lv_istore (lv' := [(4, .int q4), (0, .ref x0), (1, .int x1), (2, .int x2), (3, .int x3)]) hx hb dX5_greatestDepth_23 hl (by decide) rfl (fun ls hl => ?_)
      refine lv_iload hx hb dX5_greatestDepth_25 (lv_at hl 0 rfl) ?_
      refine lv_iload_n hx hb dX5_greatestDepth_27 rfl (lv_at hl 3 rfl) ?_
      refine lv_icmp_le (tgt := 36) hx hb dX5_greatestDepth_28 (by decide) (fun c5 => ?_) (fun c5 => ?_)
      · have hs := ite_t hs c5
        refine lv_iload_n hx hb dX5_greatestDepth_36 rfl (lv_at hl 3 rfl) ?_
        refine lv_istore_n (lv' := [(2, .int x2), (4, .int q4), (0, .ref x0), (1, .int x1), (3, .int x3)]) hx hb dX5_greatestDepth_37 rfl hl (by decide) rfl (fun ls hl => ?_)
        obtain ⟨v6, ev6, hs⟩ := bnd_e hs
        refine lv_iinc (v := v6) (lv' := [(3, .int v6), (2, .int x2), (4, .int q4), (0, .ref x0), (1, .int x1)]) hx hb dX5_greatestDepth_38 hl (k := 4) rfl (by rw [ev6]; rfl) (by decide) rfl (fun ls hl => ?_)
        refine lv_goto (tgt := 4) hx hb dX5_greatestDepth_41 (by decide) ?_
        exact ih4 x2 v6 _ _ _ hs hW hS (lv_sub hl [3, 4, 1, 0] rfl)
      · have hs := ite_f hs c5
        refine lv_iload hx hb dX5_greatestDepth_31 (lv_at hl 0 rfl) ?_
        refine lv_goto (tgt := 37) hx hb dX5_greatestDepth_33 (by decide) ?_
        refine lv_istore_n (lv' := [(2, .int q4), (4, .int q4), (0, .ref x0), (1, .int x1), (3, .int x3)]) hx hb dX5_greatestDepth_37 rfl hl (by decide) rfl (fun ls hl => ?_)
        obtain ⟨v7, ev7, hs⟩ := bnd_e hs
        refine lv_iinc (v := v7) (lv' := [(3, .int v7), (2, .int q4), (4, .int q4), (0, .ref x0), (1, .int x1)]) hx hb dX5_greatestDepth_38 hl (k := 4) rfl (by rw [ev7]; rfl) (by decide) rfl (fun ls hl => ?_)
        refine lv_goto (tgt := 4) hx hb dX5_greatestDepth_41 (by decide) ?_
        exact ih4 q4 v7 _ _ _ hs hW hS (lv_sub hl [3, 4, 1, 0] rfl)

set_option maxHeartbeats 4000000 in
set_option maxRecDepth 100000 in
theorem c_X5_greatestDepth (l : Launch) {G : va_G} {Λ : Lay} {μ : Mem} (hOK : LayOK Λ) {a0 : Nat} (k0 : inK Λ a0 5) {a1 : Int32} {r : Int32} (hs : sX5_greatestDepth Λ μ a0 a1 = some r) : CM l G Λ yX5_greatestDepth cX5_greatestDepth 5 (some .int) 6 μ [.ref a0, .int a1] (QI G Λ r μ) := by
  refine ofM (own := RX5) (by decide +kernel) rfl (Nat.le_of_ble_eq_true rfl) (fun p e s m args below meth c ls hF hKK hW hr hlocks hl => ?_)
  have hx := hF.1
  have hb := hF.2.1
  have hA : ∀ q, inL Λ q → inL Λ q := fun _ h => h
  have hS : va_S (inL Λ) s.heap s.heap [] := va_S.rf
  have hl : lv_has ls 5 [(0, .ref a0), (1, .int a1)] := hl
  unfold sX5_greatestDepth at hs
  refine lv_iconst (v := (0 : Int32)) hx hb dX5_greatestDepth_0 (by decide) ?_
  refine lv_istore_n (lv' := [(2, .int (0 : Int32)), (0, .ref a0), (1, .int a1)]) hx hb dX5_greatestDepth_1 rfl hl (by decide) rfl (fun ls hl => ?_)
  refine lv_iconst (v := (0 : Int32)) hx hb dX5_greatestDepth_2 (by decide) ?_
  refine lv_istore_n (lv' := [(3, .int (0 : Int32)), (2, .int (0 : Int32)), (0, .ref a0), (1, .int a1)]) hx hb dX5_greatestDepth_3 rfl hl (by decide) rfl (fun ls hl => ?_)
  exact cl_X5_greatestDepth_4 hOK hF hKK hr hlocks k0 fuel (0 : Int32) (0 : Int32) _ _ _ hs hW hS (lv_sub hl [2, 3, 1, 0] rfl)

set_option maxHeartbeats 4000000 in
set_option maxRecDepth 100000 in
theorem cl_X5_deepest_4 {p : Program} {l : Launch} {e : Env} {s : State} {m : MethodId} {args : Array Value} {below : List Frame} {meth : Method} {c : Code} {G : va_G} {Λ : Lay} {μ : Mem} {r : Int32} (hOK : LayOK Λ) (hF : CallFix p m c cX5_deepest 4 s args tw RX5) (hKK : KK G Λ s) (hr : meth.sig.returnType = (some .int)) (hlocks : meth.locks = false) {x0 : Nat} (kx0 : inK Λ x0 5) : ∀ (n : Nat) (x1 : Int32) (x2 : Int32) (H : Heap) (locs : List Loc) (ls : Array Slot), lpX5_deepest_4 Λ μ x0 n x1 x2 = some r → Wd G Λ μ H → va_S (inL Λ) s.heap H locs → lv_has ls 4 [(0, .ref x0), (1, .int x1), (2, .int x2)] → W p l e (rmd 7) s m args below meth c H locs 0 0 (MQ below (QI G Λ r μ) args s 0 0 (inL Λ)) (F0 m 4 ls []) := by
  have hx := hF.1
  have hb := hF.2.1
  have hA : ∀ q, inL Λ q → inL Λ q := fun _ h => h
  intro n
  induction n with
  | zero =>
    intro x1 x2 H locs ls hs hW hS hl
    cases hs
  | succ n4 ih4 =>
    intro x1 x2 H locs ls hs hW hS hl
    rw [lpX5_deepest_4_s] at hs
    refine lv_iload_n hx hb dX5_deepest_4 rfl (lv_at hl 2 rfl) ?_
    refine lv_bipush (v := (12 : Int32)) hx hb dX5_deepest_5 (by decide) ?_
    refine lv_icmp_ge (tgt := 33) hx hb dX5_deepest_7 (by decide) (fun c1 => ?_) (fun c1 => ?_)
    · have hs := ite_t hs c1
      refine lv_iload_n hx hb dX5_deepest_33 rfl (lv_at hl 1 rfl) ?_
      have h9 := Option.some.inj hs
      rw [← h9]
      exact wr_i hF hr hlocks (vp_nar_int _) hW hS dX5_deepest_34
    · have hs := ite_f hs c1
      refine lv_aload_n hx hb dX5_deepest_10 rfl (lv_at hl 0 rfl) ?_
      refine lv_iload_n hx hb dX5_deepest_11 rfl (lv_at hl 2 rfl) ?_
      obtain ⟨q2, hq2, hs⟩ := obind_e hs
      refine end_i (run_V (q := (RX5, TX5, 21)) (ci := 5) hF hKK hW hS hl.1 kx0 (by decide) rfl (c_X5_greatestDepth l hOK kx0 hq2) (kw_X5_159 hF.2.2.2.2 ⟨Nat.le_of_ble_eq_true rfl, Nat.le_of_ble_eq_true rfl⟩) rfl rfl (Nat.le_of_ble_eq_true rfl) dX5_deepest_12 ⟨Nat.zero_le _, Nat.zero_le _⟩) hS (fun H locs hW hS => ?_)
      refine lv_istore_n (lv' := [(3, .int q2), (0, .ref x0), (1, .int x1), (2, .int x2)]) hx hb dX5_deepest_15 rfl hl (by decide) rfl (fun ls hl => ?_)
      refine lv_iload_n hx hb dX5_deepest_16 rfl (lv_at hl 0 rfl) ?_
      refine lv_iload_n hx hb dX5_deepest_17 rfl (lv_at hl 2 rfl) ?_
      refine lv_icmp_le (tgt := 25) hx hb dX5_deepest_18 (by decide) (fun c3 => ?_) (fun c3 => ?_)
      · have hs := ite_t hs c3
        refine lv_iload_n hx hb dX5_deepest_25 rfl (lv_at hl 2 rfl) ?_
        refine lv_istore_n (lv' := [(1, .int x1), (3, .int q2), (0, .ref x0), (2, .int x2)]) hx hb dX5_deepest_26 rfl hl (by decide) rfl (fun ls hl => ?_)
        obtain ⟨v4, ev4, hs⟩ := bnd_e hs
        refine lv_iinc (v := v4) (lv' := [(2, .int v4), (1, .int x1), (3, .int q2), (0, .ref x0)]) hx hb dX5_deepest_27 hl (k := 3) rfl (by rw [ev4]; rfl) (by decide) rfl (fun ls hl => ?_)
        refine lv_goto (tgt := 4) hx hb dX5_deepest_30 (by decide) ?_
        exact ih4 x1 v4 _ _ _ hs hW hS (lv_sub hl [3, 1, 0] rfl)
      · have hs := ite_f hs c3
        refine lv_iload_n hx hb dX5_deepest_21 rfl (lv_at hl 0 rfl) ?_
        refine lv_goto (tgt := 26) hx hb dX5_deepest_22 (by decide) ?_
        refine lv_istore_n (lv' := [(1, .int q2), (3, .int q2), (0, .ref x0), (2, .int x2)]) hx hb dX5_deepest_26 rfl hl (by decide) rfl (fun ls hl => ?_)
        obtain ⟨v5, ev5, hs⟩ := bnd_e hs
        refine lv_iinc (v := v5) (lv' := [(2, .int v5), (1, .int q2), (3, .int q2), (0, .ref x0)]) hx hb dX5_deepest_27 hl (k := 3) rfl (by rw [ev5]; rfl) (by decide) rfl (fun ls hl => ?_)
        refine lv_goto (tgt := 4) hx hb dX5_deepest_30 (by decide) ?_
        exact ih4 q2 v5 _ _ _ hs hW hS (lv_sub hl [3, 1, 0] rfl)

set_option maxHeartbeats 4000000 in
set_option maxRecDepth 100000 in
theorem c_X5_deepest (l : Launch) {G : va_G} {Λ : Lay} {μ : Mem} (hOK : LayOK Λ) {a0 : Nat} (k0 : inK Λ a0 5) {r : Int32} (hs : sX5_deepest Λ μ a0 = some r) : CM l G Λ yX5_deepest cX5_deepest 4 (some .int) 7 μ [.ref a0] (QI G Λ r μ) := by
  refine ofM (own := RX5) (by decide +kernel) rfl (Nat.le_of_ble_eq_true rfl) (fun p e s m args below meth c ls hF hKK hW hr hlocks hl => ?_)
  have hx := hF.1
  have hb := hF.2.1
  have hA : ∀ q, inL Λ q → inL Λ q := fun _ h => h
  have hS : va_S (inL Λ) s.heap s.heap [] := va_S.rf
  have hl : lv_has ls 4 [(0, .ref a0)] := hl
  unfold sX5_deepest at hs
  refine lv_iconst (v := (0 : Int32)) hx hb dX5_deepest_0 (by decide) ?_
  refine lv_istore_n (lv' := [(1, .int (0 : Int32)), (0, .ref a0)]) hx hb dX5_deepest_1 rfl hl (by decide) rfl (fun ls hl => ?_)
  refine lv_iconst (v := (0 : Int32)) hx hb dX5_deepest_2 (by decide) ?_
  refine lv_istore_n (lv' := [(2, .int (0 : Int32)), (1, .int (0 : Int32)), (0, .ref a0)]) hx hb dX5_deepest_3 rfl hl (by decide) rfl (fun ls hl => ?_)
  exact cl_X5_deepest_4 hOK hF hKK hr hlocks k0 fuel (0 : Int32) (0 : Int32) _ _ _ hs hW hS (lv_sub hl [2, 1, 0] rfl)

set_option maxHeartbeats 4000000 in
set_option maxRecDepth 100000 in
theorem cl_X5_parts_4 {p : Program} {l : Launch} {e : Env} {s : State} {m : MethodId} {args : Array Value} {below : List Frame} {meth : Method} {c : Code} {G : va_G} {Λ : Lay} {μ : Mem} {r : Int32} (hOK : LayOK Λ) (hF : CallFix p m c cX5_parts 3 s args tw RX5) (hKK : KK G Λ s) (hr : meth.sig.returnType = (some .int)) (hlocks : meth.locks = false) {x0 : Nat} (kx0 : inK Λ x0 5) : ∀ (n : Nat) (x1 : Int32) (x2 : Int32) (H : Heap) (locs : List Loc) (ls : Array Slot), lpX5_parts_4 Λ μ x0 n x1 x2 = some r → Wd G Λ μ H → va_S (inL Λ) s.heap H locs → lv_has ls 3 [(0, .ref x0), (1, .int x1), (2, .int x2)] → W p l e (rmd 1) s m args below meth c H locs 0 0 (MQ below (QI G Λ r μ) args s 0 0 (inL Λ)) (F0 m 4 ls []) := by
  have hx := hF.1
  have hb := hF.2.1
  have hA : ∀ q, inL Λ q → inL Λ q := fun _ h => h
  intro n
  induction n with
  | zero =>
    intro x1 x2 H locs ls hs hW hS hl
    cases hs
  | succ n4 ih4 =>
    intro x1 x2 H locs ls hs hW hS hl
    rw [lpX5_parts_4_s] at hs
    refine lv_iload_n hx hb dX5_parts_4 rfl (lv_at hl 2 rfl) ?_
    refine lv_bipush (v := (12 : Int32)) hx hb dX5_parts_5 (by decide) ?_
    refine lv_icmp_ge (tgt := 32) hx hb dX5_parts_7 (by decide) (fun c1 => ?_) (fun c1 => ?_)
    · have hs := ite_t hs c1
      refine lv_iload_n hx hb dX5_parts_32 rfl (lv_at hl 1 rfl) ?_
      have h9 := Option.some.inj hs
      rw [← h9]
      exact wr_i hF hr hlocks (vp_nar_int _) hW hS dX5_parts_33
    · have hs := ite_f hs c1
      refine lv_iload_n hx hb dX5_parts_10 rfl (lv_at hl 1 rfl) ?_
      refine lv_aload_n hx hb dX5_parts_11 rfl (lv_at hl 0 rfl) ?_
      refine lv_iload_n hx hb dX5_parts_12 rfl (lv_at hl 2 rfl) ?_
      obtain ⟨q2, hq2, hs⟩ := obind_e hs
      refine end_i (run_V (q := (RX5, TX5, 21)) (ci := 5) hF hKK hW hS hl.1 kx0 (by decide) rfl (c_X5_size l hOK kx0 hq2) (kw_X5_66 hF.2.2.2.2 ⟨Nat.le_of_ble_eq_true rfl, Nat.le_of_ble_eq_true rfl⟩) rfl rfl (Nat.le_of_ble_eq_true rfl) dX5_parts_13 ⟨Nat.zero_le _, Nat.zero_le _⟩) hS (fun H locs hW hS => ?_)
      refine lv_if_le (tgt := 23) hx hb dX5_parts_16 (by decide) (fun c3 => ?_) (fun c3 => ?_)
      · have hs := ite_t hs c3
        refine lv_iconst (v := (0 : Int32)) hx hb dX5_parts_23 (by decide) ?_
        refine lv_iadd hx hb dX5_parts_24 ?_
        obtain ⟨v4, ev4, hs⟩ := bnd_e hs
        refine top_i ev4 ?_
        refine lv_istore_n (lv' := [(1, .int v4), (0, .ref x0), (2, .int x2)]) hx hb dX5_parts_25 rfl hl (by decide) rfl (fun ls hl => ?_)
        obtain ⟨v5, ev5, hs⟩ := bnd_e hs
        refine lv_iinc (v := v5) (lv' := [(2, .int v5), (1, .int v4), (0, .ref x0)]) hx hb dX5_parts_26 hl (k := 2) rfl (by rw [ev5]; rfl) (by decide) rfl (fun ls hl => ?_)
        refine lv_goto (tgt := 4) hx hb dX5_parts_29 (by decide) ?_
        exact ih4 v4 v5 _ _ _ hs hW hS (lv_sub hl [2, 1, 0] rfl)
      · have hs := ite_f hs c3
        refine lv_iconst (v := (1 : Int32)) hx hb dX5_parts_19 (by decide) ?_
        refine lv_goto (tgt := 24) hx hb dX5_parts_20 (by decide) ?_
        refine lv_iadd hx hb dX5_parts_24 ?_
        obtain ⟨v6, ev6, hs⟩ := bnd_e hs
        refine top_i ev6 ?_
        refine lv_istore_n (lv' := [(1, .int v6), (0, .ref x0), (2, .int x2)]) hx hb dX5_parts_25 rfl hl (by decide) rfl (fun ls hl => ?_)
        obtain ⟨v7, ev7, hs⟩ := bnd_e hs
        refine lv_iinc (v := v7) (lv' := [(2, .int v7), (1, .int v6), (0, .ref x0)]) hx hb dX5_parts_26 hl (k := 2) rfl (by rw [ev7]; rfl) (by decide) rfl (fun ls hl => ?_)
        refine lv_goto (tgt := 4) hx hb dX5_parts_29 (by decide) ?_
        exact ih4 v6 v7 _ _ _ hs hW hS (lv_sub hl [2, 1, 0] rfl)

set_option maxHeartbeats 4000000 in
set_option maxRecDepth 100000 in
theorem c_X5_parts (l : Launch) {G : va_G} {Λ : Lay} {μ : Mem} (hOK : LayOK Λ) {a0 : Nat} (k0 : inK Λ a0 5) {r : Int32} (hs : sX5_parts Λ μ a0 = some r) : CM l G Λ yX5_parts cX5_parts 3 (some .int) 1 μ [.ref a0] (QI G Λ r μ) := by
  refine ofM (own := RX5) (by decide +kernel) rfl (Nat.le_of_ble_eq_true rfl) (fun p e s m args below meth c ls hF hKK hW hr hlocks hl => ?_)
  have hx := hF.1
  have hb := hF.2.1
  have hA : ∀ q, inL Λ q → inL Λ q := fun _ h => h
  have hS : va_S (inL Λ) s.heap s.heap [] := va_S.rf
  have hl : lv_has ls 3 [(0, .ref a0)] := hl
  unfold sX5_parts at hs
  refine lv_iconst (v := (0 : Int32)) hx hb dX5_parts_0 (by decide) ?_
  refine lv_istore_n (lv' := [(1, .int (0 : Int32)), (0, .ref a0)]) hx hb dX5_parts_1 rfl hl (by decide) rfl (fun ls hl => ?_)
  refine lv_iconst (v := (0 : Int32)) hx hb dX5_parts_2 (by decide) ?_
  refine lv_istore_n (lv' := [(2, .int (0 : Int32)), (1, .int (0 : Int32)), (0, .ref a0)]) hx hb dX5_parts_3 rfl hl (by decide) rfl (fun ls hl => ?_)
  exact cl_X5_parts_4 hOK hF hKK hr hlocks k0 fuel (0 : Int32) (0 : Int32) _ _ _ hs hW hS (lv_sub hl [2, 1, 0] rfl)

set_option maxHeartbeats 4000000 in
set_option maxRecDepth 100000 in
theorem c_X5_account (l : Launch) {G : va_G} {Λ : Lay} {μ : Mem} (hOK : LayOK Λ) {a0 : Nat} (k0 : inK Λ a0 5) {a1 : Int32} {r : Int32} (hs : sX5_account Λ μ a0 a1 = some r) : CM l G Λ yX5_account cX5_account 2 (some .int) 8 μ [.ref a0, .int a1] (QI G Λ r μ) := by
  refine ofM (own := RX5) (by decide +kernel) rfl (Nat.le_of_ble_eq_true rfl) (fun p e s m args below meth c ls hF hKK hW hr hlocks hl => ?_)
  have hx := hF.1
  have hb := hF.2.1
  have hA : ∀ q, inL Λ q → inL Λ q := fun _ h => h
  have hS : va_S (inL Λ) s.heap s.heap [] := va_S.rf
  have hl : lv_has ls 2 [(0, .ref a0), (1, .int a1)] := hl
  unfold sX5_account at hs
  refine lv_iload_n hx hb dX5_account_0 rfl (lv_at hl 1 rfl) ?_
  by_cases c1 : a1 = (0 : Int32)
  · have hs := ite_t hs c1
    refine lv_tableIn (off := 59) (tgt := 60) hx hb dX5_account_1 (by rw [c1]; decide) (by rw [c1]; decide) (by rw [c1]; decide) (by decide) ?_
    refine lv_aload_n hx hb dX5_account_60 rfl (lv_at hl 0 rfl) ?_
    refine gf_5_0 hF hKK hW k0 dX5_account_61 ?_
    refine lv_iconst (v := (0 : Int32)) hx hb dX5_account_64 (by decide) ?_
    obtain ⟨g2, hs⟩ := gd_some hs
    refine ga_ld hF hKK hW (lk_5_0 hOK k0) g2 dX5_account_65 ?_
    have h9 := Option.some.inj hs
    rw [← h9]
    exact wr_i hF hr hlocks (vp_nar_int _) hW hS dX5_account_66
  have hs := ite_f hs c1
  by_cases c3 : a1 = (1 : Int32)
  · have hs := ite_t hs c3
    refine lv_tableIn (off := 66) (tgt := 67) hx hb dX5_account_1 (by rw [c3]; decide) (by rw [c3]; decide) (by rw [c3]; decide) (by decide) ?_
    refine lv_aload_n hx hb dX5_account_67 rfl (lv_at hl 0 rfl) ?_
    refine gf_5_0 hF hKK hW k0 dX5_account_68 ?_
    refine lv_iconst (v := (0 : Int32)) hx hb dX5_account_71 (by decide) ?_
    obtain ⟨g4, hs⟩ := gd_some hs
    refine ga_ld hF hKK hW (lk_5_0 hOK k0) g4 dX5_account_72 ?_
    refine lv_aload_n hx hb dX5_account_73 rfl (lv_at hl 0 rfl) ?_
    obtain ⟨q5, hq5, hs⟩ := obind_e hs
    refine end_i (run_V (q := (RX5, TX5, 21)) (ci := 5) hF hKK hW hS hl.1 k0 (by decide) rfl (c_X5_parts l hOK k0 hq5) (kw_X5_254 hF.2.2.2.2 ⟨Nat.le_of_ble_eq_true rfl, Nat.le_of_ble_eq_true rfl⟩) rfl rfl (Nat.le_of_ble_eq_true rfl) dX5_account_74 ⟨Nat.zero_le _, Nat.zero_le _⟩) hS (fun H locs hW hS => ?_)
    refine lv_isub hx hb dX5_account_77 ?_
    have h9 := Option.some.inj hs
    rw [← h9]
    exact wr_i hF hr hlocks (vp_nar_int _) hW hS dX5_account_78
  have hs := ite_f hs c3
  by_cases c6 : a1 = (2 : Int32)
  · have hs := ite_t hs c6
    refine lv_tableIn (off := 78) (tgt := 79) hx hb dX5_account_1 (by rw [c6]; decide) (by rw [c6]; decide) (by rw [c6]; decide) (by decide) ?_
    refine lv_aload_n hx hb dX5_account_79 rfl (lv_at hl 0 rfl) ?_
    obtain ⟨q7, hq7, hs⟩ := obind_e hs
    refine end_i (run_V (q := (RX5, TX5, 21)) (ci := 5) hF hKK hW hS hl.1 k0 (by decide) rfl (c_X5_parts l hOK k0 hq7) (kw_X5_254 hF.2.2.2.2 ⟨Nat.le_of_ble_eq_true rfl, Nat.le_of_ble_eq_true rfl⟩) rfl rfl (Nat.le_of_ble_eq_true rfl) dX5_account_80 ⟨Nat.zero_le _, Nat.zero_le _⟩) hS (fun H locs hW hS => ?_)
    have h9 := Option.some.inj hs
    rw [← h9]
    exact wr_i hF hr hlocks (vp_nar_int _) hW hS dX5_account_83
  have hs := ite_f hs c6
  by_cases c8 : a1 = (3 : Int32)
  · have hs := ite_t hs c8
    refine lv_tableIn (off := 83) (tgt := 84) hx hb dX5_account_1 (by rw [c8]; decide) (by rw [c8]; decide) (by rw [c8]; decide) (by decide) ?_
    refine lv_aload_n hx hb dX5_account_84 rfl (lv_at hl 0 rfl) ?_
    obtain ⟨q9, hq9, hs⟩ := obind_e hs
    refine end_i (run_V (q := (RX5, TX5, 21)) (ci := 5) hF hKK hW hS hl.1 k0 (by decide) rfl (c_X5_allWeights l hOK k0 hq9) (kw_X5_257 hF.2.2.2.2 ⟨Nat.le_of_ble_eq_true rfl, Nat.le_of_ble_eq_true rfl⟩) rfl rfl (Nat.le_of_ble_eq_true rfl) dX5_account_85 ⟨Nat.zero_le _, Nat.zero_le _⟩) hS (fun H locs hW hS => ?_)
    have h9 := Option.some.inj hs
    rw [← h9]
    exact wr_i hF hr hlocks (vp_nar_int _) hW hS dX5_account_88
  have hs := ite_f hs c8
  by_cases c10 : a1 = (4 : Int32)
  · have hs := ite_t hs c10
    refine lv_tableIn (off := 88) (tgt := 89) hx hb dX5_account_1 (by rw [c10]; decide) (by rw [c10]; decide) (by rw [c10]; decide) (by decide) ?_
    refine lv_aload_n hx hb dX5_account_89 rfl (lv_at hl 0 rfl) ?_
    obtain ⟨q11, hq11, hs⟩ := obind_e hs
    refine end_i (run_V (q := (RX5, TX5, 21)) (ci := 5) hF hKK hW hS hl.1 k0 (by decide) rfl (c_X5_allPlaces l hOK k0 hq11) (kw_X5_260 hF.2.2.2.2 ⟨Nat.le_of_ble_eq_true rfl, Nat.le_of_ble_eq_true rfl⟩) rfl rfl (Nat.le_of_ble_eq_true rfl) dX5_account_90 ⟨Nat.zero_le _, Nat.zero_le _⟩) hS (fun H locs hW hS => ?_)
    have h9 := Option.some.inj hs
    rw [← h9]
    exact wr_i hF hr hlocks (vp_nar_int _) hW hS dX5_account_93
  have hs := ite_f hs c10
  by_cases c12 : a1 = (5 : Int32)
  · have hs := ite_t hs c12
    refine lv_tableIn (off := 93) (tgt := 94) hx hb dX5_account_1 (by rw [c12]; decide) (by rw [c12]; decide) (by rw [c12]; decide) (by decide) ?_
    refine lv_aload_n hx hb dX5_account_94 rfl (lv_at hl 0 rfl) ?_
    refine gf_5_0 hF hKK hW k0 dX5_account_95 ?_
    refine lv_iconst (v := (1 : Int32)) hx hb dX5_account_98 (by decide) ?_
    refine lv_iload_n hx hb dX5_account_99 rfl (lv_at hl 1 rfl) ?_
    refine lv_iadd hx hb dX5_account_100 ?_
    refine lv_iconst (v := (5 : Int32)) hx hb dX5_account_101 (by decide) ?_
    refine lv_isub hx hb dX5_account_102 ?_
    obtain ⟨g13, hs⟩ := gd_some hs
    refine ga_ld hF hKK hW (lk_5_0 hOK k0) g13 dX5_account_103 ?_
    have h9 := Option.some.inj hs
    rw [← h9]
    exact wr_i hF hr hlocks (vp_nar_int _) hW hS dX5_account_104
  have hs := ite_f hs c12
  by_cases c14 : a1 = (6 : Int32)
  · have hs := ite_t hs c14
    refine lv_tableIn (off := 93) (tgt := 94) hx hb dX5_account_1 (by rw [c14]; decide) (by rw [c14]; decide) (by rw [c14]; decide) (by decide) ?_
    refine lv_aload_n hx hb dX5_account_94 rfl (lv_at hl 0 rfl) ?_
    refine gf_5_0 hF hKK hW k0 dX5_account_95 ?_
    refine lv_iconst (v := (1 : Int32)) hx hb dX5_account_98 (by decide) ?_
    refine lv_iload_n hx hb dX5_account_99 rfl (lv_at hl 1 rfl) ?_
    refine lv_iadd hx hb dX5_account_100 ?_
    refine lv_iconst (v := (5 : Int32)) hx hb dX5_account_101 (by decide) ?_
    refine lv_isub hx hb dX5_account_102 ?_
    obtain ⟨g15, hs⟩ := gd_some hs
    refine ga_ld hF hKK hW (lk_5_0 hOK k0) g15 dX5_account_103 ?_
    have h9 := Option.some.inj hs
    rw [← h9]
    exact wr_i hF hr hlocks (vp_nar_int _) hW hS dX5_account_104
  have hs := ite_f hs c14
  by_cases c16 : a1 = (7 : Int32)
  · have hs := ite_t hs c16
    refine lv_tableIn (off := 93) (tgt := 94) hx hb dX5_account_1 (by rw [c16]; decide) (by rw [c16]; decide) (by rw [c16]; decide) (by decide) ?_
    refine lv_aload_n hx hb dX5_account_94 rfl (lv_at hl 0 rfl) ?_
    refine gf_5_0 hF hKK hW k0 dX5_account_95 ?_
    refine lv_iconst (v := (1 : Int32)) hx hb dX5_account_98 (by decide) ?_
    refine lv_iload_n hx hb dX5_account_99 rfl (lv_at hl 1 rfl) ?_
    refine lv_iadd hx hb dX5_account_100 ?_
    refine lv_iconst (v := (5 : Int32)) hx hb dX5_account_101 (by decide) ?_
    refine lv_isub hx hb dX5_account_102 ?_
    obtain ⟨g17, hs⟩ := gd_some hs
    refine ga_ld hF hKK hW (lk_5_0 hOK k0) g17 dX5_account_103 ?_
    have h9 := Option.some.inj hs
    rw [← h9]
    exact wr_i hF hr hlocks (vp_nar_int _) hW hS dX5_account_104
  have hs := ite_f hs c16
  by_cases c18 : a1 = (8 : Int32)
  · have hs := ite_t hs c18
    refine lv_tableIn (off := 104) (tgt := 105) hx hb dX5_account_1 (by rw [c18]; decide) (by rw [c18]; decide) (by rw [c18]; decide) (by decide) ?_
    refine lv_aload_n hx hb dX5_account_105 rfl (lv_at hl 0 rfl) ?_
    obtain ⟨q19, hq19, hs⟩ := obind_e hs
    refine end_i (run_V (q := (RX5, TX5, 21)) (ci := 5) hF hKK hW hS hl.1 k0 (by decide) rfl (c_X5_deepest l hOK k0 hq19) (kw_X5_263 hF.2.2.2.2 ⟨Nat.le_of_ble_eq_true rfl, Nat.le_of_ble_eq_true rfl⟩) rfl rfl (Nat.le_of_ble_eq_true rfl) dX5_account_106 ⟨Nat.zero_le _, Nat.zero_le _⟩) hS (fun H locs hW hS => ?_)
    have h9 := Option.some.inj hs
    rw [← h9]
    exact wr_i hF hr hlocks (vp_nar_int _) hW hS dX5_account_109
  have hs := ite_f hs c18
  by_cases c20 : a1 = (9 : Int32)
  · have hs := ite_t hs c20
    refine lv_tableIn (off := 109) (tgt := 110) hx hb dX5_account_1 (by rw [c20]; decide) (by rw [c20]; decide) (by rw [c20]; decide) (by decide) ?_
    refine lv_aload_n hx hb dX5_account_110 rfl (lv_at hl 0 rfl) ?_
    refine gf_5_15 hF hKK hW k0 dX5_account_111 ?_
    have h9 := Option.some.inj hs
    rw [← h9]
    exact wr_i hF hr hlocks (vp_nar_int _) hW hS dX5_account_114
  have hs := ite_f hs c20
  by_cases c21 : a1 = (10 : Int32)
  · have hs := ite_t hs c21
    refine lv_tableIn (off := 114) (tgt := 115) hx hb dX5_account_1 (by rw [c21]; decide) (by rw [c21]; decide) (by rw [c21]; decide) (by decide) ?_
    refine lv_aload_n hx hb dX5_account_115 rfl (lv_at hl 0 rfl) ?_
    refine gf_5_4 hF hKK hW k0 dX5_account_116 ?_
    have h9 := Option.some.inj hs
    rw [← h9]
    exact wr_i hF hr hlocks (vp_nar_int _) hW hS dX5_account_119
  have hs := ite_f hs c21
  refine lv_tableOut (tgt := 120) hx hb dX5_account_1 (by have := lv_neT c1 (a := 0) (by decide); have := lv_neT c3 (a := 1) (by decide); have := lv_neT c6 (a := 2) (by decide); have := lv_neT c8 (a := 3) (by decide); have := lv_neT c10 (a := 4) (by decide); have := lv_neT c12 (a := 5) (by decide); have := lv_neT c14 (a := 6) (by decide); have := lv_neT c16 (a := 7) (by decide); have := lv_neT c18 (a := 8) (by decide); have := lv_neT c20 (a := 9) (by decide); have := lv_neT c21 (a := 10) (by decide); omega) (by decide) ?_
  refine lv_bipush (v := (-2 : Int32)) hx hb dX5_account_120 (by decide) ?_
  have h9 := Option.some.inj hs
  rw [← h9]
  exact wr_i hF hr hlocks (vp_nar_int _) hW hS dX5_account_122

set_option maxHeartbeats 4000000 in
set_option maxRecDepth 100000 in
theorem c_X5_isBetween (l : Launch) {G : va_G} {Λ : Lay} {μ : Mem} (hOK : LayOK Λ) {a0 : Int32} {a1 : Int32} {a2 : Int32} {r : Int32} (hs : sX5_isBetween Λ μ a0 a1 a2 = some r) : CM l G Λ yX5_isBetween cX5_isBetween 3 (some .boolean) 0 μ [.int a0, .int a1, .int a2] (QI G Λ r μ) := by
  refine ofM (own := RX5) (by decide +kernel) rfl (Nat.le_of_ble_eq_true rfl) (fun p e s m args below meth c ls hF hKK hW hr hlocks hl => ?_)
  have hx := hF.1
  have hb := hF.2.1
  have hA : ∀ q, inL Λ q → inL Λ q := fun _ h => h
  have hS : va_S (inL Λ) s.heap s.heap [] := va_S.rf
  have hl : lv_has ls 3 [(0, .int a0), (1, .int a1), (2, .int a2)] := hl
  unfold sX5_isBetween at hs
  refine lv_iload_n hx hb dX5_isBetween_0 rfl (lv_at hl 0 rfl) ?_
  refine lv_iload_n hx hb dX5_isBetween_1 rfl (lv_at hl 1 rfl) ?_
  refine lv_icmp_lt (tgt := 14) hx hb dX5_isBetween_2 (by decide) (fun c1 => ?_) (fun c1 => ?_)
  · have hs := ite_t hs c1
    refine lv_iconst (v := (0 : Int32)) hx hb dX5_isBetween_14 (by decide) ?_
    have h9 := Option.some.inj hs
    rw [← h9]
    exact wr_i hF hr hlocks (isB_nar (Or.inl rfl)) hW hS dX5_isBetween_15
  · have hs := ite_f hs c1
    refine lv_iload_n hx hb dX5_isBetween_5 rfl (lv_at hl 0 rfl) ?_
    refine lv_iload_n hx hb dX5_isBetween_6 rfl (lv_at hl 2 rfl) ?_
    refine lv_icmp_gt (tgt := 14) hx hb dX5_isBetween_7 (by decide) (fun c2 => ?_) (fun c2 => ?_)
    · have hs := ite_t hs c2
      refine lv_iconst (v := (0 : Int32)) hx hb dX5_isBetween_14 (by decide) ?_
      have h9 := Option.some.inj hs
      rw [← h9]
      exact wr_i hF hr hlocks (isB_nar (Or.inl rfl)) hW hS dX5_isBetween_15
    · have hs := ite_f hs c2
      refine lv_iconst (v := (1 : Int32)) hx hb dX5_isBetween_10 (by decide) ?_
      refine lv_goto (tgt := 15) hx hb dX5_isBetween_11 (by decide) ?_
      have h9 := Option.some.inj hs
      rw [← h9]
      exact wr_i hF hr hlocks (isB_nar (Or.inr rfl)) hW hS dX5_isBetween_15

set_option maxHeartbeats 4000000 in
set_option maxRecDepth 100000 in
theorem c_X5_append (l : Launch) {G : va_G} {Λ : Lay} {μ : Mem} (hOK : LayOK Λ) {a0 : Nat} (k0 : inK Λ a0 5) {a1 : Int32} {r : (Int32 × Mem)} (hs : sX5_append Λ μ a0 a1 = some r) : CM l G Λ yX5_append cX5_append 2 (some .int) 1 μ [.ref a0, .int a1] (QI G Λ r.1 r.2) := by
  refine ofM (own := RX5) (by decide +kernel) rfl (Nat.le_of_ble_eq_true rfl) (fun p e s m args below meth c ls hF hKK hW hr hlocks hl => ?_)
  have hx := hF.1
  have hb := hF.2.1
  have hA : ∀ q, inL Λ q → inL Λ q := fun _ h => h
  have hS : va_S (inL Λ) s.heap s.heap [] := va_S.rf
  have hl : lv_has ls 2 [(0, .ref a0), (1, .int a1)] := hl
  unfold sX5_append at hs
  refine lv_iload_n hx hb dX5_append_0 rfl (lv_at hl 1 rfl) ?_
  refine lv_bipush (v := (32 : Int32)) hx hb dX5_append_1 (by decide) ?_
  refine lv_bipush (v := (126 : Int32)) hx hb dX5_append_3 (by decide) ?_
  obtain ⟨q1, hq1, hs⟩ := obind_e hs
  refine end_i (run_S hF hKK hW hS hl.1 (c_X5_isBetween l hOK  hq1) (kw_X5_62 hF.2.2.2.2 ⟨Nat.le_of_ble_eq_true rfl, Nat.le_of_ble_eq_true rfl⟩) rfl rfl (Nat.le_of_ble_eq_true rfl) dX5_append_5 ⟨Nat.zero_le _, Nat.zero_le _⟩) hS (fun H locs hW hS => ?_)
  refine lv_if_eq (tgt := 20) hx hb dX5_append_8 (by decide) (fun c2 => ?_) (fun c2 => ?_)
  · have hs := ite_t hs c2
    refine lv_bipush (v := (-2 : Int32)) hx hb dX5_append_20 (by decide) ?_
    have h9 := Option.some.inj hs
    rw [← h9]
    exact wr_i hF hr hlocks (vp_nar_int _) hW hS dX5_append_22
  · have hs := ite_f hs c2
    refine lv_aload_n hx hb dX5_append_11 rfl (lv_at hl 0 rfl) ?_
    refine gf_5_15 hF hKK hW k0 dX5_append_12 ?_
    refine lv_bipush (v := (70 : Int32)) hx hb dX5_append_15 (by decide) ?_
    refine lv_icmp_ne (tgt := 23) hx hb dX5_append_17 (by decide) (fun c3 => ?_) (fun c3 => ?_)
    · have hs := ite_f hs c3
      refine lv_aload_n hx hb dX5_append_23 rfl (lv_at hl 0 rfl) ?_
      refine gf_5_14 hF hKK hW k0 dX5_append_24 ?_
      refine lv_aload_n hx hb dX5_append_27 rfl (lv_at hl 0 rfl) ?_
      refine gf_5_15 hF hKK hW k0 dX5_append_28 ?_
      refine lv_iload_n hx hb dX5_append_31 rfl (lv_at hl 1 rfl) ?_
      obtain ⟨g4, hs⟩ := gd_some hs
      obtain ⟨μ5, eμ5, hs⟩ := bnd_e hs
      refine ga_st hOK hF hKK hW hS hA (lk_5_14 hOK k0) g4 eμ5 dX5_append_32 (fun H locs hW hS => ?_)
      refine lv_aload_n hx hb dX5_append_33 rfl (lv_at hl 0 rfl) ?_
      refine lv_dup hx hb dX5_append_34 rfl ?_
      refine gf_5_15 hF hKK hW k0 dX5_append_35 ?_
      refine lv_iconst (v := (1 : Int32)) hx hb dX5_append_38 (by decide) ?_
      refine lv_iadd hx hb dX5_append_39 ?_
      obtain ⟨μ6, eμ6, hs⟩ := bnd_e hs
      refine pf_5_15 hOK hF hKK hW hS hA k0 eμ6 dX5_append_40 (fun H locs hW hS => ?_)
      refine lv_aload_n hx hb dX5_append_43 rfl (lv_at hl 0 rfl) ?_
      refine gf_5_15 hF hKK hW k0 dX5_append_44 ?_
      have h9 := Option.some.inj hs
      rw [← h9]
      exact wr_i hF hr hlocks (vp_nar_int _) hW hS dX5_append_47
    · have hs := ite_t hs c3
      refine lv_bipush (v := (-2 : Int32)) hx hb dX5_append_20 (by decide) ?_
      have h9 := Option.some.inj hs
      rw [← h9]
      exact wr_i hF hr hlocks (vp_nar_int _) hW hS dX5_append_22

set_option maxHeartbeats 4000000 in
set_option maxRecDepth 100000 in
theorem c_X5_isBank (l : Launch) {G : va_G} {Λ : Lay} {μ : Mem} (hOK : LayOK Λ) {a0 : Nat} (k0 : inK Λ a0 5) {a1 : Int32} {r : Int32} (hs : sX5_isBank Λ μ a0 a1 = some r) : CM l G Λ yX5_isBank cX5_isBank 2 (some .boolean) 1 μ [.ref a0, .int a1] (QI G Λ r μ) := by
  refine ofM (own := RX5) (by decide +kernel) rfl (Nat.le_of_ble_eq_true rfl) (fun p e s m args below meth c ls hF hKK hW hr hlocks hl => ?_)
  have hx := hF.1
  have hb := hF.2.1
  have hA : ∀ q, inL Λ q → inL Λ q := fun _ h => h
  have hS : va_S (inL Λ) s.heap s.heap [] := va_S.rf
  have hl : lv_has ls 2 [(0, .ref a0), (1, .int a1)] := hl
  unfold sX5_isBank at hs
  refine lv_iload_n hx hb dX5_isBank_0 rfl (lv_at hl 1 rfl) ?_
  refine lv_iconst (v := (0 : Int32)) hx hb dX5_isBank_1 (by decide) ?_
  refine lv_aload_n hx hb dX5_isBank_2 rfl (lv_at hl 0 rfl) ?_
  refine gf_5_0 hF hKK hW k0 dX5_isBank_3 ?_
  refine lv_iconst (v := (0 : Int32)) hx hb dX5_isBank_6 (by decide) ?_
  obtain ⟨g1, hs⟩ := gd_some hs
  refine ga_ld hF hKK hW (lk_5_0 hOK k0) g1 dX5_isBank_7 ?_
  refine lv_iconst (v := (1 : Int32)) hx hb dX5_isBank_8 (by decide) ?_
  refine lv_isub hx hb dX5_isBank_9 ?_
  obtain ⟨q2, hq2, hs⟩ := obind_e hs
  refine end_i (run_S hF hKK hW hS hl.1 (c_X5_isBetween l hOK  hq2) (kw_X5_62 hF.2.2.2.2 ⟨Nat.le_of_ble_eq_true rfl, Nat.le_of_ble_eq_true rfl⟩) rfl rfl (Nat.le_of_ble_eq_true rfl) dX5_isBank_10 ⟨Nat.zero_le _, Nat.zero_le _⟩) hS (fun H locs hW hS => ?_)
  obtain ⟨g3, hs⟩ := gd_some hs
  have h9 := Option.some.inj hs
  rw [← h9]
  exact wr_i hF hr hlocks (isB_nar g3) hW hS dX5_isBank_13

set_option maxHeartbeats 4000000 in
set_option maxRecDepth 100000 in
theorem c_X5_areJoined (l : Launch) {G : va_G} {Λ : Lay} {μ : Mem} (hOK : LayOK Λ) {a0 : Nat} (k0 : inK Λ a0 5) {a1 : Int32} {a2 : Int32} {r : Int32} (hs : sX5_areJoined Λ μ a0 a1 a2 = some r) : CM l G Λ yX5_areJoined cX5_areJoined 3 (some .int) 4 μ [.ref a0, .int a1, .int a2] (QI G Λ r μ) := by
  refine ofM (own := RX5) (by decide +kernel) rfl (Nat.le_of_ble_eq_true rfl) (fun p e s m args below meth c ls hF hKK hW hr hlocks hl => ?_)
  have hx := hF.1
  have hb := hF.2.1
  have hA : ∀ q, inL Λ q → inL Λ q := fun _ h => h
  have hS : va_S (inL Λ) s.heap s.heap [] := va_S.rf
  have hl : lv_has ls 3 [(0, .ref a0), (1, .int a1), (2, .int a2)] := hl
  unfold sX5_areJoined at hs
  refine lv_aload_n hx hb dX5_areJoined_0 rfl (lv_at hl 0 rfl) ?_
  refine lv_iload_n hx hb dX5_areJoined_1 rfl (lv_at hl 1 rfl) ?_
  obtain ⟨q1, hq1, hs⟩ := obind_e hs
  refine end_i (run_V (q := (RX5, TX5, 21)) (ci := 5) hF hKK hW hS hl.1 k0 (by decide) rfl (c_X5_isBank l hOK k0 hq1) (kw_X5_99 hF.2.2.2.2 ⟨Nat.le_of_ble_eq_true rfl, Nat.le_of_ble_eq_true rfl⟩) rfl rfl (Nat.le_of_ble_eq_true rfl) dX5_areJoined_2 ⟨Nat.zero_le _, Nat.zero_le _⟩) hS (fun H locs hW hS => ?_)
  refine lv_if_eq (tgt := 16) hx hb dX5_areJoined_5 (by decide) (fun c2 => ?_) (fun c2 => ?_)
  · have hs := ite_t hs c2
    refine lv_iconst (v := (-1 : Int32)) hx hb dX5_areJoined_16 (by decide) ?_
    refine lv_goto (tgt := 34) hx hb dX5_areJoined_17 (by decide) ?_
    have h9 := Option.some.inj hs
    rw [← h9]
    exact wr_i hF hr hlocks (vp_nar_int _) hW hS dX5_areJoined_34
  · have hs := ite_f hs c2
    refine lv_aload_n hx hb dX5_areJoined_8 rfl (lv_at hl 0 rfl) ?_
    refine lv_iload_n hx hb dX5_areJoined_9 rfl (lv_at hl 2 rfl) ?_
    obtain ⟨q3, hq3, hs⟩ := obind_e hs
    refine end_i (run_V (q := (RX5, TX5, 21)) (ci := 5) hF hKK hW hS hl.1 k0 (by decide) rfl (c_X5_isBank l hOK k0 hq3) (kw_X5_99 hF.2.2.2.2 ⟨Nat.le_of_ble_eq_true rfl, Nat.le_of_ble_eq_true rfl⟩) rfl rfl (Nat.le_of_ble_eq_true rfl) dX5_areJoined_10 ⟨Nat.zero_le _, Nat.zero_le _⟩) hS (fun H locs hW hS => ?_)
    refine lv_if_ne (tgt := 20) hx hb dX5_areJoined_13 (by decide) (fun c4 => ?_) (fun c4 => ?_)
    · have hs := ite_f hs c4
      refine lv_aload_n hx hb dX5_areJoined_20 rfl (lv_at hl 0 rfl) ?_
      refine lv_iload_n hx hb dX5_areJoined_21 rfl (lv_at hl 1 rfl) ?_
      refine lv_iload_n hx hb dX5_areJoined_22 rfl (lv_at hl 2 rfl) ?_
      obtain ⟨q5, hq5, hs⟩ := obind_e hs
      refine end_i (run_V (q := (RX5, TX5, 21)) (ci := 5) hF hKK hW hS hl.1 k0 (by decide) rfl (c_X5_areOne l hOK k0 hq5) (kw_X5_110 hF.2.2.2.2 ⟨Nat.le_of_ble_eq_true rfl, Nat.le_of_ble_eq_true rfl⟩) rfl rfl (Nat.le_of_ble_eq_true rfl) dX5_areJoined_23 ⟨Nat.zero_le _, Nat.zero_le _⟩) hS (fun H locs hW hS => ?_)
      refine lv_if_eq (tgt := 33) hx hb dX5_areJoined_26 (by decide) (fun c6 => ?_) (fun c6 => ?_)
      · have hs := ite_t hs c6
        refine lv_iconst (v := (0 : Int32)) hx hb dX5_areJoined_33 (by decide) ?_
        have h9 := Option.some.inj hs
        rw [← h9]
        exact wr_i hF hr hlocks (vp_nar_int _) hW hS dX5_areJoined_34
      · have hs := ite_f hs c6
        refine lv_iconst (v := (1 : Int32)) hx hb dX5_areJoined_29 (by decide) ?_
        refine lv_goto (tgt := 34) hx hb dX5_areJoined_30 (by decide) ?_
        have h9 := Option.some.inj hs
        rw [← h9]
        exact wr_i hF hr hlocks (vp_nar_int _) hW hS dX5_areJoined_34
    · have hs := ite_t hs c4
      refine lv_iconst (v := (-1 : Int32)) hx hb dX5_areJoined_16 (by decide) ?_
      refine lv_goto (tgt := 34) hx hb dX5_areJoined_17 (by decide) ?_
      have h9 := Option.some.inj hs
      rw [← h9]
      exact wr_i hF hr hlocks (vp_nar_int _) hW hS dX5_areJoined_34

set_option maxHeartbeats 4000000 in
set_option maxRecDepth 100000 in
theorem c_X5_areJoinedAgain (l : Launch) {G : va_G} {Λ : Lay} {μ : Mem} (hOK : LayOK Λ) {a0 : Nat} (k0 : inK Λ a0 5) {a1 : Int32} {a2 : Int32} {r : Int32} (hs : sX5_areJoinedAgain Λ μ a0 a1 a2 = some r) : CM l G Λ yX5_areJoinedAgain cX5_areJoinedAgain 3 (some .int) 5 μ [.ref a0, .int a1, .int a2] (QI G Λ r μ) := by
  refine ofM (own := RX5) (by decide +kernel) rfl (Nat.le_of_ble_eq_true rfl) (fun p e s m args below meth c ls hF hKK hW hr hlocks hl => ?_)
  have hx := hF.1
  have hb := hF.2.1
  have hA : ∀ q, inL Λ q → inL Λ q := fun _ h => h
  have hS : va_S (inL Λ) s.heap s.heap [] := va_S.rf
  have hl : lv_has ls 3 [(0, .ref a0), (1, .int a1), (2, .int a2)] := hl
  unfold sX5_areJoinedAgain at hs
  refine lv_aload_n hx hb dX5_areJoinedAgain_0 rfl (lv_at hl 0 rfl) ?_
  refine lv_iload_n hx hb dX5_areJoinedAgain_1 rfl (lv_at hl 1 rfl) ?_
  refine lv_iload_n hx hb dX5_areJoinedAgain_2 rfl (lv_at hl 2 rfl) ?_
  obtain ⟨q1, hq1, hs⟩ := obind_e hs
  refine end_i (run_V (q := (RX5, TX5, 21)) (ci := 5) hF hKK hW hS hl.1 k0 (by decide) rfl (c_X5_areJoined l hOK k0 hq1) (kw_X5_141 hF.2.2.2.2 ⟨Nat.le_of_ble_eq_true rfl, Nat.le_of_ble_eq_true rfl⟩) rfl rfl (Nat.le_of_ble_eq_true rfl) dX5_areJoinedAgain_3 ⟨Nat.zero_le _, Nat.zero_le _⟩) hS (fun H locs hW hS => ?_)
  have h9 := Option.some.inj hs
  rw [← h9]
  exact wr_i hF hr hlocks (vp_nar_int _) hW hS dX5_areJoinedAgain_6

set_option maxHeartbeats 4000000 in
set_option maxRecDepth 100000 in
theorem cl_X5_copyRow_2 {p : Program} {l : Launch} {e : Env} {s : State} {m : MethodId} {args : Array Value} {below : List Frame} {meth : Method} {c : Code} {G : va_G} {Λ : Lay} {r : Mem} (hOK : LayOK Λ) (hF : CallFix p m c cX5_copyRow 3 s args tw RX5) (hKK : KK G Λ s) (hr : meth.sig.returnType = none) (hlocks : meth.locks = false) {x0 : Nat} (kx0 : inK Λ x0 6) {x1 : Nat} (kx1 : inK Λ x1 6) : ∀ (n : Nat) (μ : Mem) (x2 : Int32) (H : Heap) (locs : List Loc) (ls : Array Slot), lpX5_copyRow_2 Λ x0 x1 n μ x2 = some r → Wd G Λ μ H → va_S (inL Λ) s.heap H locs → lv_has ls 3 [(0, .ref x0), (1, .ref x1), (2, .int x2)] → W p l e (rmd 0) s m args below meth c H locs 0 0 (MQ below (QV G Λ r) args s 0 0 (inL Λ)) (F0 m 2 ls []) := by
  have hx := hF.1
  have hb := hF.2.1
  have hA : ∀ q, inL Λ q → inL Λ q := fun _ h => h
  intro n
  induction n with
  | zero =>
    intro μ x2 H locs ls hs hW hS hl
    cases hs
  | succ n2 ih2 =>
    intro μ x2 H locs ls hs hW hS hl
    rw [lpX5_copyRow_2_s] at hs
    refine lv_iload_n hx hb dX5_copyRow_2 rfl (lv_at hl 2 rfl) ?_
    refine lv_sipush (v := (304 : Int32)) hx hb dX5_copyRow_3 (by decide) ?_
    refine lv_icmp_ge (tgt := 21) hx hb dX5_copyRow_6 (by decide) (fun c1 => ?_) (fun c1 => ?_)
    · have hs := ite_t hs c1
      have h9 := Option.some.inj hs
      rw [← h9]
      exact wr_v hF hr hlocks hW hS dX5_copyRow_21
    · have hs := ite_f hs c1
      refine lv_aload_n hx hb dX5_copyRow_9 rfl (lv_at hl 1 rfl) ?_
      refine lv_iload_n hx hb dX5_copyRow_10 rfl (lv_at hl 2 rfl) ?_
      refine lv_aload_n hx hb dX5_copyRow_11 rfl (lv_at hl 0 rfl) ?_
      refine lv_iload_n hx hb dX5_copyRow_12 rfl (lv_at hl 2 rfl) ?_
      obtain ⟨g2, hs⟩ := gd_some hs
      refine ga_ld hF hKK hW kx0 g2 dX5_copyRow_13 ?_
      obtain ⟨g3, hs⟩ := gd_some hs
      obtain ⟨μ4, eμ4, hs⟩ := bnd_e hs
      refine ga_st hOK hF hKK hW hS hA kx1 g3 eμ4 dX5_copyRow_14 (fun H locs hW hS => ?_)
      obtain ⟨v5, ev5, hs⟩ := bnd_e hs
      refine lv_iinc (v := v5) (lv' := [(2, .int v5), (0, .ref x0), (1, .ref x1)]) hx hb dX5_copyRow_15 hl (k := 2) rfl (by rw [ev5]; rfl) (by decide) rfl (fun ls hl => ?_)
      refine lv_goto (tgt := 2) hx hb dX5_copyRow_18 (by decide) ?_
      exact ih2 μ4 v5 _ _ _ hs hW hS (lv_sub hl [1, 2, 0] rfl)

set_option maxHeartbeats 4000000 in
set_option maxRecDepth 100000 in
theorem c_X5_copyRow (l : Launch) {G : va_G} {Λ : Lay} {μ : Mem} (hOK : LayOK Λ) {a0 : Nat} (k0 : inK Λ a0 6) {a1 : Nat} (k1 : inK Λ a1 6) {r : Mem} (hs : sX5_copyRow Λ μ a0 a1 = some r) : CM l G Λ yX5_copyRow cX5_copyRow 3 none 0 μ [.ref a0, .ref a1] (QV G Λ r) := by
  refine ofM (own := RX5) (by decide +kernel) rfl (Nat.le_of_ble_eq_true rfl) (fun p e s m args below meth c ls hF hKK hW hr hlocks hl => ?_)
  have hx := hF.1
  have hb := hF.2.1
  have hA : ∀ q, inL Λ q → inL Λ q := fun _ h => h
  have hS : va_S (inL Λ) s.heap s.heap [] := va_S.rf
  have hl : lv_has ls 3 [(0, .ref a0), (1, .ref a1)] := hl
  unfold sX5_copyRow at hs
  refine lv_iconst (v := (0 : Int32)) hx hb dX5_copyRow_0 (by decide) ?_
  refine lv_istore_n (lv' := [(2, .int (0 : Int32)), (0, .ref a0), (1, .ref a1)]) hx hb dX5_copyRow_1 rfl hl (by decide) rfl (fun ls hl => ?_)
  exact cl_X5_copyRow_2 hOK hF hKK hr hlocks k0 k1 fuel μ (0 : Int32) _ _ _ hs hW hS (lv_sub hl [1, 2, 0] rfl)

set_option maxHeartbeats 4000000 in
set_option maxRecDepth 100000 in
theorem cl_X5_remember_21 {p : Program} {l : Launch} {e : Env} {s : State} {m : MethodId} {args : Array Value} {below : List Frame} {meth : Method} {c : Code} {G : va_G} {Λ : Lay} {r : Mem} (hOK : LayOK Λ) (hF : CallFix p m c cX5_remember 3 s args tw RX5) (hKK : KK G Λ s) (hr : meth.sig.returnType = none) (hlocks : meth.locks = false) {x0 : Nat} (kx0 : inK Λ x0 5) {x1 : Nat} (kx1 : inK Λ x1 6) : ∀ (n : Nat) (μ : Mem) (x2 : Int32) (H : Heap) (locs : List Loc) (ls : Array Slot), lpX5_remember_21 Λ x0 x1 n μ x2 = some r → Wd G Λ μ H → va_S (inL Λ) s.heap H locs → lv_has ls 3 [(0, .ref x0), (1, .ref x1), (2, .int x2)] → W p l e (rmd 1) s m args below meth c H locs 0 0 (MQ below (QV G Λ r) args s 0 0 (inL Λ)) (F0 m 21 ls []) := by
  have hx := hF.1
  have hb := hF.2.1
  have hA : ∀ q, inL Λ q → inL Λ q := fun _ h => h
  intro n
  induction n with
  | zero =>
    intro μ x2 H locs ls hs hW hS hl
    cases hs
  | succ n21 ih21 =>
    intro μ x2 H locs ls hs hW hS hl
    rw [lpX5_remember_21_s] at hs
    refine lv_iload_n hx hb dX5_remember_21 rfl (lv_at hl 2 rfl) ?_
    refine lv_aload_n hx hb dX5_remember_22 rfl (lv_at hl 0 rfl) ?_
    refine gf_5_4 hF hKK hW kx0 dX5_remember_23 ?_
    refine lv_icmp_ge (tgt := 52) hx hb dX5_remember_26 (by decide) (fun c6 => ?_) (fun c6 => ?_)
    · have hs := ite_t hs c6
      refine lv_aload_n hx hb dX5_remember_52 rfl (lv_at hl 1 rfl) ?_
      refine lv_aload_n hx hb dX5_remember_53 rfl (lv_at hl 0 rfl) ?_
      refine gf_5_3 hF hKK hW kx0 dX5_remember_54 ?_
      refine lv_aload_n hx hb dX5_remember_57 rfl (lv_at hl 0 rfl) ?_
      refine gf_5_4 hF hKK hW kx0 dX5_remember_58 ?_
      obtain ⟨g7, hs⟩ := gd_some hs
      refine gq_ld10 hF hKK hW (lk_5_3 hOK kx0) g7 dX5_remember_61 ?_
      obtain ⟨q8, hq8, hs⟩ := obind_e hs
      refine end_v (run_S hF hKK hW hS hl.1 (c_X5_copyRow l hOK kx1 (lk_10 hOK (lk_5_3 hOK kx0) (inb_lt g7)) hq8) (kw_X5_54 hF.2.2.2.2 ⟨Nat.le_of_ble_eq_true rfl, Nat.le_of_ble_eq_true rfl⟩) rfl rfl (Nat.le_of_ble_eq_true rfl) dX5_remember_62 ⟨Nat.zero_le _, Nat.zero_le _⟩) hS (fun H locs hW hS => ?_)
      refine lv_aload_n hx hb dX5_remember_65 rfl (lv_at hl 0 rfl) ?_
      refine lv_dup hx hb dX5_remember_66 rfl ?_
      refine gf_5_4 hF hKK hW kx0 dX5_remember_67 ?_
      refine lv_iconst (v := (1 : Int32)) hx hb dX5_remember_70 (by decide) ?_
      refine lv_iadd hx hb dX5_remember_71 ?_
      obtain ⟨μ9, eμ9, hs⟩ := bnd_e hs
      refine pf_5_4 hOK hF hKK hW hS hA kx0 eμ9 dX5_remember_72 (fun H locs hW hS => ?_)
      have h9 := Option.some.inj hs
      rw [← h9]
      exact wr_v hF hr hlocks hW hS dX5_remember_75
    · have hs := ite_f hs c6
      refine lv_aload_n hx hb dX5_remember_29 rfl (lv_at hl 0 rfl) ?_
      refine gf_5_3 hF hKK hW kx0 dX5_remember_30 ?_
      refine lv_iload_n hx hb dX5_remember_33 rfl (lv_at hl 2 rfl) ?_
      refine lv_iconst (v := (1 : Int32)) hx hb dX5_remember_34 (by decide) ?_
      refine lv_iadd hx hb dX5_remember_35 ?_
      obtain ⟨g10, hs⟩ := gd_some hs
      refine gq_ld10 hF hKK hW (lk_5_3 hOK kx0) g10 dX5_remember_36 ?_
      refine lv_aload_n hx hb dX5_remember_37 rfl (lv_at hl 0 rfl) ?_
      refine gf_5_3 hF hKK hW kx0 dX5_remember_38 ?_
      refine lv_iload_n hx hb dX5_remember_41 rfl (lv_at hl 2 rfl) ?_
      obtain ⟨g11, hs⟩ := gd_some hs
      refine gq_ld10 hF hKK hW (lk_5_3 hOK kx0) g11 dX5_remember_42 ?_
      obtain ⟨q12, hq12, hs⟩ := obind_e hs
      refine end_v (run_S hF hKK hW hS hl.1 (c_X5_copyRow l hOK (lk_10 hOK (lk_5_3 hOK kx0) (inb_lt g10)) (lk_10 hOK (lk_5_3 hOK kx0) (inb_lt g11)) hq12) (kw_X5_54 hF.2.2.2.2 ⟨Nat.le_of_ble_eq_true rfl, Nat.le_of_ble_eq_true rfl⟩) rfl rfl (Nat.le_of_ble_eq_true rfl) dX5_remember_43 ⟨Nat.zero_le _, Nat.zero_le _⟩) hS (fun H locs hW hS => ?_)
      obtain ⟨v13, ev13, hs⟩ := bnd_e hs
      refine lv_iinc (v := v13) (lv' := [(2, .int v13), (0, .ref x0), (1, .ref x1)]) hx hb dX5_remember_46 hl (k := 2) rfl (by rw [ev13]; rfl) (by decide) rfl (fun ls hl => ?_)
      refine lv_goto (tgt := 21) hx hb dX5_remember_49 (by decide) ?_
      exact ih21 q12 v13 _ _ _ hs hW hS (lv_sub hl [1, 2, 0] rfl)

set_option maxHeartbeats 4000000 in
set_option maxRecDepth 100000 in
theorem c_X5_remember (l : Launch) {G : va_G} {Λ : Lay} {μ : Mem} (hOK : LayOK Λ) {a0 : Nat} (k0 : inK Λ a0 5) {a1 : Nat} (k1 : inK Λ a1 6) {r : Mem} (hs : sX5_remember Λ μ a0 a1 = some r) : CM l G Λ yX5_remember cX5_remember 3 none 1 μ [.ref a0, .ref a1] (QV G Λ r) := by
  refine ofM (own := RX5) (by decide +kernel) rfl (Nat.le_of_ble_eq_true rfl) (fun p e s m args below meth c ls hF hKK hW hr hlocks hl => ?_)
  have hx := hF.1
  have hb := hF.2.1
  have hA : ∀ q, inL Λ q → inL Λ q := fun _ h => h
  have hS : va_S (inL Λ) s.heap s.heap [] := va_S.rf
  have hl : lv_has ls 3 [(0, .ref a0), (1, .ref a1)] := hl
  unfold sX5_remember at hs
  refine lv_aload_n hx hb dX5_remember_0 rfl (lv_at hl 0 rfl) ?_
  refine gf_5_4 hF hKK hW k0 dX5_remember_1 ?_
  refine lv_bipush (v := (8 : Int32)) hx hb dX5_remember_4 (by decide) ?_
  refine lv_icmp_ne (tgt := 52) hx hb dX5_remember_6 (by decide) (fun c1 => ?_) (fun c1 => ?_)
  · have hs := ite_f hs c1
    refine lv_aload_n hx hb dX5_remember_52 rfl (lv_at hl 1 rfl) ?_
    refine lv_aload_n hx hb dX5_remember_53 rfl (lv_at hl 0 rfl) ?_
    refine gf_5_3 hF hKK hW k0 dX5_remember_54 ?_
    refine lv_aload_n hx hb dX5_remember_57 rfl (lv_at hl 0 rfl) ?_
    refine gf_5_4 hF hKK hW k0 dX5_remember_58 ?_
    obtain ⟨g2, hs⟩ := gd_some hs
    refine gq_ld10 hF hKK hW (lk_5_3 hOK k0) g2 dX5_remember_61 ?_
    obtain ⟨q3, hq3, hs⟩ := obind_e hs
    refine end_v (run_S hF hKK hW hS hl.1 (c_X5_copyRow l hOK k1 (lk_10 hOK (lk_5_3 hOK k0) (inb_lt g2)) hq3) (kw_X5_54 hF.2.2.2.2 ⟨Nat.le_of_ble_eq_true rfl, Nat.le_of_ble_eq_true rfl⟩) rfl rfl (Nat.le_of_ble_eq_true rfl) dX5_remember_62 ⟨Nat.zero_le _, Nat.zero_le _⟩) hS (fun H locs hW hS => ?_)
    refine lv_aload_n hx hb dX5_remember_65 rfl (lv_at hl 0 rfl) ?_
    refine lv_dup hx hb dX5_remember_66 rfl ?_
    refine gf_5_4 hF hKK hW k0 dX5_remember_67 ?_
    refine lv_iconst (v := (1 : Int32)) hx hb dX5_remember_70 (by decide) ?_
    refine lv_iadd hx hb dX5_remember_71 ?_
    obtain ⟨μ4, eμ4, hs⟩ := bnd_e hs
    refine pf_5_4 hOK hF hKK hW hS hA k0 eμ4 dX5_remember_72 (fun H locs hW hS => ?_)
    have h9 := Option.some.inj hs
    rw [← h9]
    exact wr_v hF hr hlocks hW hS dX5_remember_75
  · have hs := ite_t hs c1
    refine lv_aload_n hx hb dX5_remember_9 rfl (lv_at hl 0 rfl) ?_
    refine lv_dup hx hb dX5_remember_10 rfl ?_
    refine gf_5_4 hF hKK hW k0 dX5_remember_11 ?_
    refine lv_iconst (v := (1 : Int32)) hx hb dX5_remember_14 (by decide) ?_
    refine lv_isub hx hb dX5_remember_15 ?_
    obtain ⟨μ5, eμ5, hs⟩ := bnd_e hs
    refine pf_5_4 hOK hF hKK hW hS hA k0 eμ5 dX5_remember_16 (fun H locs hW hS => ?_)
    refine lv_iconst (v := (0 : Int32)) hx hb dX5_remember_19 (by decide) ?_
    refine lv_istore_n (lv' := [(2, .int (0 : Int32)), (0, .ref a0), (1, .ref a1)]) hx hb dX5_remember_20 rfl hl (by decide) rfl (fun ls hl => ?_)
    exact cl_X5_remember_21 hOK hF hKK hr hlocks k0 k1 fuel μ5 (0 : Int32) _ _ _ hs hW hS (lv_sub hl [1, 2, 0] rfl)

set_option maxHeartbeats 4000000 in
set_option maxRecDepth 100000 in
theorem c_X5_change (l : Launch) {G : va_G} {Λ : Lay} {μ : Mem} (hOK : LayOK Λ) {a0 : Nat} (k0 : inK Λ a0 5) {r : Mem} (hs : sX5_change Λ μ a0 = some r) : CM l G Λ yX5_change cX5_change 1 none 2 μ [.ref a0] (QV G Λ r) := by
  refine ofM (own := RX5) (by decide +kernel) rfl (Nat.le_of_ble_eq_true rfl) (fun p e s m args below meth c ls hF hKK hW hr hlocks hl => ?_)
  have hx := hF.1
  have hb := hF.2.1
  have hA : ∀ q, inL Λ q → inL Λ q := fun _ h => h
  have hS : va_S (inL Λ) s.heap s.heap [] := va_S.rf
  have hl : lv_has ls 1 [(0, .ref a0)] := hl
  unfold sX5_change at hs
  refine lv_aload_n hx hb dX5_change_0 rfl (lv_at hl 0 rfl) ?_
  refine gf_5_10 hF hKK hW k0 dX5_change_1 ?_
  refine lv_if_ne (tgt := 15) hx hb dX5_change_4 (by decide) (fun c1 => ?_) (fun c1 => ?_)
  · have hs := ite_f hs c1
    have h9 := Option.some.inj hs
    rw [← h9]
    exact wr_v hF hr hlocks hW hS dX5_change_15
  · have hs := ite_t hs c1
    refine lv_aload_n hx hb dX5_change_7 rfl (lv_at hl 0 rfl) ?_
    refine lv_aload_n hx hb dX5_change_8 rfl (lv_at hl 0 rfl) ?_
    refine gf_5_0 hF hKK hW k0 dX5_change_9 ?_
    obtain ⟨q2, hq2, hs⟩ := obind_e hs
    refine end_v (run_V (q := (RX5, TX5, 21)) (ci := 5) hF hKK hW hS hl.1 k0 (by decide) rfl (c_X5_remember l hOK k0 (lk_5_0 hOK k0) hq2) (kw_X5_58 hF.2.2.2.2 ⟨Nat.le_of_ble_eq_true rfl, Nat.le_of_ble_eq_true rfl⟩) rfl rfl (Nat.le_of_ble_eq_true rfl) dX5_change_12 ⟨Nat.zero_le _, Nat.zero_le _⟩) hS (fun H locs hW hS => ?_)
    have h9 := Option.some.inj hs
    rw [← h9]
    exact wr_v hF hr hlocks hW hS dX5_change_15

set_option maxHeartbeats 4000000 in
set_option maxRecDepth 100000 in
theorem cl_X5_emptyRound_2 {p : Program} {l : Launch} {e : Env} {s : State} {m : MethodId} {args : Array Value} {below : List Frame} {meth : Method} {c : Code} {G : va_G} {Λ : Lay} {μ : Mem} {r : Int32} (hOK : LayOK Λ) (hF : CallFix p m c cX5_emptyRound 2 s args tw RX5) (hKK : KK G Λ s) (hr : meth.sig.returnType = (some .int)) (hlocks : meth.locks = false) {x0 : Nat} (kx0 : inK Λ x0 5) : ∀ (n : Nat) (x1 : Int32) (H : Heap) (locs : List Loc) (ls : Array Slot), lpX5_emptyRound_2 Λ μ x0 n x1 = some r → Wd G Λ μ H → va_S (inL Λ) s.heap H locs → lv_has ls 2 [(0, .ref x0), (1, .int x1)] → W p l e (rmd 1) s m args below meth c H locs 0 0 (MQ below (QI G Λ r μ) args s 0 0 (inL Λ)) (F0 m 2 ls []) := by
  have hx := hF.1
  have hb := hF.2.1
  have hA : ∀ q, inL Λ q → inL Λ q := fun _ h => h
  intro n
  induction n with
  | zero =>
    intro x1 H locs ls hs hW hS hl
    cases hs
  | succ n2 ih2 =>
    intro x1 H locs ls hs hW hS hl
    rw [lpX5_emptyRound_2_s] at hs
    refine lv_aload_n hx hb dX5_emptyRound_2 rfl (lv_at hl 0 rfl) ?_
    refine lv_iload_n hx hb dX5_emptyRound_3 rfl (lv_at hl 1 rfl) ?_
    obtain ⟨q1, hq1, hs⟩ := obind_e hs
    refine end_i (run_V (q := (RX5, TX5, 21)) (ci := 5) hF hKK hW hS hl.1 kx0 (by decide) rfl (c_X5_size l hOK kx0 hq1) (kw_X5_66 hF.2.2.2.2 ⟨Nat.le_of_ble_eq_true rfl, Nat.le_of_ble_eq_true rfl⟩) rfl rfl (Nat.le_of_ble_eq_true rfl) dX5_emptyRound_4 ⟨Nat.zero_le _, Nat.zero_le _⟩) hS (fun H locs hW hS => ?_)
    refine lv_if_le (tgt := 16) hx hb dX5_emptyRound_7 (by decide) (fun c2 => ?_) (fun c2 => ?_)
    · have hs := ite_t hs c2
      refine lv_iload_n hx hb dX5_emptyRound_16 rfl (lv_at hl 1 rfl) ?_
      have h9 := Option.some.inj hs
      rw [← h9]
      exact wr_i hF hr hlocks (vp_nar_int _) hW hS dX5_emptyRound_17
    · have hs := ite_f hs c2
      obtain ⟨v3, ev3, hs⟩ := bnd_e hs
      refine lv_iinc (v := v3) (lv' := [(1, .int v3), (0, .ref x0)]) hx hb dX5_emptyRound_10 hl (k := 1) rfl (by rw [ev3]; rfl) (by decide) rfl (fun ls hl => ?_)
      refine lv_goto (tgt := 2) hx hb dX5_emptyRound_13 (by decide) ?_
      exact ih2 v3 _ _ _ hs hW hS (lv_sub hl [1, 0] rfl)

set_option maxHeartbeats 4000000 in
set_option maxRecDepth 100000 in
theorem c_X5_emptyRound (l : Launch) {G : va_G} {Λ : Lay} {μ : Mem} (hOK : LayOK Λ) {a0 : Nat} (k0 : inK Λ a0 5) {r : Int32} (hs : sX5_emptyRound Λ μ a0 = some r) : CM l G Λ yX5_emptyRound cX5_emptyRound 2 (some .int) 1 μ [.ref a0] (QI G Λ r μ) := by
  refine ofM (own := RX5) (by decide +kernel) rfl (Nat.le_of_ble_eq_true rfl) (fun p e s m args below meth c ls hF hKK hW hr hlocks hl => ?_)
  have hx := hF.1
  have hb := hF.2.1
  have hA : ∀ q, inL Λ q → inL Λ q := fun _ h => h
  have hS : va_S (inL Λ) s.heap s.heap [] := va_S.rf
  have hl : lv_has ls 2 [(0, .ref a0)] := hl
  unfold sX5_emptyRound at hs
  refine lv_iconst (v := (0 : Int32)) hx hb dX5_emptyRound_0 (by decide) ?_
  refine lv_istore_n (lv' := [(1, .int (0 : Int32)), (0, .ref a0)]) hx hb dX5_emptyRound_1 rfl hl (by decide) rfl (fun ls hl => ?_)
  exact cl_X5_emptyRound_2 hOK hF hKK hr hlocks k0 fuel (0 : Int32) _ _ _ hs hW hS (lv_sub hl [1, 0] rfl)

set_option maxHeartbeats 4000000 in
set_option maxRecDepth 100000 in
theorem c_X5_refuse (l : Launch) {G : va_G} {Λ : Lay} {μ : Mem} (hOK : LayOK Λ) {a0 : Nat} (k0 : inK Λ a0 5) {a1 : Int32} {a2 : Int32} {a3 : Int32} {r : (Int32 × Mem)} (hs : sX5_refuse Λ μ a0 a1 a2 a3 = some r) : CM l G Λ yX5_refuse cX5_refuse 4 (some .boolean) 0 μ [.ref a0, .int a1, .int a2, .int a3] (QI G Λ r.1 r.2) := by
  refine ofM (own := RX5) (by decide +kernel) rfl (Nat.le_of_ble_eq_true rfl) (fun p e s m args below meth c ls hF hKK hW hr hlocks hl => ?_)
  have hx := hF.1
  have hb := hF.2.1
  have hA : ∀ q, inL Λ q → inL Λ q := fun _ h => h
  have hS : va_S (inL Λ) s.heap s.heap [] := va_S.rf
  have hl : lv_has ls 4 [(0, .ref a0), (1, .int a1), (2, .int a2), (3, .int a3)] := hl
  unfold sX5_refuse at hs
  refine lv_iload_n hx hb dX5_refuse_0 rfl (lv_at hl 1 rfl) ?_
  refine lv_if_eq (tgt := 33) hx hb dX5_refuse_1 (by decide) (fun c1 => ?_) (fun c1 => ?_)
  · have hs := ite_t hs c1
    refine lv_iload_n hx hb dX5_refuse_33 rfl (lv_at hl 1 rfl) ?_
    obtain ⟨g2, hs⟩ := gd_some hs
    have h9 := Option.some.inj hs
    rw [← h9]
    exact wr_i hF hr hlocks (isB_nar g2) hW hS dX5_refuse_34
  · have hs := ite_f hs c1
    refine lv_aload_n hx hb dX5_refuse_4 rfl (lv_at hl 0 rfl) ?_
    refine lv_iload_n hx hb dX5_refuse_5 rfl (lv_at hl 2 rfl) ?_
    obtain ⟨μ3, eμ3, hs⟩ := bnd_e hs
    refine pf_5_5 hOK hF hKK hW hS hA k0 eμ3 dX5_refuse_6 (fun H locs hW hS => ?_)
    refine lv_aload_n hx hb dX5_refuse_9 rfl (lv_at hl 0 rfl) ?_
    refine lv_iload_n hx hb dX5_refuse_10 rfl (lv_at hl 3 rfl) ?_
    obtain ⟨μ4, eμ4, hs⟩ := bnd_e hs
    refine pf_5_6 hOK hF hKK hW hS hA k0 eμ4 dX5_refuse_11 (fun H locs hW hS => ?_)
    refine lv_aload_n hx hb dX5_refuse_14 rfl (lv_at hl 0 rfl) ?_
    refine lv_aload_n hx hb dX5_refuse_15 rfl (lv_at hl 0 rfl) ?_
    refine gf_5_10 hF hKK hW k0 dX5_refuse_16 ?_
    refine lv_if_eq (tgt := 29) hx hb dX5_refuse_19 (by decide) (fun c5 => ?_) (fun c5 => ?_)
    · have hs := ite_t hs c5
      refine lv_iconst (v := (-1 : Int32)) hx hb dX5_refuse_29 (by decide) ?_
      obtain ⟨μ6, eμ6, hs⟩ := bnd_e hs
      refine pf_5_7 hOK hF hKK hW hS hA k0 eμ6 dX5_refuse_30 (fun H locs hW hS => ?_)
      refine lv_iload_n hx hb dX5_refuse_33 rfl (lv_at hl 1 rfl) ?_
      obtain ⟨g7, hs⟩ := gd_some hs
      have h9 := Option.some.inj hs
      rw [← h9]
      exact wr_i hF hr hlocks (isB_nar g7) hW hS dX5_refuse_34
    · have hs := ite_f hs c5
      refine lv_aload_n hx hb dX5_refuse_22 rfl (lv_at hl 0 rfl) ?_
      refine gf_5_8 hF hKK hW k0 dX5_refuse_23 ?_
      refine lv_goto (tgt := 30) hx hb dX5_refuse_26 (by decide) ?_
      obtain ⟨μ8, eμ8, hs⟩ := bnd_e hs
      refine pf_5_7 hOK hF hKK hW hS hA k0 eμ8 dX5_refuse_30 (fun H locs hW hS => ?_)
      refine lv_iload_n hx hb dX5_refuse_33 rfl (lv_at hl 1 rfl) ?_
      obtain ⟨g9, hs⟩ := gd_some hs
      have h9 := Option.some.inj hs
      rw [← h9]
      exact wr_i hF hr hlocks (isB_nar g9) hW hS dX5_refuse_34

set_option maxHeartbeats 4000000 in
set_option maxRecDepth 100000 in
theorem c_X5_setPlace (l : Launch) {G : va_G} {Λ : Lay} {μ : Mem} (hOK : LayOK Λ) {a0 : Nat} (k0 : inK Λ a0 5) {a1 : Int32} {a2 : Int32} {a3 : Int32} {r : Mem} (hs : sX5_setPlace Λ μ a0 a1 a2 a3 = some r) : CM l G Λ yX5_setPlace cX5_setPlace 4 none 0 μ [.ref a0, .int a1, .int a2, .int a3] (QV G Λ r) := by
  refine ofM (own := RX5) (by decide +kernel) rfl (Nat.le_of_ble_eq_true rfl) (fun p e s m args below meth c ls hF hKK hW hr hlocks hl => ?_)
  have hx := hF.1
  have hb := hF.2.1
  have hA : ∀ q, inL Λ q → inL Λ q := fun _ h => h
  have hS : va_S (inL Λ) s.heap s.heap [] := va_S.rf
  have hl : lv_has ls 4 [(0, .ref a0), (1, .int a1), (2, .int a2), (3, .int a3)] := hl
  unfold sX5_setPlace at hs
  refine lv_aload_n hx hb dX5_setPlace_0 rfl (lv_at hl 0 rfl) ?_
  refine gf_5_0 hF hKK hW k0 dX5_setPlace_1 ?_
  refine lv_bipush (v := (16 : Int32)) hx hb dX5_setPlace_4 (by decide) ?_
  refine lv_bipush (v := (24 : Int32)) hx hb dX5_setPlace_6 (by decide) ?_
  refine lv_iload_n hx hb dX5_setPlace_8 rfl (lv_at hl 1 rfl) ?_
  refine lv_imul hx hb dX5_setPlace_9 ?_
  refine lv_iadd hx hb dX5_setPlace_10 ?_
  refine lv_iconst (v := (1 : Int32)) hx hb dX5_setPlace_11 (by decide) ?_
  refine lv_iadd hx hb dX5_setPlace_12 ?_
  refine lv_iload_n hx hb dX5_setPlace_13 rfl (lv_at hl 2 rfl) ?_
  refine lv_iadd hx hb dX5_setPlace_14 ?_
  refine lv_iload_n hx hb dX5_setPlace_15 rfl (lv_at hl 3 rfl) ?_
  obtain ⟨g1, hs⟩ := gd_some hs
  obtain ⟨μ2, eμ2, hs⟩ := bnd_e hs
  refine ga_st hOK hF hKK hW hS hA (lk_5_0 hOK k0) g1 eμ2 dX5_setPlace_16 (fun H locs hW hS => ?_)
  have h9 := Option.some.inj hs
  rw [← h9]
  exact wr_v hF hr hlocks hW hS dX5_setPlace_17

set_option maxHeartbeats 4000000 in
set_option maxRecDepth 100000 in
theorem c_X5_setSize (l : Launch) {G : va_G} {Λ : Lay} {μ : Mem} (hOK : LayOK Λ) {a0 : Nat} (k0 : inK Λ a0 5) {a1 : Int32} {a2 : Int32} {r : Mem} (hs : sX5_setSize Λ μ a0 a1 a2 = some r) : CM l G Λ yX5_setSize cX5_setSize 3 none 0 μ [.ref a0, .int a1, .int a2] (QV G Λ r) := by
  refine ofM (own := RX5) (by decide +kernel) rfl (Nat.le_of_ble_eq_true rfl) (fun p e s m args below meth c ls hF hKK hW hr hlocks hl => ?_)
  have hx := hF.1
  have hb := hF.2.1
  have hA : ∀ q, inL Λ q → inL Λ q := fun _ h => h
  have hS : va_S (inL Λ) s.heap s.heap [] := va_S.rf
  have hl : lv_has ls 3 [(0, .ref a0), (1, .int a1), (2, .int a2)] := hl
  unfold sX5_setSize at hs
  refine lv_aload_n hx hb dX5_setSize_0 rfl (lv_at hl 0 rfl) ?_
  refine gf_5_0 hF hKK hW k0 dX5_setSize_1 ?_
  refine lv_bipush (v := (16 : Int32)) hx hb dX5_setSize_4 (by decide) ?_
  refine lv_bipush (v := (24 : Int32)) hx hb dX5_setSize_6 (by decide) ?_
  refine lv_iload_n hx hb dX5_setSize_8 rfl (lv_at hl 1 rfl) ?_
  refine lv_imul hx hb dX5_setSize_9 ?_
  refine lv_iadd hx hb dX5_setSize_10 ?_
  refine lv_iload_n hx hb dX5_setSize_11 rfl (lv_at hl 2 rfl) ?_
  obtain ⟨g1, hs⟩ := gd_some hs
  obtain ⟨μ2, eμ2, hs⟩ := bnd_e hs
  refine ga_st hOK hF hKK hW hS hA (lk_5_0 hOK k0) g1 eμ2 dX5_setSize_12 (fun H locs hW hS => ?_)
  have h9 := Option.some.inj hs
  rw [← h9]
  exact wr_v hF hr hlocks hW hS dX5_setSize_13

set_option maxHeartbeats 4000000 in
set_option maxRecDepth 100000 in
theorem c_X5_bank (l : Launch) {G : va_G} {Λ : Lay} {μ : Mem} (hOK : LayOK Λ) {a0 : Nat} (k0 : inK Λ a0 5) {a1 : Int32} {r : (Int32 × Mem)} (hs : sX5_bank Λ μ a0 a1 = some r) : CM l G Λ yX5_bank cX5_bank 4 (some .int) 3 μ [.ref a0, .int a1] (QI G Λ r.1 r.2) := by
  refine ofM (own := RX5) (by decide +kernel) rfl (Nat.le_of_ble_eq_true rfl) (fun p e s m args below meth c ls hF hKK hW hr hlocks hl => ?_)
  have hx := hF.1
  have hb := hF.2.1
  have hA : ∀ q, inL Λ q → inL Λ q := fun _ h => h
  have hS : va_S (inL Λ) s.heap s.heap [] := va_S.rf
  have hl : lv_has ls 4 [(0, .ref a0), (1, .int a1)] := hl
  unfold sX5_bank at hs
  refine lv_iload_n hx hb dX5_bank_0 rfl (lv_at hl 1 rfl) ?_
  refine lv_iconst (v := (0 : Int32)) hx hb dX5_bank_1 (by decide) ?_
  refine lv_bipush (v := (99 : Int32)) hx hb dX5_bank_2 (by decide) ?_
  obtain ⟨q1, hq1, hs⟩ := obind_e hs
  refine end_i (run_S hF hKK hW hS hl.1 (c_X5_isBetween l hOK  hq1) (kw_X5_62 hF.2.2.2.2 ⟨Nat.le_of_ble_eq_true rfl, Nat.le_of_ble_eq_true rfl⟩) rfl rfl (Nat.le_of_ble_eq_true rfl) dX5_bank_4 ⟨Nat.zero_le _, Nat.zero_le _⟩) hS (fun H locs hW hS => ?_)
  refine lv_if_ne (tgt := 13) hx hb dX5_bank_7 (by decide) (fun c2 => ?_) (fun c2 => ?_)
  · have hs := ite_f hs c2
    refine lv_aload_n hx hb dX5_bank_13 rfl (lv_at hl 0 rfl) ?_
    refine lv_aload_n hx hb dX5_bank_14 rfl (lv_at hl 0 rfl) ?_
    refine gf_5_0 hF hKK hW k0 dX5_bank_15 ?_
    refine lv_iconst (v := (0 : Int32)) hx hb dX5_bank_18 (by decide) ?_
    obtain ⟨g3, hs⟩ := gd_some hs
    refine ga_ld hF hKK hW (lk_5_0 hOK k0) g3 dX5_bank_19 ?_
    refine lv_bipush (v := (12 : Int32)) hx hb dX5_bank_20 (by decide) ?_
    refine lv_icmp_ne (tgt := 29) hx hb dX5_bank_22 (by decide) (fun c4 => ?_) (fun c4 => ?_)
    · have hs := ite_f hs c4
      refine lv_iconst (v := (0 : Int32)) hx hb dX5_bank_29 (by decide) ?_
      refine lv_iconst (v := (1 : Int32)) hx hb dX5_bank_30 (by decide) ?_
      refine lv_bipush (v := (12 : Int32)) hx hb dX5_bank_31 (by decide) ?_
      obtain ⟨q5, hq5, hs⟩ := obind_e hs
      refine end_i (run_V (q := (RX5, TX5, 21)) (ci := 5) hF hKK hW hS hl.1 k0 (by decide) rfl (c_X5_refuse l hOK k0 hq5) (kw_X5_80 hF.2.2.2.2 ⟨Nat.le_of_ble_eq_true rfl, Nat.le_of_ble_eq_true rfl⟩) rfl rfl (Nat.le_of_ble_eq_true rfl) dX5_bank_33 ⟨Nat.zero_le _, Nat.zero_le _⟩) hS (fun H locs hW hS => ?_)
      refine lv_if_eq (tgt := 42) hx hb dX5_bank_36 (by decide) (fun c6 => ?_) (fun c6 => ?_)
      · have hs := ite_t hs c6
        refine lv_aload_n hx hb dX5_bank_42 rfl (lv_at hl 0 rfl) ?_
        obtain ⟨q7, hq7, hs⟩ := obind_e hs
        refine end_v (run_V (q := (RX5, TX5, 21)) (ci := 5) hF hKK hW hS hl.1 k0 (by decide) rfl (c_X5_change l hOK k0 hq7) (kw_X5_84 hF.2.2.2.2 ⟨Nat.le_of_ble_eq_true rfl, Nat.le_of_ble_eq_true rfl⟩) rfl rfl (Nat.le_of_ble_eq_true rfl) dX5_bank_43 ⟨Nat.zero_le _, Nat.zero_le _⟩) hS (fun H locs hW hS => ?_)
        refine lv_aload_n hx hb dX5_bank_46 rfl (lv_at hl 0 rfl) ?_
        refine gf_5_0 hF hKK hW k0 dX5_bank_47 ?_
        refine lv_iconst (v := (0 : Int32)) hx hb dX5_bank_50 (by decide) ?_
        obtain ⟨g8, hs⟩ := gd_some hs
        refine ga_ld hF hKK hW (lk_5_0 hOK k0) g8 dX5_bank_51 ?_
        obtain ⟨v9, ev9, hs⟩ := bnd_e hs
        refine top_i ev9 ?_
        refine lv_istore_n (lv' := [(2, .int v9), (0, .ref a0), (1, .int a1)]) hx hb dX5_bank_52 rfl hl (by decide) rfl (fun ls hl => ?_)
        refine lv_aload_n hx hb dX5_bank_53 rfl (lv_at hl 1 rfl) ?_
        obtain ⟨q10, hq10, hs⟩ := obind_e hs
        refine end_i (run_V (q := (RX5, TX5, 21)) (ci := 5) hF hKK hW hS hl.1 k0 (by decide) rfl (c_X5_emptyRound l hOK k0 hq10) (kw_X5_87 hF.2.2.2.2 ⟨Nat.le_of_ble_eq_true rfl, Nat.le_of_ble_eq_true rfl⟩) rfl rfl (Nat.le_of_ble_eq_true rfl) dX5_bank_54 ⟨Nat.zero_le _, Nat.zero_le _⟩) hS (fun H locs hW hS => ?_)
        refine lv_istore_n (lv' := [(3, .int q10), (2, .int v9), (0, .ref a0), (1, .int a1)]) hx hb dX5_bank_57 rfl hl (by decide) rfl (fun ls hl => ?_)
        refine lv_aload_n hx hb dX5_bank_58 rfl (lv_at hl 2 rfl) ?_
        refine gf_5_0 hF hKK hW k0 dX5_bank_59 ?_
        refine lv_iconst (v := (0 : Int32)) hx hb dX5_bank_62 (by decide) ?_
        refine lv_dup2_11 hx hb dX5_bank_63 rfl rfl ?_
        obtain ⟨g11, hs⟩ := gd_some hs
        refine ga_ld hF hKK hW (lk_5_0 hOK k0) g11 dX5_bank_64 ?_
        refine lv_iconst (v := (1 : Int32)) hx hb dX5_bank_65 (by decide) ?_
        refine lv_iadd hx hb dX5_bank_66 ?_
        obtain ⟨g12, hs⟩ := gd_some hs
        obtain ⟨μ13, eμ13, hs⟩ := bnd_e hs
        refine ga_st hOK hF hKK hW hS hA (lk_5_0 hOK k0) g12 eμ13 dX5_bank_67 (fun H locs hW hS => ?_)
        refine lv_aload_n hx hb dX5_bank_68 rfl (lv_at hl 2 rfl) ?_
        refine gf_5_0 hF hKK hW k0 dX5_bank_69 ?_
        refine lv_iconst (v := (4 : Int32)) hx hb dX5_bank_72 (by decide) ?_
        refine lv_iload_n hx hb dX5_bank_73 rfl (lv_at hl 1 rfl) ?_
        refine lv_iadd hx hb dX5_bank_74 ?_
        refine lv_iload_n hx hb dX5_bank_75 rfl (lv_at hl 3 rfl) ?_
        obtain ⟨g14, hs⟩ := gd_some hs
        obtain ⟨μ15, eμ15, hs⟩ := bnd_e hs
        refine ga_st hOK hF hKK hW hS hA (lk_5_0 hOK k0) g14 eμ15 dX5_bank_76 (fun H locs hW hS => ?_)
        refine lv_aload_n hx hb dX5_bank_77 rfl (lv_at hl 2 rfl) ?_
        refine lv_iload_n hx hb dX5_bank_78 rfl (lv_at hl 0 rfl) ?_
        refine lv_iconst (v := (1 : Int32)) hx hb dX5_bank_79 (by decide) ?_
        obtain ⟨q16, hq16, hs⟩ := obind_e hs
        refine end_v (run_V (q := (RX5, TX5, 21)) (ci := 5) hF hKK hW hS hl.1 k0 (by decide) rfl (c_X5_setSize l hOK k0 hq16) (kw_X5_91 hF.2.2.2.2 ⟨Nat.le_of_ble_eq_true rfl, Nat.le_of_ble_eq_true rfl⟩) rfl rfl (Nat.le_of_ble_eq_true rfl) dX5_bank_80 ⟨Nat.zero_le _, Nat.zero_le _⟩) hS (fun H locs hW hS => ?_)
        refine lv_aload_n hx hb dX5_bank_83 rfl (lv_at hl 2 rfl) ?_
        refine lv_iload_n hx hb dX5_bank_84 rfl (lv_at hl 0 rfl) ?_
        refine lv_iconst (v := (0 : Int32)) hx hb dX5_bank_85 (by decide) ?_
        refine lv_iload_n hx hb dX5_bank_86 rfl (lv_at hl 1 rfl) ?_
        obtain ⟨q17, hq17, hs⟩ := obind_e hs
        refine end_v (run_V (q := (RX5, TX5, 21)) (ci := 5) hF hKK hW hS hl.1 k0 (by decide) rfl (c_X5_setPlace l hOK k0 hq17) (kw_X5_95 hF.2.2.2.2 ⟨Nat.le_of_ble_eq_true rfl, Nat.le_of_ble_eq_true rfl⟩) rfl rfl (Nat.le_of_ble_eq_true rfl) dX5_bank_87 ⟨Nat.zero_le _, Nat.zero_le _⟩) hS (fun H locs hW hS => ?_)
        refine lv_iload_n hx hb dX5_bank_90 rfl (lv_at hl 1 rfl) ?_
        have h9 := Option.some.inj hs
        rw [← h9]
        exact wr_i hF hr hlocks (vp_nar_int _) hW hS dX5_bank_91
      · have hs := ite_f hs c6
        refine lv_bipush (v := (-3 : Int32)) hx hb dX5_bank_39 (by decide) ?_
        have h9 := Option.some.inj hs
        rw [← h9]
        exact wr_i hF hr hlocks (vp_nar_int _) hW hS dX5_bank_41
    · have hs := ite_t hs c4
      refine lv_iconst (v := (1 : Int32)) hx hb dX5_bank_25 (by decide) ?_
      refine lv_goto (tgt := 30) hx hb dX5_bank_26 (by decide) ?_
      refine lv_iconst (v := (1 : Int32)) hx hb dX5_bank_30 (by decide) ?_
      refine lv_bipush (v := (12 : Int32)) hx hb dX5_bank_31 (by decide) ?_
      obtain ⟨q18, hq18, hs⟩ := obind_e hs
      refine end_i (run_V (q := (RX5, TX5, 21)) (ci := 5) hF hKK hW hS hl.1 k0 (by decide) rfl (c_X5_refuse l hOK k0 hq18) (kw_X5_80 hF.2.2.2.2 ⟨Nat.le_of_ble_eq_true rfl, Nat.le_of_ble_eq_true rfl⟩) rfl rfl (Nat.le_of_ble_eq_true rfl) dX5_bank_33 ⟨Nat.zero_le _, Nat.zero_le _⟩) hS (fun H locs hW hS => ?_)
      refine lv_if_eq (tgt := 42) hx hb dX5_bank_36 (by decide) (fun c19 => ?_) (fun c19 => ?_)
      · have hs := ite_t hs c19
        refine lv_aload_n hx hb dX5_bank_42 rfl (lv_at hl 0 rfl) ?_
        obtain ⟨q20, hq20, hs⟩ := obind_e hs
        refine end_v (run_V (q := (RX5, TX5, 21)) (ci := 5) hF hKK hW hS hl.1 k0 (by decide) rfl (c_X5_change l hOK k0 hq20) (kw_X5_84 hF.2.2.2.2 ⟨Nat.le_of_ble_eq_true rfl, Nat.le_of_ble_eq_true rfl⟩) rfl rfl (Nat.le_of_ble_eq_true rfl) dX5_bank_43 ⟨Nat.zero_le _, Nat.zero_le _⟩) hS (fun H locs hW hS => ?_)
        refine lv_aload_n hx hb dX5_bank_46 rfl (lv_at hl 0 rfl) ?_
        refine gf_5_0 hF hKK hW k0 dX5_bank_47 ?_
        refine lv_iconst (v := (0 : Int32)) hx hb dX5_bank_50 (by decide) ?_
        obtain ⟨g21, hs⟩ := gd_some hs
        refine ga_ld hF hKK hW (lk_5_0 hOK k0) g21 dX5_bank_51 ?_
        obtain ⟨v22, ev22, hs⟩ := bnd_e hs
        refine top_i ev22 ?_
        refine lv_istore_n (lv' := [(2, .int v22), (0, .ref a0), (1, .int a1)]) hx hb dX5_bank_52 rfl hl (by decide) rfl (fun ls hl => ?_)
        refine lv_aload_n hx hb dX5_bank_53 rfl (lv_at hl 1 rfl) ?_
        obtain ⟨q23, hq23, hs⟩ := obind_e hs
        refine end_i (run_V (q := (RX5, TX5, 21)) (ci := 5) hF hKK hW hS hl.1 k0 (by decide) rfl (c_X5_emptyRound l hOK k0 hq23) (kw_X5_87 hF.2.2.2.2 ⟨Nat.le_of_ble_eq_true rfl, Nat.le_of_ble_eq_true rfl⟩) rfl rfl (Nat.le_of_ble_eq_true rfl) dX5_bank_54 ⟨Nat.zero_le _, Nat.zero_le _⟩) hS (fun H locs hW hS => ?_)
        refine lv_istore_n (lv' := [(3, .int q23), (2, .int v22), (0, .ref a0), (1, .int a1)]) hx hb dX5_bank_57 rfl hl (by decide) rfl (fun ls hl => ?_)
        refine lv_aload_n hx hb dX5_bank_58 rfl (lv_at hl 2 rfl) ?_
        refine gf_5_0 hF hKK hW k0 dX5_bank_59 ?_
        refine lv_iconst (v := (0 : Int32)) hx hb dX5_bank_62 (by decide) ?_
        refine lv_dup2_11 hx hb dX5_bank_63 rfl rfl ?_
        obtain ⟨g24, hs⟩ := gd_some hs
        refine ga_ld hF hKK hW (lk_5_0 hOK k0) g24 dX5_bank_64 ?_
        refine lv_iconst (v := (1 : Int32)) hx hb dX5_bank_65 (by decide) ?_
        refine lv_iadd hx hb dX5_bank_66 ?_
        obtain ⟨g25, hs⟩ := gd_some hs
        obtain ⟨μ26, eμ26, hs⟩ := bnd_e hs
        refine ga_st hOK hF hKK hW hS hA (lk_5_0 hOK k0) g25 eμ26 dX5_bank_67 (fun H locs hW hS => ?_)
        refine lv_aload_n hx hb dX5_bank_68 rfl (lv_at hl 2 rfl) ?_
        refine gf_5_0 hF hKK hW k0 dX5_bank_69 ?_
        refine lv_iconst (v := (4 : Int32)) hx hb dX5_bank_72 (by decide) ?_
        refine lv_iload_n hx hb dX5_bank_73 rfl (lv_at hl 1 rfl) ?_
        refine lv_iadd hx hb dX5_bank_74 ?_
        refine lv_iload_n hx hb dX5_bank_75 rfl (lv_at hl 3 rfl) ?_
        obtain ⟨g27, hs⟩ := gd_some hs
        obtain ⟨μ28, eμ28, hs⟩ := bnd_e hs
        refine ga_st hOK hF hKK hW hS hA (lk_5_0 hOK k0) g27 eμ28 dX5_bank_76 (fun H locs hW hS => ?_)
        refine lv_aload_n hx hb dX5_bank_77 rfl (lv_at hl 2 rfl) ?_
        refine lv_iload_n hx hb dX5_bank_78 rfl (lv_at hl 0 rfl) ?_
        refine lv_iconst (v := (1 : Int32)) hx hb dX5_bank_79 (by decide) ?_
        obtain ⟨q29, hq29, hs⟩ := obind_e hs
        refine end_v (run_V (q := (RX5, TX5, 21)) (ci := 5) hF hKK hW hS hl.1 k0 (by decide) rfl (c_X5_setSize l hOK k0 hq29) (kw_X5_91 hF.2.2.2.2 ⟨Nat.le_of_ble_eq_true rfl, Nat.le_of_ble_eq_true rfl⟩) rfl rfl (Nat.le_of_ble_eq_true rfl) dX5_bank_80 ⟨Nat.zero_le _, Nat.zero_le _⟩) hS (fun H locs hW hS => ?_)
        refine lv_aload_n hx hb dX5_bank_83 rfl (lv_at hl 2 rfl) ?_
        refine lv_iload_n hx hb dX5_bank_84 rfl (lv_at hl 0 rfl) ?_
        refine lv_iconst (v := (0 : Int32)) hx hb dX5_bank_85 (by decide) ?_
        refine lv_iload_n hx hb dX5_bank_86 rfl (lv_at hl 1 rfl) ?_
        obtain ⟨q30, hq30, hs⟩ := obind_e hs
        refine end_v (run_V (q := (RX5, TX5, 21)) (ci := 5) hF hKK hW hS hl.1 k0 (by decide) rfl (c_X5_setPlace l hOK k0 hq30) (kw_X5_95 hF.2.2.2.2 ⟨Nat.le_of_ble_eq_true rfl, Nat.le_of_ble_eq_true rfl⟩) rfl rfl (Nat.le_of_ble_eq_true rfl) dX5_bank_87 ⟨Nat.zero_le _, Nat.zero_le _⟩) hS (fun H locs hW hS => ?_)
        refine lv_iload_n hx hb dX5_bank_90 rfl (lv_at hl 1 rfl) ?_
        have h9 := Option.some.inj hs
        rw [← h9]
        exact wr_i hF hr hlocks (vp_nar_int _) hW hS dX5_bank_91
      · have hs := ite_f hs c19
        refine lv_bipush (v := (-3 : Int32)) hx hb dX5_bank_39 (by decide) ?_
        have h9 := Option.some.inj hs
        rw [← h9]
        exact wr_i hF hr hlocks (vp_nar_int _) hW hS dX5_bank_41
  · have hs := ite_t hs c2
    refine lv_bipush (v := (-2 : Int32)) hx hb dX5_bank_10 (by decide) ?_
    have h9 := Option.some.inj hs
    rw [← h9]
    exact wr_i hF hr hlocks (vp_nar_int _) hW hS dX5_bank_12

set_option maxHeartbeats 4000000 in
set_option maxRecDepth 100000 in
theorem cl_X5_countBelow_4 {p : Program} {l : Launch} {e : Env} {s : State} {m : MethodId} {args : Array Value} {below : List Frame} {meth : Method} {c : Code} {G : va_G} {Λ : Lay} {μ : Mem} {r : Int32} (hOK : LayOK Λ) (hF : CallFix p m c cX5_countBelow 4 s args tw RX5) (hKK : KK G Λ s) (hr : meth.sig.returnType = (some .int)) (hlocks : meth.locks = false) {x0 : Nat} (kx0 : inK Λ x0 5) {x1 : Int32} : ∀ (n : Nat) (x2 : Int32) (x3 : Int32) (H : Heap) (locs : List Loc) (ls : Array Slot), lpX5_countBelow_4 Λ μ x0 x1 n x2 x3 = some r → Wd G Λ μ H → va_S (inL Λ) s.heap H locs → lv_has ls 4 [(0, .ref x0), (1, .int x1), (2, .int x2), (3, .int x3)] → W p l e (rmd 5) s m args below meth c H locs 0 0 (MQ below (QI G Λ r μ) args s 0 0 (inL Λ)) (F0 m 4 ls []) := by
  have hx := hF.1
  have hb := hF.2.1
  have hA : ∀ q, inL Λ q → inL Λ q := fun _ h => h
  intro n
  induction n with
  | zero =>
    intro x2 x3 H locs ls hs hW hS hl
    cases hs
  | succ n4 ih4 =>
    intro x2 x3 H locs ls hs hW hS hl
    rw [lpX5_countBelow_4_s] at hs
    refine lv_iload_n hx hb dX5_countBelow_4 rfl (lv_at hl 3 rfl) ?_
    refine lv_aload_n hx hb dX5_countBelow_5 rfl (lv_at hl 0 rfl) ?_
    refine gf_5_0 hF hKK hW kx0 dX5_countBelow_6 ?_
    refine lv_iconst (v := (0 : Int32)) hx hb dX5_countBelow_9 (by decide) ?_
    obtain ⟨g1, hs⟩ := gd_some hs
    refine ga_ld hF hKK hW (lk_5_0 hOK kx0) g1 dX5_countBelow_10 ?_
    refine lv_icmp_ge (tgt := 37) hx hb dX5_countBelow_11 (by decide) (fun c2 => ?_) (fun c2 => ?_)
    · have hs := ite_t hs c2
      refine lv_iload_n hx hb dX5_countBelow_37 rfl (lv_at hl 2 rfl) ?_
      have h9 := Option.some.inj hs
      rw [← h9]
      exact wr_i hF hr hlocks (vp_nar_int _) hW hS dX5_countBelow_38
    · have hs := ite_f hs c2
      refine lv_iload_n hx hb dX5_countBelow_14 rfl (lv_at hl 2 rfl) ?_
      refine lv_aload_n hx hb dX5_countBelow_15 rfl (lv_at hl 0 rfl) ?_
      refine lv_iload_n hx hb dX5_countBelow_16 rfl (lv_at hl 3 rfl) ?_
      refine lv_iload_n hx hb dX5_countBelow_17 rfl (lv_at hl 1 rfl) ?_
      obtain ⟨q3, hq3, hs⟩ := obind_e hs
      refine end_i (run_V (q := (RX5, TX5, 21)) (ci := 5) hF hKK hW hS hl.1 kx0 (by decide) rfl (c_X5_below l hOK kx0 hq3) (kw_X5_138 hF.2.2.2.2 ⟨Nat.le_of_ble_eq_true rfl, Nat.le_of_ble_eq_true rfl⟩) rfl rfl (Nat.le_of_ble_eq_true rfl) dX5_countBelow_18 ⟨Nat.zero_le _, Nat.zero_le _⟩) hS (fun H locs hW hS => ?_)
      refine lv_if_eq (tgt := 28) hx hb dX5_countBelow_21 (by decide) (fun c4 => ?_) (fun c4 => ?_)
      · have hs := ite_t hs c4
        refine lv_iconst (v := (0 : Int32)) hx hb dX5_countBelow_28 (by decide) ?_
        refine lv_iadd hx hb dX5_countBelow_29 ?_
        obtain ⟨v5, ev5, hs⟩ := bnd_e hs
        refine top_i ev5 ?_
        refine lv_istore_n (lv' := [(2, .int v5), (0, .ref x0), (1, .int x1), (3, .int x3)]) hx hb dX5_countBelow_30 rfl hl (by decide) rfl (fun ls hl => ?_)
        obtain ⟨v6, ev6, hs⟩ := bnd_e hs
        refine lv_iinc (v := v6) (lv' := [(3, .int v6), (2, .int v5), (0, .ref x0), (1, .int x1)]) hx hb dX5_countBelow_31 hl (k := 3) rfl (by rw [ev6]; rfl) (by decide) rfl (fun ls hl => ?_)
        refine lv_goto (tgt := 4) hx hb dX5_countBelow_34 (by decide) ?_
        exact ih4 v5 v6 _ _ _ hs hW hS (lv_sub hl [2, 3, 1, 0] rfl)
      · have hs := ite_f hs c4
        refine lv_iconst (v := (1 : Int32)) hx hb dX5_countBelow_24 (by decide) ?_
        refine lv_goto (tgt := 29) hx hb dX5_countBelow_25 (by decide) ?_
        refine lv_iadd hx hb dX5_countBelow_29 ?_
        obtain ⟨v7, ev7, hs⟩ := bnd_e hs
        refine top_i ev7 ?_
        refine lv_istore_n (lv' := [(2, .int v7), (0, .ref x0), (1, .int x1), (3, .int x3)]) hx hb dX5_countBelow_30 rfl hl (by decide) rfl (fun ls hl => ?_)
        obtain ⟨v8, ev8, hs⟩ := bnd_e hs
        refine lv_iinc (v := v8) (lv' := [(3, .int v8), (2, .int v7), (0, .ref x0), (1, .int x1)]) hx hb dX5_countBelow_31 hl (k := 3) rfl (by rw [ev8]; rfl) (by decide) rfl (fun ls hl => ?_)
        refine lv_goto (tgt := 4) hx hb dX5_countBelow_34 (by decide) ?_
        exact ih4 v7 v8 _ _ _ hs hW hS (lv_sub hl [2, 3, 1, 0] rfl)

set_option maxHeartbeats 4000000 in
set_option maxRecDepth 100000 in
theorem c_X5_countBelow (l : Launch) {G : va_G} {Λ : Lay} {μ : Mem} (hOK : LayOK Λ) {a0 : Nat} (k0 : inK Λ a0 5) {a1 : Int32} {r : Int32} (hs : sX5_countBelow Λ μ a0 a1 = some r) : CM l G Λ yX5_countBelow cX5_countBelow 4 (some .int) 5 μ [.ref a0, .int a1] (QI G Λ r μ) := by
  refine ofM (own := RX5) (by decide +kernel) rfl (Nat.le_of_ble_eq_true rfl) (fun p e s m args below meth c ls hF hKK hW hr hlocks hl => ?_)
  have hx := hF.1
  have hb := hF.2.1
  have hA : ∀ q, inL Λ q → inL Λ q := fun _ h => h
  have hS : va_S (inL Λ) s.heap s.heap [] := va_S.rf
  have hl : lv_has ls 4 [(0, .ref a0), (1, .int a1)] := hl
  unfold sX5_countBelow at hs
  refine lv_iconst (v := (0 : Int32)) hx hb dX5_countBelow_0 (by decide) ?_
  refine lv_istore_n (lv' := [(2, .int (0 : Int32)), (0, .ref a0), (1, .int a1)]) hx hb dX5_countBelow_1 rfl hl (by decide) rfl (fun ls hl => ?_)
  refine lv_iconst (v := (0 : Int32)) hx hb dX5_countBelow_2 (by decide) ?_
  refine lv_istore_n (lv' := [(3, .int (0 : Int32)), (2, .int (0 : Int32)), (0, .ref a0), (1, .int a1)]) hx hb dX5_countBelow_3 rfl hl (by decide) rfl (fun ls hl => ?_)
  exact cl_X5_countBelow_4 hOK hF hKK hr hlocks k0 fuel (0 : Int32) (0 : Int32) _ _ _ hs hW hS (lv_sub hl [2, 3, 1, 0] rfl)

set_option maxHeartbeats 4000000 in
set_option maxRecDepth 100000 in
theorem c_X5_root (l : Launch) {G : va_G} {Λ : Lay} {μ : Mem} (hOK : LayOK Λ) {a0 : Nat} (k0 : inK Λ a0 5) {a1 : Int32} {r : Int32} (hs : sX5_root Λ μ a0 a1 = some r) : CM l G Λ yX5_root cX5_root 2 (some .int) 3 μ [.ref a0, .int a1] (QI G Λ r μ) := by
  refine ofM (own := RX5) (by decide +kernel) rfl (Nat.le_of_ble_eq_true rfl) (fun p e s m args below meth c ls hF hKK hW hr hlocks hl => ?_)
  have hx := hF.1
  have hb := hF.2.1
  have hA : ∀ q, inL Λ q → inL Λ q := fun _ h => h
  have hS : va_S (inL Λ) s.heap s.heap [] := va_S.rf
  have hl : lv_has ls 2 [(0, .ref a0), (1, .int a1)] := hl
  unfold sX5_root at hs
  refine lv_aload_n hx hb dX5_root_0 rfl (lv_at hl 0 rfl) ?_
  refine lv_aload_n hx hb dX5_root_1 rfl (lv_at hl 0 rfl) ?_
  refine lv_iload_n hx hb dX5_root_2 rfl (lv_at hl 1 rfl) ?_
  obtain ⟨q1, hq1, hs⟩ := obind_e hs
  refine end_i (run_V (q := (RX5, TX5, 21)) (ci := 5) hF hKK hW hS hl.1 k0 (by decide) rfl (c_X5_roundOf l hOK k0 hq1) (kw_X5_77 hF.2.2.2.2 ⟨Nat.le_of_ble_eq_true rfl, Nat.le_of_ble_eq_true rfl⟩) rfl rfl (Nat.le_of_ble_eq_true rfl) dX5_root_3 ⟨Nat.zero_le _, Nat.zero_le _⟩) hS (fun H locs hW hS => ?_)
  refine lv_iconst (v := (0 : Int32)) hx hb dX5_root_6 (by decide) ?_
  obtain ⟨q2, hq2, hs⟩ := obind_e hs
  refine end_i (run_V (q := (RX5, TX5, 21)) (ci := 5) hF hKK hW hS hl.1 k0 (by decide) rfl (c_X5_place l hOK k0 hq2) (kw_X5_70 hF.2.2.2.2 ⟨Nat.le_of_ble_eq_true rfl, Nat.le_of_ble_eq_true rfl⟩) rfl rfl (Nat.le_of_ble_eq_true rfl) dX5_root_7 ⟨Nat.zero_le _, Nat.zero_le _⟩) hS (fun H locs hW hS => ?_)
  have h9 := Option.some.inj hs
  rw [← h9]
  exact wr_i hF hr hlocks (vp_nar_int _) hW hS dX5_root_10

set_option maxHeartbeats 4000000 in
set_option maxRecDepth 100000 in
theorem cl_X5_isTied_9 {p : Program} {l : Launch} {e : Env} {s : State} {m : MethodId} {args : Array Value} {below : List Frame} {meth : Method} {c : Code} {G : va_G} {Λ : Lay} {μ : Mem} {r : Int32} (hOK : LayOK Λ) (hF : CallFix p m c cX5_isTied 5 s args tw RX5) (hKK : KK G Λ s) (hr : meth.sig.returnType = (some .boolean)) (hlocks : meth.locks = false) {x0 : Nat} (kx0 : inK Λ x0 5) {x1 : Int32} {x2 : Int32} {x3 : Int32} : ∀ (n : Nat) (x4 : Int32) (H : Heap) (locs : List Loc) (ls : Array Slot), lpX5_isTied_9 Λ μ x0 x1 x2 x3 n x4 = some r → Wd G Λ μ H → va_S (inL Λ) s.heap H locs → lv_has ls 5 [(0, .ref x0), (1, .int x1), (2, .int x2), (3, .int x3), (4, .int x4)] → W p l e (rmd 3) s m args below meth c H locs 0 0 (MQ below (QI G Λ r μ) args s 0 0 (inL Λ)) (F0 m 9 ls []) := by
  have hx := hF.1
  have hb := hF.2.1
  have hA : ∀ q, inL Λ q → inL Λ q := fun _ h => h
  intro n
  induction n with
  | zero =>
    intro x4 H locs ls hs hW hS hl
    cases hs
  | succ n9 ih9 =>
    intro x4 H locs ls hs hW hS hl
    rw [lpX5_isTied_9_s] at hs
    refine lv_iload hx hb dX5_isTied_9 (lv_at hl 4 rfl) ?_
    refine lv_aload_n hx hb dX5_isTied_11 rfl (lv_at hl 0 rfl) ?_
    refine lv_iload_n hx hb dX5_isTied_12 rfl (lv_at hl 3 rfl) ?_
    obtain ⟨q2, hq2, hs⟩ := obind_e hs
    refine end_i (run_V (q := (RX5, TX5, 21)) (ci := 5) hF hKK hW hS hl.1 kx0 (by decide) rfl (c_X5_size l hOK kx0 hq2) (kw_X5_66 hF.2.2.2.2 ⟨Nat.le_of_ble_eq_true rfl, Nat.le_of_ble_eq_true rfl⟩) rfl rfl (Nat.le_of_ble_eq_true rfl) dX5_isTied_13 ⟨Nat.zero_le _, Nat.zero_le _⟩) hS (fun H locs hW hS => ?_)
    refine lv_icmp_ge (tgt := 51) hx hb dX5_isTied_16 (by decide) (fun c3 => ?_) (fun c3 => ?_)
    · have hs := ite_t hs c3
      refine lv_iconst (v := (0 : Int32)) hx hb dX5_isTied_51 (by decide) ?_
      have h9 := Option.some.inj hs
      rw [← h9]
      exact wr_i hF hr hlocks (isB_nar (Or.inl rfl)) hW hS dX5_isTied_52
    · have hs := ite_f hs c3
      refine lv_aload_n hx hb dX5_isTied_19 rfl (lv_at hl 0 rfl) ?_
      refine lv_iload_n hx hb dX5_isTied_20 rfl (lv_at hl 3 rfl) ?_
      refine lv_iload hx hb dX5_isTied_21 (lv_at hl 4 rfl) ?_
      refine lv_iconst (v := (1 : Int32)) hx hb dX5_isTied_23 (by decide) ?_
      refine lv_isub hx hb dX5_isTied_24 ?_
      obtain ⟨q4, hq4, hs⟩ := obind_e hs
      refine end_i (run_V (q := (RX5, TX5, 21)) (ci := 5) hF hKK hW hS hl.1 kx0 (by decide) rfl (c_X5_place l hOK kx0 hq4) (kw_X5_70 hF.2.2.2.2 ⟨Nat.le_of_ble_eq_true rfl, Nat.le_of_ble_eq_true rfl⟩) rfl rfl (Nat.le_of_ble_eq_true rfl) dX5_isTied_25 ⟨Nat.zero_le _, Nat.zero_le _⟩) hS (fun H locs hW hS => ?_)
      refine lv_iload_n hx hb dX5_isTied_28 rfl (lv_at hl 1 rfl) ?_
      refine lv_icmp_ne (tgt := 45) hx hb dX5_isTied_29 (by decide) (fun c5 => ?_) (fun c5 => ?_)
      · have hs := ite_f hs c5
        obtain ⟨v6, ev6, hs⟩ := bnd_e hs
        refine lv_iinc (v := v6) (lv' := [(4, .int v6), (0, .ref x0), (1, .int x1), (2, .int x2), (3, .int x3)]) hx hb dX5_isTied_45 hl (k := 4) rfl (by rw [ev6]; rfl) (by decide) rfl (fun ls hl => ?_)
        refine lv_goto (tgt := 9) hx hb dX5_isTied_48 (by decide) ?_
        exact ih9 v6 _ _ _ hs hW hS (lv_sub hl [1, 2, 3, 4, 0] rfl)
      · have hs := ite_t hs c5
        refine lv_aload_n hx hb dX5_isTied_32 rfl (lv_at hl 0 rfl) ?_
        refine lv_iload_n hx hb dX5_isTied_33 rfl (lv_at hl 3 rfl) ?_
        refine lv_iload hx hb dX5_isTied_34 (lv_at hl 4 rfl) ?_
        obtain ⟨q7, hq7, hs⟩ := obind_e hs
        refine end_i (run_V (q := (RX5, TX5, 21)) (ci := 5) hF hKK hW hS hl.1 kx0 (by decide) rfl (c_X5_place l hOK kx0 hq7) (kw_X5_70 hF.2.2.2.2 ⟨Nat.le_of_ble_eq_true rfl, Nat.le_of_ble_eq_true rfl⟩) rfl rfl (Nat.le_of_ble_eq_true rfl) dX5_isTied_36 ⟨Nat.zero_le _, Nat.zero_le _⟩) hS (fun H locs hW hS => ?_)
        refine lv_iload_n hx hb dX5_isTied_39 rfl (lv_at hl 2 rfl) ?_
        refine lv_icmp_ne (tgt := 45) hx hb dX5_isTied_40 (by decide) (fun c8 => ?_) (fun c8 => ?_)
        · have hs := ite_f hs c8
          obtain ⟨v9, ev9, hs⟩ := bnd_e hs
          refine lv_iinc (v := v9) (lv' := [(4, .int v9), (0, .ref x0), (1, .int x1), (2, .int x2), (3, .int x3)]) hx hb dX5_isTied_45 hl (k := 4) rfl (by rw [ev9]; rfl) (by decide) rfl (fun ls hl => ?_)
          refine lv_goto (tgt := 9) hx hb dX5_isTied_48 (by decide) ?_
          exact ih9 v9 _ _ _ hs hW hS (lv_sub hl [1, 2, 3, 4, 0] rfl)
        · have hs := ite_t hs c8
          refine lv_iconst (v := (1 : Int32)) hx hb dX5_isTied_43 (by decide) ?_
          have h9 := Option.some.inj hs
          rw [← h9]
          exact wr_i hF hr hlocks (isB_nar (Or.inr rfl)) hW hS dX5_isTied_44

set_option maxHeartbeats 4000000 in
set_option maxRecDepth 100000 in
theorem c_X5_isTied (l : Launch) {G : va_G} {Λ : Lay} {μ : Mem} (hOK : LayOK Λ) {a0 : Nat} (k0 : inK Λ a0 5) {a1 : Int32} {a2 : Int32} {r : Int32} (hs : sX5_isTied Λ μ a0 a1 a2 = some r) : CM l G Λ yX5_isTied cX5_isTied 5 (some .boolean) 3 μ [.ref a0, .int a1, .int a2] (QI G Λ r μ) := by
  refine ofM (own := RX5) (by decide +kernel) rfl (Nat.le_of_ble_eq_true rfl) (fun p e s m args below meth c ls hF hKK hW hr hlocks hl => ?_)
  have hx := hF.1
  have hb := hF.2.1
  have hA : ∀ q, inL Λ q → inL Λ q := fun _ h => h
  have hS : va_S (inL Λ) s.heap s.heap [] := va_S.rf
  have hl : lv_has ls 5 [(0, .ref a0), (1, .int a1), (2, .int a2)] := hl
  unfold sX5_isTied at hs
  refine lv_aload_n hx hb dX5_isTied_0 rfl (lv_at hl 0 rfl) ?_
  refine lv_iload_n hx hb dX5_isTied_1 rfl (lv_at hl 1 rfl) ?_
  obtain ⟨q1, hq1, hs⟩ := obind_e hs
  refine end_i (run_V (q := (RX5, TX5, 21)) (ci := 5) hF hKK hW hS hl.1 k0 (by decide) rfl (c_X5_roundOf l hOK k0 hq1) (kw_X5_77 hF.2.2.2.2 ⟨Nat.le_of_ble_eq_true rfl, Nat.le_of_ble_eq_true rfl⟩) rfl rfl (Nat.le_of_ble_eq_true rfl) dX5_isTied_2 ⟨Nat.zero_le _, Nat.zero_le _⟩) hS (fun H locs hW hS => ?_)
  refine lv_istore_n (lv' := [(3, .int q1), (0, .ref a0), (1, .int a1), (2, .int a2)]) hx hb dX5_isTied_5 rfl hl (by decide) rfl (fun ls hl => ?_)
  refine lv_iconst (v := (1 : Int32)) hx hb dX5_isTied_6 (by decide) ?_
  refine lv_istore (lv' := [(4, .int (1 : Int32)), (3, .int q1), (0, .ref a0), (1, .int a1), (2, .int a2)]) hx hb dX5_isTied_7 hl (by decide) rfl (fun ls hl => ?_)
  exact cl_X5_isTied_9 hOK hF hKK hr hlocks k0 fuel (1 : Int32) _ _ _ hs hW hS (lv_sub hl [2, 3, 4, 1, 0] rfl)

set_option maxHeartbeats 4000000 in
set_option maxRecDepth 100000 in
theorem cl_X5_ropes_4 {p : Program} {l : Launch} {e : Env} {s : State} {m : MethodId} {args : Array Value} {below : List Frame} {meth : Method} {c : Code} {G : va_G} {Λ : Lay} {μ : Mem} {r : Int32} (hOK : LayOK Λ) (hF : CallFix p m c cX5_ropes 4 s args tw RX5) (hKK : KK G Λ s) (hr : meth.sig.returnType = (some .int)) (hlocks : meth.locks = false) {x0 : Nat} (kx0 : inK Λ x0 5) {x1 : Int32} : ∀ (n : Nat) (x2 : Int32) (x3 : Int32) (H : Heap) (locs : List Loc) (ls : Array Slot), lpX5_ropes_4 Λ μ x0 x1 n x2 x3 = some r → Wd G Λ μ H → va_S (inL Λ) s.heap H locs → lv_has ls 4 [(0, .ref x0), (1, .int x1), (2, .int x2), (3, .int x3)] → W p l e (rmd 4) s m args below meth c H locs 0 0 (MQ below (QI G Λ r μ) args s 0 0 (inL Λ)) (F0 m 4 ls []) := by
  have hx := hF.1
  have hb := hF.2.1
  have hA : ∀ q, inL Λ q → inL Λ q := fun _ h => h
  intro n
  induction n with
  | zero =>
    intro x2 x3 H locs ls hs hW hS hl
    cases hs
  | succ n4 ih4 =>
    intro x2 x3 H locs ls hs hW hS hl
    rw [lpX5_ropes_4_s] at hs
    refine lv_iload_n hx hb dX5_ropes_4 rfl (lv_at hl 3 rfl) ?_
    refine lv_aload_n hx hb dX5_ropes_5 rfl (lv_at hl 0 rfl) ?_
    refine gf_5_0 hF hKK hW kx0 dX5_ropes_6 ?_
    refine lv_iconst (v := (0 : Int32)) hx hb dX5_ropes_9 (by decide) ?_
    obtain ⟨g1, hs⟩ := gd_some hs
    refine ga_ld hF hKK hW (lk_5_0 hOK kx0) g1 dX5_ropes_10 ?_
    refine lv_icmp_ge (tgt := 37) hx hb dX5_ropes_11 (by decide) (fun c2 => ?_) (fun c2 => ?_)
    · have hs := ite_t hs c2
      refine lv_iload_n hx hb dX5_ropes_37 rfl (lv_at hl 2 rfl) ?_
      have h9 := Option.some.inj hs
      rw [← h9]
      exact wr_i hF hr hlocks (vp_nar_int _) hW hS dX5_ropes_38
    · have hs := ite_f hs c2
      refine lv_iload_n hx hb dX5_ropes_14 rfl (lv_at hl 2 rfl) ?_
      refine lv_aload_n hx hb dX5_ropes_15 rfl (lv_at hl 0 rfl) ?_
      refine lv_iload_n hx hb dX5_ropes_16 rfl (lv_at hl 1 rfl) ?_
      refine lv_iload_n hx hb dX5_ropes_17 rfl (lv_at hl 3 rfl) ?_
      obtain ⟨q3, hq3, hs⟩ := obind_e hs
      refine end_i (run_V (q := (RX5, TX5, 21)) (ci := 5) hF hKK hW hS hl.1 kx0 (by decide) rfl (c_X5_isTied l hOK kx0 hq3) (kw_X5_126 hF.2.2.2.2 ⟨Nat.le_of_ble_eq_true rfl, Nat.le_of_ble_eq_true rfl⟩) rfl rfl (Nat.le_of_ble_eq_true rfl) dX5_ropes_18 ⟨Nat.zero_le _, Nat.zero_le _⟩) hS (fun H locs hW hS => ?_)
      refine lv_if_eq (tgt := 28) hx hb dX5_ropes_21 (by decide) (fun c4 => ?_) (fun c4 => ?_)
      · have hs := ite_t hs c4
        refine lv_iconst (v := (0 : Int32)) hx hb dX5_ropes_28 (by decide) ?_
        refine lv_iadd hx hb dX5_ropes_29 ?_
        obtain ⟨v5, ev5, hs⟩ := bnd_e hs
        refine top_i ev5 ?_
        refine lv_istore_n (lv' := [(2, .int v5), (0, .ref x0), (1, .int x1), (3, .int x3)]) hx hb dX5_ropes_30 rfl hl (by decide) rfl (fun ls hl => ?_)
        obtain ⟨v6, ev6, hs⟩ := bnd_e hs
        refine lv_iinc (v := v6) (lv' := [(3, .int v6), (2, .int v5), (0, .ref x0), (1, .int x1)]) hx hb dX5_ropes_31 hl (k := 3) rfl (by rw [ev6]; rfl) (by decide) rfl (fun ls hl => ?_)
        refine lv_goto (tgt := 4) hx hb dX5_ropes_34 (by decide) ?_
        exact ih4 v5 v6 _ _ _ hs hW hS (lv_sub hl [2, 3, 1, 0] rfl)
      · have hs := ite_f hs c4
        refine lv_iconst (v := (1 : Int32)) hx hb dX5_ropes_24 (by decide) ?_
        refine lv_goto (tgt := 29) hx hb dX5_ropes_25 (by decide) ?_
        refine lv_iadd hx hb dX5_ropes_29 ?_
        obtain ⟨v7, ev7, hs⟩ := bnd_e hs
        refine top_i ev7 ?_
        refine lv_istore_n (lv' := [(2, .int v7), (0, .ref x0), (1, .int x1), (3, .int x3)]) hx hb dX5_ropes_30 rfl hl (by decide) rfl (fun ls hl => ?_)
        obtain ⟨v8, ev8, hs⟩ := bnd_e hs
        refine lv_iinc (v := v8) (lv' := [(3, .int v8), (2, .int v7), (0, .ref x0), (1, .int x1)]) hx hb dX5_ropes_31 hl (k := 3) rfl (by rw [ev8]; rfl) (by decide) rfl (fun ls hl => ?_)
        refine lv_goto (tgt := 4) hx hb dX5_ropes_34 (by decide) ?_
        exact ih4 v7 v8 _ _ _ hs hW hS (lv_sub hl [2, 3, 1, 0] rfl)

set_option maxHeartbeats 4000000 in
set_option maxRecDepth 100000 in
theorem c_X5_ropes (l : Launch) {G : va_G} {Λ : Lay} {μ : Mem} (hOK : LayOK Λ) {a0 : Nat} (k0 : inK Λ a0 5) {a1 : Int32} {r : Int32} (hs : sX5_ropes Λ μ a0 a1 = some r) : CM l G Λ yX5_ropes cX5_ropes 4 (some .int) 4 μ [.ref a0, .int a1] (QI G Λ r μ) := by
  refine ofM (own := RX5) (by decide +kernel) rfl (Nat.le_of_ble_eq_true rfl) (fun p e s m args below meth c ls hF hKK hW hr hlocks hl => ?_)
  have hx := hF.1
  have hb := hF.2.1
  have hA : ∀ q, inL Λ q → inL Λ q := fun _ h => h
  have hS : va_S (inL Λ) s.heap s.heap [] := va_S.rf
  have hl : lv_has ls 4 [(0, .ref a0), (1, .int a1)] := hl
  unfold sX5_ropes at hs
  refine lv_iconst (v := (0 : Int32)) hx hb dX5_ropes_0 (by decide) ?_
  refine lv_istore_n (lv' := [(2, .int (0 : Int32)), (0, .ref a0), (1, .int a1)]) hx hb dX5_ropes_1 rfl hl (by decide) rfl (fun ls hl => ?_)
  refine lv_iconst (v := (0 : Int32)) hx hb dX5_ropes_2 (by decide) ?_
  refine lv_istore_n (lv' := [(3, .int (0 : Int32)), (2, .int (0 : Int32)), (0, .ref a0), (1, .int a1)]) hx hb dX5_ropes_3 rfl hl (by decide) rfl (fun ls hl => ?_)
  exact cl_X5_ropes_4 hOK hF hKK hr hlocks k0 fuel (0 : Int32) (0 : Int32) _ _ _ hs hW hS (lv_sub hl [2, 3, 1, 0] rfl)

set_option maxHeartbeats 4000000 in
set_option maxRecDepth 100000 in
theorem cl_X5_sumBelow_4 {p : Program} {l : Launch} {e : Env} {s : State} {m : MethodId} {args : Array Value} {below : List Frame} {meth : Method} {c : Code} {G : va_G} {Λ : Lay} {μ : Mem} {r : Int32} (hOK : LayOK Λ) (hF : CallFix p m c cX5_sumBelow 4 s args tw RX5) (hKK : KK G Λ s) (hr : meth.sig.returnType = (some .int)) (hlocks : meth.locks = false) {x0 : Nat} (kx0 : inK Λ x0 5) {x1 : Int32} : ∀ (n : Nat) (x2 : Int32) (x3 : Int32) (H : Heap) (locs : List Loc) (ls : Array Slot), lpX5_sumBelow_4 Λ μ x0 x1 n x2 x3 = some r → Wd G Λ μ H → va_S (inL Λ) s.heap H locs → lv_has ls 4 [(0, .ref x0), (1, .int x1), (2, .int x2), (3, .int x3)] → W p l e (rmd 5) s m args below meth c H locs 0 0 (MQ below (QI G Λ r μ) args s 0 0 (inL Λ)) (F0 m 4 ls []) := by
  have hx := hF.1
  have hb := hF.2.1
  have hA : ∀ q, inL Λ q → inL Λ q := fun _ h => h
  intro n
  induction n with
  | zero =>
    intro x2 x3 H locs ls hs hW hS hl
    cases hs
  | succ n4 ih4 =>
    intro x2 x3 H locs ls hs hW hS hl
    rw [lpX5_sumBelow_4_s] at hs
    refine lv_iload_n hx hb dX5_sumBelow_4 rfl (lv_at hl 3 rfl) ?_
    refine lv_aload_n hx hb dX5_sumBelow_5 rfl (lv_at hl 0 rfl) ?_
    refine gf_5_0 hF hKK hW kx0 dX5_sumBelow_6 ?_
    refine lv_iconst (v := (0 : Int32)) hx hb dX5_sumBelow_9 (by decide) ?_
    obtain ⟨g1, hs⟩ := gd_some hs
    refine ga_ld hF hKK hW (lk_5_0 hOK kx0) g1 dX5_sumBelow_10 ?_
    refine lv_icmp_ge (tgt := 41) hx hb dX5_sumBelow_11 (by decide) (fun c2 => ?_) (fun c2 => ?_)
    · have hs := ite_t hs c2
      refine lv_iload_n hx hb dX5_sumBelow_41 rfl (lv_at hl 2 rfl) ?_
      have h9 := Option.some.inj hs
      rw [← h9]
      exact wr_i hF hr hlocks (vp_nar_int _) hW hS dX5_sumBelow_42
    · have hs := ite_f hs c2
      refine lv_iload_n hx hb dX5_sumBelow_14 rfl (lv_at hl 2 rfl) ?_
      refine lv_aload_n hx hb dX5_sumBelow_15 rfl (lv_at hl 0 rfl) ?_
      refine lv_iload_n hx hb dX5_sumBelow_16 rfl (lv_at hl 3 rfl) ?_
      refine lv_iload_n hx hb dX5_sumBelow_17 rfl (lv_at hl 1 rfl) ?_
      obtain ⟨q3, hq3, hs⟩ := obind_e hs
      refine end_i (run_V (q := (RX5, TX5, 21)) (ci := 5) hF hKK hW hS hl.1 kx0 (by decide) rfl (c_X5_below l hOK kx0 hq3) (kw_X5_138 hF.2.2.2.2 ⟨Nat.le_of_ble_eq_true rfl, Nat.le_of_ble_eq_true rfl⟩) rfl rfl (Nat.le_of_ble_eq_true rfl) dX5_sumBelow_18 ⟨Nat.zero_le _, Nat.zero_le _⟩) hS (fun H locs hW hS => ?_)
      refine lv_if_eq (tgt := 32) hx hb dX5_sumBelow_21 (by decide) (fun c4 => ?_) (fun c4 => ?_)
      · have hs := ite_t hs c4
        refine lv_iconst (v := (0 : Int32)) hx hb dX5_sumBelow_32 (by decide) ?_
        refine lv_iadd hx hb dX5_sumBelow_33 ?_
        obtain ⟨v5, ev5, hs⟩ := bnd_e hs
        refine top_i ev5 ?_
        refine lv_istore_n (lv' := [(2, .int v5), (0, .ref x0), (1, .int x1), (3, .int x3)]) hx hb dX5_sumBelow_34 rfl hl (by decide) rfl (fun ls hl => ?_)
        obtain ⟨v6, ev6, hs⟩ := bnd_e hs
        refine lv_iinc (v := v6) (lv' := [(3, .int v6), (2, .int v5), (0, .ref x0), (1, .int x1)]) hx hb dX5_sumBelow_35 hl (k := 3) rfl (by rw [ev6]; rfl) (by decide) rfl (fun ls hl => ?_)
        refine lv_goto (tgt := 4) hx hb dX5_sumBelow_38 (by decide) ?_
        exact ih4 v5 v6 _ _ _ hs hW hS (lv_sub hl [2, 3, 1, 0] rfl)
      · have hs := ite_f hs c4
        refine lv_aload_n hx hb dX5_sumBelow_24 rfl (lv_at hl 0 rfl) ?_
        refine lv_iload_n hx hb dX5_sumBelow_25 rfl (lv_at hl 3 rfl) ?_
        obtain ⟨q7, hq7, hs⟩ := obind_e hs
        refine end_i (run_V (q := (RX5, TX5, 21)) (ci := 5) hF hKK hW hS hl.1 kx0 (by decide) rfl (c_X5_weight l hOK kx0 hq7) (kw_X5_103 hF.2.2.2.2 ⟨Nat.le_of_ble_eq_true rfl, Nat.le_of_ble_eq_true rfl⟩) rfl rfl (Nat.le_of_ble_eq_true rfl) dX5_sumBelow_26 ⟨Nat.zero_le _, Nat.zero_le _⟩) hS (fun H locs hW hS => ?_)
        refine lv_goto (tgt := 33) hx hb dX5_sumBelow_29 (by decide) ?_
        refine lv_iadd hx hb dX5_sumBelow_33 ?_
        obtain ⟨v8, ev8, hs⟩ := bnd_e hs
        refine top_i ev8 ?_
        refine lv_istore_n (lv' := [(2, .int v8), (0, .ref x0), (1, .int x1), (3, .int x3)]) hx hb dX5_sumBelow_34 rfl hl (by decide) rfl (fun ls hl => ?_)
        obtain ⟨v9, ev9, hs⟩ := bnd_e hs
        refine lv_iinc (v := v9) (lv' := [(3, .int v9), (2, .int v8), (0, .ref x0), (1, .int x1)]) hx hb dX5_sumBelow_35 hl (k := 3) rfl (by rw [ev9]; rfl) (by decide) rfl (fun ls hl => ?_)
        refine lv_goto (tgt := 4) hx hb dX5_sumBelow_38 (by decide) ?_
        exact ih4 v8 v9 _ _ _ hs hW hS (lv_sub hl [2, 3, 1, 0] rfl)

set_option maxHeartbeats 4000000 in
set_option maxRecDepth 100000 in
theorem c_X5_sumBelow (l : Launch) {G : va_G} {Λ : Lay} {μ : Mem} (hOK : LayOK Λ) {a0 : Nat} (k0 : inK Λ a0 5) {a1 : Int32} {r : Int32} (hs : sX5_sumBelow Λ μ a0 a1 = some r) : CM l G Λ yX5_sumBelow cX5_sumBelow 4 (some .int) 5 μ [.ref a0, .int a1] (QI G Λ r μ) := by
  refine ofM (own := RX5) (by decide +kernel) rfl (Nat.le_of_ble_eq_true rfl) (fun p e s m args below meth c ls hF hKK hW hr hlocks hl => ?_)
  have hx := hF.1
  have hb := hF.2.1
  have hA : ∀ q, inL Λ q → inL Λ q := fun _ h => h
  have hS : va_S (inL Λ) s.heap s.heap [] := va_S.rf
  have hl : lv_has ls 4 [(0, .ref a0), (1, .int a1)] := hl
  unfold sX5_sumBelow at hs
  refine lv_iconst (v := (0 : Int32)) hx hb dX5_sumBelow_0 (by decide) ?_
  refine lv_istore_n (lv' := [(2, .int (0 : Int32)), (0, .ref a0), (1, .int a1)]) hx hb dX5_sumBelow_1 rfl hl (by decide) rfl (fun ls hl => ?_)
  refine lv_iconst (v := (0 : Int32)) hx hb dX5_sumBelow_2 (by decide) ?_
  refine lv_istore_n (lv' := [(3, .int (0 : Int32)), (2, .int (0 : Int32)), (0, .ref a0), (1, .int a1)]) hx hb dX5_sumBelow_3 rfl hl (by decide) rfl (fun ls hl => ?_)
  exact cl_X5_sumBelow_4 hOK hF hKK hr hlocks k0 fuel (0 : Int32) (0 : Int32) _ _ _ hs hW hS (lv_sub hl [2, 3, 1, 0] rfl)

set_option maxHeartbeats 4000000 in
set_option maxRecDepth 100000 in
theorem c_X5_bankOf (l : Launch) {G : va_G} {Λ : Lay} {μ : Mem} (hOK : LayOK Λ) {a0 : Nat} (k0 : inK Λ a0 5) {a1 : Int32} {a2 : Int32} {r : Int32} (hs : sX5_bankOf Λ μ a0 a1 a2 = some r) : CM l G Λ yX5_bankOf cX5_bankOf 3 (some .int) 6 μ [.ref a0, .int a1, .int a2] (QI G Λ r μ) := by
  refine ofM (own := RX5) (by decide +kernel) rfl (Nat.le_of_ble_eq_true rfl) (fun p e s m args below meth c ls hF hKK hW hr hlocks hl => ?_)
  have hx := hF.1
  have hb := hF.2.1
  have hA : ∀ q, inL Λ q → inL Λ q := fun _ h => h
  have hS : va_S (inL Λ) s.heap s.heap [] := va_S.rf
  have hl : lv_has ls 3 [(0, .ref a0), (1, .int a1), (2, .int a2)] := hl
  unfold sX5_bankOf at hs
  refine lv_aload_n hx hb dX5_bankOf_0 rfl (lv_at hl 0 rfl) ?_
  refine lv_iload_n hx hb dX5_bankOf_1 rfl (lv_at hl 1 rfl) ?_
  obtain ⟨q1, hq1, hs⟩ := obind_e hs
  refine end_i (run_V (q := (RX5, TX5, 21)) (ci := 5) hF hKK hW hS hl.1 k0 (by decide) rfl (c_X5_isBank l hOK k0 hq1) (kw_X5_99 hF.2.2.2.2 ⟨Nat.le_of_ble_eq_true rfl, Nat.le_of_ble_eq_true rfl⟩) rfl rfl (Nat.le_of_ble_eq_true rfl) dX5_bankOf_2 ⟨Nat.zero_le _, Nat.zero_le _⟩) hS (fun H locs hW hS => ?_)
  refine lv_if_ne (tgt := 10) hx hb dX5_bankOf_5 (by decide) (fun c2 => ?_) (fun c2 => ?_)
  · have hs := ite_f hs c2
    refine lv_iload_n hx hb dX5_bankOf_10 rfl (lv_at hl 2 rfl) ?_
    by_cases c3 : a2 = (0 : Int32)
    · have hs := ite_t hs c3
      refine lv_tableIn (off := 49) (tgt := 60) hx hb dX5_bankOf_11 (by rw [c3]; decide) (by rw [c3]; decide) (by rw [c3]; decide) (by decide) ?_
      refine lv_aload_n hx hb dX5_bankOf_60 rfl (lv_at hl 0 rfl) ?_
      refine lv_iload_n hx hb dX5_bankOf_61 rfl (lv_at hl 1 rfl) ?_
      obtain ⟨q4, hq4, hs⟩ := obind_e hs
      refine end_i (run_V (q := (RX5, TX5, 21)) (ci := 5) hF hKK hW hS hl.1 k0 (by decide) rfl (c_X5_weight l hOK k0 hq4) (kw_X5_103 hF.2.2.2.2 ⟨Nat.le_of_ble_eq_true rfl, Nat.le_of_ble_eq_true rfl⟩) rfl rfl (Nat.le_of_ble_eq_true rfl) dX5_bankOf_62 ⟨Nat.zero_le _, Nat.zero_le _⟩) hS (fun H locs hW hS => ?_)
      have h9 := Option.some.inj hs
      rw [← h9]
      exact wr_i hF hr hlocks (vp_nar_int _) hW hS dX5_bankOf_65
    have hs := ite_f hs c3
    by_cases c5 : a2 = (1 : Int32)
    · have hs := ite_t hs c5
      refine lv_tableIn (off := 55) (tgt := 66) hx hb dX5_bankOf_11 (by rw [c5]; decide) (by rw [c5]; decide) (by rw [c5]; decide) (by decide) ?_
      refine lv_aload_n hx hb dX5_bankOf_66 rfl (lv_at hl 0 rfl) ?_
      refine lv_iload_n hx hb dX5_bankOf_67 rfl (lv_at hl 1 rfl) ?_
      obtain ⟨q6, hq6, hs⟩ := obind_e hs
      refine end_i (run_V (q := (RX5, TX5, 21)) (ci := 5) hF hKK hW hS hl.1 k0 (by decide) rfl (c_X5_root l hOK k0 hq6) (kw_X5_114 hF.2.2.2.2 ⟨Nat.le_of_ble_eq_true rfl, Nat.le_of_ble_eq_true rfl⟩) rfl rfl (Nat.le_of_ble_eq_true rfl) dX5_bankOf_68 ⟨Nat.zero_le _, Nat.zero_le _⟩) hS (fun H locs hW hS => ?_)
      have h9 := Option.some.inj hs
      rw [← h9]
      exact wr_i hF hr hlocks (vp_nar_int _) hW hS dX5_bankOf_71
    have hs := ite_f hs c5
    by_cases c7 : a2 = (2 : Int32)
    · have hs := ite_t hs c7
      refine lv_tableIn (off := 61) (tgt := 72) hx hb dX5_bankOf_11 (by rw [c7]; decide) (by rw [c7]; decide) (by rw [c7]; decide) (by decide) ?_
      refine lv_aload_n hx hb dX5_bankOf_72 rfl (lv_at hl 0 rfl) ?_
      refine lv_iload_n hx hb dX5_bankOf_73 rfl (lv_at hl 1 rfl) ?_
      obtain ⟨q8, hq8, hs⟩ := obind_e hs
      refine end_i (run_V (q := (RX5, TX5, 21)) (ci := 5) hF hKK hW hS hl.1 k0 (by decide) rfl (c_X5_depth l hOK k0 hq8) (kw_X5_144 hF.2.2.2.2 ⟨Nat.le_of_ble_eq_true rfl, Nat.le_of_ble_eq_true rfl⟩) rfl rfl (Nat.le_of_ble_eq_true rfl) dX5_bankOf_74 ⟨Nat.zero_le _, Nat.zero_le _⟩) hS (fun H locs hW hS => ?_)
      have h9 := Option.some.inj hs
      rw [← h9]
      exact wr_i hF hr hlocks (vp_nar_int _) hW hS dX5_bankOf_77
    have hs := ite_f hs c7
    by_cases c9 : a2 = (3 : Int32)
    · have hs := ite_t hs c9
      refine lv_tableIn (off := 67) (tgt := 78) hx hb dX5_bankOf_11 (by rw [c9]; decide) (by rw [c9]; decide) (by rw [c9]; decide) (by decide) ?_
      refine lv_aload_n hx hb dX5_bankOf_78 rfl (lv_at hl 0 rfl) ?_
      refine lv_iload_n hx hb dX5_bankOf_79 rfl (lv_at hl 1 rfl) ?_
      obtain ⟨q10, hq10, hs⟩ := obind_e hs
      refine end_i (run_V (q := (RX5, TX5, 21)) (ci := 5) hF hKK hW hS hl.1 k0 (by decide) rfl (c_X5_first l hOK k0 hq10) (kw_X5_123 hF.2.2.2.2 ⟨Nat.le_of_ble_eq_true rfl, Nat.le_of_ble_eq_true rfl⟩) rfl rfl (Nat.le_of_ble_eq_true rfl) dX5_bankOf_80 ⟨Nat.zero_le _, Nat.zero_le _⟩) hS (fun H locs hW hS => ?_)
      have h9 := Option.some.inj hs
      rw [← h9]
      exact wr_i hF hr hlocks (vp_nar_int _) hW hS dX5_bankOf_83
    have hs := ite_f hs c9
    by_cases c11 : a2 = (4 : Int32)
    · have hs := ite_t hs c11
      refine lv_tableIn (off := 73) (tgt := 84) hx hb dX5_bankOf_11 (by rw [c11]; decide) (by rw [c11]; decide) (by rw [c11]; decide) (by decide) ?_
      refine lv_aload_n hx hb dX5_bankOf_84 rfl (lv_at hl 0 rfl) ?_
      refine lv_iload_n hx hb dX5_bankOf_85 rfl (lv_at hl 1 rfl) ?_
      obtain ⟨q12, hq12, hs⟩ := obind_e hs
      refine end_i (run_V (q := (RX5, TX5, 21)) (ci := 5) hF hKK hW hS hl.1 k0 (by decide) rfl (c_X5_last l hOK k0 hq12) (kw_X5_132 hF.2.2.2.2 ⟨Nat.le_of_ble_eq_true rfl, Nat.le_of_ble_eq_true rfl⟩) rfl rfl (Nat.le_of_ble_eq_true rfl) dX5_bankOf_86 ⟨Nat.zero_le _, Nat.zero_le _⟩) hS (fun H locs hW hS => ?_)
      have h9 := Option.some.inj hs
      rw [← h9]
      exact wr_i hF hr hlocks (vp_nar_int _) hW hS dX5_bankOf_89
    have hs := ite_f hs c11
    by_cases c13 : a2 = (5 : Int32)
    · have hs := ite_t hs c13
      refine lv_tableIn (off := 79) (tgt := 90) hx hb dX5_bankOf_11 (by rw [c13]; decide) (by rw [c13]; decide) (by rw [c13]; decide) (by decide) ?_
      refine lv_aload_n hx hb dX5_bankOf_90 rfl (lv_at hl 0 rfl) ?_
      refine lv_iload_n hx hb dX5_bankOf_91 rfl (lv_at hl 1 rfl) ?_
      obtain ⟨q14, hq14, hs⟩ := obind_e hs
      refine end_i (run_V (q := (RX5, TX5, 21)) (ci := 5) hF hKK hW hS hl.1 k0 (by decide) rfl (c_X5_ropes l hOK k0 hq14) (kw_X5_147 hF.2.2.2.2 ⟨Nat.le_of_ble_eq_true rfl, Nat.le_of_ble_eq_true rfl⟩) rfl rfl (Nat.le_of_ble_eq_true rfl) dX5_bankOf_92 ⟨Nat.zero_le _, Nat.zero_le _⟩) hS (fun H locs hW hS => ?_)
      have h9 := Option.some.inj hs
      rw [← h9]
      exact wr_i hF hr hlocks (vp_nar_int _) hW hS dX5_bankOf_95
    have hs := ite_f hs c13
    by_cases c15 : a2 = (6 : Int32)
    · have hs := ite_t hs c15
      refine lv_tableIn (off := 85) (tgt := 96) hx hb dX5_bankOf_11 (by rw [c15]; decide) (by rw [c15]; decide) (by rw [c15]; decide) (by decide) ?_
      refine lv_aload_n hx hb dX5_bankOf_96 rfl (lv_at hl 0 rfl) ?_
      refine lv_iload_n hx hb dX5_bankOf_97 rfl (lv_at hl 1 rfl) ?_
      obtain ⟨q16, hq16, hs⟩ := obind_e hs
      refine end_i (run_V (q := (RX5, TX5, 21)) (ci := 5) hF hKK hW hS hl.1 k0 (by decide) rfl (c_X5_above l hOK k0 hq16) (kw_X5_150 hF.2.2.2.2 ⟨Nat.le_of_ble_eq_true rfl, Nat.le_of_ble_eq_true rfl⟩) rfl rfl (Nat.le_of_ble_eq_true rfl) dX5_bankOf_98 ⟨Nat.zero_le _, Nat.zero_le _⟩) hS (fun H locs hW hS => ?_)
      have h9 := Option.some.inj hs
      rw [← h9]
      exact wr_i hF hr hlocks (vp_nar_int _) hW hS dX5_bankOf_101
    have hs := ite_f hs c15
    by_cases c17 : a2 = (7 : Int32)
    · have hs := ite_t hs c17
      refine lv_tableIn (off := 91) (tgt := 102) hx hb dX5_bankOf_11 (by rw [c17]; decide) (by rw [c17]; decide) (by rw [c17]; decide) (by decide) ?_
      refine lv_aload_n hx hb dX5_bankOf_102 rfl (lv_at hl 0 rfl) ?_
      refine lv_iload_n hx hb dX5_bankOf_103 rfl (lv_at hl 1 rfl) ?_
      obtain ⟨q18, hq18, hs⟩ := obind_e hs
      refine end_i (run_V (q := (RX5, TX5, 21)) (ci := 5) hF hKK hW hS hl.1 k0 (by decide) rfl (c_X5_countBelow l hOK k0 hq18) (kw_X5_153 hF.2.2.2.2 ⟨Nat.le_of_ble_eq_true rfl, Nat.le_of_ble_eq_true rfl⟩) rfl rfl (Nat.le_of_ble_eq_true rfl) dX5_bankOf_104 ⟨Nat.zero_le _, Nat.zero_le _⟩) hS (fun H locs hW hS => ?_)
      have h9 := Option.some.inj hs
      rw [← h9]
      exact wr_i hF hr hlocks (vp_nar_int _) hW hS dX5_bankOf_107
    have hs := ite_f hs c17
    by_cases c19 : a2 = (8 : Int32)
    · have hs := ite_t hs c19
      refine lv_tableIn (off := 97) (tgt := 108) hx hb dX5_bankOf_11 (by rw [c19]; decide) (by rw [c19]; decide) (by rw [c19]; decide) (by decide) ?_
      refine lv_aload_n hx hb dX5_bankOf_108 rfl (lv_at hl 0 rfl) ?_
      refine lv_iload_n hx hb dX5_bankOf_109 rfl (lv_at hl 1 rfl) ?_
      obtain ⟨q20, hq20, hs⟩ := obind_e hs
      refine end_i (run_V (q := (RX5, TX5, 21)) (ci := 5) hF hKK hW hS hl.1 k0 (by decide) rfl (c_X5_sumBelow l hOK k0 hq20) (kw_X5_156 hF.2.2.2.2 ⟨Nat.le_of_ble_eq_true rfl, Nat.le_of_ble_eq_true rfl⟩) rfl rfl (Nat.le_of_ble_eq_true rfl) dX5_bankOf_110 ⟨Nat.zero_le _, Nat.zero_le _⟩) hS (fun H locs hW hS => ?_)
      have h9 := Option.some.inj hs
      rw [← h9]
      exact wr_i hF hr hlocks (vp_nar_int _) hW hS dX5_bankOf_113
    have hs := ite_f hs c19
    refine lv_tableOut (tgt := 114) hx hb dX5_bankOf_11 (by have := lv_neT c3 (a := 0) (by decide); have := lv_neT c5 (a := 1) (by decide); have := lv_neT c7 (a := 2) (by decide); have := lv_neT c9 (a := 3) (by decide); have := lv_neT c11 (a := 4) (by decide); have := lv_neT c13 (a := 5) (by decide); have := lv_neT c15 (a := 6) (by decide); have := lv_neT c17 (a := 7) (by decide); have := lv_neT c19 (a := 8) (by decide); omega) (by decide) ?_
    refine lv_bipush (v := (-2 : Int32)) hx hb dX5_bankOf_114 (by decide) ?_
    have h9 := Option.some.inj hs
    rw [← h9]
    exact wr_i hF hr hlocks (vp_nar_int _) hW hS dX5_bankOf_116
  · have hs := ite_t hs c2
    refine lv_iconst (v := (-1 : Int32)) hx hb dX5_bankOf_8 (by decide) ?_
    have h9 := Option.some.inj hs
    rw [← h9]
    exact wr_i hF hr hlocks (vp_nar_int _) hW hS dX5_bankOf_9

set_option maxHeartbeats 4000000 in
set_option maxRecDepth 100000 in
theorem c_X5_banksOf (l : Launch) {G : va_G} {Λ : Lay} {μ : Mem} (hOK : LayOK Λ) {a0 : Nat} (k0 : inK Λ a0 5) {a1 : Int32} {r : Int32} (hs : sX5_banksOf Λ μ a0 a1 = some r) : CM l G Λ yX5_banksOf cX5_banksOf 2 (some .int) 1 μ [.ref a0, .int a1] (QI G Λ r μ) := by
  refine ofM (own := RX5) (by decide +kernel) rfl (Nat.le_of_ble_eq_true rfl) (fun p e s m args below meth c ls hF hKK hW hr hlocks hl => ?_)
  have hx := hF.1
  have hb := hF.2.1
  have hA : ∀ q, inL Λ q → inL Λ q := fun _ h => h
  have hS : va_S (inL Λ) s.heap s.heap [] := va_S.rf
  have hl : lv_has ls 2 [(0, .ref a0), (1, .int a1)] := hl
  unfold sX5_banksOf at hs
  refine lv_aload_n hx hb dX5_banksOf_0 rfl (lv_at hl 0 rfl) ?_
  refine lv_iload_n hx hb dX5_banksOf_1 rfl (lv_at hl 1 rfl) ?_
  obtain ⟨q1, hq1, hs⟩ := obind_e hs
  refine end_i (run_V (q := (RX5, TX5, 21)) (ci := 5) hF hKK hW hS hl.1 k0 (by decide) rfl (c_X5_size l hOK k0 hq1) (kw_X5_66 hF.2.2.2.2 ⟨Nat.le_of_ble_eq_true rfl, Nat.le_of_ble_eq_true rfl⟩) rfl rfl (Nat.le_of_ble_eq_true rfl) dX5_banksOf_2 ⟨Nat.zero_le _, Nat.zero_le _⟩) hS (fun H locs hW hS => ?_)
  refine lv_iconst (v := (1 : Int32)) hx hb dX5_banksOf_5 (by decide) ?_
  refine lv_iadd hx hb dX5_banksOf_6 ?_
  refine lv_iconst (v := (2 : Int32)) hx hb dX5_banksOf_7 (by decide) ?_
  refine lv_idiv hx hb dX5_banksOf_8 (by decide) ?_
  have h9 := Option.some.inj hs
  rw [← h9]
  exact wr_i hF hr hlocks (vp_nar_int _) hW hS dX5_banksOf_9

set_option maxHeartbeats 4000000 in
set_option maxRecDepth 100000 in
theorem c_X5_belowAgain (l : Launch) {G : va_G} {Λ : Lay} {μ : Mem} (hOK : LayOK Λ) {a0 : Nat} (k0 : inK Λ a0 5) {a1 : Int32} {r : Int32} (hs : sX5_belowAgain Λ μ a0 a1 = some r) : CM l G Λ yX5_belowAgain cX5_belowAgain 2 (some .int) 6 μ [.ref a0, .int a1] (QI G Λ r μ) := by
  refine ofM (own := RX5) (by decide +kernel) rfl (Nat.le_of_ble_eq_true rfl) (fun p e s m args below meth c ls hF hKK hW hr hlocks hl => ?_)
  have hx := hF.1
  have hb := hF.2.1
  have hA : ∀ q, inL Λ q → inL Λ q := fun _ h => h
  have hS : va_S (inL Λ) s.heap s.heap [] := va_S.rf
  have hl : lv_has ls 2 [(0, .ref a0), (1, .int a1)] := hl
  unfold sX5_belowAgain at hs
  refine lv_aload_n hx hb dX5_belowAgain_0 rfl (lv_at hl 0 rfl) ?_
  refine lv_iload_n hx hb dX5_belowAgain_1 rfl (lv_at hl 1 rfl) ?_
  obtain ⟨q1, hq1, hs⟩ := obind_e hs
  refine end_i (run_V (q := (RX5, TX5, 21)) (ci := 5) hF hKK hW hS hl.1 k0 (by decide) rfl (c_X5_isBank l hOK k0 hq1) (kw_X5_99 hF.2.2.2.2 ⟨Nat.le_of_ble_eq_true rfl, Nat.le_of_ble_eq_true rfl⟩) rfl rfl (Nat.le_of_ble_eq_true rfl) dX5_belowAgain_2 ⟨Nat.zero_le _, Nat.zero_le _⟩) hS (fun H locs hW hS => ?_)
  refine lv_if_eq (tgt := 16) hx hb dX5_belowAgain_5 (by decide) (fun c2 => ?_) (fun c2 => ?_)
  · have hs := ite_t hs c2
    refine lv_iconst (v := (-1 : Int32)) hx hb dX5_belowAgain_16 (by decide) ?_
    have h9 := Option.some.inj hs
    rw [← h9]
    exact wr_i hF hr hlocks (vp_nar_int _) hW hS dX5_belowAgain_17
  · have hs := ite_f hs c2
    refine lv_aload_n hx hb dX5_belowAgain_8 rfl (lv_at hl 0 rfl) ?_
    refine lv_iload_n hx hb dX5_belowAgain_9 rfl (lv_at hl 1 rfl) ?_
    obtain ⟨q3, hq3, hs⟩ := obind_e hs
    refine end_i (run_V (q := (RX5, TX5, 21)) (ci := 5) hF hKK hW hS hl.1 k0 (by decide) rfl (c_X5_sumBelow l hOK k0 hq3) (kw_X5_156 hF.2.2.2.2 ⟨Nat.le_of_ble_eq_true rfl, Nat.le_of_ble_eq_true rfl⟩) rfl rfl (Nat.le_of_ble_eq_true rfl) dX5_belowAgain_10 ⟨Nat.zero_le _, Nat.zero_le _⟩) hS (fun H locs hW hS => ?_)
    refine lv_goto (tgt := 17) hx hb dX5_belowAgain_13 (by decide) ?_
    have h9 := Option.some.inj hs
    rw [← h9]
    exact wr_i hF hr hlocks (vp_nar_int _) hW hS dX5_belowAgain_17

set_option maxHeartbeats 4000000 in
set_option maxRecDepth 100000 in
theorem c_X5_lower (l : Launch) {G : va_G} {Λ : Lay} {μ : Mem} (hOK : LayOK Λ) {a0 : Nat} (k0 : inK Λ a0 5) {a1 : Int32} {a2 : Int32} {r : Int32} (hs : sX5_lower Λ μ a0 a1 a2 = some r) : CM l G Λ yX5_lower cX5_lower 3 (some .int) 4 μ [.ref a0, .int a1, .int a2] (QI G Λ r μ) := by
  refine ofM (own := RX5) (by decide +kernel) rfl (Nat.le_of_ble_eq_true rfl) (fun p e s m args below meth c ls hF hKK hW hr hlocks hl => ?_)
  have hx := hF.1
  have hb := hF.2.1
  have hA : ∀ q, inL Λ q → inL Λ q := fun _ h => h
  have hS : va_S (inL Λ) s.heap s.heap [] := va_S.rf
  have hl : lv_has ls 3 [(0, .ref a0), (1, .int a1), (2, .int a2)] := hl
  unfold sX5_lower at hs
  refine lv_aload_n hx hb dX5_lower_0 rfl (lv_at hl 0 rfl) ?_
  refine lv_iload_n hx hb dX5_lower_1 rfl (lv_at hl 1 rfl) ?_
  obtain ⟨q1, hq1, hs⟩ := obind_e hs
  refine end_i (run_V (q := (RX5, TX5, 21)) (ci := 5) hF hKK hW hS hl.1 k0 (by decide) rfl (c_X5_first l hOK k0 hq1) (kw_X5_123 hF.2.2.2.2 ⟨Nat.le_of_ble_eq_true rfl, Nat.le_of_ble_eq_true rfl⟩) rfl rfl (Nat.le_of_ble_eq_true rfl) dX5_lower_2 ⟨Nat.zero_le _, Nat.zero_le _⟩) hS (fun H locs hW hS => ?_)
  refine lv_aload_n hx hb dX5_lower_5 rfl (lv_at hl 0 rfl) ?_
  refine lv_iload_n hx hb dX5_lower_6 rfl (lv_at hl 2 rfl) ?_
  obtain ⟨q2, hq2, hs⟩ := obind_e hs
  refine end_i (run_V (q := (RX5, TX5, 21)) (ci := 5) hF hKK hW hS hl.1 k0 (by decide) rfl (c_X5_first l hOK k0 hq2) (kw_X5_123 hF.2.2.2.2 ⟨Nat.le_of_ble_eq_true rfl, Nat.le_of_ble_eq_true rfl⟩) rfl rfl (Nat.le_of_ble_eq_true rfl) dX5_lower_7 ⟨Nat.zero_le _, Nat.zero_le _⟩) hS (fun H locs hW hS => ?_)
  refine lv_icmp_le (tgt := 17) hx hb dX5_lower_10 (by decide) (fun c3 => ?_) (fun c3 => ?_)
  · have hs := ite_t hs c3
    refine lv_iload_n hx hb dX5_lower_17 rfl (lv_at hl 2 rfl) ?_
    have h9 := Option.some.inj hs
    rw [← h9]
    exact wr_i hF hr hlocks (vp_nar_int _) hW hS dX5_lower_18
  · have hs := ite_f hs c3
    refine lv_iload_n hx hb dX5_lower_13 rfl (lv_at hl 1 rfl) ?_
    refine lv_goto (tgt := 18) hx hb dX5_lower_14 (by decide) ?_
    have h9 := Option.some.inj hs
    rw [← h9]
    exact wr_i hF hr hlocks (vp_nar_int _) hW hS dX5_lower_18

set_option maxHeartbeats 4000000 in
set_option maxRecDepth 100000 in
theorem cl_X5_cut_140 {p : Program} {l : Launch} {e : Env} {s : State} {m : MethodId} {args : Array Value} {below : List Frame} {meth : Method} {c : Code} {G : va_G} {Λ : Lay} {r : (Int32 × Mem)} (hOK : LayOK Λ) (hF : CallFix p m c cX5_cut 10 s args tw RX5) (hKK : KK G Λ s) (hr : meth.sig.returnType = (some .int)) (hlocks : meth.locks = false) {x0 : Nat} (kx0 : inK Λ x0 5) {x3 : Int32} {x4 : Int32} {x5 : Int32} {x6 : Int32} {x7 : Int32} {x8 : Int32} : ∀ (n : Nat) (μ : Mem) (x9 : Int32) (H : Heap) (locs : List Loc) (ls : Array Slot), lpX5_cut_140 Λ x0 x3 x4 x5 x6 x7 x8 n μ x9 = some r → Wd G Λ μ H → va_S (inL Λ) s.heap H locs → lv_has ls 10 [(0, .ref x0), (3, .int x3), (4, .int x4), (5, .int x5), (6, .int x6), (7, .int x7), (8, .int x8), (9, .int x9)] → W p l e (rmd 5) s m args below meth c H locs 0 0 (MQ below (QI G Λ r.1 r.2) args s 0 0 (inL Λ)) (F0 m 140 ls []) := by
  have hx := hF.1
  have hb := hF.2.1
  have hA : ∀ q, inL Λ q → inL Λ q := fun _ h => h
  intro n
  induction n with
  | zero =>
    intro μ x9 H locs ls hs hW hS hl
    cases hs
  | succ n140 ih140 =>
    intro μ x9 H locs ls hs hW hS hl
    rw [lpX5_cut_140_s] at hs
    refine lv_iload hx hb dX5_cut_140 (lv_at hl 7 rfl) ?_
    refine lv_iload hx hb dX5_cut_142 (lv_at hl 6 rfl) ?_
    refine lv_iadd hx hb dX5_cut_144 ?_
    refine lv_aload_n hx hb dX5_cut_145 rfl (lv_at hl 0 rfl) ?_
    refine lv_iload hx hb dX5_cut_146 (lv_at hl 2 rfl) ?_
    obtain ⟨q17, hq17, hs⟩ := obind_e hs
    refine end_i (run_V (q := (RX5, TX5, 21)) (ci := 5) hF hKK hW hS hl.1 kx0 (by decide) rfl (c_X5_size l hOK kx0 hq17) (kw_X5_66 hF.2.2.2.2 ⟨Nat.le_of_ble_eq_true rfl, Nat.le_of_ble_eq_true rfl⟩) rfl rfl (Nat.le_of_ble_eq_true rfl) dX5_cut_148 ⟨Nat.zero_le _, Nat.zero_le _⟩) hS (fun H locs hW hS => ?_)
    refine lv_icmp_ge (tgt := 179) hx hb dX5_cut_151 (by decide) (fun c18 => ?_) (fun c18 => ?_)
    · have hs := ite_t hs c18
      refine lv_aload_n hx hb dX5_cut_179 rfl (lv_at hl 0 rfl) ?_
      refine lv_iload hx hb dX5_cut_180 (lv_at hl 2 rfl) ?_
      refine lv_aload_n hx hb dX5_cut_182 rfl (lv_at hl 0 rfl) ?_
      refine lv_iload hx hb dX5_cut_183 (lv_at hl 2 rfl) ?_
      obtain ⟨q19, hq19, hs⟩ := obind_e hs
      refine end_i (run_V (q := (RX5, TX5, 21)) (ci := 5) hF hKK hW hS hl.1 kx0 (by decide) rfl (c_X5_size l hOK kx0 hq19) (kw_X5_66 hF.2.2.2.2 ⟨Nat.le_of_ble_eq_true rfl, Nat.le_of_ble_eq_true rfl⟩) rfl rfl (Nat.le_of_ble_eq_true rfl) dX5_cut_185 ⟨Nat.zero_le _, Nat.zero_le _⟩) hS (fun H locs hW hS => ?_)
      refine lv_iload hx hb dX5_cut_188 (lv_at hl 6 rfl) ?_
      refine lv_isub hx hb dX5_cut_190 ?_
      obtain ⟨q20, hq20, hs⟩ := obind_e hs
      refine end_v (run_V (q := (RX5, TX5, 21)) (ci := 5) hF hKK hW hS hl.1 kx0 (by decide) rfl (c_X5_setSize l hOK kx0 hq20) (kw_X5_91 hF.2.2.2.2 ⟨Nat.le_of_ble_eq_true rfl, Nat.le_of_ble_eq_true rfl⟩) rfl rfl (Nat.le_of_ble_eq_true rfl) dX5_cut_191 ⟨Nat.zero_le _, Nat.zero_le _⟩) hS (fun H locs hW hS => ?_)
      refine lv_aload_n hx hb dX5_cut_194 rfl (lv_at hl 0 rfl) ?_
      refine lv_iload hx hb dX5_cut_195 (lv_at hl 5 rfl) ?_
      refine lv_iload hx hb dX5_cut_197 (lv_at hl 4 rfl) ?_
      refine lv_iload hx hb dX5_cut_199 (lv_at hl 3 rfl) ?_
      refine lv_isub hx hb dX5_cut_201 ?_
      refine lv_iconst (v := (1 : Int32)) hx hb dX5_cut_202 (by decide) ?_
      refine lv_iadd hx hb dX5_cut_203 ?_
      obtain ⟨q21, hq21, hs⟩ := obind_e hs
      refine end_v (run_V (q := (RX5, TX5, 21)) (ci := 5) hF hKK hW hS hl.1 kx0 (by decide) rfl (c_X5_setSize l hOK kx0 hq21) (kw_X5_91 hF.2.2.2.2 ⟨Nat.le_of_ble_eq_true rfl, Nat.le_of_ble_eq_true rfl⟩) rfl rfl (Nat.le_of_ble_eq_true rfl) dX5_cut_204 ⟨Nat.zero_le _, Nat.zero_le _⟩) hS (fun H locs hW hS => ?_)
      refine lv_aload_n hx hb dX5_cut_207 rfl (lv_at hl 0 rfl) ?_
      refine gf_5_0 hF hKK hW kx0 dX5_cut_208 ?_
      refine lv_iconst (v := (2 : Int32)) hx hb dX5_cut_211 (by decide) ?_
      refine lv_dup2_11 hx hb dX5_cut_212 rfl rfl ?_
      obtain ⟨g22, hs⟩ := gd_some hs
      refine ga_ld hF hKK hW (lk_5_0 hOK kx0) g22 dX5_cut_213 ?_
      refine lv_iconst (v := (1 : Int32)) hx hb dX5_cut_214 (by decide) ?_
      refine lv_iadd hx hb dX5_cut_215 ?_
      obtain ⟨g23, hs⟩ := gd_some hs
      obtain ⟨μ24, eμ24, hs⟩ := bnd_e hs
      refine ga_st hOK hF hKK hW hS hA (lk_5_0 hOK kx0) g23 eμ24 dX5_cut_216 (fun H locs hW hS => ?_)
      refine lv_iload_n hx hb dX5_cut_217 rfl (lv_at hl 1 rfl) ?_
      have h9 := Option.some.inj hs
      rw [← h9]
      exact wr_i hF hr hlocks (vp_nar_int _) hW hS dX5_cut_218
    · have hs := ite_f hs c18
      refine lv_aload_n hx hb dX5_cut_154 rfl (lv_at hl 0 rfl) ?_
      refine lv_iload hx hb dX5_cut_155 (lv_at hl 2 rfl) ?_
      refine lv_iload hx hb dX5_cut_157 (lv_at hl 7 rfl) ?_
      refine lv_aload_n hx hb dX5_cut_159 rfl (lv_at hl 0 rfl) ?_
      refine lv_iload hx hb dX5_cut_160 (lv_at hl 2 rfl) ?_
      refine lv_iload hx hb dX5_cut_162 (lv_at hl 7 rfl) ?_
      refine lv_iload hx hb dX5_cut_164 (lv_at hl 6 rfl) ?_
      refine lv_iadd hx hb dX5_cut_166 ?_
      obtain ⟨q25, hq25, hs⟩ := obind_e hs
      refine end_i (run_V (q := (RX5, TX5, 21)) (ci := 5) hF hKK hW hS hl.1 kx0 (by decide) rfl (c_X5_place l hOK kx0 hq25) (kw_X5_70 hF.2.2.2.2 ⟨Nat.le_of_ble_eq_true rfl, Nat.le_of_ble_eq_true rfl⟩) rfl rfl (Nat.le_of_ble_eq_true rfl) dX5_cut_167 ⟨Nat.zero_le _, Nat.zero_le _⟩) hS (fun H locs hW hS => ?_)
      obtain ⟨q26, hq26, hs⟩ := obind_e hs
      refine end_v (run_V (q := (RX5, TX5, 21)) (ci := 5) hF hKK hW hS hl.1 kx0 (by decide) rfl (c_X5_setPlace l hOK kx0 hq26) (kw_X5_95 hF.2.2.2.2 ⟨Nat.le_of_ble_eq_true rfl, Nat.le_of_ble_eq_true rfl⟩) rfl rfl (Nat.le_of_ble_eq_true rfl) dX5_cut_170 ⟨Nat.zero_le _, Nat.zero_le _⟩) hS (fun H locs hW hS => ?_)
      obtain ⟨v27, ev27, hs⟩ := bnd_e hs
      refine lv_iinc (v := v27) (lv' := [(9, .int v27), (0, .ref x0), (3, .int x3), (4, .int x4), (5, .int x5), (6, .int x6), (7, .int x7), (8, .int x8)]) hx hb dX5_cut_173 hl (k := 7) rfl (by rw [ev27]; rfl) (by decide) rfl (fun ls hl => ?_)
      refine lv_goto (tgt := 140) hx hb dX5_cut_176 (by decide) ?_
      exact ih140 q26 v27 _ _ _ hs hW hS (lv_sub hl [1, 2, 3, 4, 5, 6, 7, 0] rfl)

set_option maxHeartbeats 4000000 in
set_option maxRecDepth 100000 in
theorem cl_X5_cut_95 {p : Program} {l : Launch} {e : Env} {s : State} {m : MethodId} {args : Array Value} {below : List Frame} {meth : Method} {c : Code} {G : va_G} {Λ : Lay} {r : (Int32 × Mem)} (hOK : LayOK Λ) (hF : CallFix p m c cX5_cut 10 s args tw RX5) (hKK : KK G Λ s) (hr : meth.sig.returnType = (some .int)) (hlocks : meth.locks = false) {x0 : Nat} (kx0 : inK Λ x0 5) {x3 : Int32} {x4 : Int32} {x5 : Int32} {x6 : Int32} {x7 : Int32} : ∀ (n : Nat) (μ : Mem) (x8 : Int32) (H : Heap) (locs : List Loc) (ls : Array Slot), lpX5_cut_95 Λ x0 x3 x4 x5 x6 x7 n μ x8 = some r → Wd G Λ μ H → va_S (inL Λ) s.heap H locs → lv_has ls 10 [(0, .ref x0), (3, .int x3), (4, .int x4), (5, .int x5), (6, .int x6), (7, .int x7), (8, .int x8)] → W p l e (rmd 5) s m args below meth c H locs 0 0 (MQ below (QI G Λ r.1 r.2) args s 0 0 (inL Λ)) (F0 m 95 ls []) := by
  have hx := hF.1
  have hb := hF.2.1
  have hA : ∀ q, inL Λ q → inL Λ q := fun _ h => h
  intro n
  induction n with
  | zero =>
    intro μ x8 H locs ls hs hW hS hl
    cases hs
  | succ n95 ih95 =>
    intro μ x8 H locs ls hs hW hS hl
    rw [lpX5_cut_95_s] at hs
    refine lv_iload hx hb dX5_cut_95 (lv_at hl 6 rfl) ?_
    refine lv_iload hx hb dX5_cut_97 (lv_at hl 4 rfl) ?_
    refine lv_icmp_gt (tgt := 127) hx hb dX5_cut_99 (by decide) (fun c15 => ?_) (fun c15 => ?_)
    · have hs := ite_t hs c15
      refine lv_iload hx hb dX5_cut_127 (lv_at hl 4 rfl) ?_
      refine lv_iload hx hb dX5_cut_129 (lv_at hl 3 rfl) ?_
      refine lv_isub hx hb dX5_cut_131 ?_
      refine lv_iconst (v := (2 : Int32)) hx hb dX5_cut_132 (by decide) ?_
      refine lv_iadd hx hb dX5_cut_133 ?_
      obtain ⟨v16, ev16, hs⟩ := bnd_e hs
      refine top_i ev16 ?_
      refine lv_istore (lv' := [(8, .int v16), (0, .ref x0), (3, .int x3), (4, .int x4), (5, .int x5), (6, .int x6), (7, .int x7)]) hx hb dX5_cut_134 hl (by decide) rfl (fun ls hl => ?_)
      refine lv_iload hx hb dX5_cut_136 (lv_at hl 4 rfl) ?_
      refine lv_istore (lv' := [(9, .int x5), (8, .int v16), (0, .ref x0), (3, .int x3), (4, .int x4), (5, .int x5), (6, .int x6), (7, .int x7)]) hx hb dX5_cut_138 hl (by decide) rfl (fun ls hl => ?_)
      exact cl_X5_cut_140 hOK hF hKK hr hlocks kx0 fuel μ x5 _ _ _ hs hW hS (lv_sub hl [2, 3, 4, 5, 6, 7, 1, 0] rfl)
    · have hs := ite_f hs c15
      refine lv_aload_n hx hb dX5_cut_102 rfl (lv_at hl 0 rfl) ?_
      refine lv_iload hx hb dX5_cut_103 (lv_at hl 5 rfl) ?_
      refine lv_iload hx hb dX5_cut_105 (lv_at hl 6 rfl) ?_
      refine lv_iload hx hb dX5_cut_107 (lv_at hl 3 rfl) ?_
      refine lv_isub hx hb dX5_cut_109 ?_
      refine lv_aload_n hx hb dX5_cut_110 rfl (lv_at hl 0 rfl) ?_
      refine lv_iload hx hb dX5_cut_111 (lv_at hl 2 rfl) ?_
      refine lv_iload hx hb dX5_cut_113 (lv_at hl 6 rfl) ?_
      obtain ⟨q28, hq28, hs⟩ := obind_e hs
      refine end_i (run_V (q := (RX5, TX5, 21)) (ci := 5) hF hKK hW hS hl.1 kx0 (by decide) rfl (c_X5_place l hOK kx0 hq28) (kw_X5_70 hF.2.2.2.2 ⟨Nat.le_of_ble_eq_true rfl, Nat.le_of_ble_eq_true rfl⟩) rfl rfl (Nat.le_of_ble_eq_true rfl) dX5_cut_115 ⟨Nat.zero_le _, Nat.zero_le _⟩) hS (fun H locs hW hS => ?_)
      obtain ⟨q29, hq29, hs⟩ := obind_e hs
      refine end_v (run_V (q := (RX5, TX5, 21)) (ci := 5) hF hKK hW hS hl.1 kx0 (by decide) rfl (c_X5_setPlace l hOK kx0 hq29) (kw_X5_95 hF.2.2.2.2 ⟨Nat.le_of_ble_eq_true rfl, Nat.le_of_ble_eq_true rfl⟩) rfl rfl (Nat.le_of_ble_eq_true rfl) dX5_cut_118 ⟨Nat.zero_le _, Nat.zero_le _⟩) hS (fun H locs hW hS => ?_)
      obtain ⟨v30, ev30, hs⟩ := bnd_e hs
      refine lv_iinc (v := v30) (lv' := [(8, .int v30), (0, .ref x0), (3, .int x3), (4, .int x4), (5, .int x5), (6, .int x6), (7, .int x7)]) hx hb dX5_cut_121 hl (k := 6) rfl (by rw [ev30]; rfl) (by decide) rfl (fun ls hl => ?_)
      refine lv_goto (tgt := 95) hx hb dX5_cut_124 (by decide) ?_
      exact ih95 q29 v30 _ _ _ hs hW hS (lv_sub hl [1, 2, 3, 4, 5, 6, 0] rfl)

set_option maxHeartbeats 4000000 in
set_option maxRecDepth 100000 in
theorem c_X5_cut (l : Launch) {G : va_G} {Λ : Lay} {μ : Mem} (hOK : LayOK Λ) {a0 : Nat} (k0 : inK Λ a0 5) {a1 : Int32} {a2 : Int32} {r : (Int32 × Mem)} (hs : sX5_cut Λ μ a0 a1 a2 = some r) : CM l G Λ yX5_cut cX5_cut 10 (some .int) 5 μ [.ref a0, .int a1, .int a2] (QI G Λ r.1 r.2) := by
  refine ofM (own := RX5) (by decide +kernel) rfl (Nat.le_of_ble_eq_true rfl) (fun p e s m args below meth c ls hF hKK hW hr hlocks hl => ?_)
  have hx := hF.1
  have hb := hF.2.1
  have hA : ∀ q, inL Λ q → inL Λ q := fun _ h => h
  have hS : va_S (inL Λ) s.heap s.heap [] := va_S.rf
  have hl : lv_has ls 10 [(0, .ref a0), (1, .int a1), (2, .int a2)] := hl
  unfold sX5_cut at hs
  refine lv_aload_n hx hb dX5_cut_0 rfl (lv_at hl 0 rfl) ?_
  refine lv_iload_n hx hb dX5_cut_1 rfl (lv_at hl 1 rfl) ?_
  obtain ⟨q1, hq1, hs⟩ := obind_e hs
  refine end_i (run_V (q := (RX5, TX5, 21)) (ci := 5) hF hKK hW hS hl.1 k0 (by decide) rfl (c_X5_isBank l hOK k0 hq1) (kw_X5_99 hF.2.2.2.2 ⟨Nat.le_of_ble_eq_true rfl, Nat.le_of_ble_eq_true rfl⟩) rfl rfl (Nat.le_of_ble_eq_true rfl) dX5_cut_2 ⟨Nat.zero_le _, Nat.zero_le _⟩) hS (fun H locs hW hS => ?_)
  refine lv_if_eq (tgt := 16) hx hb dX5_cut_5 (by decide) (fun c2 => ?_) (fun c2 => ?_)
  · have hs := ite_t hs c2
    refine lv_iconst (v := (-1 : Int32)) hx hb dX5_cut_16 (by decide) ?_
    have h9 := Option.some.inj hs
    rw [← h9]
    exact wr_i hF hr hlocks (vp_nar_int _) hW hS dX5_cut_17
  · have hs := ite_f hs c2
    refine lv_aload_n hx hb dX5_cut_8 rfl (lv_at hl 0 rfl) ?_
    refine lv_iload_n hx hb dX5_cut_9 rfl (lv_at hl 2 rfl) ?_
    obtain ⟨q3, hq3, hs⟩ := obind_e hs
    refine end_i (run_V (q := (RX5, TX5, 21)) (ci := 5) hF hKK hW hS hl.1 k0 (by decide) rfl (c_X5_isBank l hOK k0 hq3) (kw_X5_99 hF.2.2.2.2 ⟨Nat.le_of_ble_eq_true rfl, Nat.le_of_ble_eq_true rfl⟩) rfl rfl (Nat.le_of_ble_eq_true rfl) dX5_cut_10 ⟨Nat.zero_le _, Nat.zero_le _⟩) hS (fun H locs hW hS => ?_)
    refine lv_if_ne (tgt := 18) hx hb dX5_cut_13 (by decide) (fun c4 => ?_) (fun c4 => ?_)
    · have hs := ite_f hs c4
      refine lv_aload_n hx hb dX5_cut_18 rfl (lv_at hl 0 rfl) ?_
      refine lv_aload_n hx hb dX5_cut_19 rfl (lv_at hl 0 rfl) ?_
      refine lv_iload_n hx hb dX5_cut_20 rfl (lv_at hl 1 rfl) ?_
      refine lv_iload_n hx hb dX5_cut_21 rfl (lv_at hl 2 rfl) ?_
      obtain ⟨q5, hq5, hs⟩ := obind_e hs
      refine end_i (run_V (q := (RX5, TX5, 21)) (ci := 5) hF hKK hW hS hl.1 k0 (by decide) rfl (c_X5_areOne l hOK k0 hq5) (kw_X5_110 hF.2.2.2.2 ⟨Nat.le_of_ble_eq_true rfl, Nat.le_of_ble_eq_true rfl⟩) rfl rfl (Nat.le_of_ble_eq_true rfl) dX5_cut_22 ⟨Nat.zero_le _, Nat.zero_le _⟩) hS (fun H locs hW hS => ?_)
      refine lv_if_eq (tgt := 37) hx hb dX5_cut_25 (by decide) (fun c6 => ?_) (fun c6 => ?_)
      · have hs := ite_t hs c6
        refine lv_iconst (v := (1 : Int32)) hx hb dX5_cut_37 (by decide) ?_
        refine lv_goto (tgt := 42) hx hb dX5_cut_38 (by decide) ?_
        refine lv_iconst (v := (4 : Int32)) hx hb dX5_cut_42 (by decide) ?_
        refine lv_iload_n hx hb dX5_cut_43 rfl (lv_at hl 1 rfl) ?_
        obtain ⟨q7, hq7, hs⟩ := obind_e hs
        refine end_i (run_V (q := (RX5, TX5, 21)) (ci := 5) hF hKK hW hS hl.1 k0 (by decide) rfl (c_X5_refuse l hOK k0 hq7) (kw_X5_80 hF.2.2.2.2 ⟨Nat.le_of_ble_eq_true rfl, Nat.le_of_ble_eq_true rfl⟩) rfl rfl (Nat.le_of_ble_eq_true rfl) dX5_cut_44 ⟨Nat.zero_le _, Nat.zero_le _⟩) hS (fun H locs hW hS => ?_)
        refine lv_if_eq (tgt := 53) hx hb dX5_cut_47 (by decide) (fun c8 => ?_) (fun c8 => ?_)
        · have hs := ite_t hs c8
          refine lv_aload_n hx hb dX5_cut_53 rfl (lv_at hl 0 rfl) ?_
          obtain ⟨q9, hq9, hs⟩ := obind_e hs
          refine end_v (run_V (q := (RX5, TX5, 21)) (ci := 5) hF hKK hW hS hl.1 k0 (by decide) rfl (c_X5_change l hOK k0 hq9) (kw_X5_84 hF.2.2.2.2 ⟨Nat.le_of_ble_eq_true rfl, Nat.le_of_ble_eq_true rfl⟩) rfl rfl (Nat.le_of_ble_eq_true rfl) dX5_cut_54 ⟨Nat.zero_le _, Nat.zero_le _⟩) hS (fun H locs hW hS => ?_)
          refine lv_aload_n hx hb dX5_cut_57 rfl (lv_at hl 0 rfl) ?_
          refine lv_iload_n hx hb dX5_cut_58 rfl (lv_at hl 1 rfl) ?_
          refine lv_iload_n hx hb dX5_cut_59 rfl (lv_at hl 2 rfl) ?_
          obtain ⟨q10, hq10, hs⟩ := obind_e hs
          refine end_i (run_V (q := (RX5, TX5, 21)) (ci := 5) hF hKK hW hS hl.1 k0 (by decide) rfl (c_X5_lower l hOK k0 hq10) (kw_X5_129 hF.2.2.2.2 ⟨Nat.le_of_ble_eq_true rfl, Nat.le_of_ble_eq_true rfl⟩) rfl rfl (Nat.le_of_ble_eq_true rfl) dX5_cut_60 ⟨Nat.zero_le _, Nat.zero_le _⟩) hS (fun H locs hW hS => ?_)
          refine lv_istore_n (lv' := [(3, .int q10), (0, .ref a0), (1, .int a1), (2, .int a2)]) hx hb dX5_cut_63 rfl hl (by decide) rfl (fun ls hl => ?_)
          refine lv_aload_n hx hb dX5_cut_64 rfl (lv_at hl 1 rfl) ?_
          refine lv_iload_n hx hb dX5_cut_65 rfl (lv_at hl 0 rfl) ?_
          obtain ⟨q11, hq11, hs⟩ := obind_e hs
          refine end_i (run_V (q := (RX5, TX5, 21)) (ci := 5) hF hKK hW hS hl.1 k0 (by decide) rfl (c_X5_roundOf l hOK k0 hq11) (kw_X5_77 hF.2.2.2.2 ⟨Nat.le_of_ble_eq_true rfl, Nat.le_of_ble_eq_true rfl⟩) rfl rfl (Nat.le_of_ble_eq_true rfl) dX5_cut_66 ⟨Nat.zero_le _, Nat.zero_le _⟩) hS (fun H locs hW hS => ?_)
          refine lv_istore (lv' := [(4, .int q11), (3, .int q10), (0, .ref a0), (1, .int a1), (2, .int a2)]) hx hb dX5_cut_69 hl (by decide) rfl (fun ls hl => ?_)
          refine lv_aload_n hx hb dX5_cut_71 rfl (lv_at hl 2 rfl) ?_
          refine lv_iload_n hx hb dX5_cut_72 rfl (lv_at hl 1 rfl) ?_
          obtain ⟨q12, hq12, hs⟩ := obind_e hs
          refine end_i (run_V (q := (RX5, TX5, 21)) (ci := 5) hF hKK hW hS hl.1 k0 (by decide) rfl (c_X5_first l hOK k0 hq12) (kw_X5_123 hF.2.2.2.2 ⟨Nat.le_of_ble_eq_true rfl, Nat.le_of_ble_eq_true rfl⟩) rfl rfl (Nat.le_of_ble_eq_true rfl) dX5_cut_73 ⟨Nat.zero_le _, Nat.zero_le _⟩) hS (fun H locs hW hS => ?_)
          refine lv_istore (lv' := [(5, .int q12), (4, .int q11), (3, .int q10), (0, .ref a0), (1, .int a1), (2, .int a2)]) hx hb dX5_cut_76 hl (by decide) rfl (fun ls hl => ?_)
          refine lv_aload_n hx hb dX5_cut_78 rfl (lv_at hl 3 rfl) ?_
          refine lv_iload_n hx hb dX5_cut_79 rfl (lv_at hl 2 rfl) ?_
          obtain ⟨q13, hq13, hs⟩ := obind_e hs
          refine end_i (run_V (q := (RX5, TX5, 21)) (ci := 5) hF hKK hW hS hl.1 k0 (by decide) rfl (c_X5_last l hOK k0 hq13) (kw_X5_132 hF.2.2.2.2 ⟨Nat.le_of_ble_eq_true rfl, Nat.le_of_ble_eq_true rfl⟩) rfl rfl (Nat.le_of_ble_eq_true rfl) dX5_cut_80 ⟨Nat.zero_le _, Nat.zero_le _⟩) hS (fun H locs hW hS => ?_)
          refine lv_istore (lv' := [(6, .int q13), (5, .int q12), (4, .int q11), (3, .int q10), (0, .ref a0), (1, .int a1), (2, .int a2)]) hx hb dX5_cut_83 hl (by decide) rfl (fun ls hl => ?_)
          refine lv_aload_n hx hb dX5_cut_85 rfl (lv_at hl 4 rfl) ?_
          obtain ⟨q14, hq14, hs⟩ := obind_e hs
          refine end_i (run_V (q := (RX5, TX5, 21)) (ci := 5) hF hKK hW hS hl.1 k0 (by decide) rfl (c_X5_emptyRound l hOK k0 hq14) (kw_X5_87 hF.2.2.2.2 ⟨Nat.le_of_ble_eq_true rfl, Nat.le_of_ble_eq_true rfl⟩) rfl rfl (Nat.le_of_ble_eq_true rfl) dX5_cut_86 ⟨Nat.zero_le _, Nat.zero_le _⟩) hS (fun H locs hW hS => ?_)
          refine lv_istore (lv' := [(7, .int q14), (6, .int q13), (5, .int q12), (4, .int q11), (3, .int q10), (0, .ref a0), (1, .int a1), (2, .int a2)]) hx hb dX5_cut_89 hl (by decide) rfl (fun ls hl => ?_)
          refine lv_iload hx hb dX5_cut_91 (lv_at hl 2 rfl) ?_
          refine lv_istore (lv' := [(8, .int q12), (7, .int q14), (6, .int q13), (5, .int q12), (4, .int q11), (3, .int q10), (0, .ref a0), (1, .int a1), (2, .int a2)]) hx hb dX5_cut_93 hl (by decide) rfl (fun ls hl => ?_)
          exact cl_X5_cut_95 hOK hF hKK hr hlocks k0 fuel q9 q12 _ _ _ hs hW hS (lv_sub hl [6, 5, 4, 3, 2, 1, 0] rfl)
        · have hs := ite_f hs c8
          refine lv_bipush (v := (-3 : Int32)) hx hb dX5_cut_50 (by decide) ?_
          have h9 := Option.some.inj hs
          rw [← h9]
          exact wr_i hF hr hlocks (vp_nar_int _) hW hS dX5_cut_52
      · have hs := ite_f hs c6
        refine lv_aload_n hx hb dX5_cut_28 rfl (lv_at hl 0 rfl) ?_
        refine lv_iload_n hx hb dX5_cut_29 rfl (lv_at hl 1 rfl) ?_
        refine lv_iload_n hx hb dX5_cut_30 rfl (lv_at hl 2 rfl) ?_
        obtain ⟨q31, hq31, hs⟩ := obind_e hs
        refine end_i (run_V (q := (RX5, TX5, 21)) (ci := 5) hF hKK hW hS hl.1 k0 (by decide) rfl (c_X5_isTied l hOK k0 hq31) (kw_X5_126 hF.2.2.2.2 ⟨Nat.le_of_ble_eq_true rfl, Nat.le_of_ble_eq_true rfl⟩) rfl rfl (Nat.le_of_ble_eq_true rfl) dX5_cut_31 ⟨Nat.zero_le _, Nat.zero_le _⟩) hS (fun H locs hW hS => ?_)
        refine lv_if_ne (tgt := 41) hx hb dX5_cut_34 (by decide) (fun c32 => ?_) (fun c32 => ?_)
        · have hs := ite_f hs c32
          refine lv_iconst (v := (0 : Int32)) hx hb dX5_cut_41 (by decide) ?_
          refine lv_iconst (v := (4 : Int32)) hx hb dX5_cut_42 (by decide) ?_
          refine lv_iload_n hx hb dX5_cut_43 rfl (lv_at hl 1 rfl) ?_
          obtain ⟨q33, hq33, hs⟩ := obind_e hs
          refine end_i (run_V (q := (RX5, TX5, 21)) (ci := 5) hF hKK hW hS hl.1 k0 (by decide) rfl (c_X5_refuse l hOK k0 hq33) (kw_X5_80 hF.2.2.2.2 ⟨Nat.le_of_ble_eq_true rfl, Nat.le_of_ble_eq_true rfl⟩) rfl rfl (Nat.le_of_ble_eq_true rfl) dX5_cut_44 ⟨Nat.zero_le _, Nat.zero_le _⟩) hS (fun H locs hW hS => ?_)
          refine lv_if_eq (tgt := 53) hx hb dX5_cut_47 (by decide) (fun c34 => ?_) (fun c34 => ?_)
          · have hs := ite_t hs c34
            refine lv_aload_n hx hb dX5_cut_53 rfl (lv_at hl 0 rfl) ?_
            obtain ⟨q35, hq35, hs⟩ := obind_e hs
            refine end_v (run_V (q := (RX5, TX5, 21)) (ci := 5) hF hKK hW hS hl.1 k0 (by decide) rfl (c_X5_change l hOK k0 hq35) (kw_X5_84 hF.2.2.2.2 ⟨Nat.le_of_ble_eq_true rfl, Nat.le_of_ble_eq_true rfl⟩) rfl rfl (Nat.le_of_ble_eq_true rfl) dX5_cut_54 ⟨Nat.zero_le _, Nat.zero_le _⟩) hS (fun H locs hW hS => ?_)
            refine lv_aload_n hx hb dX5_cut_57 rfl (lv_at hl 0 rfl) ?_
            refine lv_iload_n hx hb dX5_cut_58 rfl (lv_at hl 1 rfl) ?_
            refine lv_iload_n hx hb dX5_cut_59 rfl (lv_at hl 2 rfl) ?_
            obtain ⟨q36, hq36, hs⟩ := obind_e hs
            refine end_i (run_V (q := (RX5, TX5, 21)) (ci := 5) hF hKK hW hS hl.1 k0 (by decide) rfl (c_X5_lower l hOK k0 hq36) (kw_X5_129 hF.2.2.2.2 ⟨Nat.le_of_ble_eq_true rfl, Nat.le_of_ble_eq_true rfl⟩) rfl rfl (Nat.le_of_ble_eq_true rfl) dX5_cut_60 ⟨Nat.zero_le _, Nat.zero_le _⟩) hS (fun H locs hW hS => ?_)
            refine lv_istore_n (lv' := [(3, .int q36), (0, .ref a0), (1, .int a1), (2, .int a2)]) hx hb dX5_cut_63 rfl hl (by decide) rfl (fun ls hl => ?_)
            refine lv_aload_n hx hb dX5_cut_64 rfl (lv_at hl 1 rfl) ?_
            refine lv_iload_n hx hb dX5_cut_65 rfl (lv_at hl 0 rfl) ?_
            obtain ⟨q37, hq37, hs⟩ := obind_e hs
            refine end_i (run_V (q := (RX5, TX5, 21)) (ci := 5) hF hKK hW hS hl.1 k0 (by decide) rfl (c_X5_roundOf l hOK k0 hq37) (kw_X5_77 hF.2.2.2.2 ⟨Nat.le_of_ble_eq_true rfl, Nat.le_of_ble_eq_true rfl⟩) rfl rfl (Nat.le_of_ble_eq_true rfl) dX5_cut_66 ⟨Nat.zero_le _, Nat.zero_le _⟩) hS (fun H locs hW hS => ?_)
            refine lv_istore (lv' := [(4, .int q37), (3, .int q36), (0, .ref a0), (1, .int a1), (2, .int a2)]) hx hb dX5_cut_69 hl (by decide) rfl (fun ls hl => ?_)
            refine lv_aload_n hx hb dX5_cut_71 rfl (lv_at hl 2 rfl) ?_
            refine lv_iload_n hx hb dX5_cut_72 rfl (lv_at hl 1 rfl) ?_
            obtain ⟨q38, hq38, hs⟩ := obind_e hs
            refine end_i (run_V (q := (RX5, TX5, 21)) (ci := 5) hF hKK hW hS hl.1 k0 (by decide) rfl (c_X5_first l hOK k0 hq38) (kw_X5_123 hF.2.2.2.2 ⟨Nat.le_of_ble_eq_true rfl, Nat.le_of_ble_eq_true rfl⟩) rfl rfl (Nat.le_of_ble_eq_true rfl) dX5_cut_73 ⟨Nat.zero_le _, Nat.zero_le _⟩) hS (fun H locs hW hS => ?_)
            refine lv_istore (lv' := [(5, .int q38), (4, .int q37), (3, .int q36), (0, .ref a0), (1, .int a1), (2, .int a2)]) hx hb dX5_cut_76 hl (by decide) rfl (fun ls hl => ?_)
            refine lv_aload_n hx hb dX5_cut_78 rfl (lv_at hl 3 rfl) ?_
            refine lv_iload_n hx hb dX5_cut_79 rfl (lv_at hl 2 rfl) ?_
            obtain ⟨q39, hq39, hs⟩ := obind_e hs
            refine end_i (run_V (q := (RX5, TX5, 21)) (ci := 5) hF hKK hW hS hl.1 k0 (by decide) rfl (c_X5_last l hOK k0 hq39) (kw_X5_132 hF.2.2.2.2 ⟨Nat.le_of_ble_eq_true rfl, Nat.le_of_ble_eq_true rfl⟩) rfl rfl (Nat.le_of_ble_eq_true rfl) dX5_cut_80 ⟨Nat.zero_le _, Nat.zero_le _⟩) hS (fun H locs hW hS => ?_)
            refine lv_istore (lv' := [(6, .int q39), (5, .int q38), (4, .int q37), (3, .int q36), (0, .ref a0), (1, .int a1), (2, .int a2)]) hx hb dX5_cut_83 hl (by decide) rfl (fun ls hl => ?_)
            refine lv_aload_n hx hb dX5_cut_85 rfl (lv_at hl 4 rfl) ?_
            obtain ⟨q40, hq40, hs⟩ := obind_e hs
            refine end_i (run_V (q := (RX5, TX5, 21)) (ci := 5) hF hKK hW hS hl.1 k0 (by decide) rfl (c_X5_emptyRound l hOK k0 hq40) (kw_X5_87 hF.2.2.2.2 ⟨Nat.le_of_ble_eq_true rfl, Nat.le_of_ble_eq_true rfl⟩) rfl rfl (Nat.le_of_ble_eq_true rfl) dX5_cut_86 ⟨Nat.zero_le _, Nat.zero_le _⟩) hS (fun H locs hW hS => ?_)
            refine lv_istore (lv' := [(7, .int q40), (6, .int q39), (5, .int q38), (4, .int q37), (3, .int q36), (0, .ref a0), (1, .int a1), (2, .int a2)]) hx hb dX5_cut_89 hl (by decide) rfl (fun ls hl => ?_)
            refine lv_iload hx hb dX5_cut_91 (lv_at hl 2 rfl) ?_
            refine lv_istore (lv' := [(8, .int q38), (7, .int q40), (6, .int q39), (5, .int q38), (4, .int q37), (3, .int q36), (0, .ref a0), (1, .int a1), (2, .int a2)]) hx hb dX5_cut_93 hl (by decide) rfl (fun ls hl => ?_)
            exact cl_X5_cut_95 hOK hF hKK hr hlocks k0 fuel q35 q38 _ _ _ hs hW hS (lv_sub hl [6, 5, 4, 3, 2, 1, 0] rfl)
          · have hs := ite_f hs c34
            refine lv_bipush (v := (-3 : Int32)) hx hb dX5_cut_50 (by decide) ?_
            have h9 := Option.some.inj hs
            rw [← h9]
            exact wr_i hF hr hlocks (vp_nar_int _) hW hS dX5_cut_52
        · have hs := ite_t hs c32
          refine lv_iconst (v := (1 : Int32)) hx hb dX5_cut_37 (by decide) ?_
          refine lv_goto (tgt := 42) hx hb dX5_cut_38 (by decide) ?_
          refine lv_iconst (v := (4 : Int32)) hx hb dX5_cut_42 (by decide) ?_
          refine lv_iload_n hx hb dX5_cut_43 rfl (lv_at hl 1 rfl) ?_
          obtain ⟨q41, hq41, hs⟩ := obind_e hs
          refine end_i (run_V (q := (RX5, TX5, 21)) (ci := 5) hF hKK hW hS hl.1 k0 (by decide) rfl (c_X5_refuse l hOK k0 hq41) (kw_X5_80 hF.2.2.2.2 ⟨Nat.le_of_ble_eq_true rfl, Nat.le_of_ble_eq_true rfl⟩) rfl rfl (Nat.le_of_ble_eq_true rfl) dX5_cut_44 ⟨Nat.zero_le _, Nat.zero_le _⟩) hS (fun H locs hW hS => ?_)
          refine lv_if_eq (tgt := 53) hx hb dX5_cut_47 (by decide) (fun c42 => ?_) (fun c42 => ?_)
          · have hs := ite_t hs c42
            refine lv_aload_n hx hb dX5_cut_53 rfl (lv_at hl 0 rfl) ?_
            obtain ⟨q43, hq43, hs⟩ := obind_e hs
            refine end_v (run_V (q := (RX5, TX5, 21)) (ci := 5) hF hKK hW hS hl.1 k0 (by decide) rfl (c_X5_change l hOK k0 hq43) (kw_X5_84 hF.2.2.2.2 ⟨Nat.le_of_ble_eq_true rfl, Nat.le_of_ble_eq_true rfl⟩) rfl rfl (Nat.le_of_ble_eq_true rfl) dX5_cut_54 ⟨Nat.zero_le _, Nat.zero_le _⟩) hS (fun H locs hW hS => ?_)
            refine lv_aload_n hx hb dX5_cut_57 rfl (lv_at hl 0 rfl) ?_
            refine lv_iload_n hx hb dX5_cut_58 rfl (lv_at hl 1 rfl) ?_
            refine lv_iload_n hx hb dX5_cut_59 rfl (lv_at hl 2 rfl) ?_
            obtain ⟨q44, hq44, hs⟩ := obind_e hs
            refine end_i (run_V (q := (RX5, TX5, 21)) (ci := 5) hF hKK hW hS hl.1 k0 (by decide) rfl (c_X5_lower l hOK k0 hq44) (kw_X5_129 hF.2.2.2.2 ⟨Nat.le_of_ble_eq_true rfl, Nat.le_of_ble_eq_true rfl⟩) rfl rfl (Nat.le_of_ble_eq_true rfl) dX5_cut_60 ⟨Nat.zero_le _, Nat.zero_le _⟩) hS (fun H locs hW hS => ?_)
            refine lv_istore_n (lv' := [(3, .int q44), (0, .ref a0), (1, .int a1), (2, .int a2)]) hx hb dX5_cut_63 rfl hl (by decide) rfl (fun ls hl => ?_)
            refine lv_aload_n hx hb dX5_cut_64 rfl (lv_at hl 1 rfl) ?_
            refine lv_iload_n hx hb dX5_cut_65 rfl (lv_at hl 0 rfl) ?_
            obtain ⟨q45, hq45, hs⟩ := obind_e hs
            refine end_i (run_V (q := (RX5, TX5, 21)) (ci := 5) hF hKK hW hS hl.1 k0 (by decide) rfl (c_X5_roundOf l hOK k0 hq45) (kw_X5_77 hF.2.2.2.2 ⟨Nat.le_of_ble_eq_true rfl, Nat.le_of_ble_eq_true rfl⟩) rfl rfl (Nat.le_of_ble_eq_true rfl) dX5_cut_66 ⟨Nat.zero_le _, Nat.zero_le _⟩) hS (fun H locs hW hS => ?_)
            refine lv_istore (lv' := [(4, .int q45), (3, .int q44), (0, .ref a0), (1, .int a1), (2, .int a2)]) hx hb dX5_cut_69 hl (by decide) rfl (fun ls hl => ?_)
            refine lv_aload_n hx hb dX5_cut_71 rfl (lv_at hl 2 rfl) ?_
            refine lv_iload_n hx hb dX5_cut_72 rfl (lv_at hl 1 rfl) ?_
            obtain ⟨q46, hq46, hs⟩ := obind_e hs
            refine end_i (run_V (q := (RX5, TX5, 21)) (ci := 5) hF hKK hW hS hl.1 k0 (by decide) rfl (c_X5_first l hOK k0 hq46) (kw_X5_123 hF.2.2.2.2 ⟨Nat.le_of_ble_eq_true rfl, Nat.le_of_ble_eq_true rfl⟩) rfl rfl (Nat.le_of_ble_eq_true rfl) dX5_cut_73 ⟨Nat.zero_le _, Nat.zero_le _⟩) hS (fun H locs hW hS => ?_)
            refine lv_istore (lv' := [(5, .int q46), (4, .int q45), (3, .int q44), (0, .ref a0), (1, .int a1), (2, .int a2)]) hx hb dX5_cut_76 hl (by decide) rfl (fun ls hl => ?_)
            refine lv_aload_n hx hb dX5_cut_78 rfl (lv_at hl 3 rfl) ?_
            refine lv_iload_n hx hb dX5_cut_79 rfl (lv_at hl 2 rfl) ?_
            obtain ⟨q47, hq47, hs⟩ := obind_e hs
            refine end_i (run_V (q := (RX5, TX5, 21)) (ci := 5) hF hKK hW hS hl.1 k0 (by decide) rfl (c_X5_last l hOK k0 hq47) (kw_X5_132 hF.2.2.2.2 ⟨Nat.le_of_ble_eq_true rfl, Nat.le_of_ble_eq_true rfl⟩) rfl rfl (Nat.le_of_ble_eq_true rfl) dX5_cut_80 ⟨Nat.zero_le _, Nat.zero_le _⟩) hS (fun H locs hW hS => ?_)
            refine lv_istore (lv' := [(6, .int q47), (5, .int q46), (4, .int q45), (3, .int q44), (0, .ref a0), (1, .int a1), (2, .int a2)]) hx hb dX5_cut_83 hl (by decide) rfl (fun ls hl => ?_)
            refine lv_aload_n hx hb dX5_cut_85 rfl (lv_at hl 4 rfl) ?_
            obtain ⟨q48, hq48, hs⟩ := obind_e hs
            refine end_i (run_V (q := (RX5, TX5, 21)) (ci := 5) hF hKK hW hS hl.1 k0 (by decide) rfl (c_X5_emptyRound l hOK k0 hq48) (kw_X5_87 hF.2.2.2.2 ⟨Nat.le_of_ble_eq_true rfl, Nat.le_of_ble_eq_true rfl⟩) rfl rfl (Nat.le_of_ble_eq_true rfl) dX5_cut_86 ⟨Nat.zero_le _, Nat.zero_le _⟩) hS (fun H locs hW hS => ?_)
            refine lv_istore (lv' := [(7, .int q48), (6, .int q47), (5, .int q46), (4, .int q45), (3, .int q44), (0, .ref a0), (1, .int a1), (2, .int a2)]) hx hb dX5_cut_89 hl (by decide) rfl (fun ls hl => ?_)
            refine lv_iload hx hb dX5_cut_91 (lv_at hl 2 rfl) ?_
            refine lv_istore (lv' := [(8, .int q46), (7, .int q48), (6, .int q47), (5, .int q46), (4, .int q45), (3, .int q44), (0, .ref a0), (1, .int a1), (2, .int a2)]) hx hb dX5_cut_93 hl (by decide) rfl (fun ls hl => ?_)
            exact cl_X5_cut_95 hOK hF hKK hr hlocks k0 fuel q43 q46 _ _ _ hs hW hS (lv_sub hl [6, 5, 4, 3, 2, 1, 0] rfl)
          · have hs := ite_f hs c42
            refine lv_bipush (v := (-3 : Int32)) hx hb dX5_cut_50 (by decide) ?_
            have h9 := Option.some.inj hs
            rw [← h9]
            exact wr_i hF hr hlocks (vp_nar_int _) hW hS dX5_cut_52
    · have hs := ite_t hs c4
      refine lv_iconst (v := (-1 : Int32)) hx hb dX5_cut_16 (by decide) ?_
      have h9 := Option.some.inj hs
      rw [← h9]
      exact wr_i hF hr hlocks (vp_nar_int _) hW hS dX5_cut_17

set_option maxHeartbeats 4000000 in
set_option maxRecDepth 100000 in
theorem cl_X5_turnTo_87 {p : Program} {l : Launch} {e : Env} {s : State} {m : MethodId} {args : Array Value} {below : List Frame} {meth : Method} {c : Code} {G : va_G} {Λ : Lay} {r : Mem} (hOK : LayOK Λ) (hF : CallFix p m c cX5_turnTo 6 s args tw RX5) (hKK : KK G Λ s) (hr : meth.sig.returnType = none) (hlocks : meth.locks = false) {x0 : Nat} (kx0 : inK Λ x0 5) {x2 : Int32} {x4 : Int32} : ∀ (n : Nat) (μ : Mem) (x5 : Int32) (H : Heap) (locs : List Loc) (ls : Array Slot), lpX5_turnTo_87 Λ x0 x2 x4 n μ x5 = some r → Wd G Λ μ H → va_S (inL Λ) s.heap H locs → lv_has ls 6 [(0, .ref x0), (2, .int x2), (4, .int x4), (5, .int x5)] → W p l e (rmd 3) s m args below meth c H locs 0 0 (MQ below (QV G Λ r) args s 0 0 (inL Λ)) (F0 m 87 ls []) := by
  have hx := hF.1
  have hb := hF.2.1
  have hA : ∀ q, inL Λ q → inL Λ q := fun _ h => h
  intro n
  induction n with
  | zero =>
    intro μ x5 H locs ls hs hW hS hl
    cases hs
  | succ n87 ih87 =>
    intro μ x5 H locs ls hs hW hS hl
    rw [lpX5_turnTo_87_s] at hs
    refine lv_iload hx hb dX5_turnTo_87 (lv_at hl 3 rfl) ?_
    refine lv_iload hx hb dX5_turnTo_89 (lv_at hl 2 rfl) ?_
    refine lv_icmp_ge (tgt := 114) hx hb dX5_turnTo_91 (by decide) (fun c6 => ?_) (fun c6 => ?_)
    · have hs := ite_t hs c6
      have h9 := Option.some.inj hs
      rw [← h9]
      exact wr_v hF hr hlocks hW hS dX5_turnTo_114
    · have hs := ite_f hs c6
      refine lv_aload_n hx hb dX5_turnTo_94 rfl (lv_at hl 0 rfl) ?_
      refine lv_iload_n hx hb dX5_turnTo_95 rfl (lv_at hl 1 rfl) ?_
      refine lv_iload hx hb dX5_turnTo_96 (lv_at hl 3 rfl) ?_
      refine lv_aload_n hx hb dX5_turnTo_98 rfl (lv_at hl 0 rfl) ?_
      refine gf_5_11 hF hKK hW kx0 dX5_turnTo_99 ?_
      refine lv_iload hx hb dX5_turnTo_102 (lv_at hl 3 rfl) ?_
      obtain ⟨g7, hs⟩ := gd_some hs
      refine ga_ld hF hKK hW (lk_5_11 hOK kx0) g7 dX5_turnTo_104 ?_
      obtain ⟨q8, hq8, hs⟩ := obind_e hs
      refine end_v (run_V (q := (RX5, TX5, 21)) (ci := 5) hF hKK hW hS hl.1 kx0 (by decide) rfl (c_X5_setPlace l hOK kx0 hq8) (kw_X5_95 hF.2.2.2.2 ⟨Nat.le_of_ble_eq_true rfl, Nat.le_of_ble_eq_true rfl⟩) rfl rfl (Nat.le_of_ble_eq_true rfl) dX5_turnTo_105 ⟨Nat.zero_le _, Nat.zero_le _⟩) hS (fun H locs hW hS => ?_)
      obtain ⟨v9, ev9, hs⟩ := bnd_e hs
      refine lv_iinc (v := v9) (lv' := [(5, .int v9), (0, .ref x0), (2, .int x2), (4, .int x4)]) hx hb dX5_turnTo_108 hl (k := 3) rfl (by rw [ev9]; rfl) (by decide) rfl (fun ls hl => ?_)
      refine lv_goto (tgt := 87) hx hb dX5_turnTo_111 (by decide) ?_
      exact ih87 q8 v9 _ _ _ hs hW hS (lv_sub hl [1, 2, 3, 0] rfl)

set_option maxHeartbeats 4000000 in
set_option maxRecDepth 100000 in
theorem cl_X5_turnTo_55 {p : Program} {l : Launch} {e : Env} {s : State} {m : MethodId} {args : Array Value} {below : List Frame} {meth : Method} {c : Code} {G : va_G} {Λ : Lay} {r : Mem} (hOK : LayOK Λ) (hF : CallFix p m c cX5_turnTo 6 s args tw RX5) (hKK : KK G Λ s) (hr : meth.sig.returnType = none) (hlocks : meth.locks = false) {x0 : Nat} (kx0 : inK Λ x0 5) {x2 : Int32} {x3 : Int32} : ∀ (n : Nat) (μ : Mem) (x4 : Int32) (x5 : Int32) (H : Heap) (locs : List Loc) (ls : Array Slot), lpX5_turnTo_55 Λ x0 x2 x3 n μ x4 x5 = some r → Wd G Λ μ H → va_S (inL Λ) s.heap H locs → lv_has ls 6 [(0, .ref x0), (2, .int x2), (3, .int x3), (4, .int x4), (5, .int x5)] → W p l e (rmd 3) s m args below meth c H locs 0 0 (MQ below (QV G Λ r) args s 0 0 (inL Λ)) (F0 m 55 ls []) := by
  have hx := hF.1
  have hb := hF.2.1
  have hA : ∀ q, inL Λ q → inL Λ q := fun _ h => h
  intro n
  induction n with
  | zero =>
    intro μ x4 x5 H locs ls hs hW hS hl
    cases hs
  | succ n55 ih55 =>
    intro μ x4 x5 H locs ls hs hW hS hl
    rw [lpX5_turnTo_55_s] at hs
    refine lv_iload hx hb dX5_turnTo_55 (lv_at hl 4 rfl) ?_
    refine lv_iload_n hx hb dX5_turnTo_57 rfl (lv_at hl 2 rfl) ?_
    refine lv_icmp_gt (tgt := 84) hx hb dX5_turnTo_58 (by decide) (fun c5 => ?_) (fun c5 => ?_)
    · have hs := ite_t hs c5
      refine lv_iconst (v := (0 : Int32)) hx hb dX5_turnTo_84 (by decide) ?_
      refine lv_istore (lv' := [(5, .int (0 : Int32)), (0, .ref x0), (2, .int x2), (3, .int x3), (4, .int x4)]) hx hb dX5_turnTo_85 hl (by decide) rfl (fun ls hl => ?_)
      exact cl_X5_turnTo_87 hOK hF hKK hr hlocks kx0 fuel μ (0 : Int32) _ _ _ hs hW hS (lv_sub hl [1, 2, 4, 0] rfl)
    · have hs := ite_f hs c5
      refine lv_aload_n hx hb dX5_turnTo_61 rfl (lv_at hl 0 rfl) ?_
      refine gf_5_11 hF hKK hW kx0 dX5_turnTo_62 ?_
      refine lv_iload hx hb dX5_turnTo_65 (lv_at hl 3 rfl) ?_
      refine lv_aload_n hx hb dX5_turnTo_67 rfl (lv_at hl 0 rfl) ?_
      refine lv_iload_n hx hb dX5_turnTo_68 rfl (lv_at hl 1 rfl) ?_
      refine lv_iload hx hb dX5_turnTo_69 (lv_at hl 4 rfl) ?_
      obtain ⟨q10, hq10, hs⟩ := obind_e hs
      refine end_i (run_V (q := (RX5, TX5, 21)) (ci := 5) hF hKK hW hS hl.1 kx0 (by decide) rfl (c_X5_place l hOK kx0 hq10) (kw_X5_70 hF.2.2.2.2 ⟨Nat.le_of_ble_eq_true rfl, Nat.le_of_ble_eq_true rfl⟩) rfl rfl (Nat.le_of_ble_eq_true rfl) dX5_turnTo_71 ⟨Nat.zero_le _, Nat.zero_le _⟩) hS (fun H locs hW hS => ?_)
      obtain ⟨g11, hs⟩ := gd_some hs
      obtain ⟨μ12, eμ12, hs⟩ := bnd_e hs
      refine ga_st hOK hF hKK hW hS hA (lk_5_11 hOK kx0) g11 eμ12 dX5_turnTo_74 (fun H locs hW hS => ?_)
      obtain ⟨v13, ev13, hs⟩ := bnd_e hs
      refine lv_iinc (v := v13) (lv' := [(4, .int v13), (0, .ref x0), (2, .int x2), (3, .int x3), (5, .int x5)]) hx hb dX5_turnTo_75 hl (k := 3) rfl (by rw [ev13]; rfl) (by decide) rfl (fun ls hl => ?_)
      obtain ⟨v14, ev14, hs⟩ := bnd_e hs
      refine lv_iinc (v := v14) (lv' := [(5, .int v14), (4, .int v13), (0, .ref x0), (2, .int x2), (3, .int x3)]) hx hb dX5_turnTo_78 hl (k := 4) rfl (by rw [ev14]; rfl) (by decide) rfl (fun ls hl => ?_)
      refine lv_goto (tgt := 55) hx hb dX5_turnTo_81 (by decide) ?_
      exact ih55 μ12 v13 v14 _ _ _ hs hW hS (lv_sub hl [2, 3, 4, 1, 0] rfl)

set_option maxHeartbeats 4000000 in
set_option maxRecDepth 100000 in
theorem cl_X5_turnTo_19 {p : Program} {l : Launch} {e : Env} {s : State} {m : MethodId} {args : Array Value} {below : List Frame} {meth : Method} {c : Code} {G : va_G} {Λ : Lay} {r : Mem} (hOK : LayOK Λ) (hF : CallFix p m c cX5_turnTo 6 s args tw RX5) (hKK : KK G Λ s) (hr : meth.sig.returnType = none) (hlocks : meth.locks = false) {x0 : Nat} (kx0 : inK Λ x0 5) {x2 : Int32} {x3 : Int32} : ∀ (n : Nat) (μ : Mem) (x4 : Int32) (x5 : Int32) (H : Heap) (locs : List Loc) (ls : Array Slot), lpX5_turnTo_19 Λ x0 x2 x3 n μ x4 x5 = some r → Wd G Λ μ H → va_S (inL Λ) s.heap H locs → lv_has ls 6 [(0, .ref x0), (2, .int x2), (3, .int x3), (4, .int x4), (5, .int x5)] → W p l e (rmd 3) s m args below meth c H locs 0 0 (MQ below (QV G Λ r) args s 0 0 (inL Λ)) (F0 m 19 ls []) := by
  have hx := hF.1
  have hb := hF.2.1
  have hA : ∀ q, inL Λ q → inL Λ q := fun _ h => h
  intro n
  induction n with
  | zero =>
    intro μ x4 x5 H locs ls hs hW hS hl
    cases hs
  | succ n19 ih19 =>
    intro μ x4 x5 H locs ls hs hW hS hl
    rw [lpX5_turnTo_19_s] at hs
    refine lv_iload hx hb dX5_turnTo_19 (lv_at hl 4 rfl) ?_
    refine lv_aload_n hx hb dX5_turnTo_21 rfl (lv_at hl 0 rfl) ?_
    refine lv_iload_n hx hb dX5_turnTo_22 rfl (lv_at hl 1 rfl) ?_
    obtain ⟨q3, hq3, hs⟩ := obind_e hs
    refine end_i (run_V (q := (RX5, TX5, 21)) (ci := 5) hF hKK hW hS hl.1 kx0 (by decide) rfl (c_X5_size l hOK kx0 hq3) (kw_X5_66 hF.2.2.2.2 ⟨Nat.le_of_ble_eq_true rfl, Nat.le_of_ble_eq_true rfl⟩) rfl rfl (Nat.le_of_ble_eq_true rfl) dX5_turnTo_23 ⟨Nat.zero_le _, Nat.zero_le _⟩) hS (fun H locs hW hS => ?_)
    refine lv_icmp_ge (tgt := 52) hx hb dX5_turnTo_26 (by decide) (fun c4 => ?_) (fun c4 => ?_)
    · have hs := ite_t hs c4
      refine lv_iconst (v := (1 : Int32)) hx hb dX5_turnTo_52 (by decide) ?_
      refine lv_istore (lv' := [(5, .int (1 : Int32)), (0, .ref x0), (2, .int x2), (3, .int x3), (4, .int x4)]) hx hb dX5_turnTo_53 hl (by decide) rfl (fun ls hl => ?_)
      exact cl_X5_turnTo_55 hOK hF hKK hr hlocks kx0 fuel μ x4 (1 : Int32) _ _ _ hs hW hS (lv_sub hl [1, 2, 3, 4, 0] rfl)
    · have hs := ite_f hs c4
      refine lv_aload_n hx hb dX5_turnTo_29 rfl (lv_at hl 0 rfl) ?_
      refine gf_5_11 hF hKK hW kx0 dX5_turnTo_30 ?_
      refine lv_iload hx hb dX5_turnTo_33 (lv_at hl 3 rfl) ?_
      refine lv_aload_n hx hb dX5_turnTo_35 rfl (lv_at hl 0 rfl) ?_
      refine lv_iload_n hx hb dX5_turnTo_36 rfl (lv_at hl 1 rfl) ?_
      refine lv_iload hx hb dX5_turnTo_37 (lv_at hl 4 rfl) ?_
      obtain ⟨q15, hq15, hs⟩ := obind_e hs
      refine end_i (run_V (q := (RX5, TX5, 21)) (ci := 5) hF hKK hW hS hl.1 kx0 (by decide) rfl (c_X5_place l hOK kx0 hq15) (kw_X5_70 hF.2.2.2.2 ⟨Nat.le_of_ble_eq_true rfl, Nat.le_of_ble_eq_true rfl⟩) rfl rfl (Nat.le_of_ble_eq_true rfl) dX5_turnTo_39 ⟨Nat.zero_le _, Nat.zero_le _⟩) hS (fun H locs hW hS => ?_)
      obtain ⟨g16, hs⟩ := gd_some hs
      obtain ⟨μ17, eμ17, hs⟩ := bnd_e hs
      refine ga_st hOK hF hKK hW hS hA (lk_5_11 hOK kx0) g16 eμ17 dX5_turnTo_42 (fun H locs hW hS => ?_)
      obtain ⟨v18, ev18, hs⟩ := bnd_e hs
      refine lv_iinc (v := v18) (lv' := [(4, .int v18), (0, .ref x0), (2, .int x2), (3, .int x3), (5, .int x5)]) hx hb dX5_turnTo_43 hl (k := 3) rfl (by rw [ev18]; rfl) (by decide) rfl (fun ls hl => ?_)
      obtain ⟨v19, ev19, hs⟩ := bnd_e hs
      refine lv_iinc (v := v19) (lv' := [(5, .int v19), (4, .int v18), (0, .ref x0), (2, .int x2), (3, .int x3)]) hx hb dX5_turnTo_46 hl (k := 4) rfl (by rw [ev19]; rfl) (by decide) rfl (fun ls hl => ?_)
      refine lv_goto (tgt := 19) hx hb dX5_turnTo_49 (by decide) ?_
      exact ih19 μ17 v18 v19 _ _ _ hs hW hS (lv_sub hl [2, 3, 4, 1, 0] rfl)

set_option maxHeartbeats 4000000 in
set_option maxRecDepth 100000 in
theorem c_X5_turnTo (l : Launch) {G : va_G} {Λ : Lay} {μ : Mem} (hOK : LayOK Λ) {a0 : Nat} (k0 : inK Λ a0 5) {a1 : Int32} {r : Mem} (hs : sX5_turnTo Λ μ a0 a1 = some r) : CM l G Λ yX5_turnTo cX5_turnTo 6 none 3 μ [.ref a0, .int a1] (QV G Λ r) := by
  refine ofM (own := RX5) (by decide +kernel) rfl (Nat.le_of_ble_eq_true rfl) (fun p e s m args below meth c ls hF hKK hW hr hlocks hl => ?_)
  have hx := hF.1
  have hb := hF.2.1
  have hA : ∀ q, inL Λ q → inL Λ q := fun _ h => h
  have hS : va_S (inL Λ) s.heap s.heap [] := va_S.rf
  have hl : lv_has ls 6 [(0, .ref a0), (1, .int a1)] := hl
  unfold sX5_turnTo at hs
  refine lv_aload_n hx hb dX5_turnTo_0 rfl (lv_at hl 0 rfl) ?_
  refine lv_iload_n hx hb dX5_turnTo_1 rfl (lv_at hl 1 rfl) ?_
  obtain ⟨q1, hq1, hs⟩ := obind_e hs
  refine end_i (run_V (q := (RX5, TX5, 21)) (ci := 5) hF hKK hW hS hl.1 k0 (by decide) rfl (c_X5_roundOf l hOK k0 hq1) (kw_X5_77 hF.2.2.2.2 ⟨Nat.le_of_ble_eq_true rfl, Nat.le_of_ble_eq_true rfl⟩) rfl rfl (Nat.le_of_ble_eq_true rfl) dX5_turnTo_2 ⟨Nat.zero_le _, Nat.zero_le _⟩) hS (fun H locs hW hS => ?_)
  refine lv_istore_n (lv' := [(2, .int q1), (0, .ref a0), (1, .int a1)]) hx hb dX5_turnTo_5 rfl hl (by decide) rfl (fun ls hl => ?_)
  refine lv_aload_n hx hb dX5_turnTo_6 rfl (lv_at hl 1 rfl) ?_
  refine lv_iload_n hx hb dX5_turnTo_7 rfl (lv_at hl 0 rfl) ?_
  refine lv_iload_n hx hb dX5_turnTo_8 rfl (lv_at hl 2 rfl) ?_
  obtain ⟨q2, hq2, hs⟩ := obind_e hs
  refine end_i (run_V (q := (RX5, TX5, 21)) (ci := 5) hF hKK hW hS hl.1 k0 (by decide) rfl (c_X5_firstIn l hOK k0 hq2) (kw_X5_74 hF.2.2.2.2 ⟨Nat.le_of_ble_eq_true rfl, Nat.le_of_ble_eq_true rfl⟩) rfl rfl (Nat.le_of_ble_eq_true rfl) dX5_turnTo_9 ⟨Nat.zero_le _, Nat.zero_le _⟩) hS (fun H locs hW hS => ?_)
  refine lv_istore_n (lv' := [(3, .int q2), (2, .int q1), (0, .ref a0), (1, .int a1)]) hx hb dX5_turnTo_12 rfl hl (by decide) rfl (fun ls hl => ?_)
  refine lv_iconst (v := (0 : Int32)) hx hb dX5_turnTo_13 (by decide) ?_
  refine lv_istore (lv' := [(4, .int (0 : Int32)), (3, .int q2), (2, .int q1), (0, .ref a0), (1, .int a1)]) hx hb dX5_turnTo_14 hl (by decide) rfl (fun ls hl => ?_)
  refine lv_iload_n hx hb dX5_turnTo_16 rfl (lv_at hl 1 rfl) ?_
  refine lv_istore (lv' := [(5, .int q2), (4, .int (0 : Int32)), (3, .int q2), (2, .int q1), (0, .ref a0), (1, .int a1)]) hx hb dX5_turnTo_17 hl (by decide) rfl (fun ls hl => ?_)
  exact cl_X5_turnTo_19 hOK hF hKK hr hlocks k0 fuel μ (0 : Int32) q2 _ _ _ hs hW hS (lv_sub hl [4, 3, 2, 1, 0] rfl)
