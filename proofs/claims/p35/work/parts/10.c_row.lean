/-! printed by wip/gen35/build.py out of the decode rows: do not edit by hand -/
set_option maxHeartbeats 4000000 in
set_option maxRecDepth 100000 in
theorem c_X2_add (l : Launch) {G : va_G} {Λ : Lay} {μ : Mem} (hOK : LayOK Λ) {a0 : Nat} (k0 : inK Λ a0 2) {a1 : Int32} {r : Mem} (hs : sX2_add Λ μ a0 a1 = some r) : CM l G Λ yX2_add cX2_add 2 none 0 μ [.ref a0, .int a1] (QV G Λ r) := by
  refine ofM (own := RX2) (by decide +kernel) rfl (Nat.le_of_ble_eq_true rfl) (fun p e s m args below meth c ls hF hKK hW hr hlocks hl => ?_)
  have hx := hF.1
  have hb := hF.2.1
  have hA : ∀ q, inL Λ q → inL Λ q := fun _ h => h
  have hS : va_S (inL Λ) s.heap s.heap [] := va_S.rf
  have hl : lv_has ls 2 [(0, .ref a0), (1, .int a1)] := hl
  unfold sX2_add at hs
  refine lv_aload_n hx hb dX2_add_0 rfl (lv_at hl 0 rfl) ?_
  refine gf_2_1 hF hKK hW k0 dX2_add_1 ?_
  refine lv_if_lt (tgt := 39) hx hb dX2_add_4 (by decide) (fun c1 => ?_) (fun c1 => ?_)
  · have hs := ite_t hs c1
    have h9 := Option.some.inj hs
    rw [← h9]
    exact wr_v hF hr hlocks hW hS dX2_add_39
  · have hs := ite_f hs c1
    refine lv_aload_n hx hb dX2_add_7 rfl (lv_at hl 0 rfl) ?_
    refine gf_2_1 hF hKK hW k0 dX2_add_8 ?_
    refine lv_aload_n hx hb dX2_add_11 rfl (lv_at hl 0 rfl) ?_
    refine gf_2_0 hF hKK hW k0 dX2_add_12 ?_
    refine ga_len6 hF hKK hW (lk_2_0 hOK k0) dX2_add_15 ?_
    refine lv_icmp_ge (tgt := 39) hx hb dX2_add_16 (by decide) (fun c2 => ?_) (fun c2 => ?_)
    · have hs := ite_t hs c2
      have h9 := Option.some.inj hs
      rw [← h9]
      exact wr_v hF hr hlocks hW hS dX2_add_39
    · have hs := ite_f hs c2
      refine lv_aload_n hx hb dX2_add_19 rfl (lv_at hl 0 rfl) ?_
      refine gf_2_0 hF hKK hW k0 dX2_add_20 ?_
      refine lv_aload_n hx hb dX2_add_23 rfl (lv_at hl 0 rfl) ?_
      refine gf_2_1 hF hKK hW k0 dX2_add_24 ?_
      refine lv_iload_n hx hb dX2_add_27 rfl (lv_at hl 1 rfl) ?_
      obtain ⟨g3, hs⟩ := gd_some hs
      obtain ⟨μ4, eμ4, hs⟩ := bnd_e hs
      refine ga_st hOK hF hKK hW hS hA (lk_2_0 hOK k0) g3 eμ4 dX2_add_28 (fun H locs hW hS => ?_)
      refine lv_aload_n hx hb dX2_add_29 rfl (lv_at hl 0 rfl) ?_
      refine lv_dup hx hb dX2_add_30 rfl ?_
      refine gf_2_1 hF hKK hW k0 dX2_add_31 ?_
      refine lv_iconst (v := (1 : Int32)) hx hb dX2_add_34 (by decide) ?_
      refine lv_iadd hx hb dX2_add_35 ?_
      obtain ⟨μ5, eμ5, hs⟩ := bnd_e hs
      refine pf_2_1 hOK hF hKK hW hS hA k0 eμ5 dX2_add_36 (fun H locs hW hS => ?_)
      have h9 := Option.some.inj hs
      rw [← h9]
      exact wr_v hF hr hlocks hW hS dX2_add_39

set_option maxHeartbeats 4000000 in
set_option maxRecDepth 100000 in
theorem c_X2_get (l : Launch) {G : va_G} {Λ : Lay} {μ : Mem} (hOK : LayOK Λ) {a0 : Nat} (k0 : inK Λ a0 2) {a1 : Int32} {r : Int32} (hs : sX2_get Λ μ a0 a1 = some r) : CM l G Λ yX2_get cX2_get 2 (some .int) 0 μ [.ref a0, .int a1] (QI G Λ r μ) := by
  refine ofM (own := RX2) (by decide +kernel) rfl (Nat.le_of_ble_eq_true rfl) (fun p e s m args below meth c ls hF hKK hW hr hlocks hl => ?_)
  have hx := hF.1
  have hb := hF.2.1
  have hA : ∀ q, inL Λ q → inL Λ q := fun _ h => h
  have hS : va_S (inL Λ) s.heap s.heap [] := va_S.rf
  have hl : lv_has ls 2 [(0, .ref a0), (1, .int a1)] := hl
  unfold sX2_get at hs
  refine lv_iload_n hx hb dX2_get_0 rfl (lv_at hl 1 rfl) ?_
  refine lv_if_lt (tgt := 21) hx hb dX2_get_1 (by decide) (fun c1 => ?_) (fun c1 => ?_)
  · have hs := ite_t hs c1
    refine lv_iconst (v := (-1 : Int32)) hx hb dX2_get_21 (by decide) ?_
    refine lv_goto (tgt := 31) hx hb dX2_get_22 (by decide) ?_
    have h9 := Option.some.inj hs
    rw [← h9]
    exact wr_i hF hr hlocks (vp_nar_int _) hW hS dX2_get_31
  · have hs := ite_f hs c1
    refine lv_iload_n hx hb dX2_get_4 rfl (lv_at hl 1 rfl) ?_
    refine lv_aload_n hx hb dX2_get_5 rfl (lv_at hl 0 rfl) ?_
    refine gf_2_1 hF hKK hW k0 dX2_get_6 ?_
    refine lv_icmp_ge (tgt := 21) hx hb dX2_get_9 (by decide) (fun c2 => ?_) (fun c2 => ?_)
    · have hs := ite_t hs c2
      refine lv_iconst (v := (-1 : Int32)) hx hb dX2_get_21 (by decide) ?_
      refine lv_goto (tgt := 31) hx hb dX2_get_22 (by decide) ?_
      have h9 := Option.some.inj hs
      rw [← h9]
      exact wr_i hF hr hlocks (vp_nar_int _) hW hS dX2_get_31
    · have hs := ite_f hs c2
      refine lv_iload_n hx hb dX2_get_12 rfl (lv_at hl 1 rfl) ?_
      refine lv_aload_n hx hb dX2_get_13 rfl (lv_at hl 0 rfl) ?_
      refine gf_2_0 hF hKK hW k0 dX2_get_14 ?_
      refine ga_len6 hF hKK hW (lk_2_0 hOK k0) dX2_get_17 ?_
      refine lv_icmp_lt (tgt := 25) hx hb dX2_get_18 (by decide) (fun c3 => ?_) (fun c3 => ?_)
      · have hs := ite_t hs c3
        refine lv_aload_n hx hb dX2_get_25 rfl (lv_at hl 0 rfl) ?_
        refine gf_2_0 hF hKK hW k0 dX2_get_26 ?_
        refine lv_iload_n hx hb dX2_get_29 rfl (lv_at hl 1 rfl) ?_
        obtain ⟨g4, hs⟩ := gd_some hs
        refine ga_ld hF hKK hW (lk_2_0 hOK k0) g4 dX2_get_30 ?_
        have h9 := Option.some.inj hs
        rw [← h9]
        exact wr_i hF hr hlocks (vp_nar_int _) hW hS dX2_get_31
      · have hs := ite_f hs c3
        refine lv_iconst (v := (-1 : Int32)) hx hb dX2_get_21 (by decide) ?_
        refine lv_goto (tgt := 31) hx hb dX2_get_22 (by decide) ?_
        have h9 := Option.some.inj hs
        rw [← h9]
        exact wr_i hF hr hlocks (vp_nar_int _) hW hS dX2_get_31

set_option maxHeartbeats 4000000 in
set_option maxRecDepth 100000 in
theorem cl_X2_copyFrom_12 {p : Program} {l : Launch} {e : Env} {s : State} {m : MethodId} {args : Array Value} {below : List Frame} {meth : Method} {c : Code} {G : va_G} {Λ : Lay} {r : Mem} (hOK : LayOK Λ) (hF : CallFix p m c cX2_copyFrom 3 s args tw RX2) (hKK : KK G Λ s) (hr : meth.sig.returnType = none) (hlocks : meth.locks = false) {x0 : Nat} (kx0 : inK Λ x0 2) {x1 : Nat} (kx1 : inK Λ x1 2) : ∀ (n : Nat) (μ : Mem) (x2 : Int32) (H : Heap) (locs : List Loc) (ls : Array Slot), lpX2_copyFrom_12 Λ x0 x1 n μ x2 = some r → Wd G Λ μ H → va_S (inL Λ) s.heap H locs → lv_has ls 3 [(0, .ref x0), (1, .ref x1), (2, .int x2)] → W p l e (rmd 1) s m args below meth c H locs 0 0 (MQ below (QV G Λ r) args s 0 0 (inL Λ)) (F0 m 12 ls []) := by
  have hx := hF.1
  have hb := hF.2.1
  have hA : ∀ q, inL Λ q → inL Λ q := fun _ h => h
  intro n
  induction n with
  | zero =>
    intro μ x2 H locs ls hs hW hS hl
    cases hs
  | succ n12 ih12 =>
    intro μ x2 H locs ls hs hW hS hl
    rw [lpX2_copyFrom_12_s] at hs
    refine lv_iload_n hx hb dX2_copyFrom_12 rfl (lv_at hl 2 rfl) ?_
    refine lv_aload_n hx hb dX2_copyFrom_13 rfl (lv_at hl 1 rfl) ?_
    refine gf_2_1 hF hKK hW kx1 dX2_copyFrom_14 ?_
    refine lv_icmp_ge (tgt := 35) hx hb dX2_copyFrom_17 (by decide) (fun c2 => ?_) (fun c2 => ?_)
    · have hs := ite_t hs c2
      have h9 := Option.some.inj hs
      rw [← h9]
      exact wr_v hF hr hlocks hW hS dX2_copyFrom_35
    · have hs := ite_f hs c2
      refine lv_aload_n hx hb dX2_copyFrom_20 rfl (lv_at hl 0 rfl) ?_
      refine lv_aload_n hx hb dX2_copyFrom_21 rfl (lv_at hl 1 rfl) ?_
      refine lv_iload_n hx hb dX2_copyFrom_22 rfl (lv_at hl 2 rfl) ?_
      obtain ⟨q3, hq3, hs⟩ := obind_e hs
      refine end_i (run_V (q := (RX2, TX2, 2)) (ci := 2) hF hKK hW hS hl.1 kx1 (by decide) rfl (c_X2_get l hOK kx1 hq3) (kw_X2_23 hF.2.2.2.2 ⟨Nat.le_of_ble_eq_true rfl, Nat.le_of_ble_eq_true rfl⟩) rfl rfl (Nat.le_of_ble_eq_true rfl) dX2_copyFrom_23 ⟨Nat.zero_le _, Nat.zero_le _⟩) hS (fun H locs hW hS => ?_)
      obtain ⟨q4, hq4, hs⟩ := obind_e hs
      refine end_v (run_V (q := (RX2, TX2, 2)) (ci := 2) hF hKK hW hS hl.1 kx0 (by decide) rfl (c_X2_add l hOK kx0 hq4) (kw_X2_19 hF.2.2.2.2 ⟨Nat.le_of_ble_eq_true rfl, Nat.le_of_ble_eq_true rfl⟩) rfl rfl (Nat.le_of_ble_eq_true rfl) dX2_copyFrom_26 ⟨Nat.zero_le _, Nat.zero_le _⟩) hS (fun H locs hW hS => ?_)
      obtain ⟨v5, ev5, hs⟩ := bnd_e hs
      refine lv_iinc (v := v5) (lv' := [(2, .int v5), (0, .ref x0), (1, .ref x1)]) hx hb dX2_copyFrom_29 hl (k := 2) rfl (by rw [ev5]; rfl) (by decide) rfl (fun ls hl => ?_)
      refine lv_goto (tgt := 12) hx hb dX2_copyFrom_32 (by decide) ?_
      exact ih12 q4 v5 _ _ _ hs hW hS (lv_sub hl [1, 2, 0] rfl)

set_option maxHeartbeats 4000000 in
set_option maxRecDepth 100000 in
theorem c_X2_copyFrom (l : Launch) {G : va_G} {Λ : Lay} {μ : Mem} (hOK : LayOK Λ) {a0 : Nat} (k0 : inK Λ a0 2) {a1 : Nat} (k1 : inK Λ a1 2) {r : Mem} (hs : sX2_copyFrom Λ μ a0 a1 = some r) : CM l G Λ yX2_copyFrom cX2_copyFrom 3 none 1 μ [.ref a0, .ref a1] (QV G Λ r) := by
  refine ofM (own := RX2) (by decide +kernel) rfl (Nat.le_of_ble_eq_true rfl) (fun p e s m args below meth c ls hF hKK hW hr hlocks hl => ?_)
  have hx := hF.1
  have hb := hF.2.1
  have hA : ∀ q, inL Λ q → inL Λ q := fun _ h => h
  have hS : va_S (inL Λ) s.heap s.heap [] := va_S.rf
  have hl : lv_has ls 3 [(0, .ref a0), (1, .ref a1)] := hl
  unfold sX2_copyFrom at hs
  refine lv_aload_n hx hb dX2_copyFrom_0 rfl (lv_at hl 1 rfl) ?_
  refine lv_ifnonnull (tgt := 5) hx hb dX2_copyFrom_1 (by decide) ?_
  refine lv_aload_n hx hb dX2_copyFrom_5 rfl (lv_at hl 0 rfl) ?_
  refine lv_iconst (v := (0 : Int32)) hx hb dX2_copyFrom_6 (by decide) ?_
  obtain ⟨μ1, eμ1, hs⟩ := bnd_e hs
  refine pf_2_1 hOK hF hKK hW hS hA k0 eμ1 dX2_copyFrom_7 (fun H locs hW hS => ?_)
  refine lv_iconst (v := (0 : Int32)) hx hb dX2_copyFrom_10 (by decide) ?_
  refine lv_istore_n (lv' := [(2, .int (0 : Int32)), (0, .ref a0), (1, .ref a1)]) hx hb dX2_copyFrom_11 rfl hl (by decide) rfl (fun ls hl => ?_)
  exact cl_X2_copyFrom_12 hOK hF hKK hr hlocks k0 k1 fuel μ1 (0 : Int32) _ _ _ hs hW hS (lv_sub hl [1, 2, 0] rfl)

set_option maxHeartbeats 4000000 in
set_option maxRecDepth 100000 in
theorem cl_X2_firstOf_2 {p : Program} {l : Launch} {e : Env} {s : State} {m : MethodId} {args : Array Value} {below : List Frame} {meth : Method} {c : Code} {G : va_G} {Λ : Lay} {μ : Mem} {r : Int32} (hOK : LayOK Λ) (hF : CallFix p m c cX2_firstOf 3 s args tw RX2) (hKK : KK G Λ s) (hr : meth.sig.returnType = (some .int)) (hlocks : meth.locks = false) {x0 : Nat} (kx0 : inK Λ x0 2) {x1 : Int32} : ∀ (n : Nat) (x2 : Int32) (H : Heap) (locs : List Loc) (ls : Array Slot), lpX2_firstOf_2 Λ μ x0 x1 n x2 = some r → Wd G Λ μ H → va_S (inL Λ) s.heap H locs → lv_has ls 3 [(0, .ref x0), (1, .int x1), (2, .int x2)] → W p l e (rmd 0) s m args below meth c H locs 0 0 (MQ below (QI G Λ r μ) args s 0 0 (inL Λ)) (F0 m 2 ls []) := by
  have hx := hF.1
  have hb := hF.2.1
  have hA : ∀ q, inL Λ q → inL Λ q := fun _ h => h
  intro n
  induction n with
  | zero =>
    intro x2 H locs ls hs hW hS hl
    cases hs
  | succ n2 ih2 =>
    intro x2 H locs ls hs hW hS hl
    rw [lpX2_firstOf_2_s] at hs
    refine lv_iload_n hx hb dX2_firstOf_2 rfl (lv_at hl 2 rfl) ?_
    refine lv_aload_n hx hb dX2_firstOf_3 rfl (lv_at hl 0 rfl) ?_
    refine gf_2_1 hF hKK hW kx0 dX2_firstOf_4 ?_
    refine lv_icmp_ge (tgt := 37) hx hb dX2_firstOf_7 (by decide) (fun c1 => ?_) (fun c1 => ?_)
    · have hs := ite_t hs c1
      refine lv_iconst (v := (-1 : Int32)) hx hb dX2_firstOf_37 (by decide) ?_
      have h9 := Option.some.inj hs
      rw [← h9]
      exact wr_i hF hr hlocks (vp_nar_int _) hW hS dX2_firstOf_38
    · have hs := ite_f hs c1
      refine lv_iload_n hx hb dX2_firstOf_10 rfl (lv_at hl 2 rfl) ?_
      refine lv_aload_n hx hb dX2_firstOf_11 rfl (lv_at hl 0 rfl) ?_
      refine gf_2_0 hF hKK hW kx0 dX2_firstOf_12 ?_
      refine ga_len6 hF hKK hW (lk_2_0 hOK kx0) dX2_firstOf_15 ?_
      refine lv_icmp_ge (tgt := 37) hx hb dX2_firstOf_16 (by decide) (fun c2 => ?_) (fun c2 => ?_)
      · have hs := ite_t hs c2
        refine lv_iconst (v := (-1 : Int32)) hx hb dX2_firstOf_37 (by decide) ?_
        have h9 := Option.some.inj hs
        rw [← h9]
        exact wr_i hF hr hlocks (vp_nar_int _) hW hS dX2_firstOf_38
      · have hs := ite_f hs c2
        refine lv_aload_n hx hb dX2_firstOf_19 rfl (lv_at hl 0 rfl) ?_
        refine gf_2_0 hF hKK hW kx0 dX2_firstOf_20 ?_
        refine lv_iload_n hx hb dX2_firstOf_23 rfl (lv_at hl 2 rfl) ?_
        obtain ⟨g3, hs⟩ := gd_some hs
        refine ga_ld hF hKK hW (lk_2_0 hOK kx0) g3 dX2_firstOf_24 ?_
        refine lv_iload_n hx hb dX2_firstOf_25 rfl (lv_at hl 1 rfl) ?_
        refine lv_icmp_ne (tgt := 31) hx hb dX2_firstOf_26 (by decide) (fun c4 => ?_) (fun c4 => ?_)
        · have hs := ite_f hs c4
          obtain ⟨v5, ev5, hs⟩ := bnd_e hs
          refine lv_iinc (v := v5) (lv' := [(2, .int v5), (0, .ref x0), (1, .int x1)]) hx hb dX2_firstOf_31 hl (k := 2) rfl (by rw [ev5]; rfl) (by decide) rfl (fun ls hl => ?_)
          refine lv_goto (tgt := 2) hx hb dX2_firstOf_34 (by decide) ?_
          exact ih2 v5 _ _ _ hs hW hS (lv_sub hl [1, 2, 0] rfl)
        · have hs := ite_t hs c4
          refine lv_iload_n hx hb dX2_firstOf_29 rfl (lv_at hl 2 rfl) ?_
          have h9 := Option.some.inj hs
          rw [← h9]
          exact wr_i hF hr hlocks (vp_nar_int _) hW hS dX2_firstOf_30

set_option maxHeartbeats 4000000 in
set_option maxRecDepth 100000 in
theorem c_X2_firstOf (l : Launch) {G : va_G} {Λ : Lay} {μ : Mem} (hOK : LayOK Λ) {a0 : Nat} (k0 : inK Λ a0 2) {a1 : Int32} {r : Int32} (hs : sX2_firstOf Λ μ a0 a1 = some r) : CM l G Λ yX2_firstOf cX2_firstOf 3 (some .int) 0 μ [.ref a0, .int a1] (QI G Λ r μ) := by
  refine ofM (own := RX2) (by decide +kernel) rfl (Nat.le_of_ble_eq_true rfl) (fun p e s m args below meth c ls hF hKK hW hr hlocks hl => ?_)
  have hx := hF.1
  have hb := hF.2.1
  have hA : ∀ q, inL Λ q → inL Λ q := fun _ h => h
  have hS : va_S (inL Λ) s.heap s.heap [] := va_S.rf
  have hl : lv_has ls 3 [(0, .ref a0), (1, .int a1)] := hl
  unfold sX2_firstOf at hs
  refine lv_iconst (v := (0 : Int32)) hx hb dX2_firstOf_0 (by decide) ?_
  refine lv_istore_n (lv' := [(2, .int (0 : Int32)), (0, .ref a0), (1, .int a1)]) hx hb dX2_firstOf_1 rfl hl (by decide) rfl (fun ls hl => ?_)
  exact cl_X2_firstOf_2 hOK hF hKK hr hlocks k0 fuel (0 : Int32) _ _ _ hs hW hS (lv_sub hl [1, 2, 0] rfl)

set_option maxHeartbeats 4000000 in
set_option maxRecDepth 100000 in
theorem cl_X2_lastOf_7 {p : Program} {l : Launch} {e : Env} {s : State} {m : MethodId} {args : Array Value} {below : List Frame} {meth : Method} {c : Code} {G : va_G} {Λ : Lay} {μ : Mem} {r : Int32} (hOK : LayOK Λ) (hF : CallFix p m c cX2_lastOf 3 s args tw RX2) (hKK : KK G Λ s) (hr : meth.sig.returnType = (some .int)) (hlocks : meth.locks = false) {x0 : Nat} (kx0 : inK Λ x0 2) {x1 : Int32} : ∀ (n : Nat) (x2 : Int32) (H : Heap) (locs : List Loc) (ls : Array Slot), lpX2_lastOf_7 Λ μ x0 x1 n x2 = some r → Wd G Λ μ H → va_S (inL Λ) s.heap H locs → lv_has ls 3 [(0, .ref x0), (1, .int x1), (2, .int x2)] → W p l e (rmd 1) s m args below meth c H locs 0 0 (MQ below (QI G Λ r μ) args s 0 0 (inL Λ)) (F0 m 7 ls []) := by
  have hx := hF.1
  have hb := hF.2.1
  have hA : ∀ q, inL Λ q → inL Λ q := fun _ h => h
  intro n
  induction n with
  | zero =>
    intro x2 H locs ls hs hW hS hl
    cases hs
  | succ n7 ih7 =>
    intro x2 H locs ls hs hW hS hl
    rw [lpX2_lastOf_7_s] at hs
    refine lv_iload_n hx hb dX2_lastOf_7 rfl (lv_at hl 2 rfl) ?_
    refine lv_if_lt (tgt := 28) hx hb dX2_lastOf_8 (by decide) (fun c2 => ?_) (fun c2 => ?_)
    · have hs := ite_t hs c2
      refine lv_iconst (v := (-1 : Int32)) hx hb dX2_lastOf_28 (by decide) ?_
      have h9 := Option.some.inj hs
      rw [← h9]
      exact wr_i hF hr hlocks (vp_nar_int _) hW hS dX2_lastOf_29
    · have hs := ite_f hs c2
      refine lv_aload_n hx hb dX2_lastOf_11 rfl (lv_at hl 0 rfl) ?_
      refine lv_iload_n hx hb dX2_lastOf_12 rfl (lv_at hl 2 rfl) ?_
      obtain ⟨q3, hq3, hs⟩ := obind_e hs
      refine end_i (run_V (q := (RX2, TX2, 2)) (ci := 2) hF hKK hW hS hl.1 kx0 (by decide) rfl (c_X2_get l hOK kx0 hq3) (kw_X2_23 hF.2.2.2.2 ⟨Nat.le_of_ble_eq_true rfl, Nat.le_of_ble_eq_true rfl⟩) rfl rfl (Nat.le_of_ble_eq_true rfl) dX2_lastOf_13 ⟨Nat.zero_le _, Nat.zero_le _⟩) hS (fun H locs hW hS => ?_)
      refine lv_iload_n hx hb dX2_lastOf_16 rfl (lv_at hl 1 rfl) ?_
      refine lv_icmp_ne (tgt := 22) hx hb dX2_lastOf_17 (by decide) (fun c4 => ?_) (fun c4 => ?_)
      · have hs := ite_f hs c4
        obtain ⟨v5, ev5, hs⟩ := bnd_e hs
        refine lv_iinc (v := v5) (lv' := [(2, .int v5), (0, .ref x0), (1, .int x1)]) hx hb dX2_lastOf_22 hl (k := 2) rfl (by rw [ev5]; rfl) (by decide) rfl (fun ls hl => ?_)
        refine lv_goto (tgt := 7) hx hb dX2_lastOf_25 (by decide) ?_
        exact ih7 v5 _ _ _ hs hW hS (lv_sub hl [1, 2, 0] rfl)
      · have hs := ite_t hs c4
        refine lv_iload_n hx hb dX2_lastOf_20 rfl (lv_at hl 2 rfl) ?_
        have h9 := Option.some.inj hs
        rw [← h9]
        exact wr_i hF hr hlocks (vp_nar_int _) hW hS dX2_lastOf_21

set_option maxHeartbeats 4000000 in
set_option maxRecDepth 100000 in
theorem c_X2_lastOf (l : Launch) {G : va_G} {Λ : Lay} {μ : Mem} (hOK : LayOK Λ) {a0 : Nat} (k0 : inK Λ a0 2) {a1 : Int32} {r : Int32} (hs : sX2_lastOf Λ μ a0 a1 = some r) : CM l G Λ yX2_lastOf cX2_lastOf 3 (some .int) 1 μ [.ref a0, .int a1] (QI G Λ r μ) := by
  refine ofM (own := RX2) (by decide +kernel) rfl (Nat.le_of_ble_eq_true rfl) (fun p e s m args below meth c ls hF hKK hW hr hlocks hl => ?_)
  have hx := hF.1
  have hb := hF.2.1
  have hA : ∀ q, inL Λ q → inL Λ q := fun _ h => h
  have hS : va_S (inL Λ) s.heap s.heap [] := va_S.rf
  have hl : lv_has ls 3 [(0, .ref a0), (1, .int a1)] := hl
  unfold sX2_lastOf at hs
  refine lv_aload_n hx hb dX2_lastOf_0 rfl (lv_at hl 0 rfl) ?_
  refine gf_2_1 hF hKK hW k0 dX2_lastOf_1 ?_
  refine lv_iconst (v := (1 : Int32)) hx hb dX2_lastOf_4 (by decide) ?_
  refine lv_isub hx hb dX2_lastOf_5 ?_
  obtain ⟨v1, ev1, hs⟩ := bnd_e hs
  refine top_i ev1 ?_
  refine lv_istore_n (lv' := [(2, .int v1), (0, .ref a0), (1, .int a1)]) hx hb dX2_lastOf_6 rfl hl (by decide) rfl (fun ls hl => ?_)
  exact cl_X2_lastOf_7 hOK hF hKK hr hlocks k0 fuel v1 _ _ _ hs hW hS (lv_sub hl [1, 2, 0] rfl)

set_option maxHeartbeats 4000000 in
set_option maxRecDepth 100000 in
theorem c_X2_length (l : Launch) {G : va_G} {Λ : Lay} {μ : Mem} (hOK : LayOK Λ) {a0 : Nat} (k0 : inK Λ a0 2) {r : Int32} (hs : sX2_length Λ μ a0 = some r) : CM l G Λ yX2_length cX2_length 1 (some .int) 0 μ [.ref a0] (QI G Λ r μ) := by
  refine ofM (own := RX2) (by decide +kernel) rfl (Nat.le_of_ble_eq_true rfl) (fun p e s m args below meth c ls hF hKK hW hr hlocks hl => ?_)
  have hx := hF.1
  have hb := hF.2.1
  have hA : ∀ q, inL Λ q → inL Λ q := fun _ h => h
  have hS : va_S (inL Λ) s.heap s.heap [] := va_S.rf
  have hl : lv_has ls 1 [(0, .ref a0)] := hl
  unfold sX2_length at hs
  refine lv_aload_n hx hb dX2_length_0 rfl (lv_at hl 0 rfl) ?_
  refine gf_2_1 hF hKK hW k0 dX2_length_1 ?_
  have h9 := Option.some.inj hs
  rw [← h9]
  exact wr_i hF hr hlocks (vp_nar_int _) hW hS dX2_length_4

set_option maxHeartbeats 4000000 in
set_option maxRecDepth 100000 in
theorem c_X4_bit (l : Launch) {G : va_G} {Λ : Lay} {μ : Mem} (hOK : LayOK Λ) {a0 : Int32} {r : Int32} (hs : sX4_bit Λ μ a0 = some r) : CM l G Λ yX4_bit cX4_bit 1 (some .int) 0 μ [.int a0] (QI G Λ r μ) := by
  refine ofM (own := RX4) (by decide +kernel) rfl (Nat.le_of_ble_eq_true rfl) (fun p e s m args below meth c ls hF hKK hW hr hlocks hl => ?_)
  have hx := hF.1
  have hb := hF.2.1
  have hA : ∀ q, inL Λ q → inL Λ q := fun _ h => h
  have hS : va_S (inL Λ) s.heap s.heap [] := va_S.rf
  have hl : lv_has ls 1 [(0, .int a0)] := hl
  unfold sX4_bit at hs
  refine lv_iload_n hx hb dX4_bit_0 rfl (lv_at hl 0 rfl) ?_
  refine lv_if_lt (tgt := 10) hx hb dX4_bit_1 (by decide) (fun c1 => ?_) (fun c1 => ?_)
  · have hs := ite_t hs c1
    refine lv_iconst (v := (0 : Int32)) hx hb dX4_bit_10 (by decide) ?_
    refine lv_goto (tgt := 17) hx hb dX4_bit_11 (by decide) ?_
    have h9 := Option.some.inj hs
    rw [← h9]
    exact wr_i hF hr hlocks (vp_nar_int _) hW hS dX4_bit_17
  · have hs := ite_f hs c1
    refine lv_iload_n hx hb dX4_bit_4 rfl (lv_at hl 0 rfl) ?_
    refine lv_bipush (v := (12 : Int32)) hx hb dX4_bit_5 (by decide) ?_
    refine lv_icmp_lt (tgt := 14) hx hb dX4_bit_7 (by decide) (fun c2 => ?_) (fun c2 => ?_)
    · have hs := ite_t hs c2
      refine lv_iconst (v := (1 : Int32)) hx hb dX4_bit_14 (by decide) ?_
      refine lv_iload_n hx hb dX4_bit_15 rfl (lv_at hl 0 rfl) ?_
      refine lv_ishl hx hb dX4_bit_16 ?_
      have h9 := Option.some.inj hs
      rw [← h9]
      exact wr_i hF hr hlocks (vp_nar_int _) hW hS dX4_bit_17
    · have hs := ite_f hs c2
      refine lv_iconst (v := (0 : Int32)) hx hb dX4_bit_10 (by decide) ?_
      refine lv_goto (tgt := 17) hx hb dX4_bit_11 (by decide) ?_
      have h9 := Option.some.inj hs
      rw [← h9]
      exact wr_i hF hr hlocks (vp_nar_int _) hW hS dX4_bit_17

set_option maxHeartbeats 4000000 in
set_option maxRecDepth 100000 in
theorem cl_X2_setOf_5 {p : Program} {l : Launch} {e : Env} {s : State} {m : MethodId} {args : Array Value} {below : List Frame} {meth : Method} {c : Code} {G : va_G} {Λ : Lay} {μ : Mem} {r : Int32} (hOK : LayOK Λ) (hF : CallFix p m c cX2_setOf 5 s args tw RX2) (hKK : KK G Λ s) (hr : meth.sig.returnType = (some .int)) (hlocks : meth.locks = false) {x0 : Nat} (kx0 : inK Λ x0 2) {x2 : Int32} : ∀ (n : Nat) (x3 : Int32) (x4 : Int32) (H : Heap) (locs : List Loc) (ls : Array Slot), lpX2_setOf_5 Λ μ x0 x2 n x3 x4 = some r → Wd G Λ μ H → va_S (inL Λ) s.heap H locs → lv_has ls 5 [(0, .ref x0), (2, .int x2), (3, .int x3), (4, .int x4)] → W p l e (rmd 1) s m args below meth c H locs 0 0 (MQ below (QI G Λ r μ) args s 0 0 (inL Λ)) (F0 m 5 ls []) := by
  have hx := hF.1
  have hb := hF.2.1
  have hA : ∀ q, inL Λ q → inL Λ q := fun _ h => h
  intro n
  induction n with
  | zero =>
    intro x3 x4 H locs ls hs hW hS hl
    cases hs
  | succ n5 ih5 =>
    intro x3 x4 H locs ls hs hW hS hl
    rw [lpX2_setOf_5_s] at hs
    refine lv_iload hx hb dX2_setOf_5 (lv_at hl 3 rfl) ?_
    refine lv_iload_n hx hb dX2_setOf_7 rfl (lv_at hl 1 rfl) ?_
    refine lv_icmp_gt (tgt := 36) hx hb dX2_setOf_8 (by decide) (fun c1 => ?_) (fun c1 => ?_)
    · have hs := ite_t hs c1
      refine lv_iload_n hx hb dX2_setOf_36 rfl (lv_at hl 2 rfl) ?_
      have h9 := Option.some.inj hs
      rw [← h9]
      exact wr_i hF hr hlocks (vp_nar_int _) hW hS dX2_setOf_37
    · have hs := ite_f hs c1
      refine lv_iload hx hb dX2_setOf_11 (lv_at hl 3 rfl) ?_
      refine lv_bipush (v := (23 : Int32)) hx hb dX2_setOf_13 (by decide) ?_
      refine lv_icmp_ge (tgt := 36) hx hb dX2_setOf_15 (by decide) (fun c2 => ?_) (fun c2 => ?_)
      · have hs := ite_t hs c2
        refine lv_iload_n hx hb dX2_setOf_36 rfl (lv_at hl 2 rfl) ?_
        have h9 := Option.some.inj hs
        rw [← h9]
        exact wr_i hF hr hlocks (vp_nar_int _) hW hS dX2_setOf_37
      · have hs := ite_f hs c2
        refine lv_iload_n hx hb dX2_setOf_18 rfl (lv_at hl 2 rfl) ?_
        refine lv_aload_n hx hb dX2_setOf_19 rfl (lv_at hl 0 rfl) ?_
        refine lv_iload hx hb dX2_setOf_20 (lv_at hl 3 rfl) ?_
        obtain ⟨q3, hq3, hs⟩ := obind_e hs
        refine end_i (run_V (q := (RX2, TX2, 2)) (ci := 2) hF hKK hW hS hl.1 kx0 (by decide) rfl (c_X2_get l hOK kx0 hq3) (kw_X2_23 hF.2.2.2.2 ⟨Nat.le_of_ble_eq_true rfl, Nat.le_of_ble_eq_true rfl⟩) rfl rfl (Nat.le_of_ble_eq_true rfl) dX2_setOf_22 ⟨Nat.zero_le _, Nat.zero_le _⟩) hS (fun H locs hW hS => ?_)
        obtain ⟨q4, hq4, hs⟩ := obind_e hs
        refine end_i (run_N hF hKK hW hS hl.1 (c_X4_bit l hOK  hq4) (kw_X2_38 hKK.2.1.2.2 hF.2.2.2.2 ⟨Nat.le_of_ble_eq_true rfl, Nat.le_of_ble_eq_true rfl⟩) rfl rfl (Nat.le_of_ble_eq_true rfl) dX2_setOf_25 ⟨Nat.zero_le _, Nat.zero_le _⟩) hS (fun H locs hW hS => ?_)
        refine lv_ior hx hb dX2_setOf_28 ?_
        obtain ⟨v5, ev5, hs⟩ := bnd_e hs
        refine top_i ev5 ?_
        refine lv_istore_n (lv' := [(3, .int v5), (0, .ref x0), (2, .int x2), (4, .int x4)]) hx hb dX2_setOf_29 rfl hl (by decide) rfl (fun ls hl => ?_)
        obtain ⟨v6, ev6, hs⟩ := bnd_e hs
        refine lv_iinc (v := v6) (lv' := [(4, .int v6), (3, .int v5), (0, .ref x0), (2, .int x2)]) hx hb dX2_setOf_30 hl (k := 3) rfl (by rw [ev6]; rfl) (by decide) rfl (fun ls hl => ?_)
        refine lv_goto (tgt := 5) hx hb dX2_setOf_33 (by decide) ?_
        exact ih5 v5 v6 _ _ _ hs hW hS (lv_sub hl [2, 3, 1, 0] rfl)

set_option maxHeartbeats 4000000 in
set_option maxRecDepth 100000 in
theorem c_X2_setOf (l : Launch) {G : va_G} {Λ : Lay} {μ : Mem} (hOK : LayOK Λ) {a0 : Nat} (k0 : inK Λ a0 2) {a1 : Int32} {a2 : Int32} {r : Int32} (hs : sX2_setOf Λ μ a0 a1 a2 = some r) : CM l G Λ yX2_setOf cX2_setOf 5 (some .int) 1 μ [.ref a0, .int a1, .int a2] (QI G Λ r μ) := by
  refine ofM (own := RX2) (by decide +kernel) rfl (Nat.le_of_ble_eq_true rfl) (fun p e s m args below meth c ls hF hKK hW hr hlocks hl => ?_)
  have hx := hF.1
  have hb := hF.2.1
  have hA : ∀ q, inL Λ q → inL Λ q := fun _ h => h
  have hS : va_S (inL Λ) s.heap s.heap [] := va_S.rf
  have hl : lv_has ls 5 [(0, .ref a0), (1, .int a1), (2, .int a2)] := hl
  unfold sX2_setOf at hs
  refine lv_iconst (v := (0 : Int32)) hx hb dX2_setOf_0 (by decide) ?_
  refine lv_istore_n (lv' := [(3, .int (0 : Int32)), (0, .ref a0), (1, .int a1), (2, .int a2)]) hx hb dX2_setOf_1 rfl hl (by decide) rfl (fun ls hl => ?_)
  refine lv_iload_n hx hb dX2_setOf_2 rfl (lv_at hl 2 rfl) ?_
  refine lv_istore (lv' := [(4, .int a1), (3, .int (0 : Int32)), (0, .ref a0), (1, .int a1), (2, .int a2)]) hx hb dX2_setOf_3 hl (by decide) rfl (fun ls hl => ?_)
  exact cl_X2_setOf_5 hOK hF hKK hr hlocks k0 fuel (0 : Int32) a1 _ _ _ hs hW hS (lv_sub hl [2, 4, 1, 0] rfl)

set_option maxHeartbeats 4000000 in
set_option maxRecDepth 100000 in
theorem c_X2_setOfAll (l : Launch) {G : va_G} {Λ : Lay} {μ : Mem} (hOK : LayOK Λ) {a0 : Nat} (k0 : inK Λ a0 2) {r : Int32} (hs : sX2_setOfAll Λ μ a0 = some r) : CM l G Λ yX2_setOfAll cX2_setOfAll 1 (some .int) 2 μ [.ref a0] (QI G Λ r μ) := by
  refine ofM (own := RX2) (by decide +kernel) rfl (Nat.le_of_ble_eq_true rfl) (fun p e s m args below meth c ls hF hKK hW hr hlocks hl => ?_)
  have hx := hF.1
  have hb := hF.2.1
  have hA : ∀ q, inL Λ q → inL Λ q := fun _ h => h
  have hS : va_S (inL Λ) s.heap s.heap [] := va_S.rf
  have hl : lv_has ls 1 [(0, .ref a0)] := hl
  unfold sX2_setOfAll at hs
  refine lv_aload_n hx hb dX2_setOfAll_0 rfl (lv_at hl 0 rfl) ?_
  refine lv_iconst (v := (0 : Int32)) hx hb dX2_setOfAll_1 (by decide) ?_
  refine lv_aload_n hx hb dX2_setOfAll_2 rfl (lv_at hl 0 rfl) ?_
  refine gf_2_1 hF hKK hW k0 dX2_setOfAll_3 ?_
  refine lv_iconst (v := (1 : Int32)) hx hb dX2_setOfAll_6 (by decide) ?_
  refine lv_isub hx hb dX2_setOfAll_7 ?_
  obtain ⟨q1, hq1, hs⟩ := obind_e hs
  refine end_i (run_V (q := (RX2, TX2, 2)) (ci := 2) hF hKK hW hS hl.1 k0 (by decide) rfl (c_X2_setOf l hOK k0 hq1) (kw_X2_34 hF.2.2.2.2 ⟨Nat.le_of_ble_eq_true rfl, Nat.le_of_ble_eq_true rfl⟩) rfl rfl (Nat.le_of_ble_eq_true rfl) dX2_setOfAll_8 ⟨Nat.zero_le _, Nat.zero_le _⟩) hS (fun H locs hW hS => ?_)
  have h9 := Option.some.inj hs
  rw [← h9]
  exact wr_i hF hr hlocks (vp_nar_int _) hW hS dX2_setOfAll_11

set_option maxHeartbeats 4000000 in
set_option maxRecDepth 100000 in
theorem c_J6_bitCount_0f7a4 (l : Launch) {G : va_G} {Λ : Lay} {μ : Mem} (hOK : LayOK Λ) {a0 : Int32} {r : Int32} (hs : sJ6_bitCount_0f7a4 Λ μ a0 = some r) : CM l G Λ yJ6_bitCount_0f7a4 cJ6_bitCount_0f7a4 1 (some .int) 0 μ [.int a0] (QI G Λ r μ) := by
  refine ofM (own := RJ6) (by decide +kernel) rfl (Nat.le_of_ble_eq_true rfl) (fun p e s m args below meth c ls hF hKK hW hr hlocks hl => ?_)
  have hx := hF.1
  have hb := hF.2.1
  have hA : ∀ q, inL Λ q → inL Λ q := fun _ h => h
  have hS : va_S (inL Λ) s.heap s.heap [] := va_S.rf
  have hl : lv_has ls 1 [(0, .int a0)] := hl
  unfold sJ6_bitCount_0f7a4 at hs
  refine lv_iload_n hx hb dJ6_bitCount_0f7a4_0 rfl (lv_at hl 0 rfl) ?_
  refine lv_iload_n hx hb dJ6_bitCount_0f7a4_1 rfl (lv_at hl 0 rfl) ?_
  refine lv_iconst (v := (1 : Int32)) hx hb dJ6_bitCount_0f7a4_2 (by decide) ?_
  refine lv_iushr (v := (jushr a0 (1 : Int32))) hx hb dJ6_bitCount_0f7a4_3 rfl ?_
  refine lv_ldcw (v := (1431655765 : Int32)) hx hb hF.2.2.2.1 (hF.2.2.2.2 _ wd_301) dJ6_bitCount_0f7a4_4 ?_
  refine lv_iand hx hb dJ6_bitCount_0f7a4_7 ?_
  refine lv_isub hx hb dJ6_bitCount_0f7a4_8 ?_
  obtain ⟨v1, ev1, hs⟩ := bnd_e hs
  refine top_i ev1 ?_
  refine lv_istore_n (lv' := [(0, .int v1)]) hx hb dJ6_bitCount_0f7a4_9 rfl hl (by decide) rfl (fun ls hl => ?_)
  refine lv_iload_n hx hb dJ6_bitCount_0f7a4_10 rfl (lv_at hl 0 rfl) ?_
  refine lv_ldcw (v := (858993459 : Int32)) hx hb hF.2.2.2.1 (hF.2.2.2.2 _ wd_302) dJ6_bitCount_0f7a4_11 ?_
  refine lv_iand hx hb dJ6_bitCount_0f7a4_14 ?_
  refine lv_iload_n hx hb dJ6_bitCount_0f7a4_15 rfl (lv_at hl 0 rfl) ?_
  refine lv_iconst (v := (2 : Int32)) hx hb dJ6_bitCount_0f7a4_16 (by decide) ?_
  refine lv_iushr (v := (jushr v1 (2 : Int32))) hx hb dJ6_bitCount_0f7a4_17 rfl ?_
  refine lv_ldcw (v := (858993459 : Int32)) hx hb hF.2.2.2.1 (hF.2.2.2.2 _ wd_302) dJ6_bitCount_0f7a4_18 ?_
  refine lv_iand hx hb dJ6_bitCount_0f7a4_21 ?_
  refine lv_iadd hx hb dJ6_bitCount_0f7a4_22 ?_
  obtain ⟨v2, ev2, hs⟩ := bnd_e hs
  refine top_i ev2 ?_
  refine lv_istore_n (lv' := [(0, .int v2)]) hx hb dJ6_bitCount_0f7a4_23 rfl hl (by decide) rfl (fun ls hl => ?_)
  refine lv_iload_n hx hb dJ6_bitCount_0f7a4_24 rfl (lv_at hl 0 rfl) ?_
  refine lv_iload_n hx hb dJ6_bitCount_0f7a4_25 rfl (lv_at hl 0 rfl) ?_
  refine lv_iconst (v := (4 : Int32)) hx hb dJ6_bitCount_0f7a4_26 (by decide) ?_
  refine lv_iushr (v := (jushr v2 (4 : Int32))) hx hb dJ6_bitCount_0f7a4_27 rfl ?_
  refine lv_iadd hx hb dJ6_bitCount_0f7a4_28 ?_
  refine lv_ldcw (v := (252645135 : Int32)) hx hb hF.2.2.2.1 (hF.2.2.2.2 _ wd_303) dJ6_bitCount_0f7a4_29 ?_
  refine lv_iand hx hb dJ6_bitCount_0f7a4_32 ?_
  obtain ⟨v3, ev3, hs⟩ := bnd_e hs
  refine top_i ev3 ?_
  refine lv_istore_n (lv' := [(0, .int v3)]) hx hb dJ6_bitCount_0f7a4_33 rfl hl (by decide) rfl (fun ls hl => ?_)
  refine lv_iload_n hx hb dJ6_bitCount_0f7a4_34 rfl (lv_at hl 0 rfl) ?_
  refine lv_iload_n hx hb dJ6_bitCount_0f7a4_35 rfl (lv_at hl 0 rfl) ?_
  refine lv_bipush (v := (8 : Int32)) hx hb dJ6_bitCount_0f7a4_36 (by decide) ?_
  refine lv_iushr (v := (jushr v3 (8 : Int32))) hx hb dJ6_bitCount_0f7a4_38 rfl ?_
  refine lv_iadd hx hb dJ6_bitCount_0f7a4_39 ?_
  obtain ⟨v4, ev4, hs⟩ := bnd_e hs
  refine top_i ev4 ?_
  refine lv_istore_n (lv' := [(0, .int v4)]) hx hb dJ6_bitCount_0f7a4_40 rfl hl (by decide) rfl (fun ls hl => ?_)
  refine lv_iload_n hx hb dJ6_bitCount_0f7a4_41 rfl (lv_at hl 0 rfl) ?_
  refine lv_iload_n hx hb dJ6_bitCount_0f7a4_42 rfl (lv_at hl 0 rfl) ?_
  refine lv_bipush (v := (16 : Int32)) hx hb dJ6_bitCount_0f7a4_43 (by decide) ?_
  refine lv_iushr (v := (jushr v4 (16 : Int32))) hx hb dJ6_bitCount_0f7a4_45 rfl ?_
  refine lv_iadd hx hb dJ6_bitCount_0f7a4_46 ?_
  obtain ⟨v5, ev5, hs⟩ := bnd_e hs
  refine top_i ev5 ?_
  refine lv_istore_n (lv' := [(0, .int v5)]) hx hb dJ6_bitCount_0f7a4_47 rfl hl (by decide) rfl (fun ls hl => ?_)
  refine lv_iload_n hx hb dJ6_bitCount_0f7a4_48 rfl (lv_at hl 0 rfl) ?_
  refine lv_bipush (v := (63 : Int32)) hx hb dJ6_bitCount_0f7a4_49 (by decide) ?_
  refine lv_iand hx hb dJ6_bitCount_0f7a4_51 ?_
  have h9 := Option.some.inj hs
  rw [← h9]
  exact wr_i hF hr hlocks (vp_nar_int _) hW hS dJ6_bitCount_0f7a4_52

set_option maxHeartbeats 4000000 in
set_option maxRecDepth 100000 in
theorem c_X4_lowestIn (l : Launch) {G : va_G} {Λ : Lay} {μ : Mem} (hOK : LayOK Λ) {a0 : Int32} {r : Int32} (hs : sX4_lowestIn Λ μ a0 = some r) : CM l G Λ yX4_lowestIn cX4_lowestIn 1 (some .int) 1 μ [.int a0] (QI G Λ r μ) := by
  refine ofM (own := RX4) (by decide +kernel) rfl (Nat.le_of_ble_eq_true rfl) (fun p e s m args below meth c ls hF hKK hW hr hlocks hl => ?_)
  have hx := hF.1
  have hb := hF.2.1
  have hA : ∀ q, inL Λ q → inL Λ q := fun _ h => h
  have hS : va_S (inL Λ) s.heap s.heap [] := va_S.rf
  have hl : lv_has ls 1 [(0, .int a0)] := hl
  unfold sX4_lowestIn at hs
  refine lv_iload_n hx hb dX4_lowestIn_0 rfl (lv_at hl 0 rfl) ?_
  refine lv_iload_n hx hb dX4_lowestIn_1 rfl (lv_at hl 0 rfl) ?_
  refine lv_ineg hx hb dX4_lowestIn_2 ?_
  refine lv_iand hx hb dX4_lowestIn_3 ?_
  refine lv_iconst (v := (1 : Int32)) hx hb dX4_lowestIn_4 (by decide) ?_
  refine lv_isub hx hb dX4_lowestIn_5 ?_
  obtain ⟨q1, hq1, hs⟩ := obind_e hs
  refine end_i (run_S hF hKK hW hS hl.1 (c_J6_bitCount_0f7a4 l hOK  hq1) (kw_X4_115 hF.2.2.2.2 ⟨Nat.le_of_ble_eq_true rfl, Nat.le_of_ble_eq_true rfl⟩) rfl rfl (Nat.le_of_ble_eq_true rfl) dX4_lowestIn_6 ⟨Nat.zero_le _, Nat.zero_le _⟩) hS (fun H locs hW hS => ?_)
  have h9 := Option.some.inj hs
  rw [← h9]
  exact wr_i hF hr hlocks (vp_nar_int _) hW hS dX4_lowestIn_9

set_option maxHeartbeats 4000000 in
set_option maxRecDepth 100000 in
theorem c_X2_put (l : Launch) {G : va_G} {Λ : Lay} {μ : Mem} (hOK : LayOK Λ) {a0 : Nat} (k0 : inK Λ a0 2) {a1 : Int32} {a2 : Int32} {r : Mem} (hs : sX2_put Λ μ a0 a1 a2 = some r) : CM l G Λ yX2_put cX2_put 3 none 0 μ [.ref a0, .int a1, .int a2] (QV G Λ r) := by
  refine ofM (own := RX2) (by decide +kernel) rfl (Nat.le_of_ble_eq_true rfl) (fun p e s m args below meth c ls hF hKK hW hr hlocks hl => ?_)
  have hx := hF.1
  have hb := hF.2.1
  have hA : ∀ q, inL Λ q → inL Λ q := fun _ h => h
  have hS : va_S (inL Λ) s.heap s.heap [] := va_S.rf
  have hl : lv_has ls 3 [(0, .ref a0), (1, .int a1), (2, .int a2)] := hl
  unfold sX2_put at hs
  refine lv_iload_n hx hb dX2_put_0 rfl (lv_at hl 1 rfl) ?_
  refine lv_if_lt (tgt := 28) hx hb dX2_put_1 (by decide) (fun c1 => ?_) (fun c1 => ?_)
  · have hs := ite_t hs c1
    have h9 := Option.some.inj hs
    rw [← h9]
    exact wr_v hF hr hlocks hW hS dX2_put_28
  · have hs := ite_f hs c1
    refine lv_iload_n hx hb dX2_put_4 rfl (lv_at hl 1 rfl) ?_
    refine lv_aload_n hx hb dX2_put_5 rfl (lv_at hl 0 rfl) ?_
    refine gf_2_1 hF hKK hW k0 dX2_put_6 ?_
    refine lv_icmp_ge (tgt := 28) hx hb dX2_put_9 (by decide) (fun c2 => ?_) (fun c2 => ?_)
    · have hs := ite_t hs c2
      have h9 := Option.some.inj hs
      rw [← h9]
      exact wr_v hF hr hlocks hW hS dX2_put_28
    · have hs := ite_f hs c2
      refine lv_iload_n hx hb dX2_put_12 rfl (lv_at hl 1 rfl) ?_
      refine lv_aload_n hx hb dX2_put_13 rfl (lv_at hl 0 rfl) ?_
      refine gf_2_0 hF hKK hW k0 dX2_put_14 ?_
      refine ga_len6 hF hKK hW (lk_2_0 hOK k0) dX2_put_17 ?_
      refine lv_icmp_ge (tgt := 28) hx hb dX2_put_18 (by decide) (fun c3 => ?_) (fun c3 => ?_)
      · have hs := ite_t hs c3
        have h9 := Option.some.inj hs
        rw [← h9]
        exact wr_v hF hr hlocks hW hS dX2_put_28
      · have hs := ite_f hs c3
        refine lv_aload_n hx hb dX2_put_21 rfl (lv_at hl 0 rfl) ?_
        refine gf_2_0 hF hKK hW k0 dX2_put_22 ?_
        refine lv_iload_n hx hb dX2_put_25 rfl (lv_at hl 1 rfl) ?_
        refine lv_iload_n hx hb dX2_put_26 rfl (lv_at hl 2 rfl) ?_
        obtain ⟨g4, hs⟩ := gd_some hs
        obtain ⟨μ5, eμ5, hs⟩ := bnd_e hs
        refine ga_st hOK hF hKK hW hS hA (lk_2_0 hOK k0) g4 eμ5 dX2_put_27 (fun H locs hW hS => ?_)
        have h9 := Option.some.inj hs
        rw [← h9]
        exact wr_v hF hr hlocks hW hS dX2_put_28

set_option maxHeartbeats 4000000 in
set_option maxRecDepth 100000 in
theorem cl_X2_addPlaces_8 {p : Program} {l : Launch} {e : Env} {s : State} {m : MethodId} {args : Array Value} {below : List Frame} {meth : Method} {c : Code} {G : va_G} {Λ : Lay} {r : Mem} (hOK : LayOK Λ) (hF : CallFix p m c cX2_addPlaces 5 s args tw RX2) (hKK : KK G Λ s) (hr : meth.sig.returnType = none) (hlocks : meth.locks = false) {x0 : Nat} (kx0 : inK Λ x0 2) {x1 : Nat} (kx1 : inK Λ x1 2) {x3 : Int32} : ∀ (n : Nat) (μ : Mem) (x4 : Int32) (H : Heap) (locs : List Loc) (ls : Array Slot), lpX2_addPlaces_8 Λ x0 x1 x3 n μ x4 = some r → Wd G Λ μ H → va_S (inL Λ) s.heap H locs → lv_has ls 5 [(0, .ref x0), (1, .ref x1), (3, .int x3), (4, .int x4)] → W p l e (rmd 1) s m args below meth c H locs 0 0 (MQ below (QV G Λ r) args s 0 0 (inL Λ)) (F0 m 8 ls []) := by
  have hx := hF.1
  have hb := hF.2.1
  have hA : ∀ q, inL Λ q → inL Λ q := fun _ h => h
  intro n
  induction n with
  | zero =>
    intro μ x4 H locs ls hs hW hS hl
    cases hs
  | succ n8 ih8 =>
    intro μ x4 H locs ls hs hW hS hl
    rw [lpX2_addPlaces_8_s] at hs
    refine lv_iload hx hb dX2_addPlaces_8 (lv_at hl 3 rfl) ?_
    refine lv_iload_n hx hb dX2_addPlaces_10 rfl (lv_at hl 2 rfl) ?_
    refine lv_icmp_gt (tgt := 37) hx hb dX2_addPlaces_11 (by decide) (fun c1 => ?_) (fun c1 => ?_)
    · have hs := ite_t hs c1
      have h9 := Option.some.inj hs
      rw [← h9]
      exact wr_v hF hr hlocks hW hS dX2_addPlaces_37
    · have hs := ite_f hs c1
      refine lv_iload hx hb dX2_addPlaces_14 (lv_at hl 3 rfl) ?_
      refine lv_bipush (v := (23 : Int32)) hx hb dX2_addPlaces_16 (by decide) ?_
      refine lv_icmp_ge (tgt := 37) hx hb dX2_addPlaces_18 (by decide) (fun c2 => ?_) (fun c2 => ?_)
      · have hs := ite_t hs c2
        have h9 := Option.some.inj hs
        rw [← h9]
        exact wr_v hF hr hlocks hW hS dX2_addPlaces_37
      · have hs := ite_f hs c2
        refine lv_aload_n hx hb dX2_addPlaces_21 rfl (lv_at hl 0 rfl) ?_
        refine lv_aload_n hx hb dX2_addPlaces_22 rfl (lv_at hl 1 rfl) ?_
        refine lv_iload hx hb dX2_addPlaces_23 (lv_at hl 3 rfl) ?_
        obtain ⟨q3, hq3, hs⟩ := obind_e hs
        refine end_i (run_V (q := (RX2, TX2, 2)) (ci := 2) hF hKK hW hS hl.1 kx1 (by decide) rfl (c_X2_get l hOK kx1 hq3) (kw_X2_23 hF.2.2.2.2 ⟨Nat.le_of_ble_eq_true rfl, Nat.le_of_ble_eq_true rfl⟩) rfl rfl (Nat.le_of_ble_eq_true rfl) dX2_addPlaces_25 ⟨Nat.zero_le _, Nat.zero_le _⟩) hS (fun H locs hW hS => ?_)
        obtain ⟨q4, hq4, hs⟩ := obind_e hs
        refine end_v (run_V (q := (RX2, TX2, 2)) (ci := 2) hF hKK hW hS hl.1 kx0 (by decide) rfl (c_X2_add l hOK kx0 hq4) (kw_X2_19 hF.2.2.2.2 ⟨Nat.le_of_ble_eq_true rfl, Nat.le_of_ble_eq_true rfl⟩) rfl rfl (Nat.le_of_ble_eq_true rfl) dX2_addPlaces_28 ⟨Nat.zero_le _, Nat.zero_le _⟩) hS (fun H locs hW hS => ?_)
        obtain ⟨v5, ev5, hs⟩ := bnd_e hs
        refine lv_iinc (v := v5) (lv' := [(4, .int v5), (0, .ref x0), (1, .ref x1), (3, .int x3)]) hx hb dX2_addPlaces_31 hl (k := 3) rfl (by rw [ev5]; rfl) (by decide) rfl (fun ls hl => ?_)
        refine lv_goto (tgt := 8) hx hb dX2_addPlaces_34 (by decide) ?_
        exact ih8 q4 v5 _ _ _ hs hW hS (lv_sub hl [1, 2, 3, 0] rfl)

set_option maxHeartbeats 4000000 in
set_option maxRecDepth 100000 in
theorem c_X2_addPlaces (l : Launch) {G : va_G} {Λ : Lay} {μ : Mem} (hOK : LayOK Λ) {a0 : Nat} (k0 : inK Λ a0 2) {a1 : Nat} (k1 : inK Λ a1 2) {a2 : Int32} {a3 : Int32} {r : Mem} (hs : sX2_addPlaces Λ μ a0 a1 a2 a3 = some r) : CM l G Λ yX2_addPlaces cX2_addPlaces 5 none 1 μ [.ref a0, .ref a1, .int a2, .int a3] (QV G Λ r) := by
  refine ofM (own := RX2) (by decide +kernel) rfl (Nat.le_of_ble_eq_true rfl) (fun p e s m args below meth c ls hF hKK hW hr hlocks hl => ?_)
  have hx := hF.1
  have hb := hF.2.1
  have hA : ∀ q, inL Λ q → inL Λ q := fun _ h => h
  have hS : va_S (inL Λ) s.heap s.heap [] := va_S.rf
  have hl : lv_has ls 5 [(0, .ref a0), (1, .ref a1), (2, .int a2), (3, .int a3)] := hl
  unfold sX2_addPlaces at hs
  refine lv_aload_n hx hb dX2_addPlaces_0 rfl (lv_at hl 1 rfl) ?_
  refine lv_ifnonnull (tgt := 5) hx hb dX2_addPlaces_1 (by decide) ?_
  refine lv_iload_n hx hb dX2_addPlaces_5 rfl (lv_at hl 2 rfl) ?_
  refine lv_istore (lv' := [(4, .int a2), (0, .ref a0), (1, .ref a1), (2, .int a2), (3, .int a3)]) hx hb dX2_addPlaces_6 hl (by decide) rfl (fun ls hl => ?_)
  exact cl_X2_addPlaces_8 hOK hF hKK hr hlocks k0 k1 fuel μ a2 _ _ _ hs hW hS (lv_sub hl [1, 2, 4, 0] rfl)

set_option maxHeartbeats 4000000 in
set_option maxRecDepth 100000 in
theorem c_X2_clear (l : Launch) {G : va_G} {Λ : Lay} {μ : Mem} (hOK : LayOK Λ) {a0 : Nat} (k0 : inK Λ a0 2) {r : Mem} (hs : sX2_clear Λ μ a0 = some r) : CM l G Λ yX2_clear cX2_clear 1 none 0 μ [.ref a0] (QV G Λ r) := by
  refine ofM (own := RX2) (by decide +kernel) rfl (Nat.le_of_ble_eq_true rfl) (fun p e s m args below meth c ls hF hKK hW hr hlocks hl => ?_)
  have hx := hF.1
  have hb := hF.2.1
  have hA : ∀ q, inL Λ q → inL Λ q := fun _ h => h
  have hS : va_S (inL Λ) s.heap s.heap [] := va_S.rf
  have hl : lv_has ls 1 [(0, .ref a0)] := hl
  unfold sX2_clear at hs
  refine lv_aload_n hx hb dX2_clear_0 rfl (lv_at hl 0 rfl) ?_
  refine lv_iconst (v := (0 : Int32)) hx hb dX2_clear_1 (by decide) ?_
  obtain ⟨μ1, eμ1, hs⟩ := bnd_e hs
  refine pf_2_1 hOK hF hKK hW hS hA k0 eμ1 dX2_clear_2 (fun H locs hW hS => ?_)
  have h9 := Option.some.inj hs
  rw [← h9]
  exact wr_v hF hr hlocks hW hS dX2_clear_5

set_option maxHeartbeats 4000000 in
set_option maxRecDepth 100000 in
theorem c_X2_shorten (l : Launch) {G : va_G} {Λ : Lay} {μ : Mem} (hOK : LayOK Λ) {a0 : Nat} (k0 : inK Λ a0 2) {a1 : Int32} {r : Mem} (hs : sX2_shorten Λ μ a0 a1 = some r) : CM l G Λ yX2_shorten cX2_shorten 2 none 0 μ [.ref a0, .int a1] (QV G Λ r) := by
  refine ofM (own := RX2) (by decide +kernel) rfl (Nat.le_of_ble_eq_true rfl) (fun p e s m args below meth c ls hF hKK hW hr hlocks hl => ?_)
  have hx := hF.1
  have hb := hF.2.1
  have hA : ∀ q, inL Λ q → inL Λ q := fun _ h => h
  have hS : va_S (inL Λ) s.heap s.heap [] := va_S.rf
  have hl : lv_has ls 2 [(0, .ref a0), (1, .int a1)] := hl
  unfold sX2_shorten at hs
  refine lv_iload_n hx hb dX2_shorten_0 rfl (lv_at hl 1 rfl) ?_
  refine lv_if_lt (tgt := 17) hx hb dX2_shorten_1 (by decide) (fun c1 => ?_) (fun c1 => ?_)
  · have hs := ite_t hs c1
    have h9 := Option.some.inj hs
    rw [← h9]
    exact wr_v hF hr hlocks hW hS dX2_shorten_17
  · have hs := ite_f hs c1
    refine lv_iload_n hx hb dX2_shorten_4 rfl (lv_at hl 1 rfl) ?_
    refine lv_aload_n hx hb dX2_shorten_5 rfl (lv_at hl 0 rfl) ?_
    refine gf_2_1 hF hKK hW k0 dX2_shorten_6 ?_
    refine lv_icmp_ge (tgt := 17) hx hb dX2_shorten_9 (by decide) (fun c2 => ?_) (fun c2 => ?_)
    · have hs := ite_t hs c2
      have h9 := Option.some.inj hs
      rw [← h9]
      exact wr_v hF hr hlocks hW hS dX2_shorten_17
    · have hs := ite_f hs c2
      refine lv_aload_n hx hb dX2_shorten_12 rfl (lv_at hl 0 rfl) ?_
      refine lv_iload_n hx hb dX2_shorten_13 rfl (lv_at hl 1 rfl) ?_
      obtain ⟨μ3, eμ3, hs⟩ := bnd_e hs
      refine pf_2_1 hOK hF hKK hW hS hA k0 eμ3 dX2_shorten_14 (fun H locs hW hS => ?_)
      have h9 := Option.some.inj hs
      rw [← h9]
      exact wr_v hF hr hlocks hW hS dX2_shorten_17

set_option maxHeartbeats 4000000 in
set_option maxRecDepth 100000 in
theorem cl_X2_dropPlaces_11 {p : Program} {l : Launch} {e : Env} {s : State} {m : MethodId} {args : Array Value} {below : List Frame} {meth : Method} {c : Code} {G : va_G} {Λ : Lay} {r : Mem} (hOK : LayOK Λ) (hF : CallFix p m c cX2_dropPlaces 5 s args tw RX2) (hKK : KK G Λ s) (hr : meth.sig.returnType = none) (hlocks : meth.locks = false) {x0 : Nat} (kx0 : inK Λ x0 2) {x3 : Int32} : ∀ (n : Nat) (μ : Mem) (x4 : Int32) (H : Heap) (locs : List Loc) (ls : Array Slot), lpX2_dropPlaces_11 Λ x0 x3 n μ x4 = some r → Wd G Λ μ H → va_S (inL Λ) s.heap H locs → lv_has ls 5 [(0, .ref x0), (3, .int x3), (4, .int x4)] → W p l e (rmd 1) s m args below meth c H locs 0 0 (MQ below (QV G Λ r) args s 0 0 (inL Λ)) (F0 m 11 ls []) := by
  have hx := hF.1
  have hb := hF.2.1
  have hA : ∀ q, inL Λ q → inL Λ q := fun _ h => h
  intro n
  induction n with
  | zero =>
    intro μ x4 H locs ls hs hW hS hl
    cases hs
  | succ n11 ih11 =>
    intro μ x4 H locs ls hs hW hS hl
    rw [lpX2_dropPlaces_11_s] at hs
    refine lv_iload hx hb dX2_dropPlaces_11 (lv_at hl 2 rfl) ?_
    refine lv_aload_n hx hb dX2_dropPlaces_13 rfl (lv_at hl 0 rfl) ?_
    refine gf_2_1 hF hKK hW kx0 dX2_dropPlaces_14 ?_
    refine lv_icmp_ge (tgt := 40) hx hb dX2_dropPlaces_17 (by decide) (fun c3 => ?_) (fun c3 => ?_)
    · have hs := ite_t hs c3
      refine lv_aload_n hx hb dX2_dropPlaces_40 rfl (lv_at hl 0 rfl) ?_
      refine lv_aload_n hx hb dX2_dropPlaces_41 rfl (lv_at hl 0 rfl) ?_
      refine gf_2_1 hF hKK hW kx0 dX2_dropPlaces_42 ?_
      refine lv_iload_n hx hb dX2_dropPlaces_45 rfl (lv_at hl 1 rfl) ?_
      refine lv_isub hx hb dX2_dropPlaces_46 ?_
      obtain ⟨q4, hq4, hs⟩ := obind_e hs
      refine end_v (run_V (q := (RX2, TX2, 2)) (ci := 2) hF hKK hW hS hl.1 kx0 (by decide) rfl (c_X2_shorten l hOK kx0 hq4) (kw_X2_31 hF.2.2.2.2 ⟨Nat.le_of_ble_eq_true rfl, Nat.le_of_ble_eq_true rfl⟩) rfl rfl (Nat.le_of_ble_eq_true rfl) dX2_dropPlaces_47 ⟨Nat.zero_le _, Nat.zero_le _⟩) hS (fun H locs hW hS => ?_)
      have h9 := Option.some.inj hs
      rw [← h9]
      exact wr_v hF hr hlocks hW hS dX2_dropPlaces_50
    · have hs := ite_f hs c3
      refine lv_aload_n hx hb dX2_dropPlaces_20 rfl (lv_at hl 0 rfl) ?_
      refine lv_iload hx hb dX2_dropPlaces_21 (lv_at hl 2 rfl) ?_
      refine lv_iload_n hx hb dX2_dropPlaces_23 rfl (lv_at hl 1 rfl) ?_
      refine lv_isub hx hb dX2_dropPlaces_24 ?_
      refine lv_aload_n hx hb dX2_dropPlaces_25 rfl (lv_at hl 0 rfl) ?_
      refine lv_iload hx hb dX2_dropPlaces_26 (lv_at hl 2 rfl) ?_
      obtain ⟨q5, hq5, hs⟩ := obind_e hs
      refine end_i (run_V (q := (RX2, TX2, 2)) (ci := 2) hF hKK hW hS hl.1 kx0 (by decide) rfl (c_X2_get l hOK kx0 hq5) (kw_X2_23 hF.2.2.2.2 ⟨Nat.le_of_ble_eq_true rfl, Nat.le_of_ble_eq_true rfl⟩) rfl rfl (Nat.le_of_ble_eq_true rfl) dX2_dropPlaces_28 ⟨Nat.zero_le _, Nat.zero_le _⟩) hS (fun H locs hW hS => ?_)
      obtain ⟨q6, hq6, hs⟩ := obind_e hs
      refine end_v (run_V (q := (RX2, TX2, 2)) (ci := 2) hF hKK hW hS hl.1 kx0 (by decide) rfl (c_X2_put l hOK kx0 hq6) (kw_X2_27 hF.2.2.2.2 ⟨Nat.le_of_ble_eq_true rfl, Nat.le_of_ble_eq_true rfl⟩) rfl rfl (Nat.le_of_ble_eq_true rfl) dX2_dropPlaces_31 ⟨Nat.zero_le _, Nat.zero_le _⟩) hS (fun H locs hW hS => ?_)
      obtain ⟨v7, ev7, hs⟩ := bnd_e hs
      refine lv_iinc (v := v7) (lv' := [(4, .int v7), (0, .ref x0), (3, .int x3)]) hx hb dX2_dropPlaces_34 hl (k := 2) rfl (by rw [ev7]; rfl) (by decide) rfl (fun ls hl => ?_)
      refine lv_goto (tgt := 11) hx hb dX2_dropPlaces_37 (by decide) ?_
      exact ih11 q6 v7 _ _ _ hs hW hS (lv_sub hl [1, 2, 0] rfl)

set_option maxHeartbeats 4000000 in
set_option maxRecDepth 100000 in
theorem c_X2_dropPlaces (l : Launch) {G : va_G} {Λ : Lay} {μ : Mem} (hOK : LayOK Λ) {a0 : Nat} (k0 : inK Λ a0 2) {a1 : Int32} {a2 : Int32} {r : Mem} (hs : sX2_dropPlaces Λ μ a0 a1 a2 = some r) : CM l G Λ yX2_dropPlaces cX2_dropPlaces 5 none 1 μ [.ref a0, .int a1, .int a2] (QV G Λ r) := by
  refine ofM (own := RX2) (by decide +kernel) rfl (Nat.le_of_ble_eq_true rfl) (fun p e s m args below meth c ls hF hKK hW hr hlocks hl => ?_)
  have hx := hF.1
  have hb := hF.2.1
  have hA : ∀ q, inL Λ q → inL Λ q := fun _ h => h
  have hS : va_S (inL Λ) s.heap s.heap [] := va_S.rf
  have hl : lv_has ls 5 [(0, .ref a0), (1, .int a1), (2, .int a2)] := hl
  unfold sX2_dropPlaces at hs
  refine lv_iload_n hx hb dX2_dropPlaces_0 rfl (lv_at hl 2 rfl) ?_
  refine lv_iload_n hx hb dX2_dropPlaces_1 rfl (lv_at hl 1 rfl) ?_
  refine lv_isub hx hb dX2_dropPlaces_2 ?_
  refine lv_iconst (v := (1 : Int32)) hx hb dX2_dropPlaces_3 (by decide) ?_
  refine lv_iadd hx hb dX2_dropPlaces_4 ?_
  obtain ⟨v1, ev1, hs⟩ := bnd_e hs
  refine top_i ev1 ?_
  refine lv_istore_n (lv' := [(3, .int v1), (0, .ref a0), (1, .int a1), (2, .int a2)]) hx hb dX2_dropPlaces_5 rfl hl (by decide) rfl (fun ls hl => ?_)
  refine lv_iload_n hx hb dX2_dropPlaces_6 rfl (lv_at hl 3 rfl) ?_
  refine lv_iconst (v := (1 : Int32)) hx hb dX2_dropPlaces_7 (by decide) ?_
  refine lv_iadd hx hb dX2_dropPlaces_8 ?_
  obtain ⟨v2, ev2, hs⟩ := bnd_e hs
  refine top_i ev2 ?_
  refine lv_istore (lv' := [(4, .int v2), (3, .int v1), (0, .ref a0), (1, .int a1), (2, .int a2)]) hx hb dX2_dropPlaces_9 hl (by decide) rfl (fun ls hl => ?_)
  exact cl_X2_dropPlaces_11 hOK hF hKK hr hlocks k0 fuel μ v2 _ _ _ hs hW hS (lv_sub hl [2, 1, 0] rfl)
