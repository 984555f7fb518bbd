/-! printed by wip/gen/build.py out of the decode rows: do not edit by hand -/
set_option maxHeartbeats 4000000 in
set_option maxRecDepth 100000 in
theorem cl_X5_putIn_78 {p : Program} {l : Launch} {e : Env} {s : State} {m : MethodId} {args : Array Value} {below : List Frame} {meth : Method} {c : Code} {G : va_G} {Λ : Lay} {r : Mem} (hOK : LayOK Λ) (hF : CallFix p m c cX5_putIn 8 s args tw RX5) (hKK : KK G Λ s) (hr : meth.sig.returnType = none) (hlocks : meth.locks = false) {x0 : Nat} (kx0 : inK Λ x0 5) {x1 : Int32} {x3 : Int32} {x4 : Int32} {x5 : Int32} {x6 : Int32} : ∀ (n : Nat) (μ : Mem) (x7 : Int32) (H : Heap) (locs : List Loc) (ls : Array Slot), lpX5_putIn_78 Λ x0 x1 x3 x4 x5 x6 n μ x7 = some r → Wd G Λ μ H → va_S (inL Λ) s.heap H locs → lv_has ls 8 [(0, .ref x0), (1, .int x1), (3, .int x3), (4, .int x4), (5, .int x5), (6, .int x6), (7, .int x7)] → W p l e (rmd 4) s m args below meth c H locs 0 0 (MQ below (QV G Λ r) args s 0 0 (inL Λ)) (F0 m 78 ls []) := by
  have hx := hF.1
  have hb := hF.2.1
  have hA : ∀ q, inL Λ q → inL Λ q := fun _ h => h
  intro n
  induction n with
  | zero =>
    intro μ x7 H locs ls hs hW hS hl
    cases hs
  | succ n78 ih78 =>
    intro μ x7 H locs ls hs hW hS hl
    rw [lpX5_putIn_78_s] at hs
    refine lv_iload hx hb dX5_putIn_78 (lv_at hl 6 rfl) ?_
    refine lv_aload_n hx hb dX5_putIn_80 rfl (lv_at hl 0 rfl) ?_
    refine lv_iload hx hb dX5_putIn_81 (lv_at hl 3 rfl) ?_
    obtain ⟨q10, hq10, hs⟩ := obind_e hs
    refine end_i (run_V (q := (RX5, TX5, 21)) (ci := 5) hF hKK hW hS hl.1 kx0 (by decide) rfl (c_X5_size l hOK kx0 hq10) (kw_X5_66 hF.2.2.2.2 ⟨Nat.le_of_ble_eq_true rfl, Nat.le_of_ble_eq_true rfl⟩) rfl rfl (Nat.le_of_ble_eq_true rfl) dX5_putIn_83 ⟨Nat.zero_le _, Nat.zero_le _⟩) hS (fun H locs hW hS => ?_)
    refine lv_icmp_ge (tgt := 115) hx hb dX5_putIn_86 (by decide) (fun c11 => ?_) (fun c11 => ?_)
    · have hs := ite_t hs c11
      refine lv_aload_n hx hb dX5_putIn_115 rfl (lv_at hl 0 rfl) ?_
      refine lv_iload_n hx hb dX5_putIn_116 rfl (lv_at hl 2 rfl) ?_
      refine lv_iload hx hb dX5_putIn_117 (lv_at hl 4 rfl) ?_
      refine lv_iload hx hb dX5_putIn_119 (lv_at hl 5 rfl) ?_
      refine lv_iadd hx hb dX5_putIn_121 ?_
      refine lv_iload_n hx hb dX5_putIn_122 rfl (lv_at hl 1 rfl) ?_
      obtain ⟨q12, hq12, hs⟩ := obind_e hs
      refine end_v (run_V (q := (RX5, TX5, 21)) (ci := 5) hF hKK hW hS hl.1 kx0 (by decide) rfl (c_X5_setPlace l hOK kx0 hq12) (kw_X5_95 hF.2.2.2.2 ⟨Nat.le_of_ble_eq_true rfl, Nat.le_of_ble_eq_true rfl⟩) rfl rfl (Nat.le_of_ble_eq_true rfl) dX5_putIn_123 ⟨Nat.zero_le _, Nat.zero_le _⟩) hS (fun H locs hW hS => ?_)
      refine lv_aload_n hx hb dX5_putIn_126 rfl (lv_at hl 0 rfl) ?_
      refine lv_iload_n hx hb dX5_putIn_127 rfl (lv_at hl 2 rfl) ?_
      refine lv_aload_n hx hb dX5_putIn_128 rfl (lv_at hl 0 rfl) ?_
      refine lv_iload_n hx hb dX5_putIn_129 rfl (lv_at hl 2 rfl) ?_
      obtain ⟨q13, hq13, hs⟩ := obind_e hs
      refine end_i (run_V (q := (RX5, TX5, 21)) (ci := 5) hF hKK hW hS hl.1 kx0 (by decide) rfl (c_X5_size l hOK kx0 hq13) (kw_X5_66 hF.2.2.2.2 ⟨Nat.le_of_ble_eq_true rfl, Nat.le_of_ble_eq_true rfl⟩) rfl rfl (Nat.le_of_ble_eq_true rfl) dX5_putIn_130 ⟨Nat.zero_le _, Nat.zero_le _⟩) hS (fun H locs hW hS => ?_)
      refine lv_iload hx hb dX5_putIn_133 (lv_at hl 5 rfl) ?_
      refine lv_iadd hx hb dX5_putIn_135 ?_
      obtain ⟨q14, hq14, hs⟩ := obind_e hs
      refine end_v (run_V (q := (RX5, TX5, 21)) (ci := 5) hF hKK hW hS hl.1 kx0 (by decide) rfl (c_X5_setSize l hOK kx0 hq14) (kw_X5_91 hF.2.2.2.2 ⟨Nat.le_of_ble_eq_true rfl, Nat.le_of_ble_eq_true rfl⟩) rfl rfl (Nat.le_of_ble_eq_true rfl) dX5_putIn_136 ⟨Nat.zero_le _, Nat.zero_le _⟩) hS (fun H locs hW hS => ?_)
      refine lv_aload_n hx hb dX5_putIn_139 rfl (lv_at hl 0 rfl) ?_
      refine lv_iload hx hb dX5_putIn_140 (lv_at hl 3 rfl) ?_
      refine lv_iconst (v := (0 : Int32)) hx hb dX5_putIn_142 (by decide) ?_
      obtain ⟨q15, hq15, hs⟩ := obind_e hs
      refine end_v (run_V (q := (RX5, TX5, 21)) (ci := 5) hF hKK hW hS hl.1 kx0 (by decide) rfl (c_X5_setSize l hOK kx0 hq15) (kw_X5_91 hF.2.2.2.2 ⟨Nat.le_of_ble_eq_true rfl, Nat.le_of_ble_eq_true rfl⟩) rfl rfl (Nat.le_of_ble_eq_true rfl) dX5_putIn_143 ⟨Nat.zero_le _, Nat.zero_le _⟩) hS (fun H locs hW hS => ?_)
      have h9 := Option.some.inj hs
      rw [← h9]
      exact wr_v hF hr hlocks hW hS dX5_putIn_146
    · have hs := ite_f hs c11
      refine lv_aload_n hx hb dX5_putIn_89 rfl (lv_at hl 0 rfl) ?_
      refine lv_iload_n hx hb dX5_putIn_90 rfl (lv_at hl 2 rfl) ?_
      refine lv_iload hx hb dX5_putIn_91 (lv_at hl 4 rfl) ?_
      refine lv_iconst (v := (1 : Int32)) hx hb dX5_putIn_93 (by decide) ?_
      refine lv_iadd hx hb dX5_putIn_94 ?_
      refine lv_iload hx hb dX5_putIn_95 (lv_at hl 6 rfl) ?_
      refine lv_iadd hx hb dX5_putIn_97 ?_
      refine lv_aload_n hx hb dX5_putIn_98 rfl (lv_at hl 0 rfl) ?_
      refine lv_iload hx hb dX5_putIn_99 (lv_at hl 3 rfl) ?_
      refine lv_iload hx hb dX5_putIn_101 (lv_at hl 6 rfl) ?_
      obtain ⟨q16, hq16, hs⟩ := obind_e hs
      refine end_i (run_V (q := (RX5, TX5, 21)) (ci := 5) hF hKK hW hS hl.1 kx0 (by decide) rfl (c_X5_place l hOK kx0 hq16) (kw_X5_70 hF.2.2.2.2 ⟨Nat.le_of_ble_eq_true rfl, Nat.le_of_ble_eq_true rfl⟩) rfl rfl (Nat.le_of_ble_eq_true rfl) dX5_putIn_103 ⟨Nat.zero_le _, Nat.zero_le _⟩) hS (fun H locs hW hS => ?_)
      obtain ⟨q17, hq17, hs⟩ := obind_e hs
      refine end_v (run_V (q := (RX5, TX5, 21)) (ci := 5) hF hKK hW hS hl.1 kx0 (by decide) rfl (c_X5_setPlace l hOK kx0 hq17) (kw_X5_95 hF.2.2.2.2 ⟨Nat.le_of_ble_eq_true rfl, Nat.le_of_ble_eq_true rfl⟩) rfl rfl (Nat.le_of_ble_eq_true rfl) dX5_putIn_106 ⟨Nat.zero_le _, Nat.zero_le _⟩) hS (fun H locs hW hS => ?_)
      obtain ⟨v18, ev18, hs⟩ := bnd_e hs
      refine lv_iinc (v := v18) (lv' := [(7, .int v18), (0, .ref x0), (1, .int x1), (3, .int x3), (4, .int x4), (5, .int x5), (6, .int x6)]) hx hb dX5_putIn_109 hl (k := 6) rfl (by rw [ev18]; rfl) (by decide) rfl (fun ls hl => ?_)
      refine lv_goto (tgt := 78) hx hb dX5_putIn_112 (by decide) ?_
      exact ih78 q17 v18 _ _ _ hs hW hS (lv_sub hl [1, 2, 3, 4, 5, 6, 0] rfl)

set_option maxHeartbeats 4000000 in
set_option maxRecDepth 100000 in
theorem cl_X5_putIn_45 {p : Program} {l : Launch} {e : Env} {s : State} {m : MethodId} {args : Array Value} {below : List Frame} {meth : Method} {c : Code} {G : va_G} {Λ : Lay} {r : Mem} (hOK : LayOK Λ) (hF : CallFix p m c cX5_putIn 8 s args tw RX5) (hKK : KK G Λ s) (hr : meth.sig.returnType = none) (hlocks : meth.locks = false) {x0 : Nat} (kx0 : inK Λ x0 5) {x1 : Int32} {x3 : Int32} {x4 : Int32} {x5 : Int32} {x6 : Int32} : ∀ (n : Nat) (μ : Mem) (x7 : Int32) (H : Heap) (locs : List Loc) (ls : Array Slot), lpX5_putIn_45 Λ x0 x1 x3 x4 x5 x6 n μ x7 = some r → Wd G Λ μ H → va_S (inL Λ) s.heap H locs → lv_has ls 8 [(0, .ref x0), (1, .int x1), (3, .int x3), (4, .int x4), (5, .int x5), (6, .int x6), (7, .int x7)] → W p l e (rmd 4) s m args below meth c H locs 0 0 (MQ below (QV G Λ r) args s 0 0 (inL Λ)) (F0 m 45 ls []) := by
  have hx := hF.1
  have hb := hF.2.1
  have hA : ∀ q, inL Λ q → inL Λ q := fun _ h => h
  intro n
  induction n with
  | zero =>
    intro μ x7 H locs ls hs hW hS hl
    cases hs
  | succ n45 ih45 =>
    intro μ x7 H locs ls hs hW hS hl
    rw [lpX5_putIn_45_s] at hs
    refine lv_iload hx hb dX5_putIn_45 (lv_at hl 6 rfl) ?_
    refine lv_iload hx hb dX5_putIn_47 (lv_at hl 4 rfl) ?_
    refine lv_icmp_le (tgt := 75) hx hb dX5_putIn_49 (by decide) (fun c9 => ?_) (fun c9 => ?_)
    · have hs := ite_t hs c9
      refine lv_iconst (v := (0 : Int32)) hx hb dX5_putIn_75 (by decide) ?_
      refine lv_istore (lv' := [(7, .int (0 : Int32)), (0, .ref x0), (1, .int x1), (3, .int x3), (4, .int x4), (5, .int x5), (6, .int x6)]) hx hb dX5_putIn_76 hl (by decide) rfl (fun ls hl => ?_)
      exact cl_X5_putIn_78 hOK hF hKK hr hlocks kx0 fuel μ (0 : Int32) _ _ _ hs hW hS (lv_sub hl [1, 2, 3, 4, 5, 6, 0] rfl)
    · have hs := ite_f hs c9
      refine lv_aload_n hx hb dX5_putIn_52 rfl (lv_at hl 0 rfl) ?_
      refine lv_iload_n hx hb dX5_putIn_53 rfl (lv_at hl 2 rfl) ?_
      refine lv_iload hx hb dX5_putIn_54 (lv_at hl 6 rfl) ?_
      refine lv_iload hx hb dX5_putIn_56 (lv_at hl 5 rfl) ?_
      refine lv_iadd hx hb dX5_putIn_58 ?_
      refine lv_aload_n hx hb dX5_putIn_59 rfl (lv_at hl 0 rfl) ?_
      refine lv_iload_n hx hb dX5_putIn_60 rfl (lv_at hl 2 rfl) ?_
      refine lv_iload hx hb dX5_putIn_61 (lv_at hl 6 rfl) ?_
      obtain ⟨q19, hq19, hs⟩ := obind_e hs
      refine end_i (run_V (q := (RX5, TX5, 21)) (ci := 5) hF hKK hW hS hl.1 kx0 (by decide) rfl (c_X5_place l hOK kx0 hq19) (kw_X5_70 hF.2.2.2.2 ⟨Nat.le_of_ble_eq_true rfl, Nat.le_of_ble_eq_true rfl⟩) rfl rfl (Nat.le_of_ble_eq_true rfl) dX5_putIn_63 ⟨Nat.zero_le _, Nat.zero_le _⟩) hS (fun H locs hW hS => ?_)
      obtain ⟨q20, hq20, hs⟩ := obind_e hs
      refine end_v (run_V (q := (RX5, TX5, 21)) (ci := 5) hF hKK hW hS hl.1 kx0 (by decide) rfl (c_X5_setPlace l hOK kx0 hq20) (kw_X5_95 hF.2.2.2.2 ⟨Nat.le_of_ble_eq_true rfl, Nat.le_of_ble_eq_true rfl⟩) rfl rfl (Nat.le_of_ble_eq_true rfl) dX5_putIn_66 ⟨Nat.zero_le _, Nat.zero_le _⟩) hS (fun H locs hW hS => ?_)
      obtain ⟨v21, ev21, hs⟩ := bnd_e hs
      refine lv_iinc (v := v21) (lv' := [(7, .int v21), (0, .ref x0), (1, .int x1), (3, .int x3), (4, .int x4), (5, .int x5), (6, .int x6)]) hx hb dX5_putIn_69 hl (k := 6) rfl (by rw [ev21]; rfl) (by decide) rfl (fun ls hl => ?_)
      refine lv_goto (tgt := 45) hx hb dX5_putIn_72 (by decide) ?_
      exact ih45 q20 v21 _ _ _ hs hW hS (lv_sub hl [1, 2, 3, 4, 5, 6, 0] rfl)

set_option maxHeartbeats 4000000 in
set_option maxRecDepth 100000 in
theorem c_X5_putIn (l : Launch) {G : va_G} {Λ : Lay} {μ : Mem} (hOK : LayOK Λ) {a0 : Nat} (k0 : inK Λ a0 5) {a1 : Int32} {a2 : Int32} {r : Mem} (hs : sX5_putIn Λ μ a0 a1 a2 = some r) : CM l G Λ yX5_putIn cX5_putIn 8 none 4 μ [.ref a0, .int a1, .int a2] (QV G Λ r) := by
  refine ofM (own := RX5) (by decide +kernel) rfl (Nat.le_of_ble_eq_true rfl) (fun p e s m args below meth c ls hF hKK hW hr hlocks hl => ?_)
  have hx := hF.1
  have hb := hF.2.1
  have hA : ∀ q, inL Λ q → inL Λ q := fun _ h => h
  have hS : va_S (inL Λ) s.heap s.heap [] := va_S.rf
  have hl : lv_has ls 8 [(0, .ref a0), (1, .int a1), (2, .int a2)] := hl
  unfold sX5_putIn at hs
  refine lv_aload_n hx hb dX5_putIn_0 rfl (lv_at hl 0 rfl) ?_
  refine lv_iload_n hx hb dX5_putIn_1 rfl (lv_at hl 2 rfl) ?_
  obtain ⟨q1, hq1, hs⟩ := obind_e hs
  refine end_v (run_V (q := (RX5, TX5, 21)) (ci := 5) hF hKK hW hS hl.1 k0 (by decide) rfl (c_X5_turnTo l hOK k0 hq1) (kw_X5_106 hF.2.2.2.2 ⟨Nat.le_of_ble_eq_true rfl, Nat.le_of_ble_eq_true rfl⟩) rfl rfl (Nat.le_of_ble_eq_true rfl) dX5_putIn_2 ⟨Nat.zero_le _, Nat.zero_le _⟩) hS (fun H locs hW hS => ?_)
  refine lv_aload_n hx hb dX5_putIn_5 rfl (lv_at hl 0 rfl) ?_
  refine lv_iload_n hx hb dX5_putIn_6 rfl (lv_at hl 1 rfl) ?_
  obtain ⟨q2, hq2, hs⟩ := obind_e hs
  refine end_i (run_V (q := (RX5, TX5, 21)) (ci := 5) hF hKK hW hS hl.1 k0 (by decide) rfl (c_X5_roundOf l hOK k0 hq2) (kw_X5_77 hF.2.2.2.2 ⟨Nat.le_of_ble_eq_true rfl, Nat.le_of_ble_eq_true rfl⟩) rfl rfl (Nat.le_of_ble_eq_true rfl) dX5_putIn_7 ⟨Nat.zero_le _, Nat.zero_le _⟩) hS (fun H locs hW hS => ?_)
  refine lv_istore_n (lv' := [(3, .int q2), (0, .ref a0), (1, .int a1), (2, .int a2)]) hx hb dX5_putIn_10 rfl hl (by decide) rfl (fun ls hl => ?_)
  refine lv_aload_n hx hb dX5_putIn_11 rfl (lv_at hl 1 rfl) ?_
  refine lv_iload_n hx hb dX5_putIn_12 rfl (lv_at hl 3 rfl) ?_
  obtain ⟨q3, hq3, hs⟩ := obind_e hs
  refine end_i (run_V (q := (RX5, TX5, 21)) (ci := 5) hF hKK hW hS hl.1 k0 (by decide) rfl (c_X5_roundOf l hOK k0 hq3) (kw_X5_77 hF.2.2.2.2 ⟨Nat.le_of_ble_eq_true rfl, Nat.le_of_ble_eq_true rfl⟩) rfl rfl (Nat.le_of_ble_eq_true rfl) dX5_putIn_13 ⟨Nat.zero_le _, Nat.zero_le _⟩) hS (fun H locs hW hS => ?_)
  refine lv_istore (lv' := [(4, .int q3), (3, .int q2), (0, .ref a0), (1, .int a1), (2, .int a2)]) hx hb dX5_putIn_16 hl (by decide) rfl (fun ls hl => ?_)
  refine lv_aload_n hx hb dX5_putIn_18 rfl (lv_at hl 2 rfl) ?_
  refine lv_iload_n hx hb dX5_putIn_19 rfl (lv_at hl 1 rfl) ?_
  refine lv_iload_n hx hb dX5_putIn_20 rfl (lv_at hl 3 rfl) ?_
  obtain ⟨q4, hq4, hs⟩ := obind_e hs
  refine end_i (run_V (q := (RX5, TX5, 21)) (ci := 5) hF hKK hW hS hl.1 k0 (by decide) rfl (c_X5_firstIn l hOK k0 hq4) (kw_X5_74 hF.2.2.2.2 ⟨Nat.le_of_ble_eq_true rfl, Nat.le_of_ble_eq_true rfl⟩) rfl rfl (Nat.le_of_ble_eq_true rfl) dX5_putIn_21 ⟨Nat.zero_le _, Nat.zero_le _⟩) hS (fun H locs hW hS => ?_)
  refine lv_istore (lv' := [(5, .int q4), (4, .int q3), (3, .int q2), (0, .ref a0), (1, .int a1), (2, .int a2)]) hx hb dX5_putIn_24 hl (by decide) rfl (fun ls hl => ?_)
  refine lv_aload_n hx hb dX5_putIn_26 rfl (lv_at hl 3 rfl) ?_
  refine lv_iload hx hb dX5_putIn_27 (lv_at hl 1 rfl) ?_
  obtain ⟨q5, hq5, hs⟩ := obind_e hs
  refine end_i (run_V (q := (RX5, TX5, 21)) (ci := 5) hF hKK hW hS hl.1 k0 (by decide) rfl (c_X5_size l hOK k0 hq5) (kw_X5_66 hF.2.2.2.2 ⟨Nat.le_of_ble_eq_true rfl, Nat.le_of_ble_eq_true rfl⟩) rfl rfl (Nat.le_of_ble_eq_true rfl) dX5_putIn_29 ⟨Nat.zero_le _, Nat.zero_le _⟩) hS (fun H locs hW hS => ?_)
  refine lv_iconst (v := (1 : Int32)) hx hb dX5_putIn_32 (by decide) ?_
  refine lv_iadd hx hb dX5_putIn_33 ?_
  obtain ⟨v6, ev6, hs⟩ := bnd_e hs
  refine top_i ev6 ?_
  refine lv_istore (lv' := [(6, .int v6), (5, .int q4), (4, .int q3), (3, .int q2), (0, .ref a0), (1, .int a1), (2, .int a2)]) hx hb dX5_putIn_34 hl (by decide) rfl (fun ls hl => ?_)
  refine lv_aload_n hx hb dX5_putIn_36 rfl (lv_at hl 4 rfl) ?_
  refine lv_iload_n hx hb dX5_putIn_37 rfl (lv_at hl 3 rfl) ?_
  obtain ⟨q7, hq7, hs⟩ := obind_e hs
  refine end_i (run_V (q := (RX5, TX5, 21)) (ci := 5) hF hKK hW hS hl.1 k0 (by decide) rfl (c_X5_size l hOK k0 hq7) (kw_X5_66 hF.2.2.2.2 ⟨Nat.le_of_ble_eq_true rfl, Nat.le_of_ble_eq_true rfl⟩) rfl rfl (Nat.le_of_ble_eq_true rfl) dX5_putIn_38 ⟨Nat.zero_le _, Nat.zero_le _⟩) hS (fun H locs hW hS => ?_)
  refine lv_iconst (v := (1 : Int32)) hx hb dX5_putIn_41 (by decide) ?_
  refine lv_isub hx hb dX5_putIn_42 ?_
  obtain ⟨v8, ev8, hs⟩ := bnd_e hs
  refine top_i ev8 ?_
  refine lv_istore (lv' := [(7, .int v8), (6, .int v6), (5, .int q4), (4, .int q3), (3, .int q2), (0, .ref a0), (1, .int a1), (2, .int a2)]) hx hb dX5_putIn_43 hl (by decide) rfl (fun ls hl => ?_)
  exact cl_X5_putIn_45 hOK hF hKK hr hlocks k0 fuel q1 v8 _ _ _ hs hW hS (lv_sub hl [5, 6, 4, 3, 2, 1, 0] rfl)

set_option maxHeartbeats 4000000 in
set_option maxRecDepth 100000 in
theorem c_X5_join (l : Launch) {G : va_G} {Λ : Lay} {μ : Mem} (hOK : LayOK Λ) {a0 : Nat} (k0 : inK Λ a0 5) {a1 : Int32} {a2 : Int32} {r : (Int32 × Mem)} (hs : sX5_join Λ μ a0 a1 a2 = some r) : CM l G Λ yX5_join cX5_join 3 (some .int) 5 μ [.ref a0, .int a1, .int a2] (QI G Λ r.1 r.2) := by
  refine ofM (own := RX5) (by decide +kernel) rfl (Nat.le_of_ble_eq_true rfl) (fun p e s m args below meth c ls hF hKK hW hr hlocks hl => ?_)
  have hx := hF.1
  have hb := hF.2.1
  have hA : ∀ q, inL Λ q → inL Λ q := fun _ h => h
  have hS : va_S (inL Λ) s.heap s.heap [] := va_S.rf
  have hl : lv_has ls 3 [(0, .ref a0), (1, .int a1), (2, .int a2)] := hl
  unfold sX5_join at hs
  refine lv_aload_n hx hb dX5_join_0 rfl (lv_at hl 0 rfl) ?_
  refine lv_iload_n hx hb dX5_join_1 rfl (lv_at hl 1 rfl) ?_
  obtain ⟨q1, hq1, hs⟩ := obind_e hs
  refine end_i (run_V (q := (RX5, TX5, 21)) (ci := 5) hF hKK hW hS hl.1 k0 (by decide) rfl (c_X5_isBank l hOK k0 hq1) (kw_X5_99 hF.2.2.2.2 ⟨Nat.le_of_ble_eq_true rfl, Nat.le_of_ble_eq_true rfl⟩) rfl rfl (Nat.le_of_ble_eq_true rfl) dX5_join_2 ⟨Nat.zero_le _, Nat.zero_le _⟩) hS (fun H locs hW hS => ?_)
  refine lv_if_eq (tgt := 16) hx hb dX5_join_5 (by decide) (fun c2 => ?_) (fun c2 => ?_)
  · have hs := ite_t hs c2
    refine lv_iconst (v := (-1 : Int32)) hx hb dX5_join_16 (by decide) ?_
    have h9 := Option.some.inj hs
    rw [← h9]
    exact wr_i hF hr hlocks (vp_nar_int _) hW hS dX5_join_17
  · have hs := ite_f hs c2
    refine lv_aload_n hx hb dX5_join_8 rfl (lv_at hl 0 rfl) ?_
    refine lv_iload_n hx hb dX5_join_9 rfl (lv_at hl 2 rfl) ?_
    obtain ⟨q3, hq3, hs⟩ := obind_e hs
    refine end_i (run_V (q := (RX5, TX5, 21)) (ci := 5) hF hKK hW hS hl.1 k0 (by decide) rfl (c_X5_isBank l hOK k0 hq3) (kw_X5_99 hF.2.2.2.2 ⟨Nat.le_of_ble_eq_true rfl, Nat.le_of_ble_eq_true rfl⟩) rfl rfl (Nat.le_of_ble_eq_true rfl) dX5_join_10 ⟨Nat.zero_le _, Nat.zero_le _⟩) hS (fun H locs hW hS => ?_)
    refine lv_if_ne (tgt := 18) hx hb dX5_join_13 (by decide) (fun c4 => ?_) (fun c4 => ?_)
    · have hs := ite_f hs c4
      refine lv_aload_n hx hb dX5_join_18 rfl (lv_at hl 0 rfl) ?_
      refine lv_iload_n hx hb dX5_join_19 rfl (lv_at hl 1 rfl) ?_
      refine lv_iload_n hx hb dX5_join_20 rfl (lv_at hl 2 rfl) ?_
      refine lv_icmp_ne (tgt := 28) hx hb dX5_join_21 (by decide) (fun c5 => ?_) (fun c5 => ?_)
      · have hs := ite_f hs c5
        refine lv_iconst (v := (0 : Int32)) hx hb dX5_join_28 (by decide) ?_
        refine lv_iconst (v := (2 : Int32)) hx hb dX5_join_29 (by decide) ?_
        refine lv_iload_n hx hb dX5_join_30 rfl (lv_at hl 1 rfl) ?_
        obtain ⟨q6, hq6, hs⟩ := obind_e hs
        refine end_i (run_V (q := (RX5, TX5, 21)) (ci := 5) hF hKK hW hS hl.1 k0 (by decide) rfl (c_X5_refuse l hOK k0 hq6) (kw_X5_80 hF.2.2.2.2 ⟨Nat.le_of_ble_eq_true rfl, Nat.le_of_ble_eq_true rfl⟩) rfl rfl (Nat.le_of_ble_eq_true rfl) dX5_join_31 ⟨Nat.zero_le _, Nat.zero_le _⟩) hS (fun H locs hW hS => ?_)
        refine lv_if_ne (tgt := 56) hx hb dX5_join_34 (by decide) (fun c7 => ?_) (fun c7 => ?_)
        · have hs := ite_f hs c7
          refine lv_bipush (v := (-3 : Int32)) hx hb dX5_join_56 (by decide) ?_
          have h9 := Option.some.inj hs
          rw [← h9]
          exact wr_i hF hr hlocks (vp_nar_int _) hW hS dX5_join_58
        · have hs := ite_t hs c7
          refine lv_aload_n hx hb dX5_join_37 rfl (lv_at hl 0 rfl) ?_
          refine lv_aload_n hx hb dX5_join_38 rfl (lv_at hl 0 rfl) ?_
          refine lv_iload_n hx hb dX5_join_39 rfl (lv_at hl 1 rfl) ?_
          refine lv_iload_n hx hb dX5_join_40 rfl (lv_at hl 2 rfl) ?_
          obtain ⟨q8, hq8, hs⟩ := obind_e hs
          refine end_i (run_V (q := (RX5, TX5, 21)) (ci := 5) hF hKK hW hS hl.1 k0 (by decide) rfl (c_X5_areOne l hOK k0 hq8) (kw_X5_110 hF.2.2.2.2 ⟨Nat.le_of_ble_eq_true rfl, Nat.le_of_ble_eq_true rfl⟩) rfl rfl (Nat.le_of_ble_eq_true rfl) dX5_join_41 ⟨Nat.zero_le _, Nat.zero_le _⟩) hS (fun H locs hW hS => ?_)
          refine lv_iconst (v := (3 : Int32)) hx hb dX5_join_44 (by decide) ?_
          refine lv_aload_n hx hb dX5_join_45 rfl (lv_at hl 0 rfl) ?_
          refine lv_iload_n hx hb dX5_join_46 rfl (lv_at hl 1 rfl) ?_
          obtain ⟨q9, hq9, hs⟩ := obind_e hs
          refine end_i (run_V (q := (RX5, TX5, 21)) (ci := 5) hF hKK hW hS hl.1 k0 (by decide) rfl (c_X5_root l hOK k0 hq9) (kw_X5_114 hF.2.2.2.2 ⟨Nat.le_of_ble_eq_true rfl, Nat.le_of_ble_eq_true rfl⟩) rfl rfl (Nat.le_of_ble_eq_true rfl) dX5_join_47 ⟨Nat.zero_le _, Nat.zero_le _⟩) hS (fun H locs hW hS => ?_)
          obtain ⟨q10, hq10, hs⟩ := obind_e hs
          refine end_i (run_V (q := (RX5, TX5, 21)) (ci := 5) hF hKK hW hS hl.1 k0 (by decide) rfl (c_X5_refuse l hOK k0 hq10) (kw_X5_80 hF.2.2.2.2 ⟨Nat.le_of_ble_eq_true rfl, Nat.le_of_ble_eq_true rfl⟩) rfl rfl (Nat.le_of_ble_eq_true rfl) dX5_join_50 ⟨Nat.zero_le _, Nat.zero_le _⟩) hS (fun H locs hW hS => ?_)
          refine lv_if_eq (tgt := 59) hx hb dX5_join_53 (by decide) (fun c11 => ?_) (fun c11 => ?_)
          · have hs := ite_t hs c11
            refine lv_aload_n hx hb dX5_join_59 rfl (lv_at hl 0 rfl) ?_
            obtain ⟨q12, hq12, hs⟩ := obind_e hs
            refine end_v (run_V (q := (RX5, TX5, 21)) (ci := 5) hF hKK hW hS hl.1 k0 (by decide) rfl (c_X5_change l hOK k0 hq12) (kw_X5_84 hF.2.2.2.2 ⟨Nat.le_of_ble_eq_true rfl, Nat.le_of_ble_eq_true rfl⟩) rfl rfl (Nat.le_of_ble_eq_true rfl) dX5_join_60 ⟨Nat.zero_le _, Nat.zero_le _⟩) hS (fun H locs hW hS => ?_)
            refine lv_aload_n hx hb dX5_join_63 rfl (lv_at hl 0 rfl) ?_
            refine lv_iload_n hx hb dX5_join_64 rfl (lv_at hl 1 rfl) ?_
            refine lv_iload_n hx hb dX5_join_65 rfl (lv_at hl 2 rfl) ?_
            obtain ⟨q13, hq13, hs⟩ := obind_e hs
            refine end_v (run_V (q := (RX5, TX5, 21)) (ci := 5) hF hKK hW hS hl.1 k0 (by decide) rfl (c_X5_putIn l hOK k0 hq13) (kw_X5_117 hF.2.2.2.2 ⟨Nat.le_of_ble_eq_true rfl, Nat.le_of_ble_eq_true rfl⟩) rfl rfl (Nat.le_of_ble_eq_true rfl) dX5_join_66 ⟨Nat.zero_le _, Nat.zero_le _⟩) hS (fun H locs hW hS => ?_)
            refine lv_aload_n hx hb dX5_join_69 rfl (lv_at hl 0 rfl) ?_
            refine gf_5_0 hF hKK hW k0 dX5_join_70 ?_
            refine lv_iconst (v := (1 : Int32)) hx hb dX5_join_73 (by decide) ?_
            refine lv_dup2_11 hx hb dX5_join_74 rfl rfl ?_
            obtain ⟨g14, hs⟩ := gd_some hs
            refine ga_ld hF hKK hW (lk_5_0 hOK k0) g14 dX5_join_75 ?_
            refine lv_iconst (v := (1 : Int32)) hx hb dX5_join_76 (by decide) ?_
            refine lv_iadd hx hb dX5_join_77 ?_
            obtain ⟨g15, hs⟩ := gd_some hs
            obtain ⟨μ16, eμ16, hs⟩ := bnd_e hs
            refine ga_st hOK hF hKK hW hS hA (lk_5_0 hOK k0) g15 eμ16 dX5_join_78 (fun H locs hW hS => ?_)
            refine lv_aload_n hx hb dX5_join_79 rfl (lv_at hl 0 rfl) ?_
            refine lv_aload_n hx hb dX5_join_80 rfl (lv_at hl 0 rfl) ?_
            refine lv_iload_n hx hb dX5_join_81 rfl (lv_at hl 1 rfl) ?_
            obtain ⟨q17, hq17, hs⟩ := obind_e hs
            refine end_i (run_V (q := (RX5, TX5, 21)) (ci := 5) hF hKK hW hS hl.1 k0 (by decide) rfl (c_X5_roundOf l hOK k0 hq17) (kw_X5_77 hF.2.2.2.2 ⟨Nat.le_of_ble_eq_true rfl, Nat.le_of_ble_eq_true rfl⟩) rfl rfl (Nat.le_of_ble_eq_true rfl) dX5_join_82 ⟨Nat.zero_le _, Nat.zero_le _⟩) hS (fun H locs hW hS => ?_)
            obtain ⟨q18, hq18, hs⟩ := obind_e hs
            refine end_i (run_V (q := (RX5, TX5, 21)) (ci := 5) hF hKK hW hS hl.1 k0 (by decide) rfl (c_X5_banksOf l hOK k0 hq18) (kw_X5_120 hF.2.2.2.2 ⟨Nat.le_of_ble_eq_true rfl, Nat.le_of_ble_eq_true rfl⟩) rfl rfl (Nat.le_of_ble_eq_true rfl) dX5_join_85 ⟨Nat.zero_le _, Nat.zero_le _⟩) hS (fun H locs hW hS => ?_)
            have h9 := Option.some.inj hs
            rw [← h9]
            exact wr_i hF hr hlocks (vp_nar_int _) hW hS dX5_join_88
          · have hs := ite_f hs c11
            refine lv_bipush (v := (-3 : Int32)) hx hb dX5_join_56 (by decide) ?_
            have h9 := Option.some.inj hs
            rw [← h9]
            exact wr_i hF hr hlocks (vp_nar_int _) hW hS dX5_join_58
      · have hs := ite_t hs c5
        refine lv_iconst (v := (1 : Int32)) hx hb dX5_join_24 (by decide) ?_
        refine lv_goto (tgt := 29) hx hb dX5_join_25 (by decide) ?_
        refine lv_iconst (v := (2 : Int32)) hx hb dX5_join_29 (by decide) ?_
        refine lv_iload_n hx hb dX5_join_30 rfl (lv_at hl 1 rfl) ?_
        obtain ⟨q19, hq19, hs⟩ := obind_e hs
        refine end_i (run_V (q := (RX5, TX5, 21)) (ci := 5) hF hKK hW hS hl.1 k0 (by decide) rfl (c_X5_refuse l hOK k0 hq19) (kw_X5_80 hF.2.2.2.2 ⟨Nat.le_of_ble_eq_true rfl, Nat.le_of_ble_eq_true rfl⟩) rfl rfl (Nat.le_of_ble_eq_true rfl) dX5_join_31 ⟨Nat.zero_le _, Nat.zero_le _⟩) hS (fun H locs hW hS => ?_)
        refine lv_if_ne (tgt := 56) hx hb dX5_join_34 (by decide) (fun c20 => ?_) (fun c20 => ?_)
        · have hs := ite_f hs c20
          refine lv_bipush (v := (-3 : Int32)) hx hb dX5_join_56 (by decide) ?_
          have h9 := Option.some.inj hs
          rw [← h9]
          exact wr_i hF hr hlocks (vp_nar_int _) hW hS dX5_join_58
        · have hs := ite_t hs c20
          refine lv_aload_n hx hb dX5_join_37 rfl (lv_at hl 0 rfl) ?_
          refine lv_aload_n hx hb dX5_join_38 rfl (lv_at hl 0 rfl) ?_
          refine lv_iload_n hx hb dX5_join_39 rfl (lv_at hl 1 rfl) ?_
          refine lv_iload_n hx hb dX5_join_40 rfl (lv_at hl 2 rfl) ?_
          obtain ⟨q21, hq21, hs⟩ := obind_e hs
          refine end_i (run_V (q := (RX5, TX5, 21)) (ci := 5) hF hKK hW hS hl.1 k0 (by decide) rfl (c_X5_areOne l hOK k0 hq21) (kw_X5_110 hF.2.2.2.2 ⟨Nat.le_of_ble_eq_true rfl, Nat.le_of_ble_eq_true rfl⟩) rfl rfl (Nat.le_of_ble_eq_true rfl) dX5_join_41 ⟨Nat.zero_le _, Nat.zero_le _⟩) hS (fun H locs hW hS => ?_)
          refine lv_iconst (v := (3 : Int32)) hx hb dX5_join_44 (by decide) ?_
          refine lv_aload_n hx hb dX5_join_45 rfl (lv_at hl 0 rfl) ?_
          refine lv_iload_n hx hb dX5_join_46 rfl (lv_at hl 1 rfl) ?_
          obtain ⟨q22, hq22, hs⟩ := obind_e hs
          refine end_i (run_V (q := (RX5, TX5, 21)) (ci := 5) hF hKK hW hS hl.1 k0 (by decide) rfl (c_X5_root l hOK k0 hq22) (kw_X5_114 hF.2.2.2.2 ⟨Nat.le_of_ble_eq_true rfl, Nat.le_of_ble_eq_true rfl⟩) rfl rfl (Nat.le_of_ble_eq_true rfl) dX5_join_47 ⟨Nat.zero_le _, Nat.zero_le _⟩) hS (fun H locs hW hS => ?_)
          obtain ⟨q23, hq23, hs⟩ := obind_e hs
          refine end_i (run_V (q := (RX5, TX5, 21)) (ci := 5) hF hKK hW hS hl.1 k0 (by decide) rfl (c_X5_refuse l hOK k0 hq23) (kw_X5_80 hF.2.2.2.2 ⟨Nat.le_of_ble_eq_true rfl, Nat.le_of_ble_eq_true rfl⟩) rfl rfl (Nat.le_of_ble_eq_true rfl) dX5_join_50 ⟨Nat.zero_le _, Nat.zero_le _⟩) hS (fun H locs hW hS => ?_)
          refine lv_if_eq (tgt := 59) hx hb dX5_join_53 (by decide) (fun c24 => ?_) (fun c24 => ?_)
          · have hs := ite_t hs c24
            refine lv_aload_n hx hb dX5_join_59 rfl (lv_at hl 0 rfl) ?_
            obtain ⟨q25, hq25, hs⟩ := obind_e hs
            refine end_v (run_V (q := (RX5, TX5, 21)) (ci := 5) hF hKK hW hS hl.1 k0 (by decide) rfl (c_X5_change l hOK k0 hq25) (kw_X5_84 hF.2.2.2.2 ⟨Nat.le_of_ble_eq_true rfl, Nat.le_of_ble_eq_true rfl⟩) rfl rfl (Nat.le_of_ble_eq_true rfl) dX5_join_60 ⟨Nat.zero_le _, Nat.zero_le _⟩) hS (fun H locs hW hS => ?_)
            refine lv_aload_n hx hb dX5_join_63 rfl (lv_at hl 0 rfl) ?_
            refine lv_iload_n hx hb dX5_join_64 rfl (lv_at hl 1 rfl) ?_
            refine lv_iload_n hx hb dX5_join_65 rfl (lv_at hl 2 rfl) ?_
            obtain ⟨q26, hq26, hs⟩ := obind_e hs
            refine end_v (run_V (q := (RX5, TX5, 21)) (ci := 5) hF hKK hW hS hl.1 k0 (by decide) rfl (c_X5_putIn l hOK k0 hq26) (kw_X5_117 hF.2.2.2.2 ⟨Nat.le_of_ble_eq_true rfl, Nat.le_of_ble_eq_true rfl⟩) rfl rfl (Nat.le_of_ble_eq_true rfl) dX5_join_66 ⟨Nat.zero_le _, Nat.zero_le _⟩) hS (fun H locs hW hS => ?_)
            refine lv_aload_n hx hb dX5_join_69 rfl (lv_at hl 0 rfl) ?_
            refine gf_5_0 hF hKK hW k0 dX5_join_70 ?_
            refine lv_iconst (v := (1 : Int32)) hx hb dX5_join_73 (by decide) ?_
            refine lv_dup2_11 hx hb dX5_join_74 rfl rfl ?_
            obtain ⟨g27, hs⟩ := gd_some hs
            refine ga_ld hF hKK hW (lk_5_0 hOK k0) g27 dX5_join_75 ?_
            refine lv_iconst (v := (1 : Int32)) hx hb dX5_join_76 (by decide) ?_
            refine lv_iadd hx hb dX5_join_77 ?_
            obtain ⟨g28, hs⟩ := gd_some hs
            obtain ⟨μ29, eμ29, hs⟩ := bnd_e hs
            refine ga_st hOK hF hKK hW hS hA (lk_5_0 hOK k0) g28 eμ29 dX5_join_78 (fun H locs hW hS => ?_)
            refine lv_aload_n hx hb dX5_join_79 rfl (lv_at hl 0 rfl) ?_
            refine lv_aload_n hx hb dX5_join_80 rfl (lv_at hl 0 rfl) ?_
            refine lv_iload_n hx hb dX5_join_81 rfl (lv_at hl 1 rfl) ?_
            obtain ⟨q30, hq30, hs⟩ := obind_e hs
            refine end_i (run_V (q := (RX5, TX5, 21)) (ci := 5) hF hKK hW hS hl.1 k0 (by decide) rfl (c_X5_roundOf l hOK k0 hq30) (kw_X5_77 hF.2.2.2.2 ⟨Nat.le_of_ble_eq_true rfl, Nat.le_of_ble_eq_true rfl⟩) rfl rfl (Nat.le_of_ble_eq_true rfl) dX5_join_82 ⟨Nat.zero_le _, Nat.zero_le _⟩) hS (fun H locs hW hS => ?_)
            obtain ⟨q31, hq31, hs⟩ := obind_e hs
            refine end_i (run_V (q := (RX5, TX5, 21)) (ci := 5) hF hKK hW hS hl.1 k0 (by decide) rfl (c_X5_banksOf l hOK k0 hq31) (kw_X5_120 hF.2.2.2.2 ⟨Nat.le_of_ble_eq_true rfl, Nat.le_of_ble_eq_true rfl⟩) rfl rfl (Nat.le_of_ble_eq_true rfl) dX5_join_85 ⟨Nat.zero_le _, Nat.zero_le _⟩) hS (fun H locs hW hS => ?_)
            have h9 := Option.some.inj hs
            rw [← h9]
            exact wr_i hF hr hlocks (vp_nar_int _) hW hS dX5_join_88
          · have hs := ite_f hs c24
            refine lv_bipush (v := (-3 : Int32)) hx hb dX5_join_56 (by decide) ?_
            have h9 := Option.some.inj hs
            rw [← h9]
            exact wr_i hF hr hlocks (vp_nar_int _) hW hS dX5_join_58
    · have hs := ite_t hs c4
      refine lv_iconst (v := (-1 : Int32)) hx hb dX5_join_16 (by decide) ?_
      have h9 := Option.some.inj hs
      rw [← h9]
      exact wr_i hF hr hlocks (vp_nar_int _) hW hS dX5_join_17

set_option maxHeartbeats 4000000 in
set_option maxRecDepth 100000 in
theorem c_X5_risen (l : Launch) {G : va_G} {Λ : Lay} {μ : Mem} (hOK : LayOK Λ) {a0 : Nat} (k0 : inK Λ a0 5) {a1 : Int32} {a2 : Int32} {r : Int32} (hs : sX5_risen Λ μ a0 a1 a2 = some r) : CM l G Λ yX5_risen cX5_risen 4 (some .int) 1 μ [.ref a0, .int a1, .int a2] (QI G Λ r μ) := by
  refine ofM (own := RX5) (by decide +kernel) rfl (Nat.le_of_ble_eq_true rfl) (fun p e s m args below meth c ls hF hKK hW hr hlocks hl => ?_)
  have hx := hF.1
  have hb := hF.2.1
  have hA : ∀ q, inL Λ q → inL Λ q := fun _ h => h
  have hS : va_S (inL Λ) s.heap s.heap [] := va_S.rf
  have hl : lv_has ls 4 [(0, .ref a0), (1, .int a1), (2, .int a2)] := hl
  unfold sX5_risen at hs
  refine lv_aload_n hx hb dX5_risen_0 rfl (lv_at hl 0 rfl) ?_
  refine lv_iload_n hx hb dX5_risen_1 rfl (lv_at hl 1 rfl) ?_
  obtain ⟨q1, hq1, hs⟩ := obind_e hs
  refine end_i (run_V (q := (RX5, TX5, 21)) (ci := 5) hF hKK hW hS hl.1 k0 (by decide) rfl (c_X5_weight l hOK k0 hq1) (kw_X5_103 hF.2.2.2.2 ⟨Nat.le_of_ble_eq_true rfl, Nat.le_of_ble_eq_true rfl⟩) rfl rfl (Nat.le_of_ble_eq_true rfl) dX5_risen_2 ⟨Nat.zero_le _, Nat.zero_le _⟩) hS (fun H locs hW hS => ?_)
  refine lv_iload_n hx hb dX5_risen_5 rfl (lv_at hl 2 rfl) ?_
  refine lv_iadd hx hb dX5_risen_6 ?_
  obtain ⟨v2, ev2, hs⟩ := bnd_e hs
  refine top_i ev2 ?_
  refine lv_istore_n (lv' := [(3, .int v2), (0, .ref a0), (1, .int a1), (2, .int a2)]) hx hb dX5_risen_7 rfl hl (by decide) rfl (fun ls hl => ?_)
  refine lv_iload_n hx hb dX5_risen_8 rfl (lv_at hl 0 rfl) ?_
  refine lv_if_ge (tgt := 16) hx hb dX5_risen_9 (by decide) (fun c3 => ?_) (fun c3 => ?_)
  · have hs := ite_t hs c3
    refine lv_iload_n hx hb dX5_risen_16 rfl (lv_at hl 0 rfl) ?_
    refine lv_bipush (v := (99 : Int32)) hx hb dX5_risen_17 (by decide) ?_
    refine lv_icmp_le (tgt := 27) hx hb dX5_risen_19 (by decide) (fun c4 => ?_) (fun c4 => ?_)
    · have hs := ite_t hs c4
      refine lv_iload_n hx hb dX5_risen_27 rfl (lv_at hl 0 rfl) ?_
      have h9 := Option.some.inj hs
      rw [← h9]
      exact wr_i hF hr hlocks (vp_nar_int _) hW hS dX5_risen_28
    · have hs := ite_f hs c4
      refine lv_bipush (v := (99 : Int32)) hx hb dX5_risen_22 (by decide) ?_
      refine lv_goto (tgt := 28) hx hb dX5_risen_24 (by decide) ?_
      have h9 := Option.some.inj hs
      rw [← h9]
      exact wr_i hF hr hlocks (vp_nar_int _) hW hS dX5_risen_28
  · have hs := ite_f hs c3
    refine lv_iconst (v := (0 : Int32)) hx hb dX5_risen_12 (by decide) ?_
    refine lv_goto (tgt := 28) hx hb dX5_risen_13 (by decide) ?_
    have h9 := Option.some.inj hs
    rw [← h9]
    exact wr_i hF hr hlocks (vp_nar_int _) hW hS dX5_risen_28

set_option maxHeartbeats 4000000 in
set_option maxRecDepth 100000 in
theorem cl_X5_rise_117 {p : Program} {l : Launch} {e : Env} {s : State} {m : MethodId} {args : Array Value} {below : List Frame} {meth : Method} {c : Code} {G : va_G} {Λ : Lay} {r : (Int32 × Mem)} (hOK : LayOK Λ) (hF : CallFix p m c cX5_rise 5 s args tw RX5) (hKK : KK G Λ s) (hr : meth.sig.returnType = (some .int)) (hlocks : meth.locks = false) {x0 : Nat} (kx0 : inK Λ x0 5) {x1 : Int32} {x2 : Int32} {x3 : Int32} : ∀ (n : Nat) (μ : Mem) (x4 : Int32) (H : Heap) (locs : List Loc) (ls : Array Slot), lpX5_rise_117 Λ x0 x1 x2 x3 n μ x4 = some r → Wd G Λ μ H → va_S (inL Λ) s.heap H locs → lv_has ls 5 [(0, .ref x0), (1, .int x1), (2, .int x2), (3, .int x3), (4, .int x4)] → W p l e (rmd 4) s m args below meth c H locs 0 0 (MQ below (QI G Λ r.1 r.2) args s 0 0 (inL Λ)) (F0 m 117 ls []) := by
  have hx := hF.1
  have hb := hF.2.1
  have hA : ∀ q, inL Λ q → inL Λ q := fun _ h => h
  intro n
  induction n with
  | zero =>
    intro μ x4 H locs ls hs hW hS hl
    cases hs
  | succ n117 ih117 =>
    intro μ x4 H locs ls hs hW hS hl
    rw [lpX5_rise_117_s] at hs
    refine lv_iload hx hb dX5_rise_117 (lv_at hl 4 rfl) ?_
    refine lv_aload_n hx hb dX5_rise_119 rfl (lv_at hl 0 rfl) ?_
    refine gf_5_0 hF hKK hW kx0 dX5_rise_120 ?_
    refine lv_iconst (v := (0 : Int32)) hx hb dX5_rise_123 (by decide) ?_
    obtain ⟨g13, hs⟩ := gd_some hs
    refine ga_ld hF hKK hW (lk_5_0 hOK kx0) g13 dX5_rise_124 ?_
    refine lv_icmp_ge (tgt := 169) hx hb dX5_rise_125 (by decide) (fun c14 => ?_) (fun c14 => ?_)
    · have hs := ite_t hs c14
      refine lv_iload_n hx hb dX5_rise_169 rfl (lv_at hl 3 rfl) ?_
      have h9 := Option.some.inj hs
      rw [← h9]
      exact wr_i hF hr hlocks (vp_nar_int _) hW hS dX5_rise_170
    · have hs := ite_f hs c14
      refine lv_aload_n hx hb dX5_rise_128 rfl (lv_at hl 0 rfl) ?_
      refine gf_5_0 hF hKK hW kx0 dX5_rise_129 ?_
      refine lv_iconst (v := (4 : Int32)) hx hb dX5_rise_132 (by decide) ?_
      refine lv_iload hx hb dX5_rise_133 (lv_at hl 4 rfl) ?_
      refine lv_iadd hx hb dX5_rise_135 ?_
      refine lv_aload_n hx hb dX5_rise_136 rfl (lv_at hl 0 rfl) ?_
      refine lv_iload hx hb dX5_rise_137 (lv_at hl 4 rfl) ?_
      refine lv_iload_n hx hb dX5_rise_139 rfl (lv_at hl 1 rfl) ?_
      obtain ⟨q15, hq15, hs⟩ := obind_e hs
      refine end_i (run_V (q := (RX5, TX5, 21)) (ci := 5) hF hKK hW hS hl.1 kx0 (by decide) rfl (c_X5_areOne l hOK kx0 hq15) (kw_X5_110 hF.2.2.2.2 ⟨Nat.le_of_ble_eq_true rfl, Nat.le_of_ble_eq_true rfl⟩) rfl rfl (Nat.le_of_ble_eq_true rfl) dX5_rise_140 ⟨Nat.zero_le _, Nat.zero_le _⟩) hS (fun H locs hW hS => ?_)
      refine lv_if_eq (tgt := 156) hx hb dX5_rise_143 (by decide) (fun c16 => ?_) (fun c16 => ?_)
      · have hs := ite_t hs c16
        refine lv_aload_n hx hb dX5_rise_156 rfl (lv_at hl 0 rfl) ?_
        refine lv_iload hx hb dX5_rise_157 (lv_at hl 4 rfl) ?_
        obtain ⟨q17, hq17, hs⟩ := obind_e hs
        refine end_i (run_V (q := (RX5, TX5, 21)) (ci := 5) hF hKK hW hS hl.1 kx0 (by decide) rfl (c_X5_weight l hOK kx0 hq17) (kw_X5_103 hF.2.2.2.2 ⟨Nat.le_of_ble_eq_true rfl, Nat.le_of_ble_eq_true rfl⟩) rfl rfl (Nat.le_of_ble_eq_true rfl) dX5_rise_159 ⟨Nat.zero_le _, Nat.zero_le _⟩) hS (fun H locs hW hS => ?_)
        obtain ⟨g18, hs⟩ := gd_some hs
        obtain ⟨μ19, eμ19, hs⟩ := bnd_e hs
        refine ga_st hOK hF hKK hW hS hA (lk_5_0 hOK kx0) g18 eμ19 dX5_rise_162 (fun H locs hW hS => ?_)
        obtain ⟨v20, ev20, hs⟩ := bnd_e hs
        refine lv_iinc (v := v20) (lv' := [(4, .int v20), (0, .ref x0), (1, .int x1), (2, .int x2), (3, .int x3)]) hx hb dX5_rise_163 hl (k := 4) rfl (by rw [ev20]; rfl) (by decide) rfl (fun ls hl => ?_)
        refine lv_goto (tgt := 117) hx hb dX5_rise_166 (by decide) ?_
        exact ih117 μ19 v20 _ _ _ hs hW hS (lv_sub hl [1, 2, 3, 4, 0] rfl)
      · have hs := ite_f hs c16
        refine lv_aload_n hx hb dX5_rise_146 rfl (lv_at hl 0 rfl) ?_
        refine lv_iload hx hb dX5_rise_147 (lv_at hl 4 rfl) ?_
        refine lv_iload_n hx hb dX5_rise_149 rfl (lv_at hl 2 rfl) ?_
        obtain ⟨q21, hq21, hs⟩ := obind_e hs
        refine end_i (run_V (q := (RX5, TX5, 21)) (ci := 5) hF hKK hW hS hl.1 kx0 (by decide) rfl (c_X5_risen l hOK kx0 hq21) (kw_X5_135 hF.2.2.2.2 ⟨Nat.le_of_ble_eq_true rfl, Nat.le_of_ble_eq_true rfl⟩) rfl rfl (Nat.le_of_ble_eq_true rfl) dX5_rise_150 ⟨Nat.zero_le _, Nat.zero_le _⟩) hS (fun H locs hW hS => ?_)
        refine lv_goto (tgt := 162) hx hb dX5_rise_153 (by decide) ?_
        obtain ⟨g22, hs⟩ := gd_some hs
        obtain ⟨μ23, eμ23, hs⟩ := bnd_e hs
        refine ga_st hOK hF hKK hW hS hA (lk_5_0 hOK kx0) g22 eμ23 dX5_rise_162 (fun H locs hW hS => ?_)
        obtain ⟨v24, ev24, hs⟩ := bnd_e hs
        refine lv_iinc (v := v24) (lv' := [(4, .int v24), (0, .ref x0), (1, .int x1), (2, .int x2), (3, .int x3)]) hx hb dX5_rise_163 hl (k := 4) rfl (by rw [ev24]; rfl) (by decide) rfl (fun ls hl => ?_)
        refine lv_goto (tgt := 117) hx hb dX5_rise_166 (by decide) ?_
        exact ih117 μ23 v24 _ _ _ hs hW hS (lv_sub hl [1, 2, 3, 4, 0] rfl)

set_option maxHeartbeats 4000000 in
set_option maxRecDepth 100000 in
theorem cl_X5_rise_29 {p : Program} {l : Launch} {e : Env} {s : State} {m : MethodId} {args : Array Value} {below : List Frame} {meth : Method} {c : Code} {G : va_G} {Λ : Lay} {r : (Int32 × Mem)} (hOK : LayOK Λ) (hF : CallFix p m c cX5_rise 5 s args tw RX5) (hKK : KK G Λ s) (hr : meth.sig.returnType = (some .int)) (hlocks : meth.locks = false) {x0 : Nat} (kx0 : inK Λ x0 5) {x1 : Int32} {x2 : Int32} : ∀ (n : Nat) (μ : Mem) (x3 : Int32) (x4 : Int32) (H : Heap) (locs : List Loc) (ls : Array Slot), lpX5_rise_29 Λ x0 x1 x2 n μ x3 x4 = some r → Wd G Λ μ H → va_S (inL Λ) s.heap H locs → lv_has ls 5 [(0, .ref x0), (1, .int x1), (2, .int x2), (3, .int x3), (4, .int x4)] → W p l e (rmd 4) s m args below meth c H locs 0 0 (MQ below (QI G Λ r.1 r.2) args s 0 0 (inL Λ)) (F0 m 29 ls []) := by
  have hx := hF.1
  have hb := hF.2.1
  have hA : ∀ q, inL Λ q → inL Λ q := fun _ h => h
  intro n
  induction n with
  | zero =>
    intro μ x3 x4 H locs ls hs hW hS hl
    cases hs
  | succ n29 ih29 =>
    intro μ x3 x4 H locs ls hs hW hS hl
    rw [lpX5_rise_29_s] at hs
    refine lv_iload hx hb dX5_rise_29 (lv_at hl 4 rfl) ?_
    refine lv_aload_n hx hb dX5_rise_31 rfl (lv_at hl 0 rfl) ?_
    refine gf_5_0 hF hKK hW kx0 dX5_rise_32 ?_
    refine lv_iconst (v := (0 : Int32)) hx hb dX5_rise_35 (by decide) ?_
    obtain ⟨g5, hs⟩ := gd_some hs
    refine ga_ld hF hKK hW (lk_5_0 hOK kx0) g5 dX5_rise_36 ?_
    refine lv_icmp_ge (tgt := 80) hx hb dX5_rise_37 (by decide) (fun c6 => ?_) (fun c6 => ?_)
    · have hs := ite_t hs c6
      refine lv_aload_n hx hb dX5_rise_80 rfl (lv_at hl 0 rfl) ?_
      refine lv_iload_n hx hb dX5_rise_81 rfl (lv_at hl 3 rfl) ?_
      refine lv_if_ne (tgt := 89) hx hb dX5_rise_82 (by decide) (fun c7 => ?_) (fun c7 => ?_)
      · have hs := ite_f hs c7
        refine lv_iconst (v := (0 : Int32)) hx hb dX5_rise_89 (by decide) ?_
        refine lv_bipush (v := (6 : Int32)) hx hb dX5_rise_90 (by decide) ?_
        refine lv_aload_n hx hb dX5_rise_92 rfl (lv_at hl 0 rfl) ?_
        refine lv_aload_n hx hb dX5_rise_93 rfl (lv_at hl 0 rfl) ?_
        refine lv_iload_n hx hb dX5_rise_94 rfl (lv_at hl 1 rfl) ?_
        obtain ⟨q8, hq8, hs⟩ := obind_e hs
        refine end_i (run_V (q := (RX5, TX5, 21)) (ci := 5) hF hKK hW hS hl.1 kx0 (by decide) rfl (c_X5_roundOf l hOK kx0 hq8) (kw_X5_77 hF.2.2.2.2 ⟨Nat.le_of_ble_eq_true rfl, Nat.le_of_ble_eq_true rfl⟩) rfl rfl (Nat.le_of_ble_eq_true rfl) dX5_rise_95 ⟨Nat.zero_le _, Nat.zero_le _⟩) hS (fun H locs hW hS => ?_)
        obtain ⟨q9, hq9, hs⟩ := obind_e hs
        refine end_i (run_V (q := (RX5, TX5, 21)) (ci := 5) hF hKK hW hS hl.1 kx0 (by decide) rfl (c_X5_banksOf l hOK kx0 hq9) (kw_X5_120 hF.2.2.2.2 ⟨Nat.le_of_ble_eq_true rfl, Nat.le_of_ble_eq_true rfl⟩) rfl rfl (Nat.le_of_ble_eq_true rfl) dX5_rise_98 ⟨Nat.zero_le _, Nat.zero_le _⟩) hS (fun H locs hW hS => ?_)
        obtain ⟨q10, hq10, hs⟩ := obind_e hs
        refine end_i (run_V (q := (RX5, TX5, 21)) (ci := 5) hF hKK hW hS hl.1 kx0 (by decide) rfl (c_X5_refuse l hOK kx0 hq10) (kw_X5_80 hF.2.2.2.2 ⟨Nat.le_of_ble_eq_true rfl, Nat.le_of_ble_eq_true rfl⟩) rfl rfl (Nat.le_of_ble_eq_true rfl) dX5_rise_101 ⟨Nat.zero_le _, Nat.zero_le _⟩) hS (fun H locs hW hS => ?_)
        refine lv_if_eq (tgt := 110) hx hb dX5_rise_104 (by decide) (fun c11 => ?_) (fun c11 => ?_)
        · have hs := ite_t hs c11
          refine lv_aload_n hx hb dX5_rise_110 rfl (lv_at hl 0 rfl) ?_
          obtain ⟨q12, hq12, hs⟩ := obind_e hs
          refine end_v (run_V (q := (RX5, TX5, 21)) (ci := 5) hF hKK hW hS hl.1 kx0 (by decide) rfl (c_X5_change l hOK kx0 hq12) (kw_X5_84 hF.2.2.2.2 ⟨Nat.le_of_ble_eq_true rfl, Nat.le_of_ble_eq_true rfl⟩) rfl rfl (Nat.le_of_ble_eq_true rfl) dX5_rise_111 ⟨Nat.zero_le _, Nat.zero_le _⟩) hS (fun H locs hW hS => ?_)
          refine lv_iconst (v := (0 : Int32)) hx hb dX5_rise_114 (by decide) ?_
          refine lv_istore (lv' := [(4, .int (0 : Int32)), (0, .ref x0), (1, .int x1), (2, .int x2), (3, .int x3)]) hx hb dX5_rise_115 hl (by decide) rfl (fun ls hl => ?_)
          exact cl_X5_rise_117 hOK hF hKK hr hlocks kx0 fuel q12 (0 : Int32) _ _ _ hs hW hS (lv_sub hl [1, 2, 3, 4, 0] rfl)
        · have hs := ite_f hs c11
          refine lv_bipush (v := (-3 : Int32)) hx hb dX5_rise_107 (by decide) ?_
          have h9 := Option.some.inj hs
          rw [← h9]
          exact wr_i hF hr hlocks (vp_nar_int _) hW hS dX5_rise_109
      · have hs := ite_t hs c7
        refine lv_iconst (v := (1 : Int32)) hx hb dX5_rise_85 (by decide) ?_
        refine lv_goto (tgt := 90) hx hb dX5_rise_86 (by decide) ?_
        refine lv_bipush (v := (6 : Int32)) hx hb dX5_rise_90 (by decide) ?_
        refine lv_aload_n hx hb dX5_rise_92 rfl (lv_at hl 0 rfl) ?_
        refine lv_aload_n hx hb dX5_rise_93 rfl (lv_at hl 0 rfl) ?_
        refine lv_iload_n hx hb dX5_rise_94 rfl (lv_at hl 1 rfl) ?_
        obtain ⟨q25, hq25, hs⟩ := obind_e hs
        refine end_i (run_V (q := (RX5, TX5, 21)) (ci := 5) hF hKK hW hS hl.1 kx0 (by decide) rfl (c_X5_roundOf l hOK kx0 hq25) (kw_X5_77 hF.2.2.2.2 ⟨Nat.le_of_ble_eq_true rfl, Nat.le_of_ble_eq_true rfl⟩) rfl rfl (Nat.le_of_ble_eq_true rfl) dX5_rise_95 ⟨Nat.zero_le _, Nat.zero_le _⟩) hS (fun H locs hW hS => ?_)
        obtain ⟨q26, hq26, hs⟩ := obind_e hs
        refine end_i (run_V (q := (RX5, TX5, 21)) (ci := 5) hF hKK hW hS hl.1 kx0 (by decide) rfl (c_X5_banksOf l hOK kx0 hq26) (kw_X5_120 hF.2.2.2.2 ⟨Nat.le_of_ble_eq_true rfl, Nat.le_of_ble_eq_true rfl⟩) rfl rfl (Nat.le_of_ble_eq_true rfl) dX5_rise_98 ⟨Nat.zero_le _, Nat.zero_le _⟩) hS (fun H locs hW hS => ?_)
        obtain ⟨q27, hq27, hs⟩ := obind_e hs
        refine end_i (run_V (q := (RX5, TX5, 21)) (ci := 5) hF hKK hW hS hl.1 kx0 (by decide) rfl (c_X5_refuse l hOK kx0 hq27) (kw_X5_80 hF.2.2.2.2 ⟨Nat.le_of_ble_eq_true rfl, Nat.le_of_ble_eq_true rfl⟩) rfl rfl (Nat.le_of_ble_eq_true rfl) dX5_rise_101 ⟨Nat.zero_le _, Nat.zero_le _⟩) hS (fun H locs hW hS => ?_)
        refine lv_if_eq (tgt := 110) hx hb dX5_rise_104 (by decide) (fun c28 => ?_) (fun c28 => ?_)
        · have hs := ite_t hs c28
          refine lv_aload_n hx hb dX5_rise_110 rfl (lv_at hl 0 rfl) ?_
          obtain ⟨q29, hq29, hs⟩ := obind_e hs
          refine end_v (run_V (q := (RX5, TX5, 21)) (ci := 5) hF hKK hW hS hl.1 kx0 (by decide) rfl (c_X5_change l hOK kx0 hq29) (kw_X5_84 hF.2.2.2.2 ⟨Nat.le_of_ble_eq_true rfl, Nat.le_of_ble_eq_true rfl⟩) rfl rfl (Nat.le_of_ble_eq_true rfl) dX5_rise_111 ⟨Nat.zero_le _, Nat.zero_le _⟩) hS (fun H locs hW hS => ?_)
          refine lv_iconst (v := (0 : Int32)) hx hb dX5_rise_114 (by decide) ?_
          refine lv_istore (lv' := [(4, .int (0 : Int32)), (0, .ref x0), (1, .int x1), (2, .int x2), (3, .int x3)]) hx hb dX5_rise_115 hl (by decide) rfl (fun ls hl => ?_)
          exact cl_X5_rise_117 hOK hF hKK hr hlocks kx0 fuel q29 (0 : Int32) _ _ _ hs hW hS (lv_sub hl [1, 2, 3, 4, 0] rfl)
        · have hs := ite_f hs c28
          refine lv_bipush (v := (-3 : Int32)) hx hb dX5_rise_107 (by decide) ?_
          have h9 := Option.some.inj hs
          rw [← h9]
          exact wr_i hF hr hlocks (vp_nar_int _) hW hS dX5_rise_109
    · have hs := ite_f hs c6
      refine lv_iload_n hx hb dX5_rise_40 rfl (lv_at hl 3 rfl) ?_
      refine lv_aload_n hx hb dX5_rise_41 rfl (lv_at hl 0 rfl) ?_
      refine lv_iload hx hb dX5_rise_42 (lv_at hl 4 rfl) ?_
      refine lv_iload_n hx hb dX5_rise_44 rfl (lv_at hl 1 rfl) ?_
      obtain ⟨q30, hq30, hs⟩ := obind_e hs
      refine end_i (run_V (q := (RX5, TX5, 21)) (ci := 5) hF hKK hW hS hl.1 kx0 (by decide) rfl (c_X5_areOne l hOK kx0 hq30) (kw_X5_110 hF.2.2.2.2 ⟨Nat.le_of_ble_eq_true rfl, Nat.le_of_ble_eq_true rfl⟩) rfl rfl (Nat.le_of_ble_eq_true rfl) dX5_rise_45 ⟨Nat.zero_le _, Nat.zero_le _⟩) hS (fun H locs hW hS => ?_)
      refine lv_if_eq (tgt := 71) hx hb dX5_rise_48 (by decide) (fun c31 => ?_) (fun c31 => ?_)
      · have hs := ite_t hs c31
        refine lv_iconst (v := (0 : Int32)) hx hb dX5_rise_71 (by decide) ?_
        refine lv_iadd hx hb dX5_rise_72 ?_
        obtain ⟨v32, ev32, hs⟩ := bnd_e hs
        refine top_i ev32 ?_
        refine lv_istore_n (lv' := [(3, .int v32), (0, .ref x0), (1, .int x1), (2, .int x2), (4, .int x4)]) hx hb dX5_rise_73 rfl hl (by decide) rfl (fun ls hl => ?_)
        obtain ⟨v33, ev33, hs⟩ := bnd_e hs
        refine lv_iinc (v := v33) (lv' := [(4, .int v33), (3, .int v32), (0, .ref x0), (1, .int x1), (2, .int x2)]) hx hb dX5_rise_74 hl (k := 4) rfl (by rw [ev33]; rfl) (by decide) rfl (fun ls hl => ?_)
        refine lv_goto (tgt := 29) hx hb dX5_rise_77 (by decide) ?_
        exact ih29 μ v32 v33 _ _ _ hs hW hS (lv_sub hl [2, 3, 4, 1, 0] rfl)
      · have hs := ite_f hs c31
        refine lv_aload_n hx hb dX5_rise_51 rfl (lv_at hl 0 rfl) ?_
        refine lv_iload hx hb dX5_rise_52 (lv_at hl 4 rfl) ?_
        refine lv_iload_n hx hb dX5_rise_54 rfl (lv_at hl 2 rfl) ?_
        obtain ⟨q34, hq34, hs⟩ := obind_e hs
        refine end_i (run_V (q := (RX5, TX5, 21)) (ci := 5) hF hKK hW hS hl.1 kx0 (by decide) rfl (c_X5_risen l hOK kx0 hq34) (kw_X5_135 hF.2.2.2.2 ⟨Nat.le_of_ble_eq_true rfl, Nat.le_of_ble_eq_true rfl⟩) rfl rfl (Nat.le_of_ble_eq_true rfl) dX5_rise_55 ⟨Nat.zero_le _, Nat.zero_le _⟩) hS (fun H locs hW hS => ?_)
        refine lv_aload_n hx hb dX5_rise_58 rfl (lv_at hl 0 rfl) ?_
        refine lv_iload hx hb dX5_rise_59 (lv_at hl 4 rfl) ?_
        obtain ⟨q35, hq35, hs⟩ := obind_e hs
        refine end_i (run_V (q := (RX5, TX5, 21)) (ci := 5) hF hKK hW hS hl.1 kx0 (by decide) rfl (c_X5_weight l hOK kx0 hq35) (kw_X5_103 hF.2.2.2.2 ⟨Nat.le_of_ble_eq_true rfl, Nat.le_of_ble_eq_true rfl⟩) rfl rfl (Nat.le_of_ble_eq_true rfl) dX5_rise_61 ⟨Nat.zero_le _, Nat.zero_le _⟩) hS (fun H locs hW hS => ?_)
        refine lv_icmp_eq (tgt := 71) hx hb dX5_rise_64 (by decide) (fun c36 => ?_) (fun c36 => ?_)
        · have hs := ite_t hs c36
          refine lv_iconst (v := (0 : Int32)) hx hb dX5_rise_71 (by decide) ?_
          refine lv_iadd hx hb dX5_rise_72 ?_
          obtain ⟨v37, ev37, hs⟩ := bnd_e hs
          refine top_i ev37 ?_
          refine lv_istore_n (lv' := [(3, .int v37), (0, .ref x0), (1, .int x1), (2, .int x2), (4, .int x4)]) hx hb dX5_rise_73 rfl hl (by decide) rfl (fun ls hl => ?_)
          obtain ⟨v38, ev38, hs⟩ := bnd_e hs
          refine lv_iinc (v := v38) (lv' := [(4, .int v38), (3, .int v37), (0, .ref x0), (1, .int x1), (2, .int x2)]) hx hb dX5_rise_74 hl (k := 4) rfl (by rw [ev38]; rfl) (by decide) rfl (fun ls hl => ?_)
          refine lv_goto (tgt := 29) hx hb dX5_rise_77 (by decide) ?_
          exact ih29 μ v37 v38 _ _ _ hs hW hS (lv_sub hl [2, 3, 4, 1, 0] rfl)
        · have hs := ite_f hs c36
          refine lv_iconst (v := (1 : Int32)) hx hb dX5_rise_67 (by decide) ?_
          refine lv_goto (tgt := 72) hx hb dX5_rise_68 (by decide) ?_
          refine lv_iadd hx hb dX5_rise_72 ?_
          obtain ⟨v39, ev39, hs⟩ := bnd_e hs
          refine top_i ev39 ?_
          refine lv_istore_n (lv' := [(3, .int v39), (0, .ref x0), (1, .int x1), (2, .int x2), (4, .int x4)]) hx hb dX5_rise_73 rfl hl (by decide) rfl (fun ls hl => ?_)
          obtain ⟨v40, ev40, hs⟩ := bnd_e hs
          refine lv_iinc (v := v40) (lv' := [(4, .int v40), (3, .int v39), (0, .ref x0), (1, .int x1), (2, .int x2)]) hx hb dX5_rise_74 hl (k := 4) rfl (by rw [ev40]; rfl) (by decide) rfl (fun ls hl => ?_)
          refine lv_goto (tgt := 29) hx hb dX5_rise_77 (by decide) ?_
          exact ih29 μ v39 v40 _ _ _ hs hW hS (lv_sub hl [2, 3, 4, 1, 0] rfl)

set_option maxHeartbeats 4000000 in
set_option maxRecDepth 100000 in
theorem c_X5_rise (l : Launch) {G : va_G} {Λ : Lay} {μ : Mem} (hOK : LayOK Λ) {a0 : Nat} (k0 : inK Λ a0 5) {a1 : Int32} {a2 : Int32} {r : (Int32 × Mem)} (hs : sX5_rise Λ μ a0 a1 a2 = some r) : CM l G Λ yX5_rise cX5_rise 5 (some .int) 4 μ [.ref a0, .int a1, .int a2] (QI G Λ r.1 r.2) := by
  refine ofM (own := RX5) (by decide +kernel) rfl (Nat.le_of_ble_eq_true rfl) (fun p e s m args below meth c ls hF hKK hW hr hlocks hl => ?_)
  have hx := hF.1
  have hb := hF.2.1
  have hA : ∀ q, inL Λ q → inL Λ q := fun _ h => h
  have hS : va_S (inL Λ) s.heap s.heap [] := va_S.rf
  have hl : lv_has ls 5 [(0, .ref a0), (1, .int a1), (2, .int a2)] := hl
  unfold sX5_rise at hs
  refine lv_aload_n hx hb dX5_rise_0 rfl (lv_at hl 0 rfl) ?_
  refine lv_iload_n hx hb dX5_rise_1 rfl (lv_at hl 1 rfl) ?_
  obtain ⟨q1, hq1, hs⟩ := obind_e hs
  refine end_i (run_V (q := (RX5, TX5, 21)) (ci := 5) hF hKK hW hS hl.1 k0 (by decide) rfl (c_X5_isBank l hOK k0 hq1) (kw_X5_99 hF.2.2.2.2 ⟨Nat.le_of_ble_eq_true rfl, Nat.le_of_ble_eq_true rfl⟩) rfl rfl (Nat.le_of_ble_eq_true rfl) dX5_rise_2 ⟨Nat.zero_le _, Nat.zero_le _⟩) hS (fun H locs hW hS => ?_)
  refine lv_if_ne (tgt := 10) hx hb dX5_rise_5 (by decide) (fun c2 => ?_) (fun c2 => ?_)
  · have hs := ite_f hs c2
    refine lv_iload_n hx hb dX5_rise_10 rfl (lv_at hl 2 rfl) ?_
    refine lv_bipush (v := (-99 : Int32)) hx hb dX5_rise_11 (by decide) ?_
    refine lv_bipush (v := (99 : Int32)) hx hb dX5_rise_13 (by decide) ?_
    obtain ⟨q3, hq3, hs⟩ := obind_e hs
    refine end_i (run_S hF hKK hW hS hl.1 (c_X5_isBetween l hOK  hq3) (kw_X5_62 hF.2.2.2.2 ⟨Nat.le_of_ble_eq_true rfl, Nat.le_of_ble_eq_true rfl⟩) rfl rfl (Nat.le_of_ble_eq_true rfl) dX5_rise_15 ⟨Nat.zero_le _, Nat.zero_le _⟩) hS (fun H locs hW hS => ?_)
    refine lv_if_ne (tgt := 24) hx hb dX5_rise_18 (by decide) (fun c4 => ?_) (fun c4 => ?_)
    · have hs := ite_f hs c4
      refine lv_iconst (v := (0 : Int32)) hx hb dX5_rise_24 (by decide) ?_
      refine lv_istore_n (lv' := [(3, .int (0 : Int32)), (0, .ref a0), (1, .int a1), (2, .int a2)]) hx hb dX5_rise_25 rfl hl (by decide) rfl (fun ls hl => ?_)
      refine lv_iconst (v := (0 : Int32)) hx hb dX5_rise_26 (by decide) ?_
      refine lv_istore (lv' := [(4, .int (0 : Int32)), (3, .int (0 : Int32)), (0, .ref a0), (1, .int a1), (2, .int a2)]) hx hb dX5_rise_27 hl (by decide) rfl (fun ls hl => ?_)
      exact cl_X5_rise_29 hOK hF hKK hr hlocks k0 fuel μ (0 : Int32) (0 : Int32) _ _ _ hs hW hS (lv_sub hl [2, 3, 4, 1, 0] rfl)
    · have hs := ite_t hs c4
      refine lv_bipush (v := (-2 : Int32)) hx hb dX5_rise_21 (by decide) ?_
      have h9 := Option.some.inj hs
      rw [← h9]
      exact wr_i hF hr hlocks (vp_nar_int _) hW hS dX5_rise_23
  · have hs := ite_t hs c2
    refine lv_iconst (v := (-1 : Int32)) hx hb dX5_rise_8 (by decide) ?_
    have h9 := Option.some.inj hs
    rw [← h9]
    exact wr_i hF hr hlocks (vp_nar_int _) hW hS dX5_rise_9

set_option maxHeartbeats 4000000 in
set_option maxRecDepth 100000 in
theorem c_X5_turn (l : Launch) {G : va_G} {Λ : Lay} {μ : Mem} (hOK : LayOK Λ) {a0 : Nat} (k0 : inK Λ a0 5) {a1 : Int32} {r : (Int32 × Mem)} (hs : sX5_turn Λ μ a0 a1 = some r) : CM l G Λ yX5_turn cX5_turn 3 (some .int) 4 μ [.ref a0, .int a1] (QI G Λ r.1 r.2) := by
  refine ofM (own := RX5) (by decide +kernel) rfl (Nat.le_of_ble_eq_true rfl) (fun p e s m args below meth c ls hF hKK hW hr hlocks hl => ?_)
  have hx := hF.1
  have hb := hF.2.1
  have hA : ∀ q, inL Λ q → inL Λ q := fun _ h => h
  have hS : va_S (inL Λ) s.heap s.heap [] := va_S.rf
  have hl : lv_has ls 3 [(0, .ref a0), (1, .int a1)] := hl
  unfold sX5_turn at hs
  refine lv_aload_n hx hb dX5_turn_0 rfl (lv_at hl 0 rfl) ?_
  refine lv_iload_n hx hb dX5_turn_1 rfl (lv_at hl 1 rfl) ?_
  obtain ⟨q1, hq1, hs⟩ := obind_e hs
  refine end_i (run_V (q := (RX5, TX5, 21)) (ci := 5) hF hKK hW hS hl.1 k0 (by decide) rfl (c_X5_isBank l hOK k0 hq1) (kw_X5_99 hF.2.2.2.2 ⟨Nat.le_of_ble_eq_true rfl, Nat.le_of_ble_eq_true rfl⟩) rfl rfl (Nat.le_of_ble_eq_true rfl) dX5_turn_2 ⟨Nat.zero_le _, Nat.zero_le _⟩) hS (fun H locs hW hS => ?_)
  refine lv_if_ne (tgt := 10) hx hb dX5_turn_5 (by decide) (fun c2 => ?_) (fun c2 => ?_)
  · have hs := ite_f hs c2
    refine lv_aload_n hx hb dX5_turn_10 rfl (lv_at hl 0 rfl) ?_
    refine lv_iload_n hx hb dX5_turn_11 rfl (lv_at hl 1 rfl) ?_
    obtain ⟨q3, hq3, hs⟩ := obind_e hs
    refine end_i (run_V (q := (RX5, TX5, 21)) (ci := 5) hF hKK hW hS hl.1 k0 (by decide) rfl (c_X5_root l hOK k0 hq3) (kw_X5_114 hF.2.2.2.2 ⟨Nat.le_of_ble_eq_true rfl, Nat.le_of_ble_eq_true rfl⟩) rfl rfl (Nat.le_of_ble_eq_true rfl) dX5_turn_12 ⟨Nat.zero_le _, Nat.zero_le _⟩) hS (fun H locs hW hS => ?_)
    refine lv_istore_n (lv' := [(2, .int q3), (0, .ref a0), (1, .int a1)]) hx hb dX5_turn_15 rfl hl (by decide) rfl (fun ls hl => ?_)
    refine lv_aload_n hx hb dX5_turn_16 rfl (lv_at hl 1 rfl) ?_
    refine lv_iload_n hx hb dX5_turn_17 rfl (lv_at hl 0 rfl) ?_
    refine lv_iload_n hx hb dX5_turn_18 rfl (lv_at hl 2 rfl) ?_
    refine lv_icmp_ne (tgt := 26) hx hb dX5_turn_19 (by decide) (fun c4 => ?_) (fun c4 => ?_)
    · have hs := ite_f hs c4
      refine lv_iconst (v := (0 : Int32)) hx hb dX5_turn_26 (by decide) ?_
      refine lv_bipush (v := (7 : Int32)) hx hb dX5_turn_27 (by decide) ?_
      refine lv_iload_n hx hb dX5_turn_29 rfl (lv_at hl 2 rfl) ?_
      obtain ⟨q5, hq5, hs⟩ := obind_e hs
      refine end_i (run_V (q := (RX5, TX5, 21)) (ci := 5) hF hKK hW hS hl.1 k0 (by decide) rfl (c_X5_refuse l hOK k0 hq5) (kw_X5_80 hF.2.2.2.2 ⟨Nat.le_of_ble_eq_true rfl, Nat.le_of_ble_eq_true rfl⟩) rfl rfl (Nat.le_of_ble_eq_true rfl) dX5_turn_30 ⟨Nat.zero_le _, Nat.zero_le _⟩) hS (fun H locs hW hS => ?_)
      refine lv_if_eq (tgt := 39) hx hb dX5_turn_33 (by decide) (fun c6 => ?_) (fun c6 => ?_)
      · have hs := ite_t hs c6
        refine lv_aload_n hx hb dX5_turn_39 rfl (lv_at hl 1 rfl) ?_
        obtain ⟨q7, hq7, hs⟩ := obind_e hs
        refine end_v (run_V (q := (RX5, TX5, 21)) (ci := 5) hF hKK hW hS hl.1 k0 (by decide) rfl (c_X5_change l hOK k0 hq7) (kw_X5_84 hF.2.2.2.2 ⟨Nat.le_of_ble_eq_true rfl, Nat.le_of_ble_eq_true rfl⟩) rfl rfl (Nat.le_of_ble_eq_true rfl) dX5_turn_40 ⟨Nat.zero_le _, Nat.zero_le _⟩) hS (fun H locs hW hS => ?_)
        refine lv_aload_n hx hb dX5_turn_43 rfl (lv_at hl 1 rfl) ?_
        refine lv_iload_n hx hb dX5_turn_44 rfl (lv_at hl 2 rfl) ?_
        obtain ⟨q8, hq8, hs⟩ := obind_e hs
        refine end_v (run_V (q := (RX5, TX5, 21)) (ci := 5) hF hKK hW hS hl.1 k0 (by decide) rfl (c_X5_turnTo l hOK k0 hq8) (kw_X5_106 hF.2.2.2.2 ⟨Nat.le_of_ble_eq_true rfl, Nat.le_of_ble_eq_true rfl⟩) rfl rfl (Nat.le_of_ble_eq_true rfl) dX5_turn_45 ⟨Nat.zero_le _, Nat.zero_le _⟩) hS (fun H locs hW hS => ?_)
        refine lv_aload_n hx hb dX5_turn_48 rfl (lv_at hl 1 rfl) ?_
        refine gf_5_0 hF hKK hW k0 dX5_turn_49 ?_
        refine lv_iconst (v := (3 : Int32)) hx hb dX5_turn_52 (by decide) ?_
        refine lv_dup2_11 hx hb dX5_turn_53 rfl rfl ?_
        obtain ⟨g9, hs⟩ := gd_some hs
        refine ga_ld hF hKK hW (lk_5_0 hOK k0) g9 dX5_turn_54 ?_
        refine lv_iconst (v := (1 : Int32)) hx hb dX5_turn_55 (by decide) ?_
        refine lv_iadd hx hb dX5_turn_56 ?_
        obtain ⟨g10, hs⟩ := gd_some hs
        obtain ⟨μ11, eμ11, hs⟩ := bnd_e hs
        refine ga_st hOK hF hKK hW hS hA (lk_5_0 hOK k0) g10 eμ11 dX5_turn_57 (fun H locs hW hS => ?_)
        refine lv_iload_n hx hb dX5_turn_58 rfl (lv_at hl 0 rfl) ?_
        have h9 := Option.some.inj hs
        rw [← h9]
        exact wr_i hF hr hlocks (vp_nar_int _) hW hS dX5_turn_59
      · have hs := ite_f hs c6
        refine lv_bipush (v := (-3 : Int32)) hx hb dX5_turn_36 (by decide) ?_
        have h9 := Option.some.inj hs
        rw [← h9]
        exact wr_i hF hr hlocks (vp_nar_int _) hW hS dX5_turn_38
    · have hs := ite_t hs c4
      refine lv_iconst (v := (1 : Int32)) hx hb dX5_turn_22 (by decide) ?_
      refine lv_goto (tgt := 27) hx hb dX5_turn_23 (by decide) ?_
      refine lv_bipush (v := (7 : Int32)) hx hb dX5_turn_27 (by decide) ?_
      refine lv_iload_n hx hb dX5_turn_29 rfl (lv_at hl 2 rfl) ?_
      obtain ⟨q12, hq12, hs⟩ := obind_e hs
      refine end_i (run_V (q := (RX5, TX5, 21)) (ci := 5) hF hKK hW hS hl.1 k0 (by decide) rfl (c_X5_refuse l hOK k0 hq12) (kw_X5_80 hF.2.2.2.2 ⟨Nat.le_of_ble_eq_true rfl, Nat.le_of_ble_eq_true rfl⟩) rfl rfl (Nat.le_of_ble_eq_true rfl) dX5_turn_30 ⟨Nat.zero_le _, Nat.zero_le _⟩) hS (fun H locs hW hS => ?_)
      refine lv_if_eq (tgt := 39) hx hb dX5_turn_33 (by decide) (fun c13 => ?_) (fun c13 => ?_)
      · have hs := ite_t hs c13
        refine lv_aload_n hx hb dX5_turn_39 rfl (lv_at hl 1 rfl) ?_
        obtain ⟨q14, hq14, hs⟩ := obind_e hs
        refine end_v (run_V (q := (RX5, TX5, 21)) (ci := 5) hF hKK hW hS hl.1 k0 (by decide) rfl (c_X5_change l hOK k0 hq14) (kw_X5_84 hF.2.2.2.2 ⟨Nat.le_of_ble_eq_true rfl, Nat.le_of_ble_eq_true rfl⟩) rfl rfl (Nat.le_of_ble_eq_true rfl) dX5_turn_40 ⟨Nat.zero_le _, Nat.zero_le _⟩) hS (fun H locs hW hS => ?_)
        refine lv_aload_n hx hb dX5_turn_43 rfl (lv_at hl 1 rfl) ?_
        refine lv_iload_n hx hb dX5_turn_44 rfl (lv_at hl 2 rfl) ?_
        obtain ⟨q15, hq15, hs⟩ := obind_e hs
        refine end_v (run_V (q := (RX5, TX5, 21)) (ci := 5) hF hKK hW hS hl.1 k0 (by decide) rfl (c_X5_turnTo l hOK k0 hq15) (kw_X5_106 hF.2.2.2.2 ⟨Nat.le_of_ble_eq_true rfl, Nat.le_of_ble_eq_true rfl⟩) rfl rfl (Nat.le_of_ble_eq_true rfl) dX5_turn_45 ⟨Nat.zero_le _, Nat.zero_le _⟩) hS (fun H locs hW hS => ?_)
        refine lv_aload_n hx hb dX5_turn_48 rfl (lv_at hl 1 rfl) ?_
        refine gf_5_0 hF hKK hW k0 dX5_turn_49 ?_
        refine lv_iconst (v := (3 : Int32)) hx hb dX5_turn_52 (by decide) ?_
        refine lv_dup2_11 hx hb dX5_turn_53 rfl rfl ?_
        obtain ⟨g16, hs⟩ := gd_some hs
        refine ga_ld hF hKK hW (lk_5_0 hOK k0) g16 dX5_turn_54 ?_
        refine lv_iconst (v := (1 : Int32)) hx hb dX5_turn_55 (by decide) ?_
        refine lv_iadd hx hb dX5_turn_56 ?_
        obtain ⟨g17, hs⟩ := gd_some hs
        obtain ⟨μ18, eμ18, hs⟩ := bnd_e hs
        refine ga_st hOK hF hKK hW hS hA (lk_5_0 hOK k0) g17 eμ18 dX5_turn_57 (fun H locs hW hS => ?_)
        refine lv_iload_n hx hb dX5_turn_58 rfl (lv_at hl 0 rfl) ?_
        have h9 := Option.some.inj hs
        rw [← h9]
        exact wr_i hF hr hlocks (vp_nar_int _) hW hS dX5_turn_59
      · have hs := ite_f hs c13
        refine lv_bipush (v := (-3 : Int32)) hx hb dX5_turn_36 (by decide) ?_
        have h9 := Option.some.inj hs
        rw [← h9]
        exact wr_i hF hr hlocks (vp_nar_int _) hW hS dX5_turn_38
  · have hs := ite_t hs c2
    refine lv_iconst (v := (-1 : Int32)) hx hb dX5_turn_8 (by decide) ?_
    have h9 := Option.some.inj hs
    rw [← h9]
    exact wr_i hF hr hlocks (vp_nar_int _) hW hS dX5_turn_9

set_option maxHeartbeats 4000000 in
set_option maxRecDepth 100000 in
theorem c_X5_weigh (l : Launch) {G : va_G} {Λ : Lay} {μ : Mem} (hOK : LayOK Λ) {a0 : Nat} (k0 : inK Λ a0 5) {a1 : Int32} {a2 : Int32} {r : (Int32 × Mem)} (hs : sX5_weigh Λ μ a0 a1 a2 = some r) : CM l G Λ yX5_weigh cX5_weigh 4 (some .int) 3 μ [.ref a0, .int a1, .int a2] (QI G Λ r.1 r.2) := by
  refine ofM (own := RX5) (by decide +kernel) rfl (Nat.le_of_ble_eq_true rfl) (fun p e s m args below meth c ls hF hKK hW hr hlocks hl => ?_)
  have hx := hF.1
  have hb := hF.2.1
  have hA : ∀ q, inL Λ q → inL Λ q := fun _ h => h
  have hS : va_S (inL Λ) s.heap s.heap [] := va_S.rf
  have hl : lv_has ls 4 [(0, .ref a0), (1, .int a1), (2, .int a2)] := hl
  unfold sX5_weigh at hs
  refine lv_aload_n hx hb dX5_weigh_0 rfl (lv_at hl 0 rfl) ?_
  refine lv_iload_n hx hb dX5_weigh_1 rfl (lv_at hl 1 rfl) ?_
  obtain ⟨q1, hq1, hs⟩ := obind_e hs
  refine end_i (run_V (q := (RX5, TX5, 21)) (ci := 5) hF hKK hW hS hl.1 k0 (by decide) rfl (c_X5_isBank l hOK k0 hq1) (kw_X5_99 hF.2.2.2.2 ⟨Nat.le_of_ble_eq_true rfl, Nat.le_of_ble_eq_true rfl⟩) rfl rfl (Nat.le_of_ble_eq_true rfl) dX5_weigh_2 ⟨Nat.zero_le _, Nat.zero_le _⟩) hS (fun H locs hW hS => ?_)
  refine lv_if_ne (tgt := 10) hx hb dX5_weigh_5 (by decide) (fun c2 => ?_) (fun c2 => ?_)
  · have hs := ite_f hs c2
    refine lv_iload_n hx hb dX5_weigh_10 rfl (lv_at hl 2 rfl) ?_
    refine lv_iconst (v := (0 : Int32)) hx hb dX5_weigh_11 (by decide) ?_
    refine lv_bipush (v := (99 : Int32)) hx hb dX5_weigh_12 (by decide) ?_
    obtain ⟨q3, hq3, hs⟩ := obind_e hs
    refine end_i (run_S hF hKK hW hS hl.1 (c_X5_isBetween l hOK  hq3) (kw_X5_62 hF.2.2.2.2 ⟨Nat.le_of_ble_eq_true rfl, Nat.le_of_ble_eq_true rfl⟩) rfl rfl (Nat.le_of_ble_eq_true rfl) dX5_weigh_14 ⟨Nat.zero_le _, Nat.zero_le _⟩) hS (fun H locs hW hS => ?_)
    refine lv_if_ne (tgt := 23) hx hb dX5_weigh_17 (by decide) (fun c4 => ?_) (fun c4 => ?_)
    · have hs := ite_f hs c4
      refine lv_aload_n hx hb dX5_weigh_23 rfl (lv_at hl 0 rfl) ?_
      refine lv_aload_n hx hb dX5_weigh_24 rfl (lv_at hl 0 rfl) ?_
      refine lv_iload_n hx hb dX5_weigh_25 rfl (lv_at hl 1 rfl) ?_
      obtain ⟨q5, hq5, hs⟩ := obind_e hs
      refine end_i (run_V (q := (RX5, TX5, 21)) (ci := 5) hF hKK hW hS hl.1 k0 (by decide) rfl (c_X5_weight l hOK k0 hq5) (kw_X5_103 hF.2.2.2.2 ⟨Nat.le_of_ble_eq_true rfl, Nat.le_of_ble_eq_true rfl⟩) rfl rfl (Nat.le_of_ble_eq_true rfl) dX5_weigh_26 ⟨Nat.zero_le _, Nat.zero_le _⟩) hS (fun H locs hW hS => ?_)
      refine lv_iload_n hx hb dX5_weigh_29 rfl (lv_at hl 2 rfl) ?_
      refine lv_icmp_ne (tgt := 37) hx hb dX5_weigh_30 (by decide) (fun c6 => ?_) (fun c6 => ?_)
      · have hs := ite_f hs c6
        refine lv_iconst (v := (0 : Int32)) hx hb dX5_weigh_37 (by decide) ?_
        refine lv_iconst (v := (5 : Int32)) hx hb dX5_weigh_38 (by decide) ?_
        refine lv_iload_n hx hb dX5_weigh_39 rfl (lv_at hl 2 rfl) ?_
        obtain ⟨q7, hq7, hs⟩ := obind_e hs
        refine end_i (run_V (q := (RX5, TX5, 21)) (ci := 5) hF hKK hW hS hl.1 k0 (by decide) rfl (c_X5_refuse l hOK k0 hq7) (kw_X5_80 hF.2.2.2.2 ⟨Nat.le_of_ble_eq_true rfl, Nat.le_of_ble_eq_true rfl⟩) rfl rfl (Nat.le_of_ble_eq_true rfl) dX5_weigh_40 ⟨Nat.zero_le _, Nat.zero_le _⟩) hS (fun H locs hW hS => ?_)
        refine lv_if_eq (tgt := 49) hx hb dX5_weigh_43 (by decide) (fun c8 => ?_) (fun c8 => ?_)
        · have hs := ite_t hs c8
          refine lv_aload_n hx hb dX5_weigh_49 rfl (lv_at hl 0 rfl) ?_
          obtain ⟨q9, hq9, hs⟩ := obind_e hs
          refine end_v (run_V (q := (RX5, TX5, 21)) (ci := 5) hF hKK hW hS hl.1 k0 (by decide) rfl (c_X5_change l hOK k0 hq9) (kw_X5_84 hF.2.2.2.2 ⟨Nat.le_of_ble_eq_true rfl, Nat.le_of_ble_eq_true rfl⟩) rfl rfl (Nat.le_of_ble_eq_true rfl) dX5_weigh_50 ⟨Nat.zero_le _, Nat.zero_le _⟩) hS (fun H locs hW hS => ?_)
          refine lv_aload_n hx hb dX5_weigh_53 rfl (lv_at hl 0 rfl) ?_
          refine lv_iload_n hx hb dX5_weigh_54 rfl (lv_at hl 1 rfl) ?_
          obtain ⟨q10, hq10, hs⟩ := obind_e hs
          refine end_i (run_V (q := (RX5, TX5, 21)) (ci := 5) hF hKK hW hS hl.1 k0 (by decide) rfl (c_X5_weight l hOK k0 hq10) (kw_X5_103 hF.2.2.2.2 ⟨Nat.le_of_ble_eq_true rfl, Nat.le_of_ble_eq_true rfl⟩) rfl rfl (Nat.le_of_ble_eq_true rfl) dX5_weigh_55 ⟨Nat.zero_le _, Nat.zero_le _⟩) hS (fun H locs hW hS => ?_)
          refine lv_istore_n (lv' := [(3, .int q10), (0, .ref a0), (1, .int a1), (2, .int a2)]) hx hb dX5_weigh_58 rfl hl (by decide) rfl (fun ls hl => ?_)
          refine lv_aload_n hx hb dX5_weigh_59 rfl (lv_at hl 1 rfl) ?_
          refine gf_5_0 hF hKK hW k0 dX5_weigh_60 ?_
          refine lv_iconst (v := (4 : Int32)) hx hb dX5_weigh_63 (by decide) ?_
          refine lv_iload_n hx hb dX5_weigh_64 rfl (lv_at hl 2 rfl) ?_
          refine lv_iadd hx hb dX5_weigh_65 ?_
          refine lv_iload_n hx hb dX5_weigh_66 rfl (lv_at hl 3 rfl) ?_
          obtain ⟨g11, hs⟩ := gd_some hs
          obtain ⟨μ12, eμ12, hs⟩ := bnd_e hs
          refine ga_st hOK hF hKK hW hS hA (lk_5_0 hOK k0) g11 eμ12 dX5_weigh_67 (fun H locs hW hS => ?_)
          refine lv_iload_n hx hb dX5_weigh_68 rfl (lv_at hl 0 rfl) ?_
          have h9 := Option.some.inj hs
          rw [← h9]
          exact wr_i hF hr hlocks (vp_nar_int _) hW hS dX5_weigh_69
        · have hs := ite_f hs c8
          refine lv_bipush (v := (-3 : Int32)) hx hb dX5_weigh_46 (by decide) ?_
          have h9 := Option.some.inj hs
          rw [← h9]
          exact wr_i hF hr hlocks (vp_nar_int _) hW hS dX5_weigh_48
      · have hs := ite_t hs c6
        refine lv_iconst (v := (1 : Int32)) hx hb dX5_weigh_33 (by decide) ?_
        refine lv_goto (tgt := 38) hx hb dX5_weigh_34 (by decide) ?_
        refine lv_iconst (v := (5 : Int32)) hx hb dX5_weigh_38 (by decide) ?_
        refine lv_iload_n hx hb dX5_weigh_39 rfl (lv_at hl 2 rfl) ?_
        obtain ⟨q13, hq13, hs⟩ := obind_e hs
        refine end_i (run_V (q := (RX5, TX5, 21)) (ci := 5) hF hKK hW hS hl.1 k0 (by decide) rfl (c_X5_refuse l hOK k0 hq13) (kw_X5_80 hF.2.2.2.2 ⟨Nat.le_of_ble_eq_true rfl, Nat.le_of_ble_eq_true rfl⟩) rfl rfl (Nat.le_of_ble_eq_true rfl) dX5_weigh_40 ⟨Nat.zero_le _, Nat.zero_le _⟩) hS (fun H locs hW hS => ?_)
        refine lv_if_eq (tgt := 49) hx hb dX5_weigh_43 (by decide) (fun c14 => ?_) (fun c14 => ?_)
        · have hs := ite_t hs c14
          refine lv_aload_n hx hb dX5_weigh_49 rfl (lv_at hl 0 rfl) ?_
          obtain ⟨q15, hq15, hs⟩ := obind_e hs
          refine end_v (run_V (q := (RX5, TX5, 21)) (ci := 5) hF hKK hW hS hl.1 k0 (by decide) rfl (c_X5_change l hOK k0 hq15) (kw_X5_84 hF.2.2.2.2 ⟨Nat.le_of_ble_eq_true rfl, Nat.le_of_ble_eq_true rfl⟩) rfl rfl (Nat.le_of_ble_eq_true rfl) dX5_weigh_50 ⟨Nat.zero_le _, Nat.zero_le _⟩) hS (fun H locs hW hS => ?_)
          refine lv_aload_n hx hb dX5_weigh_53 rfl (lv_at hl 0 rfl) ?_
          refine lv_iload_n hx hb dX5_weigh_54 rfl (lv_at hl 1 rfl) ?_
          obtain ⟨q16, hq16, hs⟩ := obind_e hs
          refine end_i (run_V (q := (RX5, TX5, 21)) (ci := 5) hF hKK hW hS hl.1 k0 (by decide) rfl (c_X5_weight l hOK k0 hq16) (kw_X5_103 hF.2.2.2.2 ⟨Nat.le_of_ble_eq_true rfl, Nat.le_of_ble_eq_true rfl⟩) rfl rfl (Nat.le_of_ble_eq_true rfl) dX5_weigh_55 ⟨Nat.zero_le _, Nat.zero_le _⟩) hS (fun H locs hW hS => ?_)
          refine lv_istore_n (lv' := [(3, .int q16), (0, .ref a0), (1, .int a1), (2, .int a2)]) hx hb dX5_weigh_58 rfl hl (by decide) rfl (fun ls hl => ?_)
          refine lv_aload_n hx hb dX5_weigh_59 rfl (lv_at hl 1 rfl) ?_
          refine gf_5_0 hF hKK hW k0 dX5_weigh_60 ?_
          refine lv_iconst (v := (4 : Int32)) hx hb dX5_weigh_63 (by decide) ?_
          refine lv_iload_n hx hb dX5_weigh_64 rfl (lv_at hl 2 rfl) ?_
          refine lv_iadd hx hb dX5_weigh_65 ?_
          refine lv_iload_n hx hb dX5_weigh_66 rfl (lv_at hl 3 rfl) ?_
          obtain ⟨g17, hs⟩ := gd_some hs
          obtain ⟨μ18, eμ18, hs⟩ := bnd_e hs
          refine ga_st hOK hF hKK hW hS hA (lk_5_0 hOK k0) g17 eμ18 dX5_weigh_67 (fun H locs hW hS => ?_)
          refine lv_iload_n hx hb dX5_weigh_68 rfl (lv_at hl 0 rfl) ?_
          have h9 := Option.some.inj hs
          rw [← h9]
          exact wr_i hF hr hlocks (vp_nar_int _) hW hS dX5_weigh_69
        · have hs := ite_f hs c14
          refine lv_bipush (v := (-3 : Int32)) hx hb dX5_weigh_46 (by decide) ?_
          have h9 := Option.some.inj hs
          rw [← h9]
          exact wr_i hF hr hlocks (vp_nar_int _) hW hS dX5_weigh_48
    · have hs := ite_t hs c4
      refine lv_bipush (v := (-2 : Int32)) hx hb dX5_weigh_20 (by decide) ?_
      have h9 := Option.some.inj hs
      rw [← h9]
      exact wr_i hF hr hlocks (vp_nar_int _) hW hS dX5_weigh_22
  · have hs := ite_t hs c2
    refine lv_iconst (v := (-1 : Int32)) hx hb dX5_weigh_8 (by decide) ?_
    have h9 := Option.some.inj hs
    rw [← h9]
    exact wr_i hF hr hlocks (vp_nar_int _) hW hS dX5_weigh_9

set_option maxHeartbeats 4000000 in
set_option maxRecDepth 100000 in
theorem c_X5_carryOut (l : Launch) {G : va_G} {Λ : Lay} {μ : Mem} (hOK : LayOK Λ) {a0 : Nat} (k0 : inK Λ a0 5) {r : (Int32 × Mem)} (hs : sX5_carryOut Λ μ a0 = some r) : CM l G Λ yX5_carryOut cX5_carryOut 1 (some .int) 6 μ [.ref a0] (QI G Λ r.1 r.2) := by
  refine ofM (own := RX5) (by decide +kernel) rfl (Nat.le_of_ble_eq_true rfl) (fun p e s m args below meth c ls hF hKK hW hr hlocks hl => ?_)
  have hx := hF.1
  have hb := hF.2.1
  have hA : ∀ q, inL Λ q → inL Λ q := fun _ h => h
  have hS : va_S (inL Λ) s.heap s.heap [] := va_S.rf
  have hl : lv_has ls 1 [(0, .ref a0)] := hl
  unfold sX5_carryOut at hs
  refine lv_aload_n hx hb dX5_carryOut_0 rfl (lv_at hl 0 rfl) ?_
  refine gf_5_19 hF hKK hW k0 dX5_carryOut_1 ?_
  obtain ⟨v1, ev1, hs⟩ := bnd_e hs
  refine top_i ev1 ?_
  by_cases c2 : v1 = (98 : Int32)
  · have hs := ite_t hs c2
    refine lv_lookup (off := 52) (tgt := 56) hx hb dX5_carryOut_4 (by decide) (by rw [c2]; decide) (by decide) ?_
    refine lv_aload_n hx hb dX5_carryOut_56 rfl (lv_at hl 0 rfl) ?_
    refine lv_aload_n hx hb dX5_carryOut_57 rfl (lv_at hl 0 rfl) ?_
    refine gf_5_17 hF hKK hW k0 dX5_carryOut_58 ?_
    obtain ⟨q3, hq3, hs⟩ := obind_e hs
    refine end_i (run_V (q := (RX5, TX5, 21)) (ci := 5) hF hKK hW hS hl.1 k0 (by decide) rfl (c_X5_bank l hOK k0 hq3) (kw_X5_230 hF.2.2.2.2 ⟨Nat.le_of_ble_eq_true rfl, Nat.le_of_ble_eq_true rfl⟩) rfl rfl (Nat.le_of_ble_eq_true rfl) dX5_carryOut_61 ⟨Nat.zero_le _, Nat.zero_le _⟩) hS (fun H locs hW hS => ?_)
    have h9 := Option.some.inj hs
    rw [← h9]
    exact wr_i hF hr hlocks (vp_nar_int _) hW hS dX5_carryOut_64
  have hs := ite_f hs c2
  by_cases c4 : v1 = (99 : Int32)
  · have hs := ite_t hs c4
    refine lv_lookup (off := 87) (tgt := 91) hx hb dX5_carryOut_4 (by decide) (by rw [c4]; decide) (by decide) ?_
    refine lv_aload_n hx hb dX5_carryOut_91 rfl (lv_at hl 0 rfl) ?_
    refine lv_aload_n hx hb dX5_carryOut_92 rfl (lv_at hl 0 rfl) ?_
    refine gf_5_17 hF hKK hW k0 dX5_carryOut_93 ?_
    refine lv_aload_n hx hb dX5_carryOut_96 rfl (lv_at hl 0 rfl) ?_
    refine gf_5_18 hF hKK hW k0 dX5_carryOut_97 ?_
    obtain ⟨q5, hq5, hs⟩ := obind_e hs
    refine end_i (run_V (q := (RX5, TX5, 21)) (ci := 5) hF hKK hW hS hl.1 k0 (by decide) rfl (c_X5_cut l hOK k0 hq5) (kw_X5_239 hF.2.2.2.2 ⟨Nat.le_of_ble_eq_true rfl, Nat.le_of_ble_eq_true rfl⟩) rfl rfl (Nat.le_of_ble_eq_true rfl) dX5_carryOut_100 ⟨Nat.zero_le _, Nat.zero_le _⟩) hS (fun H locs hW hS => ?_)
    have h9 := Option.some.inj hs
    rw [← h9]
    exact wr_i hF hr hlocks (vp_nar_int _) hW hS dX5_carryOut_103
  have hs := ite_f hs c4
  by_cases c6 : v1 = (106 : Int32)
  · have hs := ite_t hs c6
    refine lv_lookup (off := 74) (tgt := 78) hx hb dX5_carryOut_4 (by decide) (by rw [c6]; decide) (by decide) ?_
    refine lv_aload_n hx hb dX5_carryOut_78 rfl (lv_at hl 0 rfl) ?_
    refine lv_aload_n hx hb dX5_carryOut_79 rfl (lv_at hl 0 rfl) ?_
    refine gf_5_17 hF hKK hW k0 dX5_carryOut_80 ?_
    refine lv_aload_n hx hb dX5_carryOut_83 rfl (lv_at hl 0 rfl) ?_
    refine gf_5_18 hF hKK hW k0 dX5_carryOut_84 ?_
    obtain ⟨q7, hq7, hs⟩ := obind_e hs
    refine end_i (run_V (q := (RX5, TX5, 21)) (ci := 5) hF hKK hW hS hl.1 k0 (by decide) rfl (c_X5_join l hOK k0 hq7) (kw_X5_236 hF.2.2.2.2 ⟨Nat.le_of_ble_eq_true rfl, Nat.le_of_ble_eq_true rfl⟩) rfl rfl (Nat.le_of_ble_eq_true rfl) dX5_carryOut_87 ⟨Nat.zero_le _, Nat.zero_le _⟩) hS (fun H locs hW hS => ?_)
    have h9 := Option.some.inj hs
    rw [← h9]
    exact wr_i hF hr hlocks (vp_nar_int _) hW hS dX5_carryOut_90
  have hs := ite_f hs c6
  by_cases c8 : v1 = (116 : Int32)
  · have hs := ite_t hs c8
    refine lv_lookup (off := 100) (tgt := 104) hx hb dX5_carryOut_4 (by decide) (by rw [c8]; decide) (by decide) ?_
    refine lv_aload_n hx hb dX5_carryOut_104 rfl (lv_at hl 0 rfl) ?_
    refine lv_aload_n hx hb dX5_carryOut_105 rfl (lv_at hl 0 rfl) ?_
    refine gf_5_17 hF hKK hW k0 dX5_carryOut_106 ?_
    obtain ⟨q9, hq9, hs⟩ := obind_e hs
    refine end_i (run_V (q := (RX5, TX5, 21)) (ci := 5) hF hKK hW hS hl.1 k0 (by decide) rfl (c_X5_turn l hOK k0 hq9) (kw_X5_242 hF.2.2.2.2 ⟨Nat.le_of_ble_eq_true rfl, Nat.le_of_ble_eq_true rfl⟩) rfl rfl (Nat.le_of_ble_eq_true rfl) dX5_carryOut_109 ⟨Nat.zero_le _, Nat.zero_le _⟩) hS (fun H locs hW hS => ?_)
    have h9 := Option.some.inj hs
    rw [← h9]
    exact wr_i hF hr hlocks (vp_nar_int _) hW hS dX5_carryOut_112
  have hs := ite_f hs c8
  by_cases c10 : v1 = (119 : Int32)
  · have hs := ite_t hs c10
    refine lv_lookup (off := 61) (tgt := 65) hx hb dX5_carryOut_4 (by decide) (by rw [c10]; decide) (by decide) ?_
    refine lv_aload_n hx hb dX5_carryOut_65 rfl (lv_at hl 0 rfl) ?_
    refine lv_aload_n hx hb dX5_carryOut_66 rfl (lv_at hl 0 rfl) ?_
    refine gf_5_17 hF hKK hW k0 dX5_carryOut_67 ?_
    refine lv_aload_n hx hb dX5_carryOut_70 rfl (lv_at hl 0 rfl) ?_
    refine gf_5_18 hF hKK hW k0 dX5_carryOut_71 ?_
    obtain ⟨q11, hq11, hs⟩ := obind_e hs
    refine end_i (run_V (q := (RX5, TX5, 21)) (ci := 5) hF hKK hW hS hl.1 k0 (by decide) rfl (c_X5_weigh l hOK k0 hq11) (kw_X5_233 hF.2.2.2.2 ⟨Nat.le_of_ble_eq_true rfl, Nat.le_of_ble_eq_true rfl⟩) rfl rfl (Nat.le_of_ble_eq_true rfl) dX5_carryOut_74 ⟨Nat.zero_le _, Nat.zero_le _⟩) hS (fun H locs hW hS => ?_)
    have h9 := Option.some.inj hs
    rw [← h9]
    exact wr_i hF hr hlocks (vp_nar_int _) hW hS dX5_carryOut_77
  have hs := ite_f hs c10
  refine lv_lookup (off := 109) (tgt := 113) hx hb dX5_carryOut_4 (by decide) ((lv_osw c2 (by decide)).trans ((lv_osw c4 (by decide)).trans ((lv_osw c6 (by decide)).trans ((lv_osw c8 (by decide)).trans ((lv_osw c10 (by decide)).trans rfl))))) (by decide) ?_
  refine lv_aload_n hx hb dX5_carryOut_113 rfl (lv_at hl 0 rfl) ?_
  refine lv_aload_n hx hb dX5_carryOut_114 rfl (lv_at hl 0 rfl) ?_
  refine gf_5_17 hF hKK hW k0 dX5_carryOut_115 ?_
  refine lv_aload_n hx hb dX5_carryOut_118 rfl (lv_at hl 0 rfl) ?_
  refine gf_5_18 hF hKK hW k0 dX5_carryOut_119 ?_
  obtain ⟨q12, hq12, hs⟩ := obind_e hs
  refine end_i (run_V (q := (RX5, TX5, 21)) (ci := 5) hF hKK hW hS hl.1 k0 (by decide) rfl (c_X5_rise l hOK k0 hq12) (kw_X5_245 hF.2.2.2.2 ⟨Nat.le_of_ble_eq_true rfl, Nat.le_of_ble_eq_true rfl⟩) rfl rfl (Nat.le_of_ble_eq_true rfl) dX5_carryOut_122 ⟨Nat.zero_le _, Nat.zero_le _⟩) hS (fun H locs hW hS => ?_)
  have h9 := Option.some.inj hs
  rw [← h9]
  exact wr_i hF hr hlocks (vp_nar_int _) hW hS dX5_carryOut_125

set_option maxHeartbeats 4000000 in
set_option maxRecDepth 100000 in
theorem cl_X5_climb_5 {p : Program} {l : Launch} {e : Env} {s : State} {m : MethodId} {args : Array Value} {below : List Frame} {meth : Method} {c : Code} {G : va_G} {Λ : Lay} {μ : Mem} {r : Int32} (hOK : LayOK Λ) (hF : CallFix p m c cX5_climb 5 s args tw RX5) (hKK : KK G Λ s) (hr : meth.sig.returnType = (some .int)) (hlocks : meth.locks = false) {x0 : Nat} (kx0 : inK Λ x0 5) {x2 : Int32} : ∀ (n : Nat) (x3 : Int32) (x4 : Int32) (H : Heap) (locs : List Loc) (ls : Array Slot), lpX5_climb_5 Λ μ x0 x2 n x3 x4 = some r → Wd G Λ μ H → va_S (inL Λ) s.heap H locs → lv_has ls 5 [(0, .ref x0), (2, .int x2), (3, .int x3), (4, .int x4)] → W p l e (rmd 5) s m args below meth c H locs 0 0 (MQ below (QI G Λ r μ) args s 0 0 (inL Λ)) (F0 m 5 ls []) := by
  have hx := hF.1
  have hb := hF.2.1
  have hA : ∀ q, inL Λ q → inL Λ q := fun _ h => h
  intro n
  induction n with
  | zero =>
    intro x3 x4 H locs ls hs hW hS hl
    cases hs
  | succ n5 ih5 =>
    intro x3 x4 H locs ls hs hW hS hl
    rw [lpX5_climb_5_s] at hs
    refine lv_iload hx hb dX5_climb_5 (lv_at hl 3 rfl) ?_
    refine lv_iload_n hx hb dX5_climb_7 rfl (lv_at hl 1 rfl) ?_
    refine lv_icmp_ge (tgt := 23) hx hb dX5_climb_8 (by decide) (fun c1 => ?_) (fun c1 => ?_)
    · have hs := ite_t hs c1
      refine lv_iload_n hx hb dX5_climb_23 rfl (lv_at hl 2 rfl) ?_
      have h9 := Option.some.inj hs
      rw [← h9]
      exact wr_i hF hr hlocks (vp_nar_int _) hW hS dX5_climb_24
    · have hs := ite_f hs c1
      refine lv_aload_n hx hb dX5_climb_11 rfl (lv_at hl 0 rfl) ?_
      refine lv_iload_n hx hb dX5_climb_12 rfl (lv_at hl 2 rfl) ?_
      obtain ⟨q2, hq2, hs⟩ := obind_e hs
      refine end_i (run_V (q := (RX5, TX5, 21)) (ci := 5) hF hKK hW hS hl.1 kx0 (by decide) rfl (c_X5_above l hOK kx0 hq2) (kw_X5_150 hF.2.2.2.2 ⟨Nat.le_of_ble_eq_true rfl, Nat.le_of_ble_eq_true rfl⟩) rfl rfl (Nat.le_of_ble_eq_true rfl) dX5_climb_13 ⟨Nat.zero_le _, Nat.zero_le _⟩) hS (fun H locs hW hS => ?_)
      refine lv_istore_n (lv' := [(3, .int q2), (0, .ref x0), (2, .int x2), (4, .int x4)]) hx hb dX5_climb_16 rfl hl (by decide) rfl (fun ls hl => ?_)
      obtain ⟨v3, ev3, hs⟩ := bnd_e hs
      refine lv_iinc (v := v3) (lv' := [(4, .int v3), (3, .int q2), (0, .ref x0), (2, .int x2)]) hx hb dX5_climb_17 hl (k := 3) rfl (by rw [ev3]; rfl) (by decide) rfl (fun ls hl => ?_)
      refine lv_goto (tgt := 5) hx hb dX5_climb_20 (by decide) ?_
      exact ih5 q2 v3 _ _ _ hs hW hS (lv_sub hl [2, 3, 1, 0] rfl)

set_option maxHeartbeats 4000000 in
set_option maxRecDepth 100000 in
theorem c_X5_climb (l : Launch) {G : va_G} {Λ : Lay} {μ : Mem} (hOK : LayOK Λ) {a0 : Nat} (k0 : inK Λ a0 5) {a1 : Int32} {a2 : Int32} {r : Int32} (hs : sX5_climb Λ μ a0 a1 a2 = some r) : CM l G Λ yX5_climb cX5_climb 5 (some .int) 5 μ [.ref a0, .int a1, .int a2] (QI G Λ r μ) := by
  refine ofM (own := RX5) (by decide +kernel) rfl (Nat.le_of_ble_eq_true rfl) (fun p e s m args below meth c ls hF hKK hW hr hlocks hl => ?_)
  have hx := hF.1
  have hb := hF.2.1
  have hA : ∀ q, inL Λ q → inL Λ q := fun _ h => h
  have hS : va_S (inL Λ) s.heap s.heap [] := va_S.rf
  have hl : lv_has ls 5 [(0, .ref a0), (1, .int a1), (2, .int a2)] := hl
  unfold sX5_climb at hs
  refine lv_iload_n hx hb dX5_climb_0 rfl (lv_at hl 1 rfl) ?_
  refine lv_istore_n (lv' := [(3, .int a1), (0, .ref a0), (1, .int a1), (2, .int a2)]) hx hb dX5_climb_1 rfl hl (by decide) rfl (fun ls hl => ?_)
  refine lv_iconst (v := (0 : Int32)) hx hb dX5_climb_2 (by decide) ?_
  refine lv_istore (lv' := [(4, .int (0 : Int32)), (3, .int a1), (0, .ref a0), (1, .int a1), (2, .int a2)]) hx hb dX5_climb_3 hl (by decide) rfl (fun ls hl => ?_)
  exact cl_X5_climb_5 hOK hF hKK hr hlocks k0 fuel a1 (0 : Int32) _ _ _ hs hW hS (lv_sub hl [2, 4, 1, 0] rfl)

set_option maxHeartbeats 4000000 in
set_option maxRecDepth 100000 in
theorem c_X5_sees (l : Launch) {G : va_G} {Λ : Lay} {μ : Mem} (hOK : LayOK Λ) {a0 : Nat} (k0 : inK Λ a0 5) {a1 : Int32} {a2 : Int32} {r : Int32} (hs : sX5_sees Λ μ a0 a1 a2 = some r) : CM l G Λ yX5_sees cX5_sees 3 (some .boolean) 1 μ [.ref a0, .int a1, .int a2] (QI G Λ r μ) := by
  refine ofM (own := RX5) (by decide +kernel) rfl (Nat.le_of_ble_eq_true rfl) (fun p e s m args below meth c ls hF hKK hW hr hlocks hl => ?_)
  have hx := hF.1
  have hb := hF.2.1
  have hA : ∀ q, inL Λ q → inL Λ q := fun _ h => h
  have hS : va_S (inL Λ) s.heap s.heap [] := va_S.rf
  have hl : lv_has ls 3 [(0, .ref a0), (1, .int a1), (2, .int a2)] := hl
  unfold sX5_sees at hs
  refine lv_aload_n hx hb dX5_sees_0 rfl (lv_at hl 0 rfl) ?_
  refine gf_5_20 hF hKK hW k0 dX5_sees_1 ?_
  refine lv_if_ne (tgt := 39) hx hb dX5_sees_4 (by decide) (fun c1 => ?_) (fun c1 => ?_)
  · have hs := ite_f hs c1
    refine lv_iconst (v := (0 : Int32)) hx hb dX5_sees_39 (by decide) ?_
    have h9 := Option.some.inj hs
    rw [← h9]
    exact wr_i hF hr hlocks (isB_nar (Or.inl rfl)) hW hS dX5_sees_40
  · have hs := ite_t hs c1
    refine lv_aload_n hx hb dX5_sees_7 rfl (lv_at hl 0 rfl) ?_
    refine gf_5_16 hF hKK hW k0 dX5_sees_8 ?_
    refine lv_aload_n hx hb dX5_sees_11 rfl (lv_at hl 0 rfl) ?_
    refine gf_5_15 hF hKK hW k0 dX5_sees_12 ?_
    refine lv_icmp_ge (tgt := 39) hx hb dX5_sees_15 (by decide) (fun c2 => ?_) (fun c2 => ?_)
    · have hs := ite_t hs c2
      refine lv_iconst (v := (0 : Int32)) hx hb dX5_sees_39 (by decide) ?_
      have h9 := Option.some.inj hs
      rw [← h9]
      exact wr_i hF hr hlocks (isB_nar (Or.inl rfl)) hW hS dX5_sees_40
    · have hs := ite_f hs c2
      refine lv_aload_n hx hb dX5_sees_18 rfl (lv_at hl 0 rfl) ?_
      refine gf_5_14 hF hKK hW k0 dX5_sees_19 ?_
      refine lv_aload_n hx hb dX5_sees_22 rfl (lv_at hl 0 rfl) ?_
      refine gf_5_16 hF hKK hW k0 dX5_sees_23 ?_
      obtain ⟨g3, hs⟩ := gd_some hs
      refine ga_ld hF hKK hW (lk_5_14 hOK k0) g3 dX5_sees_26 ?_
      refine lv_iload_n hx hb dX5_sees_27 rfl (lv_at hl 1 rfl) ?_
      refine lv_iload_n hx hb dX5_sees_28 rfl (lv_at hl 2 rfl) ?_
      obtain ⟨q4, hq4, hs⟩ := obind_e hs
      refine end_i (run_S hF hKK hW hS hl.1 (c_X5_isBetween l hOK  hq4) (kw_X5_62 hF.2.2.2.2 ⟨Nat.le_of_ble_eq_true rfl, Nat.le_of_ble_eq_true rfl⟩) rfl rfl (Nat.le_of_ble_eq_true rfl) dX5_sees_29 ⟨Nat.zero_le _, Nat.zero_le _⟩) hS (fun H locs hW hS => ?_)
      refine lv_if_eq (tgt := 39) hx hb dX5_sees_32 (by decide) (fun c5 => ?_) (fun c5 => ?_)
      · have hs := ite_t hs c5
        refine lv_iconst (v := (0 : Int32)) hx hb dX5_sees_39 (by decide) ?_
        have h9 := Option.some.inj hs
        rw [← h9]
        exact wr_i hF hr hlocks (isB_nar (Or.inl rfl)) hW hS dX5_sees_40
      · have hs := ite_f hs c5
        refine lv_iconst (v := (1 : Int32)) hx hb dX5_sees_35 (by decide) ?_
        refine lv_goto (tgt := 40) hx hb dX5_sees_36 (by decide) ?_
        have h9 := Option.some.inj hs
        rw [← h9]
        exact wr_i hF hr hlocks (isB_nar (Or.inr rfl)) hW hS dX5_sees_40

set_option maxHeartbeats 4000000 in
set_option maxRecDepth 100000 in
theorem c_X5_must (l : Launch) {G : va_G} {Λ : Lay} {μ : Mem} (hOK : LayOK Λ) {a0 : Nat} (k0 : inK Λ a0 5) {a1 : Int32} {r : Mem} (hs : sX5_must Λ μ a0 a1 = some r) : CM l G Λ yX5_must cX5_must 2 none 2 μ [.ref a0, .int a1] (QV G Λ r) := by
  refine ofM (own := RX5) (by decide +kernel) rfl (Nat.le_of_ble_eq_true rfl) (fun p e s m args below meth c ls hF hKK hW hr hlocks hl => ?_)
  have hx := hF.1
  have hb := hF.2.1
  have hA : ∀ q, inL Λ q → inL Λ q := fun _ h => h
  have hS : va_S (inL Λ) s.heap s.heap [] := va_S.rf
  have hl : lv_has ls 2 [(0, .ref a0), (1, .int a1)] := hl
  unfold sX5_must at hs
  refine lv_aload_n hx hb dX5_must_0 rfl (lv_at hl 0 rfl) ?_
  refine lv_dup hx hb dX5_must_1 rfl ?_
  refine gf_5_20 hF hKK hW k0 dX5_must_2 ?_
  refine lv_aload_n hx hb dX5_must_5 rfl (lv_at hl 0 rfl) ?_
  refine lv_iload_n hx hb dX5_must_6 rfl (lv_at hl 1 rfl) ?_
  refine lv_iload_n hx hb dX5_must_7 rfl (lv_at hl 1 rfl) ?_
  obtain ⟨q1, hq1, hs⟩ := obind_e hs
  refine end_i (run_V (q := (RX5, TX5, 21)) (ci := 5) hF hKK hW hS hl.1 k0 (by decide) rfl (c_X5_sees l hOK k0 hq1) (kw_X5_196 hF.2.2.2.2 ⟨Nat.le_of_ble_eq_true rfl, Nat.le_of_ble_eq_true rfl⟩) rfl rfl (Nat.le_of_ble_eq_true rfl) dX5_must_8 ⟨Nat.zero_le _, Nat.zero_le _⟩) hS (fun H locs hW hS => ?_)
  refine lv_if_ne (tgt := 18) hx hb dX5_must_11 (by decide) (fun c2 => ?_) (fun c2 => ?_)
  · have hs := ite_f hs c2
    refine lv_iconst (v := (0 : Int32)) hx hb dX5_must_18 (by decide) ?_
    refine lv_ior hx hb dX5_must_19 ?_
    obtain ⟨g7, hs⟩ := gd_some hs
    obtain ⟨μ3, eμ3, hs⟩ := bnd_e hs
    refine pf_5_20 g7 hOK hF hKK hW hS hA k0 eμ3 dX5_must_20 (fun H locs hW hS => ?_)
    refine lv_aload_n hx hb dX5_must_23 rfl (lv_at hl 0 rfl) ?_
    refine lv_dup hx hb dX5_must_24 rfl ?_
    refine gf_5_16 hF hKK hW k0 dX5_must_25 ?_
    refine lv_aload_n hx hb dX5_must_28 rfl (lv_at hl 0 rfl) ?_
    refine gf_5_20 hF hKK hW k0 dX5_must_29 ?_
    refine lv_if_eq (tgt := 39) hx hb dX5_must_32 (by decide) (fun c4 => ?_) (fun c4 => ?_)
    · have hs := ite_t hs c4
      refine lv_iconst (v := (1 : Int32)) hx hb dX5_must_39 (by decide) ?_
      refine lv_iadd hx hb dX5_must_40 ?_
      obtain ⟨μ5, eμ5, hs⟩ := bnd_e hs
      refine pf_5_16 hOK hF hKK hW hS hA k0 eμ5 dX5_must_41 (fun H locs hW hS => ?_)
      have h9 := Option.some.inj hs
      rw [← h9]
      exact wr_v hF hr hlocks hW hS dX5_must_44
    · have hs := ite_f hs c4
      refine lv_iconst (v := (0 : Int32)) hx hb dX5_must_35 (by decide) ?_
      refine lv_goto (tgt := 40) hx hb dX5_must_36 (by decide) ?_
      refine lv_iadd hx hb dX5_must_40 ?_
      obtain ⟨μ6, eμ6, hs⟩ := bnd_e hs
      refine pf_5_16 hOK hF hKK hW hS hA k0 eμ6 dX5_must_41 (fun H locs hW hS => ?_)
      have h9 := Option.some.inj hs
      rw [← h9]
      exact wr_v hF hr hlocks hW hS dX5_must_44
  · have hs := ite_t hs c2
    refine lv_iconst (v := (1 : Int32)) hx hb dX5_must_14 (by decide) ?_
    refine lv_goto (tgt := 19) hx hb dX5_must_15 (by decide) ?_
    refine lv_ior hx hb dX5_must_19 ?_
    obtain ⟨g12, hs⟩ := gd_some hs
    obtain ⟨μ8, eμ8, hs⟩ := bnd_e hs
    refine pf_5_20 g12 hOK hF hKK hW hS hA k0 eμ8 dX5_must_20 (fun H locs hW hS => ?_)
    refine lv_aload_n hx hb dX5_must_23 rfl (lv_at hl 0 rfl) ?_
    refine lv_dup hx hb dX5_must_24 rfl ?_
    refine gf_5_16 hF hKK hW k0 dX5_must_25 ?_
    refine lv_aload_n hx hb dX5_must_28 rfl (lv_at hl 0 rfl) ?_
    refine gf_5_20 hF hKK hW k0 dX5_must_29 ?_
    refine lv_if_eq (tgt := 39) hx hb dX5_must_32 (by decide) (fun c9 => ?_) (fun c9 => ?_)
    · have hs := ite_t hs c9
      refine lv_iconst (v := (1 : Int32)) hx hb dX5_must_39 (by decide) ?_
      refine lv_iadd hx hb dX5_must_40 ?_
      obtain ⟨μ10, eμ10, hs⟩ := bnd_e hs
      refine pf_5_16 hOK hF hKK hW hS hA k0 eμ10 dX5_must_41 (fun H locs hW hS => ?_)
      have h9 := Option.some.inj hs
      rw [← h9]
      exact wr_v hF hr hlocks hW hS dX5_must_44
    · have hs := ite_f hs c9
      refine lv_iconst (v := (0 : Int32)) hx hb dX5_must_35 (by decide) ?_
      refine lv_goto (tgt := 40) hx hb dX5_must_36 (by decide) ?_
      refine lv_iadd hx hb dX5_must_40 ?_
      obtain ⟨μ11, eμ11, hs⟩ := bnd_e hs
      refine pf_5_16 hOK hF hKK hW hS hA k0 eμ11 dX5_must_41 (fun H locs hW hS => ?_)
      have h9 := Option.some.inj hs
      rw [← h9]
      exact wr_v hF hr hlocks hW hS dX5_must_44

set_option maxHeartbeats 4000000 in
set_option maxRecDepth 100000 in
theorem cl_X5_readNumber_29 {p : Program} {l : Launch} {e : Env} {s : State} {m : MethodId} {args : Array Value} {below : List Frame} {meth : Method} {c : Code} {G : va_G} {Λ : Lay} {r : (Int32 × Mem)} (hOK : LayOK Λ) (hF : CallFix p m c cX5_readNumber 3 s args tw RX5) (hKK : KK G Λ s) (hr : meth.sig.returnType = (some .int)) (hlocks : meth.locks = false) {x0 : Nat} (kx0 : inK Λ x0 5) : ∀ (n : Nat) (μ : Mem) (x1 : Int32) (x2 : Int32) (H : Heap) (locs : List Loc) (ls : Array Slot), lpX5_readNumber_29 Λ x0 n μ x1 x2 = some r → Wd G Λ μ H → va_S (inL Λ) s.heap H locs → lv_has ls 3 [(0, .ref x0), (1, .int x1), (2, .int x2)] → W p l e (rmd 2) s m args below meth c H locs 0 0 (MQ below (QI G Λ r.1 r.2) args s 0 0 (inL Λ)) (F0 m 29 ls []) := by
  have hx := hF.1
  have hb := hF.2.1
  have hA : ∀ q, inL Λ q → inL Λ q := fun _ h => h
  intro n
  induction n with
  | zero =>
    intro μ x1 x2 H locs ls hs hW hS hl
    cases hs
  | succ n29 ih29 =>
    intro μ x1 x2 H locs ls hs hW hS hl
    rw [lpX5_readNumber_29_s] at hs
    refine lv_iload_n hx hb dX5_readNumber_29 rfl (lv_at hl 2 rfl) ?_
    refine lv_iconst (v := (2 : Int32)) hx hb dX5_readNumber_30 (by decide) ?_
    refine lv_icmp_ge (tgt := 79) hx hb dX5_readNumber_31 (by decide) (fun c4 => ?_) (fun c4 => ?_)
    · have hs := ite_t hs c4
      refine lv_iload_n hx hb dX5_readNumber_79 rfl (lv_at hl 1 rfl) ?_
      have h9 := Option.some.inj hs
      rw [← h9]
      exact wr_i hF hr hlocks (vp_nar_int _) hW hS dX5_readNumber_80
    · have hs := ite_f hs c4
      refine lv_aload_n hx hb dX5_readNumber_34 rfl (lv_at hl 0 rfl) ?_
      refine lv_bipush (v := (48 : Int32)) hx hb dX5_readNumber_35 (by decide) ?_
      refine lv_bipush (v := (57 : Int32)) hx hb dX5_readNumber_37 (by decide) ?_
      obtain ⟨q5, hq5, hs⟩ := obind_e hs
      refine end_i (run_V (q := (RX5, TX5, 21)) (ci := 5) hF hKK hW hS hl.1 kx0 (by decide) rfl (c_X5_sees l hOK kx0 hq5) (kw_X5_196 hF.2.2.2.2 ⟨Nat.le_of_ble_eq_true rfl, Nat.le_of_ble_eq_true rfl⟩) rfl rfl (Nat.le_of_ble_eq_true rfl) dX5_readNumber_39 ⟨Nat.zero_le _, Nat.zero_le _⟩) hS (fun H locs hW hS => ?_)
      refine lv_if_eq (tgt := 79) hx hb dX5_readNumber_42 (by decide) (fun c6 => ?_) (fun c6 => ?_)
      · have hs := ite_t hs c6
        refine lv_iload_n hx hb dX5_readNumber_79 rfl (lv_at hl 1 rfl) ?_
        have h9 := Option.some.inj hs
        rw [← h9]
        exact wr_i hF hr hlocks (vp_nar_int _) hW hS dX5_readNumber_80
      · have hs := ite_f hs c6
        refine lv_bipush (v := (10 : Int32)) hx hb dX5_readNumber_45 (by decide) ?_
        refine lv_iload_n hx hb dX5_readNumber_47 rfl (lv_at hl 1 rfl) ?_
        refine lv_imul hx hb dX5_readNumber_48 ?_
        refine lv_aload_n hx hb dX5_readNumber_49 rfl (lv_at hl 0 rfl) ?_
        refine gf_5_14 hF hKK hW kx0 dX5_readNumber_50 ?_
        refine lv_aload_n hx hb dX5_readNumber_53 rfl (lv_at hl 0 rfl) ?_
        refine gf_5_16 hF hKK hW kx0 dX5_readNumber_54 ?_
        obtain ⟨g7, hs⟩ := gd_some hs
        refine ga_ld hF hKK hW (lk_5_14 hOK kx0) g7 dX5_readNumber_57 ?_
        refine lv_iadd hx hb dX5_readNumber_58 ?_
        refine lv_bipush (v := (48 : Int32)) hx hb dX5_readNumber_59 (by decide) ?_
        refine lv_isub hx hb dX5_readNumber_61 ?_
        obtain ⟨v8, ev8, hs⟩ := bnd_e hs
        refine top_i ev8 ?_
        refine lv_istore_n (lv' := [(1, .int v8), (0, .ref x0), (2, .int x2)]) hx hb dX5_readNumber_62 rfl hl (by decide) rfl (fun ls hl => ?_)
        refine lv_aload_n hx hb dX5_readNumber_63 rfl (lv_at hl 1 rfl) ?_
        refine lv_dup hx hb dX5_readNumber_64 rfl ?_
        refine gf_5_16 hF hKK hW kx0 dX5_readNumber_65 ?_
        refine lv_iconst (v := (1 : Int32)) hx hb dX5_readNumber_68 (by decide) ?_
        refine lv_iadd hx hb dX5_readNumber_69 ?_
        obtain ⟨μ9, eμ9, hs⟩ := bnd_e hs
        refine pf_5_16 hOK hF hKK hW hS hA kx0 eμ9 dX5_readNumber_70 (fun H locs hW hS => ?_)
        obtain ⟨v10, ev10, hs⟩ := bnd_e hs
        refine lv_iinc (v := v10) (lv' := [(2, .int v10), (1, .int v8), (0, .ref x0)]) hx hb dX5_readNumber_73 hl (k := 2) rfl (by rw [ev10]; rfl) (by decide) rfl (fun ls hl => ?_)
        refine lv_goto (tgt := 29) hx hb dX5_readNumber_76 (by decide) ?_
        exact ih29 μ9 v8 v10 _ _ _ hs hW hS (lv_sub hl [2, 1, 0] rfl)

set_option maxHeartbeats 4000000 in
set_option maxRecDepth 100000 in
theorem c_X5_readNumber (l : Launch) {G : va_G} {Λ : Lay} {μ : Mem} (hOK : LayOK Λ) {a0 : Nat} (k0 : inK Λ a0 5) {r : (Int32 × Mem)} (hs : sX5_readNumber Λ μ a0 = some r) : CM l G Λ yX5_readNumber cX5_readNumber 3 (some .int) 2 μ [.ref a0] (QI G Λ r.1 r.2) := by
  refine ofM (own := RX5) (by decide +kernel) rfl (Nat.le_of_ble_eq_true rfl) (fun p e s m args below meth c ls hF hKK hW hr hlocks hl => ?_)
  have hx := hF.1
  have hb := hF.2.1
  have hA : ∀ q, inL Λ q → inL Λ q := fun _ h => h
  have hS : va_S (inL Λ) s.heap s.heap [] := va_S.rf
  have hl : lv_has ls 3 [(0, .ref a0)] := hl
  unfold sX5_readNumber at hs
  refine lv_aload_n hx hb dX5_readNumber_0 rfl (lv_at hl 0 rfl) ?_
  refine lv_dup hx hb dX5_readNumber_1 rfl ?_
  refine gf_5_20 hF hKK hW k0 dX5_readNumber_2 ?_
  refine lv_aload_n hx hb dX5_readNumber_5 rfl (lv_at hl 0 rfl) ?_
  refine lv_bipush (v := (48 : Int32)) hx hb dX5_readNumber_6 (by decide) ?_
  refine lv_bipush (v := (57 : Int32)) hx hb dX5_readNumber_8 (by decide) ?_
  obtain ⟨q1, hq1, hs⟩ := obind_e hs
  refine end_i (run_V (q := (RX5, TX5, 21)) (ci := 5) hF hKK hW hS hl.1 k0 (by decide) rfl (c_X5_sees l hOK k0 hq1) (kw_X5_196 hF.2.2.2.2 ⟨Nat.le_of_ble_eq_true rfl, Nat.le_of_ble_eq_true rfl⟩) rfl rfl (Nat.le_of_ble_eq_true rfl) dX5_readNumber_10 ⟨Nat.zero_le _, Nat.zero_le _⟩) hS (fun H locs hW hS => ?_)
  refine lv_if_ne (tgt := 20) hx hb dX5_readNumber_13 (by decide) (fun c2 => ?_) (fun c2 => ?_)
  · have hs := ite_f hs c2
    refine lv_iconst (v := (0 : Int32)) hx hb dX5_readNumber_20 (by decide) ?_
    refine lv_ior hx hb dX5_readNumber_21 ?_
    obtain ⟨g11, hs⟩ := gd_some hs
    obtain ⟨μ3, eμ3, hs⟩ := bnd_e hs
    refine pf_5_20 g11 hOK hF hKK hW hS hA k0 eμ3 dX5_readNumber_22 (fun H locs hW hS => ?_)
    refine lv_iconst (v := (0 : Int32)) hx hb dX5_readNumber_25 (by decide) ?_
    refine lv_istore_n (lv' := [(1, .int (0 : Int32)), (0, .ref a0)]) hx hb dX5_readNumber_26 rfl hl (by decide) rfl (fun ls hl => ?_)
    refine lv_iconst (v := (0 : Int32)) hx hb dX5_readNumber_27 (by decide) ?_
    refine lv_istore_n (lv' := [(2, .int (0 : Int32)), (1, .int (0 : Int32)), (0, .ref a0)]) hx hb dX5_readNumber_28 rfl hl (by decide) rfl (fun ls hl => ?_)
    exact cl_X5_readNumber_29 hOK hF hKK hr hlocks k0 fuel μ3 (0 : Int32) (0 : Int32) _ _ _ hs hW hS (lv_sub hl [2, 1, 0] rfl)
  · have hs := ite_t hs c2
    refine lv_iconst (v := (1 : Int32)) hx hb dX5_readNumber_16 (by decide) ?_
    refine lv_goto (tgt := 21) hx hb dX5_readNumber_17 (by decide) ?_
    refine lv_ior hx hb dX5_readNumber_21 ?_
    obtain ⟨g13, hs⟩ := gd_some hs
    obtain ⟨μ12, eμ12, hs⟩ := bnd_e hs
    refine pf_5_20 g13 hOK hF hKK hW hS hA k0 eμ12 dX5_readNumber_22 (fun H locs hW hS => ?_)
    refine lv_iconst (v := (0 : Int32)) hx hb dX5_readNumber_25 (by decide) ?_
    refine lv_istore_n (lv' := [(1, .int (0 : Int32)), (0, .ref a0)]) hx hb dX5_readNumber_26 rfl hl (by decide) rfl (fun ls hl => ?_)
    refine lv_iconst (v := (0 : Int32)) hx hb dX5_readNumber_27 (by decide) ?_
    refine lv_istore_n (lv' := [(2, .int (0 : Int32)), (1, .int (0 : Int32)), (0, .ref a0)]) hx hb dX5_readNumber_28 rfl hl (by decide) rfl (fun ls hl => ?_)
    exact cl_X5_readNumber_29 hOK hF hKK hr hlocks k0 fuel μ12 (0 : Int32) (0 : Int32) _ _ _ hs hW hS (lv_sub hl [2, 1, 0] rfl)

set_option maxHeartbeats 4000000 in
set_option maxRecDepth 100000 in
theorem c_X5_readBehind (l : Launch) {G : va_G} {Λ : Lay} {μ : Mem} (hOK : LayOK Λ) {a0 : Nat} (k0 : inK Λ a0 5) {a1 : Int32} {r : Mem} (hs : sX5_readBehind Λ μ a0 a1 = some r) : CM l G Λ yX5_readBehind cX5_readBehind 2 none 3 μ [.ref a0, .int a1] (QV G Λ r) := by
  refine ofM (own := RX5) (by decide +kernel) rfl (Nat.le_of_ble_eq_true rfl) (fun p e s m args below meth c ls hF hKK hW hr hlocks hl => ?_)
  have hx := hF.1
  have hb := hF.2.1
  have hA : ∀ q, inL Λ q → inL Λ q := fun _ h => h
  have hS : va_S (inL Λ) s.heap s.heap [] := va_S.rf
  have hl : lv_has ls 2 [(0, .ref a0), (1, .int a1)] := hl
  unfold sX5_readBehind at hs
  refine lv_aload_n hx hb dX5_readBehind_0 rfl (lv_at hl 0 rfl) ?_
  refine lv_iload_n hx hb dX5_readBehind_1 rfl (lv_at hl 1 rfl) ?_
  obtain ⟨q1, hq1, hs⟩ := obind_e hs
  refine end_v (run_V (q := (RX5, TX5, 21)) (ci := 5) hF hKK hW hS hl.1 k0 (by decide) rfl (c_X5_must l hOK k0 hq1) (kw_X5_199 hF.2.2.2.2 ⟨Nat.le_of_ble_eq_true rfl, Nat.le_of_ble_eq_true rfl⟩) rfl rfl (Nat.le_of_ble_eq_true rfl) dX5_readBehind_2 ⟨Nat.zero_le _, Nat.zero_le _⟩) hS (fun H locs hW hS => ?_)
  refine lv_aload_n hx hb dX5_readBehind_5 rfl (lv_at hl 0 rfl) ?_
  refine lv_aload_n hx hb dX5_readBehind_6 rfl (lv_at hl 0 rfl) ?_
  obtain ⟨q2, hq2, hs⟩ := obind_e hs
  refine end_i (run_V (q := (RX5, TX5, 21)) (ci := 5) hF hKK hW hS hl.1 k0 (by decide) rfl (c_X5_readNumber l hOK k0 hq2) (kw_X5_202 hF.2.2.2.2 ⟨Nat.le_of_ble_eq_true rfl, Nat.le_of_ble_eq_true rfl⟩) rfl rfl (Nat.le_of_ble_eq_true rfl) dX5_readBehind_7 ⟨Nat.zero_le _, Nat.zero_le _⟩) hS (fun H locs hW hS => ?_)
  obtain ⟨μ3, eμ3, hs⟩ := bnd_e hs
  refine pf_5_18 hOK hF hKK hW hS hA k0 eμ3 dX5_readBehind_10 (fun H locs hW hS => ?_)
  have h9 := Option.some.inj hs
  rw [← h9]
  exact wr_v hF hr hlocks hW hS dX5_readBehind_13

set_option maxHeartbeats 4000000 in
set_option maxRecDepth 100000 in
theorem c_X5_readRise (l : Launch) {G : va_G} {Λ : Lay} {μ : Mem} (hOK : LayOK Λ) {a0 : Nat} (k0 : inK Λ a0 5) {r : Mem} (hs : sX5_readRise Λ μ a0 = some r) : CM l G Λ yX5_readRise cX5_readRise 3 none 3 μ [.ref a0] (QV G Λ r) := by
  refine ofM (own := RX5) (by decide +kernel) rfl (Nat.le_of_ble_eq_true rfl) (fun p e s m args below meth c ls hF hKK hW hr hlocks hl => ?_)
  have hx := hF.1
  have hb := hF.2.1
  have hA : ∀ q, inL Λ q → inL Λ q := fun _ h => h
  have hS : va_S (inL Λ) s.heap s.heap [] := va_S.rf
  have hl : lv_has ls 3 [(0, .ref a0)] := hl
  unfold sX5_readRise at hs
  refine lv_aload_n hx hb dX5_readRise_0 rfl (lv_at hl 0 rfl) ?_
  refine lv_bipush (v := (45 : Int32)) hx hb dX5_readRise_1 (by decide) ?_
  refine lv_bipush (v := (45 : Int32)) hx hb dX5_readRise_3 (by decide) ?_
  obtain ⟨q1, hq1, hs⟩ := obind_e hs
  refine end_i (run_V (q := (RX5, TX5, 21)) (ci := 5) hF hKK hW hS hl.1 k0 (by decide) rfl (c_X5_sees l hOK k0 hq1) (kw_X5_196 hF.2.2.2.2 ⟨Nat.le_of_ble_eq_true rfl, Nat.le_of_ble_eq_true rfl⟩) rfl rfl (Nat.le_of_ble_eq_true rfl) dX5_readRise_5 ⟨Nat.zero_le _, Nat.zero_le _⟩) hS (fun H locs hW hS => ?_)
  refine lv_istore_n (lv' := [(1, .int q1), (0, .ref a0)]) hx hb dX5_readRise_8 rfl hl (by decide) rfl (fun ls hl => ?_)
  refine lv_aload_n hx hb dX5_readRise_9 rfl (lv_at hl 1 rfl) ?_
  refine lv_iload_n hx hb dX5_readRise_10 rfl (lv_at hl 0 rfl) ?_
  refine lv_if_eq (tgt := 19) hx hb dX5_readRise_11 (by decide) (fun c2 => ?_) (fun c2 => ?_)
  · have hs := ite_t hs c2
    refine lv_bipush (v := (43 : Int32)) hx hb dX5_readRise_19 (by decide) ?_
    obtain ⟨q3, hq3, hs⟩ := obind_e hs
    refine end_v (run_V (q := (RX5, TX5, 21)) (ci := 5) hF hKK hW hS hl.1 k0 (by decide) rfl (c_X5_must l hOK k0 hq3) (kw_X5_199 hF.2.2.2.2 ⟨Nat.le_of_ble_eq_true rfl, Nat.le_of_ble_eq_true rfl⟩) rfl rfl (Nat.le_of_ble_eq_true rfl) dX5_readRise_21 ⟨Nat.zero_le _, Nat.zero_le _⟩) hS (fun H locs hW hS => ?_)
    refine lv_aload_n hx hb dX5_readRise_24 rfl (lv_at hl 1 rfl) ?_
    obtain ⟨q4, hq4, hs⟩ := obind_e hs
    refine end_i (run_V (q := (RX5, TX5, 21)) (ci := 5) hF hKK hW hS hl.1 k0 (by decide) rfl (c_X5_readNumber l hOK k0 hq4) (kw_X5_202 hF.2.2.2.2 ⟨Nat.le_of_ble_eq_true rfl, Nat.le_of_ble_eq_true rfl⟩) rfl rfl (Nat.le_of_ble_eq_true rfl) dX5_readRise_25 ⟨Nat.zero_le _, Nat.zero_le _⟩) hS (fun H locs hW hS => ?_)
    obtain ⟨v5, ev5, hs⟩ := bnd_e hs
    refine top_i ev5 ?_
    refine lv_istore_n (lv' := [(2, .int v5), (1, .int q1), (0, .ref a0)]) hx hb dX5_readRise_28 rfl hl (by decide) rfl (fun ls hl => ?_)
    refine lv_aload_n hx hb dX5_readRise_29 rfl (lv_at hl 2 rfl) ?_
    refine lv_iload_n hx hb dX5_readRise_30 rfl (lv_at hl 1 rfl) ?_
    refine lv_if_eq (tgt := 39) hx hb dX5_readRise_31 (by decide) (fun c6 => ?_) (fun c6 => ?_)
    · have hs := ite_t hs c6
      refine lv_iload_n hx hb dX5_readRise_39 rfl (lv_at hl 0 rfl) ?_
      obtain ⟨μ7, eμ7, hs⟩ := bnd_e hs
      refine pf_5_18 hOK hF hKK hW hS hA k0 eμ7 dX5_readRise_40 (fun H locs hW hS => ?_)
      have h9 := Option.some.inj hs
      rw [← h9]
      exact wr_v hF hr hlocks hW hS dX5_readRise_43
    · have hs := ite_f hs c6
      refine lv_iload_n hx hb dX5_readRise_34 rfl (lv_at hl 0 rfl) ?_
      refine lv_ineg hx hb dX5_readRise_35 ?_
      refine lv_goto (tgt := 40) hx hb dX5_readRise_36 (by decide) ?_
      obtain ⟨μ8, eμ8, hs⟩ := bnd_e hs
      refine pf_5_18 hOK hF hKK hW hS hA k0 eμ8 dX5_readRise_40 (fun H locs hW hS => ?_)
      have h9 := Option.some.inj hs
      rw [← h9]
      exact wr_v hF hr hlocks hW hS dX5_readRise_43
  · have hs := ite_f hs c2
    refine lv_bipush (v := (45 : Int32)) hx hb dX5_readRise_14 (by decide) ?_
    refine lv_goto (tgt := 21) hx hb dX5_readRise_16 (by decide) ?_
    obtain ⟨q9, hq9, hs⟩ := obind_e hs
    refine end_v (run_V (q := (RX5, TX5, 21)) (ci := 5) hF hKK hW hS hl.1 k0 (by decide) rfl (c_X5_must l hOK k0 hq9) (kw_X5_199 hF.2.2.2.2 ⟨Nat.le_of_ble_eq_true rfl, Nat.le_of_ble_eq_true rfl⟩) rfl rfl (Nat.le_of_ble_eq_true rfl) dX5_readRise_21 ⟨Nat.zero_le _, Nat.zero_le _⟩) hS (fun H locs hW hS => ?_)
    refine lv_aload_n hx hb dX5_readRise_24 rfl (lv_at hl 1 rfl) ?_
    obtain ⟨q10, hq10, hs⟩ := obind_e hs
    refine end_i (run_V (q := (RX5, TX5, 21)) (ci := 5) hF hKK hW hS hl.1 k0 (by decide) rfl (c_X5_readNumber l hOK k0 hq10) (kw_X5_202 hF.2.2.2.2 ⟨Nat.le_of_ble_eq_true rfl, Nat.le_of_ble_eq_true rfl⟩) rfl rfl (Nat.le_of_ble_eq_true rfl) dX5_readRise_25 ⟨Nat.zero_le _, Nat.zero_le _⟩) hS (fun H locs hW hS => ?_)
    obtain ⟨v11, ev11, hs⟩ := bnd_e hs
    refine top_i ev11 ?_
    refine lv_istore_n (lv' := [(2, .int v11), (1, .int q1), (0, .ref a0)]) hx hb dX5_readRise_28 rfl hl (by decide) rfl (fun ls hl => ?_)
    refine lv_aload_n hx hb dX5_readRise_29 rfl (lv_at hl 2 rfl) ?_
    refine lv_iload_n hx hb dX5_readRise_30 rfl (lv_at hl 1 rfl) ?_
    refine lv_if_eq (tgt := 39) hx hb dX5_readRise_31 (by decide) (fun c12 => ?_) (fun c12 => ?_)
    · have hs := ite_t hs c12
      refine lv_iload_n hx hb dX5_readRise_39 rfl (lv_at hl 0 rfl) ?_
      obtain ⟨μ13, eμ13, hs⟩ := bnd_e hs
      refine pf_5_18 hOK hF hKK hW hS hA k0 eμ13 dX5_readRise_40 (fun H locs hW hS => ?_)
      have h9 := Option.some.inj hs
      rw [← h9]
      exact wr_v hF hr hlocks hW hS dX5_readRise_43
    · have hs := ite_f hs c12
      refine lv_iload_n hx hb dX5_readRise_34 rfl (lv_at hl 0 rfl) ?_
      refine lv_ineg hx hb dX5_readRise_35 ?_
      refine lv_goto (tgt := 40) hx hb dX5_readRise_36 (by decide) ?_
      obtain ⟨μ14, eμ14, hs⟩ := bnd_e hs
      refine pf_5_18 hOK hF hKK hW hS hA k0 eμ14 dX5_readRise_40 (fun H locs hW hS => ?_)
      have h9 := Option.some.inj hs
      rw [← h9]
      exact wr_v hF hr hlocks hW hS dX5_readRise_43

set_option maxHeartbeats 4000000 in
set_option maxRecDepth 100000 in
theorem c_X5_write (l : Launch) {G : va_G} {Λ : Lay} {μ : Mem} (hOK : LayOK Λ) {a0 : Nat} (k0 : inK Λ a0 5) {a1 : Int32} {r : Mem} (hs : sX5_write Λ μ a0 a1 = some r) : CM l G Λ yX5_write cX5_write 2 none 0 μ [.ref a0, .int a1] (QV G Λ r) := by
  refine ofM (own := RX5) (by decide +kernel) rfl (Nat.le_of_ble_eq_true rfl) (fun p e s m args below meth c ls hF hKK hW hr hlocks hl => ?_)
  have hx := hF.1
  have hb := hF.2.1
  have hA : ∀ q, inL Λ q → inL Λ q := fun _ h => h
  have hS : va_S (inL Λ) s.heap s.heap [] := va_S.rf
  have hl : lv_has ls 2 [(0, .ref a0), (1, .int a1)] := hl
  unfold sX5_write at hs
  refine lv_aload_n hx hb dX5_write_0 rfl (lv_at hl 0 rfl) ?_
  refine gf_5_12 hF hKK hW k0 dX5_write_1 ?_
  refine lv_aload_n hx hb dX5_write_4 rfl (lv_at hl 0 rfl) ?_
  refine gf_5_13 hF hKK hW k0 dX5_write_5 ?_
  refine lv_iload_n hx hb dX5_write_8 rfl (lv_at hl 1 rfl) ?_
  obtain ⟨g1, hs⟩ := gd_some hs
  obtain ⟨μ2, eμ2, hs⟩ := bnd_e hs
  refine gc_st hOK hF hKK hW hS hA (lk_5_12 hOK k0) g1 eμ2 dX5_write_9 (fun H locs hW hS => ?_)
  refine lv_aload_n hx hb dX5_write_10 rfl (lv_at hl 0 rfl) ?_
  refine lv_dup hx hb dX5_write_11 rfl ?_
  refine gf_5_13 hF hKK hW k0 dX5_write_12 ?_
  refine lv_iconst (v := (1 : Int32)) hx hb dX5_write_15 (by decide) ?_
  refine lv_iadd hx hb dX5_write_16 ?_
  obtain ⟨μ3, eμ3, hs⟩ := bnd_e hs
  refine pf_5_13 hOK hF hKK hW hS hA k0 eμ3 dX5_write_17 (fun H locs hW hS => ?_)
  have h9 := Option.some.inj hs
  rw [← h9]
  exact wr_v hF hr hlocks hW hS dX5_write_20

set_option maxHeartbeats 4000000 in
set_option maxRecDepth 100000 in
theorem c_X5_writeNumber_rec (l : Launch) {G : va_G} {Λ : Lay} {μ : Mem} (hOK : LayOK Λ) {a0 : Nat} (k0 : inK Λ a0 5) {a1 : Int32} {r : Mem} (hs : sX5_writeNumber_rec Λ μ a0 a1 = some r) : CM l G Λ yX5_writeNumber cX5_writeNumber 2 none 1 μ [.ref a0, .int a1] (QV G Λ r) := by
  refine ofM (own := RX5) (by decide +kernel) rfl (Nat.le_of_ble_eq_true rfl) (fun p e s m args below meth c ls hF hKK hW hr hlocks hl => ?_)
  have hx := hF.1
  have hb := hF.2.1
  have hA : ∀ q, inL Λ q → inL Λ q := fun _ h => h
  have hS : va_S (inL Λ) s.heap s.heap [] := va_S.rf
  have hl : lv_has ls 2 [(0, .ref a0), (1, .int a1)] := hl
  unfold sX5_writeNumber_rec at hs
  refine lv_iload_n hx hb dX5_writeNumber_0 rfl (lv_at hl 1 rfl) ?_
  refine lv_bipush (v := (9 : Int32)) hx hb dX5_writeNumber_1 (by decide) ?_
  refine lv_icmp_le (tgt := 14) hx hb dX5_writeNumber_3 (by decide) (fun c1 => ?_) (fun c1 => ?_)
  · have hs := ite_t hs c1
    refine lv_aload_n hx hb dX5_writeNumber_14 rfl (lv_at hl 0 rfl) ?_
    refine lv_bipush (v := (48 : Int32)) hx hb dX5_writeNumber_15 (by decide) ?_
    refine lv_iload_n hx hb dX5_writeNumber_17 rfl (lv_at hl 1 rfl) ?_
    refine lv_bipush (v := (10 : Int32)) hx hb dX5_writeNumber_18 (by decide) ?_
    refine lv_irem hx hb dX5_writeNumber_20 (by decide) ?_
    refine lv_iadd hx hb dX5_writeNumber_21 ?_
    refine lv_i2c (v := (jchar ((48 : Int32) + (a1 - a1 / (10 : Int32) * (10 : Int32))))) hx hb dX5_writeNumber_22 rfl ?_
    obtain ⟨q2, hq2, hs⟩ := obind_e hs
    refine end_v (run_V (q := (RX5, TX5, 21)) (ci := 5) hF hKK hW hS hl.1 k0 (by decide) rfl (c_X5_write l hOK k0 hq2) (kw_X5_183 hF.2.2.2.2 ⟨Nat.le_of_ble_eq_true rfl, Nat.le_of_ble_eq_true rfl⟩) rfl rfl (Nat.le_of_ble_eq_true rfl) dX5_writeNumber_23 ⟨Nat.zero_le _, Nat.zero_le _⟩) hS (fun H locs hW hS => ?_)
    have h9 := Option.some.inj hs
    rw [← h9]
    exact wr_v hF hr hlocks hW hS dX5_writeNumber_26
  · have hs := ite_f hs c1
    refine lv_aload_n hx hb dX5_writeNumber_6 rfl (lv_at hl 0 rfl) ?_
    refine lv_iload_n hx hb dX5_writeNumber_7 rfl (lv_at hl 1 rfl) ?_
    refine lv_bipush (v := (10 : Int32)) hx hb dX5_writeNumber_8 (by decide) ?_
    refine lv_idiv hx hb dX5_writeNumber_10 (by decide) ?_
    cases hs

set_option maxHeartbeats 4000000 in
set_option maxRecDepth 100000 in
theorem c_X5_writeNumber (l : Launch) {G : va_G} {Λ : Lay} {μ : Mem} (hOK : LayOK Λ) {a0 : Nat} (k0 : inK Λ a0 5) {a1 : Int32} {r : Mem} (hs : sX5_writeNumber Λ μ a0 a1 = some r) : CM l G Λ yX5_writeNumber cX5_writeNumber 2 none 2 μ [.ref a0, .int a1] (QV G Λ r) := by
  refine ofM (own := RX5) (by decide +kernel) rfl (Nat.le_of_ble_eq_true rfl) (fun p e s m args below meth c ls hF hKK hW hr hlocks hl => ?_)
  have hx := hF.1
  have hb := hF.2.1
  have hA : ∀ q, inL Λ q → inL Λ q := fun _ h => h
  have hS : va_S (inL Λ) s.heap s.heap [] := va_S.rf
  have hl : lv_has ls 2 [(0, .ref a0), (1, .int a1)] := hl
  unfold sX5_writeNumber at hs
  refine lv_iload_n hx hb dX5_writeNumber_0 rfl (lv_at hl 1 rfl) ?_
  refine lv_bipush (v := (9 : Int32)) hx hb dX5_writeNumber_1 (by decide) ?_
  refine lv_icmp_le (tgt := 14) hx hb dX5_writeNumber_3 (by decide) (fun c1 => ?_) (fun c1 => ?_)
  · have hs := ite_t hs c1
    refine lv_aload_n hx hb dX5_writeNumber_14 rfl (lv_at hl 0 rfl) ?_
    refine lv_bipush (v := (48 : Int32)) hx hb dX5_writeNumber_15 (by decide) ?_
    refine lv_iload_n hx hb dX5_writeNumber_17 rfl (lv_at hl 1 rfl) ?_
    refine lv_bipush (v := (10 : Int32)) hx hb dX5_writeNumber_18 (by decide) ?_
    refine lv_irem hx hb dX5_writeNumber_20 (by decide) ?_
    refine lv_iadd hx hb dX5_writeNumber_21 ?_
    refine lv_i2c (v := (jchar ((48 : Int32) + (a1 - a1 / (10 : Int32) * (10 : Int32))))) hx hb dX5_writeNumber_22 rfl ?_
    obtain ⟨q2, hq2, hs⟩ := obind_e hs
    refine end_v (run_V (q := (RX5, TX5, 21)) (ci := 5) hF hKK hW hS hl.1 k0 (by decide) rfl (c_X5_write l hOK k0 hq2) (kw_X5_183 hF.2.2.2.2 ⟨Nat.le_of_ble_eq_true rfl, Nat.le_of_ble_eq_true rfl⟩) rfl rfl (Nat.le_of_ble_eq_true rfl) dX5_writeNumber_23 ⟨Nat.zero_le _, Nat.zero_le _⟩) hS (fun H locs hW hS => ?_)
    have h9 := Option.some.inj hs
    rw [← h9]
    exact wr_v hF hr hlocks hW hS dX5_writeNumber_26
  · have hs := ite_f hs c1
    refine lv_aload_n hx hb dX5_writeNumber_6 rfl (lv_at hl 0 rfl) ?_
    refine lv_iload_n hx hb dX5_writeNumber_7 rfl (lv_at hl 1 rfl) ?_
    refine lv_bipush (v := (10 : Int32)) hx hb dX5_writeNumber_8 (by decide) ?_
    refine lv_idiv hx hb dX5_writeNumber_10 (by decide) ?_
    obtain ⟨q3, hq3, hs⟩ := obind_e hs
    refine end_v (run_V (q := (RX5, TX5, 21)) (ci := 5) hF hKK hW hS hl.1 k0 (by decide) rfl (c_X5_writeNumber_rec l hOK k0 hq3) (kw_X5_180_rec hF.2.2.2.2 ⟨Nat.le_of_ble_eq_true rfl, Nat.le_of_ble_eq_true rfl⟩) rfl rfl (Nat.le_of_ble_eq_true rfl) dX5_writeNumber_11 ⟨Nat.zero_le _, Nat.zero_le _⟩) hS (fun H locs hW hS => ?_)
    refine lv_aload_n hx hb dX5_writeNumber_14 rfl (lv_at hl 0 rfl) ?_
    refine lv_bipush (v := (48 : Int32)) hx hb dX5_writeNumber_15 (by decide) ?_
    refine lv_iload_n hx hb dX5_writeNumber_17 rfl (lv_at hl 1 rfl) ?_
    refine lv_bipush (v := (10 : Int32)) hx hb dX5_writeNumber_18 (by decide) ?_
    refine lv_irem hx hb dX5_writeNumber_20 (by decide) ?_
    refine lv_iadd hx hb dX5_writeNumber_21 ?_
    refine lv_i2c (v := (jchar ((48 : Int32) + (a1 - a1 / (10 : Int32) * (10 : Int32))))) hx hb dX5_writeNumber_22 rfl ?_
    obtain ⟨q4, hq4, hs⟩ := obind_e hs
    refine end_v (run_V (q := (RX5, TX5, 21)) (ci := 5) hF hKK hW hS hl.1 k0 (by decide) rfl (c_X5_write l hOK k0 hq4) (kw_X5_183 hF.2.2.2.2 ⟨Nat.le_of_ble_eq_true rfl, Nat.le_of_ble_eq_true rfl⟩) rfl rfl (Nat.le_of_ble_eq_true rfl) dX5_writeNumber_23 ⟨Nat.zero_le _, Nat.zero_le _⟩) hS (fun H locs hW hS => ?_)
    have h9 := Option.some.inj hs
    rw [← h9]
    exact wr_v hF hr hlocks hW hS dX5_writeNumber_26

set_option maxHeartbeats 4000000 in
set_option maxRecDepth 100000 in
theorem c_X5_describe (l : Launch) {G : va_G} {Λ : Lay} {μ : Mem} (hOK : LayOK Λ) {a0 : Nat} (k0 : inK Λ a0 5) {a1 : Int32} {r : (Int32 × Mem)} (hs : sX5_describe Λ μ a0 a1 = some r) : CM l G Λ yX5_describe cX5_describe 2 (some .int) 6 μ [.ref a0, .int a1] (QI G Λ r.1 r.2) := by
  refine ofM (own := RX5) (by decide +kernel) rfl (Nat.le_of_ble_eq_true rfl) (fun p e s m args below meth c ls hF hKK hW hr hlocks hl => ?_)
  have hx := hF.1
  have hb := hF.2.1
  have hA : ∀ q, inL Λ q → inL Λ q := fun _ h => h
  have hS : va_S (inL Λ) s.heap s.heap [] := va_S.rf
  have hl : lv_has ls 2 [(0, .ref a0), (1, .int a1)] := hl
  unfold sX5_describe at hs
  refine lv_aload_n hx hb dX5_describe_0 rfl (lv_at hl 0 rfl) ?_
  refine lv_iload_n hx hb dX5_describe_1 rfl (lv_at hl 1 rfl) ?_
  obtain ⟨q1, hq1, hs⟩ := obind_e hs
  refine end_i (run_V (q := (RX5, TX5, 21)) (ci := 5) hF hKK hW hS hl.1 k0 (by decide) rfl (c_X5_isBank l hOK k0 hq1) (kw_X5_99 hF.2.2.2.2 ⟨Nat.le_of_ble_eq_true rfl, Nat.le_of_ble_eq_true rfl⟩) rfl rfl (Nat.le_of_ble_eq_true rfl) dX5_describe_2 ⟨Nat.zero_le _, Nat.zero_le _⟩) hS (fun H locs hW hS => ?_)
  refine lv_if_ne (tgt := 10) hx hb dX5_describe_5 (by decide) (fun c2 => ?_) (fun c2 => ?_)
  · have hs := ite_f hs c2
    refine lv_aload_n hx hb dX5_describe_10 rfl (lv_at hl 0 rfl) ?_
    refine lv_iconst (v := (0 : Int32)) hx hb dX5_describe_11 (by decide) ?_
    obtain ⟨μ3, eμ3, hs⟩ := bnd_e hs
    refine pf_5_13 hOK hF hKK hW hS hA k0 eμ3 dX5_describe_12 (fun H locs hW hS => ?_)
    refine lv_aload_n hx hb dX5_describe_15 rfl (lv_at hl 0 rfl) ?_
    refine lv_iload_n hx hb dX5_describe_16 rfl (lv_at hl 1 rfl) ?_
    obtain ⟨q4, hq4, hs⟩ := obind_e hs
    refine end_v (run_V (q := (RX5, TX5, 21)) (ci := 5) hF hKK hW hS hl.1 k0 (by decide) rfl (c_X5_writeNumber l hOK k0 hq4) (kw_X5_180 hF.2.2.2.2 ⟨Nat.le_of_ble_eq_true rfl, Nat.le_of_ble_eq_true rfl⟩) rfl rfl (Nat.le_of_ble_eq_true rfl) dX5_describe_17 ⟨Nat.zero_le _, Nat.zero_le _⟩) hS (fun H locs hW hS => ?_)
    refine lv_aload_n hx hb dX5_describe_20 rfl (lv_at hl 0 rfl) ?_
    refine lv_bipush (v := (36 : Int32)) hx hb dX5_describe_21 (by decide) ?_
    obtain ⟨q5, hq5, hs⟩ := obind_e hs
    refine end_v (run_V (q := (RX5, TX5, 21)) (ci := 5) hF hKK hW hS hl.1 k0 (by decide) rfl (c_X5_write l hOK k0 hq5) (kw_X5_183 hF.2.2.2.2 ⟨Nat.le_of_ble_eq_true rfl, Nat.le_of_ble_eq_true rfl⟩) rfl rfl (Nat.le_of_ble_eq_true rfl) dX5_describe_23 ⟨Nat.zero_le _, Nat.zero_le _⟩) hS (fun H locs hW hS => ?_)
    refine lv_aload_n hx hb dX5_describe_26 rfl (lv_at hl 0 rfl) ?_
    refine lv_aload_n hx hb dX5_describe_27 rfl (lv_at hl 0 rfl) ?_
    refine lv_iload_n hx hb dX5_describe_28 rfl (lv_at hl 1 rfl) ?_
    obtain ⟨q6, hq6, hs⟩ := obind_e hs
    refine end_i (run_V (q := (RX5, TX5, 21)) (ci := 5) hF hKK hW hS hl.1 k0 (by decide) rfl (c_X5_weight l hOK k0 hq6) (kw_X5_103 hF.2.2.2.2 ⟨Nat.le_of_ble_eq_true rfl, Nat.le_of_ble_eq_true rfl⟩) rfl rfl (Nat.le_of_ble_eq_true rfl) dX5_describe_29 ⟨Nat.zero_le _, Nat.zero_le _⟩) hS (fun H locs hW hS => ?_)
    obtain ⟨q7, hq7, hs⟩ := obind_e hs
    refine end_v (run_V (q := (RX5, TX5, 21)) (ci := 5) hF hKK hW hS hl.1 k0 (by decide) rfl (c_X5_writeNumber l hOK k0 hq7) (kw_X5_180 hF.2.2.2.2 ⟨Nat.le_of_ble_eq_true rfl, Nat.le_of_ble_eq_true rfl⟩) rfl rfl (Nat.le_of_ble_eq_true rfl) dX5_describe_32 ⟨Nat.zero_le _, Nat.zero_le _⟩) hS (fun H locs hW hS => ?_)
    refine lv_aload_n hx hb dX5_describe_35 rfl (lv_at hl 0 rfl) ?_
    refine lv_bipush (v := (58 : Int32)) hx hb dX5_describe_36 (by decide) ?_
    obtain ⟨q8, hq8, hs⟩ := obind_e hs
    refine end_v (run_V (q := (RX5, TX5, 21)) (ci := 5) hF hKK hW hS hl.1 k0 (by decide) rfl (c_X5_write l hOK k0 hq8) (kw_X5_183 hF.2.2.2.2 ⟨Nat.le_of_ble_eq_true rfl, Nat.le_of_ble_eq_true rfl⟩) rfl rfl (Nat.le_of_ble_eq_true rfl) dX5_describe_38 ⟨Nat.zero_le _, Nat.zero_le _⟩) hS (fun H locs hW hS => ?_)
    refine lv_aload_n hx hb dX5_describe_41 rfl (lv_at hl 0 rfl) ?_
    refine lv_aload_n hx hb dX5_describe_42 rfl (lv_at hl 0 rfl) ?_
    refine lv_iload_n hx hb dX5_describe_43 rfl (lv_at hl 1 rfl) ?_
    obtain ⟨q9, hq9, hs⟩ := obind_e hs
    refine end_i (run_V (q := (RX5, TX5, 21)) (ci := 5) hF hKK hW hS hl.1 k0 (by decide) rfl (c_X5_root l hOK k0 hq9) (kw_X5_114 hF.2.2.2.2 ⟨Nat.le_of_ble_eq_true rfl, Nat.le_of_ble_eq_true rfl⟩) rfl rfl (Nat.le_of_ble_eq_true rfl) dX5_describe_44 ⟨Nat.zero_le _, Nat.zero_le _⟩) hS (fun H locs hW hS => ?_)
    obtain ⟨q10, hq10, hs⟩ := obind_e hs
    refine end_v (run_V (q := (RX5, TX5, 21)) (ci := 5) hF hKK hW hS hl.1 k0 (by decide) rfl (c_X5_writeNumber l hOK k0 hq10) (kw_X5_180 hF.2.2.2.2 ⟨Nat.le_of_ble_eq_true rfl, Nat.le_of_ble_eq_true rfl⟩) rfl rfl (Nat.le_of_ble_eq_true rfl) dX5_describe_47 ⟨Nat.zero_le _, Nat.zero_le _⟩) hS (fun H locs hW hS => ?_)
    refine lv_aload_n hx hb dX5_describe_50 rfl (lv_at hl 0 rfl) ?_
    refine lv_bipush (v := (43 : Int32)) hx hb dX5_describe_51 (by decide) ?_
    obtain ⟨q11, hq11, hs⟩ := obind_e hs
    refine end_v (run_V (q := (RX5, TX5, 21)) (ci := 5) hF hKK hW hS hl.1 k0 (by decide) rfl (c_X5_write l hOK k0 hq11) (kw_X5_183 hF.2.2.2.2 ⟨Nat.le_of_ble_eq_true rfl, Nat.le_of_ble_eq_true rfl⟩) rfl rfl (Nat.le_of_ble_eq_true rfl) dX5_describe_53 ⟨Nat.zero_le _, Nat.zero_le _⟩) hS (fun H locs hW hS => ?_)
    refine lv_aload_n hx hb dX5_describe_56 rfl (lv_at hl 0 rfl) ?_
    refine lv_aload_n hx hb dX5_describe_57 rfl (lv_at hl 0 rfl) ?_
    refine lv_iload_n hx hb dX5_describe_58 rfl (lv_at hl 1 rfl) ?_
    obtain ⟨q12, hq12, hs⟩ := obind_e hs
    refine end_i (run_V (q := (RX5, TX5, 21)) (ci := 5) hF hKK hW hS hl.1 k0 (by decide) rfl (c_X5_depth l hOK k0 hq12) (kw_X5_144 hF.2.2.2.2 ⟨Nat.le_of_ble_eq_true rfl, Nat.le_of_ble_eq_true rfl⟩) rfl rfl (Nat.le_of_ble_eq_true rfl) dX5_describe_59 ⟨Nat.zero_le _, Nat.zero_le _⟩) hS (fun H locs hW hS => ?_)
    obtain ⟨q13, hq13, hs⟩ := obind_e hs
    refine end_v (run_V (q := (RX5, TX5, 21)) (ci := 5) hF hKK hW hS hl.1 k0 (by decide) rfl (c_X5_writeNumber l hOK k0 hq13) (kw_X5_180 hF.2.2.2.2 ⟨Nat.le_of_ble_eq_true rfl, Nat.le_of_ble_eq_true rfl⟩) rfl rfl (Nat.le_of_ble_eq_true rfl) dX5_describe_62 ⟨Nat.zero_le _, Nat.zero_le _⟩) hS (fun H locs hW hS => ?_)
    refine lv_aload_n hx hb dX5_describe_65 rfl (lv_at hl 0 rfl) ?_
    refine gf_5_13 hF hKK hW k0 dX5_describe_66 ?_
    have h9 := Option.some.inj hs
    rw [← h9]
    exact wr_i hF hr hlocks (vp_nar_int _) hW hS dX5_describe_69
  · have hs := ite_t hs c2
    refine lv_iconst (v := (-1 : Int32)) hx hb dX5_describe_8 (by decide) ?_
    have h9 := Option.some.inj hs
    rw [← h9]
    exact wr_i hF hr hlocks (vp_nar_int _) hW hS dX5_describe_9

set_option maxHeartbeats 4000000 in
set_option maxRecDepth 100000 in
theorem cl_X5_heaviest_9 {p : Program} {l : Launch} {e : Env} {s : State} {m : MethodId} {args : Array Value} {below : List Frame} {meth : Method} {c : Code} {G : va_G} {Λ : Lay} {μ : Mem} {r : Int32} (hOK : LayOK Λ) (hF : CallFix p m c cX5_heaviest 4 s args tw RX5) (hKK : KK G Λ s) (hr : meth.sig.returnType = (some .int)) (hlocks : meth.locks = false) {x0 : Nat} (kx0 : inK Λ x0 5) {x1 : Int32} : ∀ (n : Nat) (x2 : Int32) (x3 : Int32) (H : Heap) (locs : List Loc) (ls : Array Slot), lpX5_heaviest_9 Λ μ x0 x1 n x2 x3 = some r → Wd G Λ μ H → va_S (inL Λ) s.heap H locs → lv_has ls 4 [(0, .ref x0), (1, .int x1), (2, .int x2), (3, .int x3)] → W p l e (rmd 1) s m args below meth c H locs 0 0 (MQ below (QI G Λ r μ) args s 0 0 (inL Λ)) (F0 m 9 ls []) := by
  have hx := hF.1
  have hb := hF.2.1
  have hA : ∀ q, inL Λ q → inL Λ q := fun _ h => h
  intro n
  induction n with
  | zero =>
    intro x2 x3 H locs ls hs hW hS hl
    cases hs
  | succ n9 ih9 =>
    intro x2 x3 H locs ls hs hW hS hl
    rw [lpX5_heaviest_9_s] at hs
    refine lv_iload_n hx hb dX5_heaviest_9 rfl (lv_at hl 3 rfl) ?_
    refine lv_aload_n hx hb dX5_heaviest_10 rfl (lv_at hl 0 rfl) ?_
    refine lv_iload_n hx hb dX5_heaviest_11 rfl (lv_at hl 1 rfl) ?_
    obtain ⟨q2, hq2, hs⟩ := obind_e hs
    refine end_i (run_V (q := (RX5, TX5, 21)) (ci := 5) hF hKK hW hS hl.1 kx0 (by decide) rfl (c_X5_size l hOK kx0 hq2) (kw_X5_66 hF.2.2.2.2 ⟨Nat.le_of_ble_eq_true rfl, Nat.le_of_ble_eq_true rfl⟩) rfl rfl (Nat.le_of_ble_eq_true rfl) dX5_heaviest_12 ⟨Nat.zero_le _, Nat.zero_le _⟩) hS (fun H locs hW hS => ?_)
    refine lv_icmp_ge (tgt := 53) hx hb dX5_heaviest_15 (by decide) (fun c3 => ?_) (fun c3 => ?_)
    · have hs := ite_t hs c3
      refine lv_iload_n hx hb dX5_heaviest_53 rfl (lv_at hl 2 rfl) ?_
      have h9 := Option.some.inj hs
      rw [← h9]
      exact wr_i hF hr hlocks (vp_nar_int _) hW hS dX5_heaviest_54
    · have hs := ite_f hs c3
      refine lv_aload_n hx hb dX5_heaviest_18 rfl (lv_at hl 0 rfl) ?_
      refine lv_aload_n hx hb dX5_heaviest_19 rfl (lv_at hl 0 rfl) ?_
      refine lv_iload_n hx hb dX5_heaviest_20 rfl (lv_at hl 1 rfl) ?_
      refine lv_iload_n hx hb dX5_heaviest_21 rfl (lv_at hl 3 rfl) ?_
      obtain ⟨q4, hq4, hs⟩ := obind_e hs
      refine end_i (run_V (q := (RX5, TX5, 21)) (ci := 5) hF hKK hW hS hl.1 kx0 (by decide) rfl (c_X5_place l hOK kx0 hq4) (kw_X5_70 hF.2.2.2.2 ⟨Nat.le_of_ble_eq_true rfl, Nat.le_of_ble_eq_true rfl⟩) rfl rfl (Nat.le_of_ble_eq_true rfl) dX5_heaviest_22 ⟨Nat.zero_le _, Nat.zero_le _⟩) hS (fun H locs hW hS => ?_)
      obtain ⟨q5, hq5, hs⟩ := obind_e hs
      refine end_i (run_V (q := (RX5, TX5, 21)) (ci := 5) hF hKK hW hS hl.1 kx0 (by decide) rfl (c_X5_weight l hOK kx0 hq5) (kw_X5_103 hF.2.2.2.2 ⟨Nat.le_of_ble_eq_true rfl, Nat.le_of_ble_eq_true rfl⟩) rfl rfl (Nat.le_of_ble_eq_true rfl) dX5_heaviest_25 ⟨Nat.zero_le _, Nat.zero_le _⟩) hS (fun H locs hW hS => ?_)
      refine lv_aload_n hx hb dX5_heaviest_28 rfl (lv_at hl 0 rfl) ?_
      refine lv_iload_n hx hb dX5_heaviest_29 rfl (lv_at hl 2 rfl) ?_
      obtain ⟨q6, hq6, hs⟩ := obind_e hs
      refine end_i (run_V (q := (RX5, TX5, 21)) (ci := 5) hF hKK hW hS hl.1 kx0 (by decide) rfl (c_X5_weight l hOK kx0 hq6) (kw_X5_103 hF.2.2.2.2 ⟨Nat.le_of_ble_eq_true rfl, Nat.le_of_ble_eq_true rfl⟩) rfl rfl (Nat.le_of_ble_eq_true rfl) dX5_heaviest_30 ⟨Nat.zero_le _, Nat.zero_le _⟩) hS (fun H locs hW hS => ?_)
      refine lv_icmp_le (tgt := 45) hx hb dX5_heaviest_33 (by decide) (fun c7 => ?_) (fun c7 => ?_)
      · have hs := ite_t hs c7
        refine lv_iload_n hx hb dX5_heaviest_45 rfl (lv_at hl 2 rfl) ?_
        refine lv_istore_n (lv' := [(2, .int x2), (0, .ref x0), (1, .int x1), (3, .int x3)]) hx hb dX5_heaviest_46 rfl hl (by decide) rfl (fun ls hl => ?_)
        obtain ⟨v8, ev8, hs⟩ := bnd_e hs
        refine lv_iinc (v := v8) (lv' := [(3, .int v8), (2, .int x2), (0, .ref x0), (1, .int x1)]) hx hb dX5_heaviest_47 hl (k := 3) rfl (by rw [ev8]; rfl) (by decide) rfl (fun ls hl => ?_)
        refine lv_goto (tgt := 9) hx hb dX5_heaviest_50 (by decide) ?_
        exact ih9 x2 v8 _ _ _ hs hW hS (lv_sub hl [2, 3, 1, 0] rfl)
      · have hs := ite_f hs c7
        refine lv_aload_n hx hb dX5_heaviest_36 rfl (lv_at hl 0 rfl) ?_
        refine lv_iload_n hx hb dX5_heaviest_37 rfl (lv_at hl 1 rfl) ?_
        refine lv_iload_n hx hb dX5_heaviest_38 rfl (lv_at hl 3 rfl) ?_
        obtain ⟨q9, hq9, hs⟩ := obind_e hs
        refine end_i (run_V (q := (RX5, TX5, 21)) (ci := 5) hF hKK hW hS hl.1 kx0 (by decide) rfl (c_X5_place l hOK kx0 hq9) (kw_X5_70 hF.2.2.2.2 ⟨Nat.le_of_ble_eq_true rfl, Nat.le_of_ble_eq_true rfl⟩) rfl rfl (Nat.le_of_ble_eq_true rfl) dX5_heaviest_39 ⟨Nat.zero_le _, Nat.zero_le _⟩) hS (fun H locs hW hS => ?_)
        refine lv_goto (tgt := 46) hx hb dX5_heaviest_42 (by decide) ?_
        refine lv_istore_n (lv' := [(2, .int q9), (0, .ref x0), (1, .int x1), (3, .int x3)]) hx hb dX5_heaviest_46 rfl hl (by decide) rfl (fun ls hl => ?_)
        obtain ⟨v10, ev10, hs⟩ := bnd_e hs
        refine lv_iinc (v := v10) (lv' := [(3, .int v10), (2, .int q9), (0, .ref x0), (1, .int x1)]) hx hb dX5_heaviest_47 hl (k := 3) rfl (by rw [ev10]; rfl) (by decide) rfl (fun ls hl => ?_)
        refine lv_goto (tgt := 9) hx hb dX5_heaviest_50 (by decide) ?_
        exact ih9 q9 v10 _ _ _ hs hW hS (lv_sub hl [2, 3, 1, 0] rfl)

set_option maxHeartbeats 4000000 in
set_option maxRecDepth 100000 in
theorem c_X5_heaviest (l : Launch) {G : va_G} {Λ : Lay} {μ : Mem} (hOK : LayOK Λ) {a0 : Nat} (k0 : inK Λ a0 5) {a1 : Int32} {r : Int32} (hs : sX5_heaviest Λ μ a0 a1 = some r) : CM l G Λ yX5_heaviest cX5_heaviest 4 (some .int) 1 μ [.ref a0, .int a1] (QI G Λ r μ) := by
  refine ofM (own := RX5) (by decide +kernel) rfl (Nat.le_of_ble_eq_true rfl) (fun p e s m args below meth c ls hF hKK hW hr hlocks hl => ?_)
  have hx := hF.1
  have hb := hF.2.1
  have hA : ∀ q, inL Λ q → inL Λ q := fun _ h => h
  have hS : va_S (inL Λ) s.heap s.heap [] := va_S.rf
  have hl : lv_has ls 4 [(0, .ref a0), (1, .int a1)] := hl
  unfold sX5_heaviest at hs
  refine lv_aload_n hx hb dX5_heaviest_0 rfl (lv_at hl 0 rfl) ?_
  refine lv_iload_n hx hb dX5_heaviest_1 rfl (lv_at hl 1 rfl) ?_
  refine lv_iconst (v := (0 : Int32)) hx hb dX5_heaviest_2 (by decide) ?_
  obtain ⟨q1, hq1, hs⟩ := obind_e hs
  refine end_i (run_V (q := (RX5, TX5, 21)) (ci := 5) hF hKK hW hS hl.1 k0 (by decide) rfl (c_X5_place l hOK k0 hq1) (kw_X5_70 hF.2.2.2.2 ⟨Nat.le_of_ble_eq_true rfl, Nat.le_of_ble_eq_true rfl⟩) rfl rfl (Nat.le_of_ble_eq_true rfl) dX5_heaviest_3 ⟨Nat.zero_le _, Nat.zero_le _⟩) hS (fun H locs hW hS => ?_)
  refine lv_istore_n (lv' := [(2, .int q1), (0, .ref a0), (1, .int a1)]) hx hb dX5_heaviest_6 rfl hl (by decide) rfl (fun ls hl => ?_)
  refine lv_iconst (v := (1 : Int32)) hx hb dX5_heaviest_7 (by decide) ?_
  refine lv_istore_n (lv' := [(3, .int (1 : Int32)), (2, .int q1), (0, .ref a0), (1, .int a1)]) hx hb dX5_heaviest_8 rfl hl (by decide) rfl (fun ls hl => ?_)
  exact cl_X5_heaviest_9 hOK hF hKK hr hlocks k0 fuel q1 (1 : Int32) _ _ _ hs hW hS (lv_sub hl [2, 3, 1, 0] rfl)

set_option maxHeartbeats 4000000 in
set_option maxRecDepth 100000 in
theorem cl_X5_heaviestLeft_18 {p : Program} {l : Launch} {e : Env} {s : State} {m : MethodId} {args : Array Value} {below : List Frame} {meth : Method} {c : Code} {G : va_G} {Λ : Lay} {μ : Mem} {r : Int32} (hOK : LayOK Λ) (hF : CallFix p m c cX5_heaviestLeft 5 s args tw RX5) (hKK : KK G Λ s) (hr : meth.sig.returnType = (some .int)) (hlocks : meth.locks = false) {x0 : Nat} (kx0 : inK Λ x0 5) {x1 : Int32} : ∀ (n : Nat) (x2 : Int32) (x3 : Int32) (H : Heap) (locs : List Loc) (ls : Array Slot), lpX5_heaviestLeft_18 Λ μ x0 x1 n x2 x3 = some r → Wd G Λ μ H → va_S (inL Λ) s.heap H locs → lv_has ls 5 [(0, .ref x0), (1, .int x1), (2, .int x2), (3, .int x3)] → W p l e (rmd 6) s m args below meth c H locs 0 0 (MQ below (QI G Λ r μ) args s 0 0 (inL Λ)) (F0 m 18 ls []) := by
  have hx := hF.1
  have hb := hF.2.1
  have hA : ∀ q, inL Λ q → inL Λ q := fun _ h => h
  intro n
  induction n with
  | zero =>
    intro x2 x3 H locs ls hs hW hS hl
    cases hs
  | succ n18 ih18 =>
    intro x2 x3 H locs ls hs hW hS hl
    rw [lpX5_heaviestLeft_18_s] at hs
    refine lv_iload_n hx hb dX5_heaviestLeft_18 rfl (lv_at hl 3 rfl) ?_
    refine lv_aload_n hx hb dX5_heaviestLeft_19 rfl (lv_at hl 0 rfl) ?_
    refine gf_5_0 hF hKK hW kx0 dX5_heaviestLeft_20 ?_
    refine lv_iconst (v := (0 : Int32)) hx hb dX5_heaviestLeft_23 (by decide) ?_
    obtain ⟨g5, hs⟩ := gd_some hs
    refine ga_ld hF hKK hW (lk_5_0 hOK kx0) g5 dX5_heaviestLeft_24 ?_
    refine lv_icmp_ge (tgt := 88) hx hb dX5_heaviestLeft_25 (by decide) (fun c6 => ?_) (fun c6 => ?_)
    · have hs := ite_t hs c6
      refine lv_iload_n hx hb dX5_heaviestLeft_88 rfl (lv_at hl 2 rfl) ?_
      have h9 := Option.some.inj hs
      rw [← h9]
      exact wr_i hF hr hlocks (vp_nar_int _) hW hS dX5_heaviestLeft_89
    · have hs := ite_f hs c6
      refine lv_iload_n hx hb dX5_heaviestLeft_28 rfl (lv_at hl 3 rfl) ?_
      refine lv_iload_n hx hb dX5_heaviestLeft_29 rfl (lv_at hl 1 rfl) ?_
      refine lv_icmp_eq (tgt := 55) hx hb dX5_heaviestLeft_30 (by decide) (fun c7 => ?_) (fun c7 => ?_)
      · have hs := ite_t hs c7
        refine lv_iconst (v := (0 : Int32)) hx hb dX5_heaviestLeft_55 (by decide) ?_
        refine lv_istore (lv' := [(4, .int (0 : Int32)), (0, .ref x0), (1, .int x1), (2, .int x2), (3, .int x3)]) hx hb dX5_heaviestLeft_56 hl (by decide) rfl (fun ls hl => ?_)
        refine lv_iload hx hb dX5_heaviestLeft_58 (lv_at hl 0 rfl) ?_
        refine lv_if_eq (tgt := 80) hx hb dX5_heaviestLeft_60 (by decide) (fun c8 => ?_) (fun c8 => ?_)
        · have hs := ite_t hs c8
          refine lv_iload_n hx hb dX5_heaviestLeft_80 rfl (lv_at hl 3 rfl) ?_
          refine lv_istore_n (lv' := [(2, .int x2), (4, .int (0 : Int32)), (0, .ref x0), (1, .int x1), (3, .int x3)]) hx hb dX5_heaviestLeft_81 rfl hl (by decide) rfl (fun ls hl => ?_)
          obtain ⟨v9, ev9, hs⟩ := bnd_e hs
          refine lv_iinc (v := v9) (lv' := [(3, .int v9), (2, .int x2), (4, .int (0 : Int32)), (0, .ref x0), (1, .int x1)]) hx hb dX5_heaviestLeft_82 hl (k := 4) rfl (by rw [ev9]; rfl) (by decide) rfl (fun ls hl => ?_)
          refine lv_goto (tgt := 18) hx hb dX5_heaviestLeft_85 (by decide) ?_
          exact ih18 x2 v9 _ _ _ hs hW hS (lv_sub hl [3, 4, 1, 0] rfl)
        · have hs := ite_f hs c8
          refine lv_aload_n hx hb dX5_heaviestLeft_63 rfl (lv_at hl 1 rfl) ?_
          refine lv_iload_n hx hb dX5_heaviestLeft_64 rfl (lv_at hl 4 rfl) ?_
          obtain ⟨q10, hq10, hs⟩ := obind_e hs
          refine end_i (run_V (q := (RX5, TX5, 21)) (ci := 5) hF hKK hW hS hl.1 kx0 (by decide) rfl (c_X5_sumBelow l hOK kx0 hq10) (kw_X5_156 hF.2.2.2.2 ⟨Nat.le_of_ble_eq_true rfl, Nat.le_of_ble_eq_true rfl⟩) rfl rfl (Nat.le_of_ble_eq_true rfl) dX5_heaviestLeft_65 ⟨Nat.zero_le _, Nat.zero_le _⟩) hS (fun H locs hW hS => ?_)
          refine lv_iload_n hx hb dX5_heaviestLeft_68 rfl (lv_at hl 3 rfl) ?_
          refine lv_icmp_le (tgt := 80) hx hb dX5_heaviestLeft_69 (by decide) (fun c11 => ?_) (fun c11 => ?_)
          · have hs := ite_t hs c11
            refine lv_iload_n hx hb dX5_heaviestLeft_80 rfl (lv_at hl 3 rfl) ?_
            refine lv_istore_n (lv' := [(2, .int x2), (4, .int (0 : Int32)), (0, .ref x0), (1, .int x1), (3, .int x3)]) hx hb dX5_heaviestLeft_81 rfl hl (by decide) rfl (fun ls hl => ?_)
            obtain ⟨v12, ev12, hs⟩ := bnd_e hs
            refine lv_iinc (v := v12) (lv' := [(3, .int v12), (2, .int x2), (4, .int (0 : Int32)), (0, .ref x0), (1, .int x1)]) hx hb dX5_heaviestLeft_82 hl (k := 4) rfl (by rw [ev12]; rfl) (by decide) rfl (fun ls hl => ?_)
            refine lv_goto (tgt := 18) hx hb dX5_heaviestLeft_85 (by decide) ?_
            exact ih18 x2 v12 _ _ _ hs hW hS (lv_sub hl [3, 4, 1, 0] rfl)
          · have hs := ite_f hs c11
            refine lv_aload_n hx hb dX5_heaviestLeft_72 rfl (lv_at hl 1 rfl) ?_
            refine lv_iload_n hx hb dX5_heaviestLeft_73 rfl (lv_at hl 4 rfl) ?_
            obtain ⟨q13, hq13, hs⟩ := obind_e hs
            refine end_i (run_V (q := (RX5, TX5, 21)) (ci := 5) hF hKK hW hS hl.1 kx0 (by decide) rfl (c_X5_sumBelow l hOK kx0 hq13) (kw_X5_156 hF.2.2.2.2 ⟨Nat.le_of_ble_eq_true rfl, Nat.le_of_ble_eq_true rfl⟩) rfl rfl (Nat.le_of_ble_eq_true rfl) dX5_heaviestLeft_74 ⟨Nat.zero_le _, Nat.zero_le _⟩) hS (fun H locs hW hS => ?_)
            refine lv_goto (tgt := 81) hx hb dX5_heaviestLeft_77 (by decide) ?_
            refine lv_istore_n (lv' := [(2, .int q13), (4, .int (0 : Int32)), (0, .ref x0), (1, .int x1), (3, .int x3)]) hx hb dX5_heaviestLeft_81 rfl hl (by decide) rfl (fun ls hl => ?_)
            obtain ⟨v14, ev14, hs⟩ := bnd_e hs
            refine lv_iinc (v := v14) (lv' := [(3, .int v14), (2, .int q13), (4, .int (0 : Int32)), (0, .ref x0), (1, .int x1)]) hx hb dX5_heaviestLeft_82 hl (k := 4) rfl (by rw [ev14]; rfl) (by decide) rfl (fun ls hl => ?_)
            refine lv_goto (tgt := 18) hx hb dX5_heaviestLeft_85 (by decide) ?_
            exact ih18 q13 v14 _ _ _ hs hW hS (lv_sub hl [3, 4, 1, 0] rfl)
      · have hs := ite_f hs c7
        refine lv_aload_n hx hb dX5_heaviestLeft_33 rfl (lv_at hl 0 rfl) ?_
        refine lv_iload_n hx hb dX5_heaviestLeft_34 rfl (lv_at hl 3 rfl) ?_
        refine lv_iload_n hx hb dX5_heaviestLeft_35 rfl (lv_at hl 1 rfl) ?_
        obtain ⟨q15, hq15, hs⟩ := obind_e hs
        refine end_i (run_V (q := (RX5, TX5, 21)) (ci := 5) hF hKK hW hS hl.1 kx0 (by decide) rfl (c_X5_below l hOK kx0 hq15) (kw_X5_138 hF.2.2.2.2 ⟨Nat.le_of_ble_eq_true rfl, Nat.le_of_ble_eq_true rfl⟩) rfl rfl (Nat.le_of_ble_eq_true rfl) dX5_heaviestLeft_36 ⟨Nat.zero_le _, Nat.zero_le _⟩) hS (fun H locs hW hS => ?_)
        refine lv_if_eq (tgt := 55) hx hb dX5_heaviestLeft_39 (by decide) (fun c16 => ?_) (fun c16 => ?_)
        · have hs := ite_t hs c16
          refine lv_iconst (v := (0 : Int32)) hx hb dX5_heaviestLeft_55 (by decide) ?_
          refine lv_istore (lv' := [(4, .int (0 : Int32)), (0, .ref x0), (1, .int x1), (2, .int x2), (3, .int x3)]) hx hb dX5_heaviestLeft_56 hl (by decide) rfl (fun ls hl => ?_)
          refine lv_iload hx hb dX5_heaviestLeft_58 (lv_at hl 0 rfl) ?_
          refine lv_if_eq (tgt := 80) hx hb dX5_heaviestLeft_60 (by decide) (fun c17 => ?_) (fun c17 => ?_)
          · have hs := ite_t hs c17
            refine lv_iload_n hx hb dX5_heaviestLeft_80 rfl (lv_at hl 3 rfl) ?_
            refine lv_istore_n (lv' := [(2, .int x2), (4, .int (0 : Int32)), (0, .ref x0), (1, .int x1), (3, .int x3)]) hx hb dX5_heaviestLeft_81 rfl hl (by decide) rfl (fun ls hl => ?_)
            obtain ⟨v18, ev18, hs⟩ := bnd_e hs
            refine lv_iinc (v := v18) (lv' := [(3, .int v18), (2, .int x2), (4, .int (0 : Int32)), (0, .ref x0), (1, .int x1)]) hx hb dX5_heaviestLeft_82 hl (k := 4) rfl (by rw [ev18]; rfl) (by decide) rfl (fun ls hl => ?_)
            refine lv_goto (tgt := 18) hx hb dX5_heaviestLeft_85 (by decide) ?_
            exact ih18 x2 v18 _ _ _ hs hW hS (lv_sub hl [3, 4, 1, 0] rfl)
          · have hs := ite_f hs c17
            refine lv_aload_n hx hb dX5_heaviestLeft_63 rfl (lv_at hl 1 rfl) ?_
            refine lv_iload_n hx hb dX5_heaviestLeft_64 rfl (lv_at hl 4 rfl) ?_
            obtain ⟨q19, hq19, hs⟩ := obind_e hs
            refine end_i (run_V (q := (RX5, TX5, 21)) (ci := 5) hF hKK hW hS hl.1 kx0 (by decide) rfl (c_X5_sumBelow l hOK kx0 hq19) (kw_X5_156 hF.2.2.2.2 ⟨Nat.le_of_ble_eq_true rfl, Nat.le_of_ble_eq_true rfl⟩) rfl rfl (Nat.le_of_ble_eq_true rfl) dX5_heaviestLeft_65 ⟨Nat.zero_le _, Nat.zero_le _⟩) hS (fun H locs hW hS => ?_)
            refine lv_iload_n hx hb dX5_heaviestLeft_68 rfl (lv_at hl 3 rfl) ?_
            refine lv_icmp_le (tgt := 80) hx hb dX5_heaviestLeft_69 (by decide) (fun c20 => ?_) (fun c20 => ?_)
            · have hs := ite_t hs c20
              refine lv_iload_n hx hb dX5_heaviestLeft_80 rfl (lv_at hl 3 rfl) ?_
              refine lv_istore_n (lv' := [(2, .int x2), (4, .int (0 : Int32)), (0, .ref x0), (1, .int x1), (3, .int x3)]) hx hb dX5_heaviestLeft_81 rfl hl (by decide) rfl (fun ls hl => ?_)
              obtain ⟨v21, ev21, hs⟩ := bnd_e hs
              refine lv_iinc (v := v21) (lv' := [(3, .int v21), (2, .int x2), (4, .int (0 : Int32)), (0, .ref x0), (1, .int x1)]) hx hb dX5_heaviestLeft_82 hl (k := 4) rfl (by rw [ev21]; rfl) (by decide) rfl (fun ls hl => ?_)
              refine lv_goto (tgt := 18) hx hb dX5_heaviestLeft_85 (by decide) ?_
              exact ih18 x2 v21 _ _ _ hs hW hS (lv_sub hl [3, 4, 1, 0] rfl)
            · have hs := ite_f hs c20
              refine lv_aload_n hx hb dX5_heaviestLeft_72 rfl (lv_at hl 1 rfl) ?_
              refine lv_iload_n hx hb dX5_heaviestLeft_73 rfl (lv_at hl 4 rfl) ?_
              obtain ⟨q22, hq22, hs⟩ := obind_e hs
              refine end_i (run_V (q := (RX5, TX5, 21)) (ci := 5) hF hKK hW hS hl.1 kx0 (by decide) rfl (c_X5_sumBelow l hOK kx0 hq22) (kw_X5_156 hF.2.2.2.2 ⟨Nat.le_of_ble_eq_true rfl, Nat.le_of_ble_eq_true rfl⟩) rfl rfl (Nat.le_of_ble_eq_true rfl) dX5_heaviestLeft_74 ⟨Nat.zero_le _, Nat.zero_le _⟩) hS (fun H locs hW hS => ?_)
              refine lv_goto (tgt := 81) hx hb dX5_heaviestLeft_77 (by decide) ?_
              refine lv_istore_n (lv' := [(2, .int q22), (4, .int (0 : Int32)), (0, .ref x0), (1, .int x1), (3, .int x3)]) hx hb dX5_heaviestLeft_81 rfl hl (by decide) rfl (fun ls hl => ?_)
              obtain ⟨v23, ev23, hs⟩ := bnd_e hs
              refine lv_iinc (v := v23) (lv' := [(3, .int v23), (2, .int q22), (4, .int (0 : Int32)), (0, .ref x0), (1, .int x1)]) hx hb dX5_heaviestLeft_82 hl (k := 4) rfl (by rw [ev23]; rfl) (by decide) rfl (fun ls hl => ?_)
              refine lv_goto (tgt := 18) hx hb dX5_heaviestLeft_85 (by decide) ?_
              exact ih18 q22 v23 _ _ _ hs hW hS (lv_sub hl [3, 4, 1, 0] rfl)
        · have hs := ite_f hs c16
          refine lv_aload_n hx hb dX5_heaviestLeft_42 rfl (lv_at hl 0 rfl) ?_
          refine lv_iload_n hx hb dX5_heaviestLeft_43 rfl (lv_at hl 3 rfl) ?_
          obtain ⟨q24, hq24, hs⟩ := obind_e hs
          refine end_i (run_V (q := (RX5, TX5, 21)) (ci := 5) hF hKK hW hS hl.1 kx0 (by decide) rfl (c_X5_above l hOK kx0 hq24) (kw_X5_150 hF.2.2.2.2 ⟨Nat.le_of_ble_eq_true rfl, Nat.le_of_ble_eq_true rfl⟩) rfl rfl (Nat.le_of_ble_eq_true rfl) dX5_heaviestLeft_44 ⟨Nat.zero_le _, Nat.zero_le _⟩) hS (fun H locs hW hS => ?_)
          refine lv_iload_n hx hb dX5_heaviestLeft_47 rfl (lv_at hl 1 rfl) ?_
          refine lv_icmp_ne (tgt := 55) hx hb dX5_heaviestLeft_48 (by decide) (fun c25 => ?_) (fun c25 => ?_)
          · have hs := ite_f hs c25
            refine lv_iconst (v := (0 : Int32)) hx hb dX5_heaviestLeft_55 (by decide) ?_
            refine lv_istore (lv' := [(4, .int (0 : Int32)), (0, .ref x0), (1, .int x1), (2, .int x2), (3, .int x3)]) hx hb dX5_heaviestLeft_56 hl (by decide) rfl (fun ls hl => ?_)
            refine lv_iload hx hb dX5_heaviestLeft_58 (lv_at hl 0 rfl) ?_
            refine lv_if_eq (tgt := 80) hx hb dX5_heaviestLeft_60 (by decide) (fun c26 => ?_) (fun c26 => ?_)
            · have hs := ite_t hs c26
              refine lv_iload_n hx hb dX5_heaviestLeft_80 rfl (lv_at hl 3 rfl) ?_
              refine lv_istore_n (lv' := [(2, .int x2), (4, .int (0 : Int32)), (0, .ref x0), (1, .int x1), (3, .int x3)]) hx hb dX5_heaviestLeft_81 rfl hl (by decide) rfl (fun ls hl => ?_)
              obtain ⟨v27, ev27, hs⟩ := bnd_e hs
              refine lv_iinc (v := v27) (lv' := [(3, .int v27), (2, .int x2), (4, .int (0 : Int32)), (0, .ref x0), (1, .int x1)]) hx hb dX5_heaviestLeft_82 hl (k := 4) rfl (by rw [ev27]; rfl) (by decide) rfl (fun ls hl => ?_)
              refine lv_goto (tgt := 18) hx hb dX5_heaviestLeft_85 (by decide) ?_
              exact ih18 x2 v27 _ _ _ hs hW hS (lv_sub hl [3, 4, 1, 0] rfl)
            · have hs := ite_f hs c26
              refine lv_aload_n hx hb dX5_heaviestLeft_63 rfl (lv_at hl 1 rfl) ?_
              refine lv_iload_n hx hb dX5_heaviestLeft_64 rfl (lv_at hl 4 rfl) ?_
              obtain ⟨q28, hq28, hs⟩ := obind_e hs
              refine end_i (run_V (q := (RX5, TX5, 21)) (ci := 5) hF hKK hW hS hl.1 kx0 (by decide) rfl (c_X5_sumBelow l hOK kx0 hq28) (kw_X5_156 hF.2.2.2.2 ⟨Nat.le_of_ble_eq_true rfl, Nat.le_of_ble_eq_true rfl⟩) rfl rfl (Nat.le_of_ble_eq_true rfl) dX5_heaviestLeft_65 ⟨Nat.zero_le _, Nat.zero_le _⟩) hS (fun H locs hW hS => ?_)
              refine lv_iload_n hx hb dX5_heaviestLeft_68 rfl (lv_at hl 3 rfl) ?_
              refine lv_icmp_le (tgt := 80) hx hb dX5_heaviestLeft_69 (by decide) (fun c29 => ?_) (fun c29 => ?_)
              · have hs := ite_t hs c29
                refine lv_iload_n hx hb dX5_heaviestLeft_80 rfl (lv_at hl 3 rfl) ?_
                refine lv_istore_n (lv' := [(2, .int x2), (4, .int (0 : Int32)), (0, .ref x0), (1, .int x1), (3, .int x3)]) hx hb dX5_heaviestLeft_81 rfl hl (by decide) rfl (fun ls hl => ?_)
                obtain ⟨v30, ev30, hs⟩ := bnd_e hs
                refine lv_iinc (v := v30) (lv' := [(3, .int v30), (2, .int x2), (4, .int (0 : Int32)), (0, .ref x0), (1, .int x1)]) hx hb dX5_heaviestLeft_82 hl (k := 4) rfl (by rw [ev30]; rfl) (by decide) rfl (fun ls hl => ?_)
                refine lv_goto (tgt := 18) hx hb dX5_heaviestLeft_85 (by decide) ?_
                exact ih18 x2 v30 _ _ _ hs hW hS (lv_sub hl [3, 4, 1, 0] rfl)
              · have hs := ite_f hs c29
                refine lv_aload_n hx hb dX5_heaviestLeft_72 rfl (lv_at hl 1 rfl) ?_
                refine lv_iload_n hx hb dX5_heaviestLeft_73 rfl (lv_at hl 4 rfl) ?_
                obtain ⟨q31, hq31, hs⟩ := obind_e hs
                refine end_i (run_V (q := (RX5, TX5, 21)) (ci := 5) hF hKK hW hS hl.1 kx0 (by decide) rfl (c_X5_sumBelow l hOK kx0 hq31) (kw_X5_156 hF.2.2.2.2 ⟨Nat.le_of_ble_eq_true rfl, Nat.le_of_ble_eq_true rfl⟩) rfl rfl (Nat.le_of_ble_eq_true rfl) dX5_heaviestLeft_74 ⟨Nat.zero_le _, Nat.zero_le _⟩) hS (fun H locs hW hS => ?_)
                refine lv_goto (tgt := 81) hx hb dX5_heaviestLeft_77 (by decide) ?_
                refine lv_istore_n (lv' := [(2, .int q31), (4, .int (0 : Int32)), (0, .ref x0), (1, .int x1), (3, .int x3)]) hx hb dX5_heaviestLeft_81 rfl hl (by decide) rfl (fun ls hl => ?_)
                obtain ⟨v32, ev32, hs⟩ := bnd_e hs
                refine lv_iinc (v := v32) (lv' := [(3, .int v32), (2, .int q31), (4, .int (0 : Int32)), (0, .ref x0), (1, .int x1)]) hx hb dX5_heaviestLeft_82 hl (k := 4) rfl (by rw [ev32]; rfl) (by decide) rfl (fun ls hl => ?_)
                refine lv_goto (tgt := 18) hx hb dX5_heaviestLeft_85 (by decide) ?_
                exact ih18 q31 v32 _ _ _ hs hW hS (lv_sub hl [3, 4, 1, 0] rfl)
          · have hs := ite_t hs c25
            refine lv_iconst (v := (1 : Int32)) hx hb dX5_heaviestLeft_51 (by decide) ?_
            refine lv_goto (tgt := 56) hx hb dX5_heaviestLeft_52 (by decide) ?_
            refine lv_istore (lv' := [(4, .int (1 : Int32)), (0, .ref x0), (1, .int x1), (2, .int x2), (3, .int x3)]) hx hb dX5_heaviestLeft_56 hl (by decide) rfl (fun ls hl => ?_)
            refine lv_iload hx hb dX5_heaviestLeft_58 (lv_at hl 0 rfl) ?_
            refine lv_if_eq (tgt := 80) hx hb dX5_heaviestLeft_60 (by decide) (fun c33 => ?_) (fun c33 => ?_)
            · have hs := ite_t hs c33
              refine lv_iload_n hx hb dX5_heaviestLeft_80 rfl (lv_at hl 3 rfl) ?_
              refine lv_istore_n (lv' := [(2, .int x2), (4, .int (1 : Int32)), (0, .ref x0), (1, .int x1), (3, .int x3)]) hx hb dX5_heaviestLeft_81 rfl hl (by decide) rfl (fun ls hl => ?_)
              obtain ⟨v34, ev34, hs⟩ := bnd_e hs
              refine lv_iinc (v := v34) (lv' := [(3, .int v34), (2, .int x2), (4, .int (1 : Int32)), (0, .ref x0), (1, .int x1)]) hx hb dX5_heaviestLeft_82 hl (k := 4) rfl (by rw [ev34]; rfl) (by decide) rfl (fun ls hl => ?_)
              refine lv_goto (tgt := 18) hx hb dX5_heaviestLeft_85 (by decide) ?_
              exact ih18 x2 v34 _ _ _ hs hW hS (lv_sub hl [3, 4, 1, 0] rfl)
            · have hs := ite_f hs c33
              refine lv_aload_n hx hb dX5_heaviestLeft_63 rfl (lv_at hl 1 rfl) ?_
              refine lv_iload_n hx hb dX5_heaviestLeft_64 rfl (lv_at hl 4 rfl) ?_
              obtain ⟨q35, hq35, hs⟩ := obind_e hs
              refine end_i (run_V (q := (RX5, TX5, 21)) (ci := 5) hF hKK hW hS hl.1 kx0 (by decide) rfl (c_X5_sumBelow l hOK kx0 hq35) (kw_X5_156 hF.2.2.2.2 ⟨Nat.le_of_ble_eq_true rfl, Nat.le_of_ble_eq_true rfl⟩) rfl rfl (Nat.le_of_ble_eq_true rfl) dX5_heaviestLeft_65 ⟨Nat.zero_le _, Nat.zero_le _⟩) hS (fun H locs hW hS => ?_)
              refine lv_iload_n hx hb dX5_heaviestLeft_68 rfl (lv_at hl 3 rfl) ?_
              refine lv_icmp_le (tgt := 80) hx hb dX5_heaviestLeft_69 (by decide) (fun c36 => ?_) (fun c36 => ?_)
              · have hs := ite_t hs c36
                refine lv_iload_n hx hb dX5_heaviestLeft_80 rfl (lv_at hl 3 rfl) ?_
                refine lv_istore_n (lv' := [(2, .int x2), (4, .int (1 : Int32)), (0, .ref x0), (1, .int x1), (3, .int x3)]) hx hb dX5_heaviestLeft_81 rfl hl (by decide) rfl (fun ls hl => ?_)
                obtain ⟨v37, ev37, hs⟩ := bnd_e hs
                refine lv_iinc (v := v37) (lv' := [(3, .int v37), (2, .int x2), (4, .int (1 : Int32)), (0, .ref x0), (1, .int x1)]) hx hb dX5_heaviestLeft_82 hl (k := 4) rfl (by rw [ev37]; rfl) (by decide) rfl (fun ls hl => ?_)
                refine lv_goto (tgt := 18) hx hb dX5_heaviestLeft_85 (by decide) ?_
                exact ih18 x2 v37 _ _ _ hs hW hS (lv_sub hl [3, 4, 1, 0] rfl)
              · have hs := ite_f hs c36
                refine lv_aload_n hx hb dX5_heaviestLeft_72 rfl (lv_at hl 1 rfl) ?_
                refine lv_iload_n hx hb dX5_heaviestLeft_73 rfl (lv_at hl 4 rfl) ?_
                obtain ⟨q38, hq38, hs⟩ := obind_e hs
                refine end_i (run_V (q := (RX5, TX5, 21)) (ci := 5) hF hKK hW hS hl.1 kx0 (by decide) rfl (c_X5_sumBelow l hOK kx0 hq38) (kw_X5_156 hF.2.2.2.2 ⟨Nat.le_of_ble_eq_true rfl, Nat.le_of_ble_eq_true rfl⟩) rfl rfl (Nat.le_of_ble_eq_true rfl) dX5_heaviestLeft_74 ⟨Nat.zero_le _, Nat.zero_le _⟩) hS (fun H locs hW hS => ?_)
                refine lv_goto (tgt := 81) hx hb dX5_heaviestLeft_77 (by decide) ?_
                refine lv_istore_n (lv' := [(2, .int q38), (4, .int (1 : Int32)), (0, .ref x0), (1, .int x1), (3, .int x3)]) hx hb dX5_heaviestLeft_81 rfl hl (by decide) rfl (fun ls hl => ?_)
                obtain ⟨v39, ev39, hs⟩ := bnd_e hs
                refine lv_iinc (v := v39) (lv' := [(3, .int v39), (2, .int q38), (4, .int (1 : Int32)), (0, .ref x0), (1, .int x1)]) hx hb dX5_heaviestLeft_82 hl (k := 4) rfl (by rw [ev39]; rfl) (by decide) rfl (fun ls hl => ?_)
                refine lv_goto (tgt := 18) hx hb dX5_heaviestLeft_85 (by decide) ?_
                exact ih18 q38 v39 _ _ _ hs hW hS (lv_sub hl [3, 4, 1, 0] rfl)

set_option maxHeartbeats 4000000 in
set_option maxRecDepth 100000 in
theorem c_X5_heaviestLeft (l : Launch) {G : va_G} {Λ : Lay} {μ : Mem} (hOK : LayOK Λ) {a0 : Nat} (k0 : inK Λ a0 5) {a1 : Int32} {r : Int32} (hs : sX5_heaviestLeft Λ μ a0 a1 = some r) : CM l G Λ yX5_heaviestLeft cX5_heaviestLeft 5 (some .int) 6 μ [.ref a0, .int a1] (QI G Λ r μ) := by
  refine ofM (own := RX5) (by decide +kernel) rfl (Nat.le_of_ble_eq_true rfl) (fun p e s m args below meth c ls hF hKK hW hr hlocks hl => ?_)
  have hx := hF.1
  have hb := hF.2.1
  have hA : ∀ q, inL Λ q → inL Λ q := fun _ h => h
  have hS : va_S (inL Λ) s.heap s.heap [] := va_S.rf
  have hl : lv_has ls 5 [(0, .ref a0), (1, .int a1)] := hl
  unfold sX5_heaviestLeft at hs
  refine lv_aload_n hx hb dX5_heaviestLeft_0 rfl (lv_at hl 0 rfl) ?_
  refine lv_aload_n hx hb dX5_heaviestLeft_1 rfl (lv_at hl 0 rfl) ?_
  refine lv_iload_n hx hb dX5_heaviestLeft_2 rfl (lv_at hl 1 rfl) ?_
  obtain ⟨q1, hq1, hs⟩ := obind_e hs
  refine end_i (run_V (q := (RX5, TX5, 21)) (ci := 5) hF hKK hW hS hl.1 k0 (by decide) rfl (c_X5_root l hOK k0 hq1) (kw_X5_114 hF.2.2.2.2 ⟨Nat.le_of_ble_eq_true rfl, Nat.le_of_ble_eq_true rfl⟩) rfl rfl (Nat.le_of_ble_eq_true rfl) dX5_heaviestLeft_3 ⟨Nat.zero_le _, Nat.zero_le _⟩) hS (fun H locs hW hS => ?_)
  obtain ⟨q2, hq2, hs⟩ := obind_e hs
  refine end_i (run_V (q := (RX5, TX5, 21)) (ci := 5) hF hKK hW hS hl.1 k0 (by decide) rfl (c_X5_sumBelow l hOK k0 hq2) (kw_X5_156 hF.2.2.2.2 ⟨Nat.le_of_ble_eq_true rfl, Nat.le_of_ble_eq_true rfl⟩) rfl rfl (Nat.le_of_ble_eq_true rfl) dX5_heaviestLeft_6 ⟨Nat.zero_le _, Nat.zero_le _⟩) hS (fun H locs hW hS => ?_)
  refine lv_aload_n hx hb dX5_heaviestLeft_9 rfl (lv_at hl 0 rfl) ?_
  refine lv_iload_n hx hb dX5_heaviestLeft_10 rfl (lv_at hl 1 rfl) ?_
  obtain ⟨q3, hq3, hs⟩ := obind_e hs
  refine end_i (run_V (q := (RX5, TX5, 21)) (ci := 5) hF hKK hW hS hl.1 k0 (by decide) rfl (c_X5_sumBelow l hOK k0 hq3) (kw_X5_156 hF.2.2.2.2 ⟨Nat.le_of_ble_eq_true rfl, Nat.le_of_ble_eq_true rfl⟩) rfl rfl (Nat.le_of_ble_eq_true rfl) dX5_heaviestLeft_11 ⟨Nat.zero_le _, Nat.zero_le _⟩) hS (fun H locs hW hS => ?_)
  refine lv_isub hx hb dX5_heaviestLeft_14 ?_
  obtain ⟨v4, ev4, hs⟩ := bnd_e hs
  refine top_i ev4 ?_
  refine lv_istore_n (lv' := [(2, .int v4), (0, .ref a0), (1, .int a1)]) hx hb dX5_heaviestLeft_15 rfl hl (by decide) rfl (fun ls hl => ?_)
  refine lv_iconst (v := (0 : Int32)) hx hb dX5_heaviestLeft_16 (by decide) ?_
  refine lv_istore_n (lv' := [(3, .int (0 : Int32)), (2, .int v4), (0, .ref a0), (1, .int a1)]) hx hb dX5_heaviestLeft_17 rfl hl (by decide) rfl (fun ls hl => ?_)
  exact cl_X5_heaviestLeft_18 hOK hF hKK hr hlocks k0 fuel v4 (0 : Int32) _ _ _ hs hW hS (lv_sub hl [2, 3, 1, 0] rfl)

set_option maxHeartbeats 4000000 in
set_option maxRecDepth 100000 in
theorem c_X5_inRound (l : Launch) {G : va_G} {Λ : Lay} {μ : Mem} (hOK : LayOK Λ) {a0 : Nat} (k0 : inK Λ a0 5) {a1 : Int32} {a2 : Int32} {r : Int32} (hs : sX5_inRound Λ μ a0 a1 a2 = some r) : CM l G Λ yX5_inRound cX5_inRound 4 (some .int) 3 μ [.ref a0, .int a1, .int a2] (QI G Λ r μ) := by
  refine ofM (own := RX5) (by decide +kernel) rfl (Nat.le_of_ble_eq_true rfl) (fun p e s m args below meth c ls hF hKK hW hr hlocks hl => ?_)
  have hx := hF.1
  have hb := hF.2.1
  have hA : ∀ q, inL Λ q → inL Λ q := fun _ h => h
  have hS : va_S (inL Λ) s.heap s.heap [] := va_S.rf
  have hl : lv_has ls 4 [(0, .ref a0), (1, .int a1), (2, .int a2)] := hl
  unfold sX5_inRound at hs
  refine lv_aload_n hx hb dX5_inRound_0 rfl (lv_at hl 0 rfl) ?_
  refine lv_iload_n hx hb dX5_inRound_1 rfl (lv_at hl 1 rfl) ?_
  obtain ⟨q1, hq1, hs⟩ := obind_e hs
  refine end_i (run_V (q := (RX5, TX5, 21)) (ci := 5) hF hKK hW hS hl.1 k0 (by decide) rfl (c_X5_isBank l hOK k0 hq1) (kw_X5_99 hF.2.2.2.2 ⟨Nat.le_of_ble_eq_true rfl, Nat.le_of_ble_eq_true rfl⟩) rfl rfl (Nat.le_of_ble_eq_true rfl) dX5_inRound_2 ⟨Nat.zero_le _, Nat.zero_le _⟩) hS (fun H locs hW hS => ?_)
  refine lv_if_ne (tgt := 10) hx hb dX5_inRound_5 (by decide) (fun c2 => ?_) (fun c2 => ?_)
  · have hs := ite_f hs c2
    refine lv_aload_n hx hb dX5_inRound_10 rfl (lv_at hl 0 rfl) ?_
    refine lv_iload_n hx hb dX5_inRound_11 rfl (lv_at hl 1 rfl) ?_
    obtain ⟨q3, hq3, hs⟩ := obind_e hs
    refine end_i (run_V (q := (RX5, TX5, 21)) (ci := 5) hF hKK hW hS hl.1 k0 (by decide) rfl (c_X5_roundOf l hOK k0 hq3) (kw_X5_77 hF.2.2.2.2 ⟨Nat.le_of_ble_eq_true rfl, Nat.le_of_ble_eq_true rfl⟩) rfl rfl (Nat.le_of_ble_eq_true rfl) dX5_inRound_12 ⟨Nat.zero_le _, Nat.zero_le _⟩) hS (fun H locs hW hS => ?_)
    refine lv_istore_n (lv' := [(3, .int q3), (0, .ref a0), (1, .int a1), (2, .int a2)]) hx hb dX5_inRound_15 rfl hl (by decide) rfl (fun ls hl => ?_)
    refine lv_iload_n hx hb dX5_inRound_16 rfl (lv_at hl 3 rfl) ?_
    refine lv_iconst (v := (0 : Int32)) hx hb dX5_inRound_17 (by decide) ?_
    refine lv_aload_n hx hb dX5_inRound_18 rfl (lv_at hl 1 rfl) ?_
    refine lv_iload_n hx hb dX5_inRound_19 rfl (lv_at hl 0 rfl) ?_
    obtain ⟨q4, hq4, hs⟩ := obind_e hs
    refine end_i (run_V (q := (RX5, TX5, 21)) (ci := 5) hF hKK hW hS hl.1 k0 (by decide) rfl (c_X5_size l hOK k0 hq4) (kw_X5_66 hF.2.2.2.2 ⟨Nat.le_of_ble_eq_true rfl, Nat.le_of_ble_eq_true rfl⟩) rfl rfl (Nat.le_of_ble_eq_true rfl) dX5_inRound_20 ⟨Nat.zero_le _, Nat.zero_le _⟩) hS (fun H locs hW hS => ?_)
    refine lv_iconst (v := (1 : Int32)) hx hb dX5_inRound_23 (by decide) ?_
    refine lv_isub hx hb dX5_inRound_24 ?_
    obtain ⟨q5, hq5, hs⟩ := obind_e hs
    refine end_i (run_S hF hKK hW hS hl.1 (c_X5_isBetween l hOK  hq5) (kw_X5_62 hF.2.2.2.2 ⟨Nat.le_of_ble_eq_true rfl, Nat.le_of_ble_eq_true rfl⟩) rfl rfl (Nat.le_of_ble_eq_true rfl) dX5_inRound_25 ⟨Nat.zero_le _, Nat.zero_le _⟩) hS (fun H locs hW hS => ?_)
    refine lv_if_eq (tgt := 40) hx hb dX5_inRound_28 (by decide) (fun c6 => ?_) (fun c6 => ?_)
    · have hs := ite_t hs c6
      refine lv_iconst (v := (-1 : Int32)) hx hb dX5_inRound_40 (by decide) ?_
      have h9 := Option.some.inj hs
      rw [← h9]
      exact wr_i hF hr hlocks (vp_nar_int _) hW hS dX5_inRound_41
    · have hs := ite_f hs c6
      refine lv_aload_n hx hb dX5_inRound_31 rfl (lv_at hl 1 rfl) ?_
      refine lv_iload_n hx hb dX5_inRound_32 rfl (lv_at hl 0 rfl) ?_
      refine lv_iload_n hx hb dX5_inRound_33 rfl (lv_at hl 3 rfl) ?_
      obtain ⟨q7, hq7, hs⟩ := obind_e hs
      refine end_i (run_V (q := (RX5, TX5, 21)) (ci := 5) hF hKK hW hS hl.1 k0 (by decide) rfl (c_X5_place l hOK k0 hq7) (kw_X5_70 hF.2.2.2.2 ⟨Nat.le_of_ble_eq_true rfl, Nat.le_of_ble_eq_true rfl⟩) rfl rfl (Nat.le_of_ble_eq_true rfl) dX5_inRound_34 ⟨Nat.zero_le _, Nat.zero_le _⟩) hS (fun H locs hW hS => ?_)
      refine lv_goto (tgt := 41) hx hb dX5_inRound_37 (by decide) ?_
      have h9 := Option.some.inj hs
      rw [← h9]
      exact wr_i hF hr hlocks (vp_nar_int _) hW hS dX5_inRound_41
  · have hs := ite_t hs c2
    refine lv_iconst (v := (-1 : Int32)) hx hb dX5_inRound_8 (by decide) ?_
    have h9 := Option.some.inj hs
    rw [← h9]
    exact wr_i hF hr hlocks (vp_nar_int _) hW hS dX5_inRound_9

set_option maxHeartbeats 4000000 in
set_option maxRecDepth 100000 in
theorem c_X5_isAhead (l : Launch) {G : va_G} {Λ : Lay} {μ : Mem} (hOK : LayOK Λ) {a0 : Nat} (k0 : inK Λ a0 5) {a1 : Int32} {a2 : Int32} {r : Int32} (hs : sX5_isAhead Λ μ a0 a1 a2 = some r) : CM l G Λ yX5_isAhead cX5_isAhead 5 (some .boolean) 6 μ [.ref a0, .int a1, .int a2] (QI G Λ r μ) := by
  refine ofM (own := RX5) (by decide +kernel) rfl (Nat.le_of_ble_eq_true rfl) (fun p e s m args below meth c ls hF hKK hW hr hlocks hl => ?_)
  have hx := hF.1
  have hb := hF.2.1
  have hA : ∀ q, inL Λ q → inL Λ q := fun _ h => h
  have hS : va_S (inL Λ) s.heap s.heap [] := va_S.rf
  have hl : lv_has ls 5 [(0, .ref a0), (1, .int a1), (2, .int a2)] := hl
  unfold sX5_isAhead at hs
  refine lv_aload_n hx hb dX5_isAhead_0 rfl (lv_at hl 0 rfl) ?_
  refine lv_aload_n hx hb dX5_isAhead_1 rfl (lv_at hl 0 rfl) ?_
  refine lv_iload_n hx hb dX5_isAhead_2 rfl (lv_at hl 1 rfl) ?_
  refine lv_iconst (v := (0 : Int32)) hx hb dX5_isAhead_3 (by decide) ?_
  obtain ⟨q1, hq1, hs⟩ := obind_e hs
  refine end_i (run_V (q := (RX5, TX5, 21)) (ci := 5) hF hKK hW hS hl.1 k0 (by decide) rfl (c_X5_place l hOK k0 hq1) (kw_X5_70 hF.2.2.2.2 ⟨Nat.le_of_ble_eq_true rfl, Nat.le_of_ble_eq_true rfl⟩) rfl rfl (Nat.le_of_ble_eq_true rfl) dX5_isAhead_4 ⟨Nat.zero_le _, Nat.zero_le _⟩) hS (fun H locs hW hS => ?_)
  obtain ⟨q2, hq2, hs⟩ := obind_e hs
  refine end_i (run_V (q := (RX5, TX5, 21)) (ci := 5) hF hKK hW hS hl.1 k0 (by decide) rfl (c_X5_sumBelow l hOK k0 hq2) (kw_X5_156 hF.2.2.2.2 ⟨Nat.le_of_ble_eq_true rfl, Nat.le_of_ble_eq_true rfl⟩) rfl rfl (Nat.le_of_ble_eq_true rfl) dX5_isAhead_7 ⟨Nat.zero_le _, Nat.zero_le _⟩) hS (fun H locs hW hS => ?_)
  refine lv_aload_n hx hb dX5_isAhead_10 rfl (lv_at hl 0 rfl) ?_
  refine lv_aload_n hx hb dX5_isAhead_11 rfl (lv_at hl 0 rfl) ?_
  refine lv_iload_n hx hb dX5_isAhead_12 rfl (lv_at hl 2 rfl) ?_
  refine lv_iconst (v := (0 : Int32)) hx hb dX5_isAhead_13 (by decide) ?_
  obtain ⟨q3, hq3, hs⟩ := obind_e hs
  refine end_i (run_V (q := (RX5, TX5, 21)) (ci := 5) hF hKK hW hS hl.1 k0 (by decide) rfl (c_X5_place l hOK k0 hq3) (kw_X5_70 hF.2.2.2.2 ⟨Nat.le_of_ble_eq_true rfl, Nat.le_of_ble_eq_true rfl⟩) rfl rfl (Nat.le_of_ble_eq_true rfl) dX5_isAhead_14 ⟨Nat.zero_le _, Nat.zero_le _⟩) hS (fun H locs hW hS => ?_)
  obtain ⟨q4, hq4, hs⟩ := obind_e hs
  refine end_i (run_V (q := (RX5, TX5, 21)) (ci := 5) hF hKK hW hS hl.1 k0 (by decide) rfl (c_X5_sumBelow l hOK k0 hq4) (kw_X5_156 hF.2.2.2.2 ⟨Nat.le_of_ble_eq_true rfl, Nat.le_of_ble_eq_true rfl⟩) rfl rfl (Nat.le_of_ble_eq_true rfl) dX5_isAhead_17 ⟨Nat.zero_le _, Nat.zero_le _⟩) hS (fun H locs hW hS => ?_)
  refine lv_isub hx hb dX5_isAhead_20 ?_
  obtain ⟨v5, ev5, hs⟩ := bnd_e hs
  refine top_i ev5 ?_
  refine lv_istore_n (lv' := [(3, .int v5), (0, .ref a0), (1, .int a1), (2, .int a2)]) hx hb dX5_isAhead_21 rfl hl (by decide) rfl (fun ls hl => ?_)
  refine lv_aload_n hx hb dX5_isAhead_22 rfl (lv_at hl 1 rfl) ?_
  refine lv_iload_n hx hb dX5_isAhead_23 rfl (lv_at hl 2 rfl) ?_
  obtain ⟨q6, hq6, hs⟩ := obind_e hs
  refine end_i (run_V (q := (RX5, TX5, 21)) (ci := 5) hF hKK hW hS hl.1 k0 (by decide) rfl (c_X5_banksOf l hOK k0 hq6) (kw_X5_120 hF.2.2.2.2 ⟨Nat.le_of_ble_eq_true rfl, Nat.le_of_ble_eq_true rfl⟩) rfl rfl (Nat.le_of_ble_eq_true rfl) dX5_isAhead_24 ⟨Nat.zero_le _, Nat.zero_le _⟩) hS (fun H locs hW hS => ?_)
  refine lv_aload_n hx hb dX5_isAhead_27 rfl (lv_at hl 1 rfl) ?_
  refine lv_iload_n hx hb dX5_isAhead_28 rfl (lv_at hl 3 rfl) ?_
  obtain ⟨q7, hq7, hs⟩ := obind_e hs
  refine end_i (run_V (q := (RX5, TX5, 21)) (ci := 5) hF hKK hW hS hl.1 k0 (by decide) rfl (c_X5_banksOf l hOK k0 hq7) (kw_X5_120 hF.2.2.2.2 ⟨Nat.le_of_ble_eq_true rfl, Nat.le_of_ble_eq_true rfl⟩) rfl rfl (Nat.le_of_ble_eq_true rfl) dX5_isAhead_29 ⟨Nat.zero_le _, Nat.zero_le _⟩) hS (fun H locs hW hS => ?_)
  refine lv_isub hx hb dX5_isAhead_32 ?_
  obtain ⟨v8, ev8, hs⟩ := bnd_e hs
  refine top_i ev8 ?_
  refine lv_istore (lv' := [(4, .int v8), (3, .int v5), (0, .ref a0), (1, .int a1), (2, .int a2)]) hx hb dX5_isAhead_33 hl (by decide) rfl (fun ls hl => ?_)
  refine lv_iload_n hx hb dX5_isAhead_35 rfl (lv_at hl 1 rfl) ?_
  refine lv_if_eq (tgt := 51) hx hb dX5_isAhead_36 (by decide) (fun c9 => ?_) (fun c9 => ?_)
  · have hs := ite_t hs c9
    refine lv_iload hx hb dX5_isAhead_51 (lv_at hl 0 rfl) ?_
    refine lv_if_eq (tgt := 69) hx hb dX5_isAhead_53 (by decide) (fun c10 => ?_) (fun c10 => ?_)
    · have hs := ite_t hs c10
      refine lv_aload_n hx hb dX5_isAhead_69 rfl (lv_at hl 2 rfl) ?_
      refine lv_iload_n hx hb dX5_isAhead_70 rfl (lv_at hl 3 rfl) ?_
      refine lv_iconst (v := (0 : Int32)) hx hb dX5_isAhead_71 (by decide) ?_
      obtain ⟨q11, hq11, hs⟩ := obind_e hs
      refine end_i (run_V (q := (RX5, TX5, 21)) (ci := 5) hF hKK hW hS hl.1 k0 (by decide) rfl (c_X5_place l hOK k0 hq11) (kw_X5_70 hF.2.2.2.2 ⟨Nat.le_of_ble_eq_true rfl, Nat.le_of_ble_eq_true rfl⟩) rfl rfl (Nat.le_of_ble_eq_true rfl) dX5_isAhead_72 ⟨Nat.zero_le _, Nat.zero_le _⟩) hS (fun H locs hW hS => ?_)
      refine lv_aload_n hx hb dX5_isAhead_75 rfl (lv_at hl 2 rfl) ?_
      refine lv_iload_n hx hb dX5_isAhead_76 rfl (lv_at hl 4 rfl) ?_
      refine lv_iconst (v := (0 : Int32)) hx hb dX5_isAhead_77 (by decide) ?_
      obtain ⟨q12, hq12, hs⟩ := obind_e hs
      refine end_i (run_V (q := (RX5, TX5, 21)) (ci := 5) hF hKK hW hS hl.1 k0 (by decide) rfl (c_X5_place l hOK k0 hq12) (kw_X5_70 hF.2.2.2.2 ⟨Nat.le_of_ble_eq_true rfl, Nat.le_of_ble_eq_true rfl⟩) rfl rfl (Nat.le_of_ble_eq_true rfl) dX5_isAhead_78 ⟨Nat.zero_le _, Nat.zero_le _⟩) hS (fun H locs hW hS => ?_)
      refine lv_icmp_ge (tgt := 88) hx hb dX5_isAhead_81 (by decide) (fun c13 => ?_) (fun c13 => ?_)
      · have hs := ite_t hs c13
        refine lv_iconst (v := (0 : Int32)) hx hb dX5_isAhead_88 (by decide) ?_
        have h9 := Option.some.inj hs
        rw [← h9]
        exact wr_i hF hr hlocks (isB_nar (Or.inl rfl)) hW hS dX5_isAhead_89
      · have hs := ite_f hs c13
        refine lv_iconst (v := (1 : Int32)) hx hb dX5_isAhead_84 (by decide) ?_
        refine lv_goto (tgt := 89) hx hb dX5_isAhead_85 (by decide) ?_
        have h9 := Option.some.inj hs
        rw [← h9]
        exact wr_i hF hr hlocks (isB_nar (Or.inr rfl)) hW hS dX5_isAhead_89
    · have hs := ite_f hs c10
      refine lv_iload hx hb dX5_isAhead_56 (lv_at hl 0 rfl) ?_
      refine lv_if_le (tgt := 65) hx hb dX5_isAhead_58 (by decide) (fun c14 => ?_) (fun c14 => ?_)
      · have hs := ite_t hs c14
        refine lv_iconst (v := (0 : Int32)) hx hb dX5_isAhead_65 (by decide) ?_
        refine lv_goto (tgt := 89) hx hb dX5_isAhead_66 (by decide) ?_
        have h9 := Option.some.inj hs
        rw [← h9]
        exact wr_i hF hr hlocks (isB_nar (Or.inl rfl)) hW hS dX5_isAhead_89
      · have hs := ite_f hs c14
        refine lv_iconst (v := (1 : Int32)) hx hb dX5_isAhead_61 (by decide) ?_
        refine lv_goto (tgt := 89) hx hb dX5_isAhead_62 (by decide) ?_
        have h9 := Option.some.inj hs
        rw [← h9]
        exact wr_i hF hr hlocks (isB_nar (Or.inr rfl)) hW hS dX5_isAhead_89
  · have hs := ite_f hs c9
    refine lv_iload_n hx hb dX5_isAhead_39 rfl (lv_at hl 1 rfl) ?_
    refine lv_if_le (tgt := 47) hx hb dX5_isAhead_40 (by decide) (fun c15 => ?_) (fun c15 => ?_)
    · have hs := ite_t hs c15
      refine lv_iconst (v := (0 : Int32)) hx hb dX5_isAhead_47 (by decide) ?_
      refine lv_goto (tgt := 89) hx hb dX5_isAhead_48 (by decide) ?_
      have h9 := Option.some.inj hs
      rw [← h9]
      exact wr_i hF hr hlocks (isB_nar (Or.inl rfl)) hW hS dX5_isAhead_89
    · have hs := ite_f hs c15
      refine lv_iconst (v := (1 : Int32)) hx hb dX5_isAhead_43 (by decide) ?_
      refine lv_goto (tgt := 89) hx hb dX5_isAhead_44 (by decide) ?_
      have h9 := Option.some.inj hs
      rw [← h9]
      exact wr_i hF hr hlocks (isB_nar (Or.inr rfl)) hW hS dX5_isAhead_89

set_option maxHeartbeats 4000000 in
set_option maxRecDepth 100000 in
theorem c_X5_isBelow (l : Launch) {G : va_G} {Λ : Lay} {μ : Mem} (hOK : LayOK Λ) {a0 : Nat} (k0 : inK Λ a0 5) {a1 : Int32} {a2 : Int32} {r : Int32} (hs : sX5_isBelow Λ μ a0 a1 a2 = some r) : CM l G Λ yX5_isBelow cX5_isBelow 3 (some .int) 5 μ [.ref a0, .int a1, .int a2] (QI G Λ r μ) := by
  refine ofM (own := RX5) (by decide +kernel) rfl (Nat.le_of_ble_eq_true rfl) (fun p e s m args below meth c ls hF hKK hW hr hlocks hl => ?_)
  have hx := hF.1
  have hb := hF.2.1
  have hA : ∀ q, inL Λ q → inL Λ q := fun _ h => h
  have hS : va_S (inL Λ) s.heap s.heap [] := va_S.rf
  have hl : lv_has ls 3 [(0, .ref a0), (1, .int a1), (2, .int a2)] := hl
  unfold sX5_isBelow at hs
  refine lv_aload_n hx hb dX5_isBelow_0 rfl (lv_at hl 0 rfl) ?_
  refine lv_iload_n hx hb dX5_isBelow_1 rfl (lv_at hl 1 rfl) ?_
  obtain ⟨q1, hq1, hs⟩ := obind_e hs
  refine end_i (run_V (q := (RX5, TX5, 21)) (ci := 5) hF hKK hW hS hl.1 k0 (by decide) rfl (c_X5_isBank l hOK k0 hq1) (kw_X5_99 hF.2.2.2.2 ⟨Nat.le_of_ble_eq_true rfl, Nat.le_of_ble_eq_true rfl⟩) rfl rfl (Nat.le_of_ble_eq_true rfl) dX5_isBelow_2 ⟨Nat.zero_le _, Nat.zero_le _⟩) hS (fun H locs hW hS => ?_)
  refine lv_if_eq (tgt := 16) hx hb dX5_isBelow_5 (by decide) (fun c2 => ?_) (fun c2 => ?_)
  · have hs := ite_t hs c2
    refine lv_iconst (v := (-1 : Int32)) hx hb dX5_isBelow_16 (by decide) ?_
    refine lv_goto (tgt := 34) hx hb dX5_isBelow_17 (by decide) ?_
    have h9 := Option.some.inj hs
    rw [← h9]
    exact wr_i hF hr hlocks (vp_nar_int _) hW hS dX5_isBelow_34
  · have hs := ite_f hs c2
    refine lv_aload_n hx hb dX5_isBelow_8 rfl (lv_at hl 0 rfl) ?_
    refine lv_iload_n hx hb dX5_isBelow_9 rfl (lv_at hl 2 rfl) ?_
    obtain ⟨q3, hq3, hs⟩ := obind_e hs
    refine end_i (run_V (q := (RX5, TX5, 21)) (ci := 5) hF hKK hW hS hl.1 k0 (by decide) rfl (c_X5_isBank l hOK k0 hq3) (kw_X5_99 hF.2.2.2.2 ⟨Nat.le_of_ble_eq_true rfl, Nat.le_of_ble_eq_true rfl⟩) rfl rfl (Nat.le_of_ble_eq_true rfl) dX5_isBelow_10 ⟨Nat.zero_le _, Nat.zero_le _⟩) hS (fun H locs hW hS => ?_)
    refine lv_if_ne (tgt := 20) hx hb dX5_isBelow_13 (by decide) (fun c4 => ?_) (fun c4 => ?_)
    · have hs := ite_f hs c4
      refine lv_aload_n hx hb dX5_isBelow_20 rfl (lv_at hl 0 rfl) ?_
      refine lv_iload_n hx hb dX5_isBelow_21 rfl (lv_at hl 1 rfl) ?_
      refine lv_iload_n hx hb dX5_isBelow_22 rfl (lv_at hl 2 rfl) ?_
      obtain ⟨q5, hq5, hs⟩ := obind_e hs
      refine end_i (run_V (q := (RX5, TX5, 21)) (ci := 5) hF hKK hW hS hl.1 k0 (by decide) rfl (c_X5_below l hOK k0 hq5) (kw_X5_138 hF.2.2.2.2 ⟨Nat.le_of_ble_eq_true rfl, Nat.le_of_ble_eq_true rfl⟩) rfl rfl (Nat.le_of_ble_eq_true rfl) dX5_isBelow_23 ⟨Nat.zero_le _, Nat.zero_le _⟩) hS (fun H locs hW hS => ?_)
      refine lv_if_eq (tgt := 33) hx hb dX5_isBelow_26 (by decide) (fun c6 => ?_) (fun c6 => ?_)
      · have hs := ite_t hs c6
        refine lv_iconst (v := (0 : Int32)) hx hb dX5_isBelow_33 (by decide) ?_
        have h9 := Option.some.inj hs
        rw [← h9]
        exact wr_i hF hr hlocks (vp_nar_int _) hW hS dX5_isBelow_34
      · have hs := ite_f hs c6
        refine lv_iconst (v := (1 : Int32)) hx hb dX5_isBelow_29 (by decide) ?_
        refine lv_goto (tgt := 34) hx hb dX5_isBelow_30 (by decide) ?_
        have h9 := Option.some.inj hs
        rw [← h9]
        exact wr_i hF hr hlocks (vp_nar_int _) hW hS dX5_isBelow_34
    · have hs := ite_t hs c4
      refine lv_iconst (v := (-1 : Int32)) hx hb dX5_isBelow_16 (by decide) ?_
      refine lv_goto (tgt := 34) hx hb dX5_isBelow_17 (by decide) ?_
      have h9 := Option.some.inj hs
      rw [← h9]
      exact wr_i hF hr hlocks (vp_nar_int _) hW hS dX5_isBelow_34

set_option maxHeartbeats 4000000 in
set_option maxRecDepth 100000 in
theorem c_X5_isRope (l : Launch) {G : va_G} {Λ : Lay} {μ : Mem} (hOK : LayOK Λ) {a0 : Nat} (k0 : inK Λ a0 5) {a1 : Int32} {a2 : Int32} {r : Int32} (hs : sX5_isRope Λ μ a0 a1 a2 = some r) : CM l G Λ yX5_isRope cX5_isRope 3 (some .int) 4 μ [.ref a0, .int a1, .int a2] (QI G Λ r μ) := by
  refine ofM (own := RX5) (by decide +kernel) rfl (Nat.le_of_ble_eq_true rfl) (fun p e s m args below meth c ls hF hKK hW hr hlocks hl => ?_)
  have hx := hF.1
  have hb := hF.2.1
  have hA : ∀ q, inL Λ q → inL Λ q := fun _ h => h
  have hS : va_S (inL Λ) s.heap s.heap [] := va_S.rf
  have hl : lv_has ls 3 [(0, .ref a0), (1, .int a1), (2, .int a2)] := hl
  unfold sX5_isRope at hs
  refine lv_aload_n hx hb dX5_isRope_0 rfl (lv_at hl 0 rfl) ?_
  refine lv_iload_n hx hb dX5_isRope_1 rfl (lv_at hl 1 rfl) ?_
  obtain ⟨q1, hq1, hs⟩ := obind_e hs
  refine end_i (run_V (q := (RX5, TX5, 21)) (ci := 5) hF hKK hW hS hl.1 k0 (by decide) rfl (c_X5_isBank l hOK k0 hq1) (kw_X5_99 hF.2.2.2.2 ⟨Nat.le_of_ble_eq_true rfl, Nat.le_of_ble_eq_true rfl⟩) rfl rfl (Nat.le_of_ble_eq_true rfl) dX5_isRope_2 ⟨Nat.zero_le _, Nat.zero_le _⟩) hS (fun H locs hW hS => ?_)
  refine lv_if_eq (tgt := 16) hx hb dX5_isRope_5 (by decide) (fun c2 => ?_) (fun c2 => ?_)
  · have hs := ite_t hs c2
    refine lv_iconst (v := (-1 : Int32)) hx hb dX5_isRope_16 (by decide) ?_
    refine lv_goto (tgt := 34) hx hb dX5_isRope_17 (by decide) ?_
    have h9 := Option.some.inj hs
    rw [← h9]
    exact wr_i hF hr hlocks (vp_nar_int _) hW hS dX5_isRope_34
  · have hs := ite_f hs c2
    refine lv_aload_n hx hb dX5_isRope_8 rfl (lv_at hl 0 rfl) ?_
    refine lv_iload_n hx hb dX5_isRope_9 rfl (lv_at hl 2 rfl) ?_
    obtain ⟨q3, hq3, hs⟩ := obind_e hs
    refine end_i (run_V (q := (RX5, TX5, 21)) (ci := 5) hF hKK hW hS hl.1 k0 (by decide) rfl (c_X5_isBank l hOK k0 hq3) (kw_X5_99 hF.2.2.2.2 ⟨Nat.le_of_ble_eq_true rfl, Nat.le_of_ble_eq_true rfl⟩) rfl rfl (Nat.le_of_ble_eq_true rfl) dX5_isRope_10 ⟨Nat.zero_le _, Nat.zero_le _⟩) hS (fun H locs hW hS => ?_)
    refine lv_if_ne (tgt := 20) hx hb dX5_isRope_13 (by decide) (fun c4 => ?_) (fun c4 => ?_)
    · have hs := ite_f hs c4
      refine lv_aload_n hx hb dX5_isRope_20 rfl (lv_at hl 0 rfl) ?_
      refine lv_iload_n hx hb dX5_isRope_21 rfl (lv_at hl 1 rfl) ?_
      refine lv_iload_n hx hb dX5_isRope_22 rfl (lv_at hl 2 rfl) ?_
      obtain ⟨q5, hq5, hs⟩ := obind_e hs
      refine end_i (run_V (q := (RX5, TX5, 21)) (ci := 5) hF hKK hW hS hl.1 k0 (by decide) rfl (c_X5_isTied l hOK k0 hq5) (kw_X5_126 hF.2.2.2.2 ⟨Nat.le_of_ble_eq_true rfl, Nat.le_of_ble_eq_true rfl⟩) rfl rfl (Nat.le_of_ble_eq_true rfl) dX5_isRope_23 ⟨Nat.zero_le _, Nat.zero_le _⟩) hS (fun H locs hW hS => ?_)
      refine lv_if_eq (tgt := 33) hx hb dX5_isRope_26 (by decide) (fun c6 => ?_) (fun c6 => ?_)
      · have hs := ite_t hs c6
        refine lv_iconst (v := (0 : Int32)) hx hb dX5_isRope_33 (by decide) ?_
        have h9 := Option.some.inj hs
        rw [← h9]
        exact wr_i hF hr hlocks (vp_nar_int _) hW hS dX5_isRope_34
      · have hs := ite_f hs c6
        refine lv_iconst (v := (1 : Int32)) hx hb dX5_isRope_29 (by decide) ?_
        refine lv_goto (tgt := 34) hx hb dX5_isRope_30 (by decide) ?_
        have h9 := Option.some.inj hs
        rw [← h9]
        exact wr_i hF hr hlocks (vp_nar_int _) hW hS dX5_isRope_34
    · have hs := ite_t hs c4
      refine lv_iconst (v := (-1 : Int32)) hx hb dX5_isRope_16 (by decide) ?_
      refine lv_goto (tgt := 34) hx hb dX5_isRope_17 (by decide) ?_
      have h9 := Option.some.inj hs
      rw [← h9]
      exact wr_i hF hr hlocks (vp_nar_int _) hW hS dX5_isRope_34

set_option maxHeartbeats 4000000 in
set_option maxRecDepth 100000 in
theorem c_X5_isWell (l : Launch) {G : va_G} {Λ : Lay} {μ : Mem} (hOK : LayOK Λ) {a0 : Nat} (k0 : inK Λ a0 5) {r : Int32} (hs : sX5_isWell Λ μ a0 = some r) : CM l G Λ yX5_isWell cX5_isWell 1 (some .int) 0 μ [.ref a0] (QI G Λ r μ) := by
  refine ofM (own := RX5) (by decide +kernel) rfl (Nat.le_of_ble_eq_true rfl) (fun p e s m args below meth c ls hF hKK hW hr hlocks hl => ?_)
  have hx := hF.1
  have hb := hF.2.1
  have hA : ∀ q, inL Λ q → inL Λ q := fun _ h => h
  have hS : va_S (inL Λ) s.heap s.heap [] := va_S.rf
  have hl : lv_has ls 1 [(0, .ref a0)] := hl
  unfold sX5_isWell at hs
  refine lv_iconst (v := (1 : Int32)) hx hb dX5_isWell_0 (by decide) ?_
  have h9 := Option.some.inj hs
  rw [← h9]
  exact wr_i hF hr hlocks (vp_nar_int _) hW hS dX5_isWell_1

set_option maxHeartbeats 4000000 in
set_option maxRecDepth 100000 in
theorem cl_X5_mean_4 {p : Program} {l : Launch} {e : Env} {s : State} {m : MethodId} {args : Array Value} {below : List Frame} {meth : Method} {c : Code} {G : va_G} {Λ : Lay} {μ : Mem} {r : Int32} (hOK : LayOK Λ) (hF : CallFix p m c cX5_mean 3 s args tw RX5) (hKK : KK G Λ s) (hr : meth.sig.returnType = (some .int)) (hlocks : meth.locks = false) {x0 : Nat} (kx0 : inK Λ x0 5) : ∀ (n : Nat) (x1 : Int32) (x2 : Int32) (H : Heap) (locs : List Loc) (ls : Array Slot), lpX5_mean_4 Λ μ x0 n x1 x2 = some r → Wd G Λ μ H → va_S (inL Λ) s.heap H locs → lv_has ls 3 [(0, .ref x0), (1, .int x1), (2, .int x2)] → W p l e (rmd 6) s m args below meth c H locs 0 0 (MQ below (QI G Λ r μ) args s 0 0 (inL Λ)) (F0 m 4 ls []) := by
  have hx := hF.1
  have hb := hF.2.1
  have hA : ∀ q, inL Λ q → inL Λ q := fun _ h => h
  intro n
  induction n with
  | zero =>
    intro x1 x2 H locs ls hs hW hS hl
    cases hs
  | succ n4 ih4 =>
    intro x1 x2 H locs ls hs hW hS hl
    rw [lpX5_mean_4_s] at hs
    refine lv_iload_n hx hb dX5_mean_4 rfl (lv_at hl 2 rfl) ?_
    refine lv_aload_n hx hb dX5_mean_5 rfl (lv_at hl 0 rfl) ?_
    refine gf_5_0 hF hKK hW kx0 dX5_mean_6 ?_
    refine lv_iconst (v := (0 : Int32)) hx hb dX5_mean_9 (by decide) ?_
    obtain ⟨g1, hs⟩ := gd_some hs
    refine ga_ld hF hKK hW (lk_5_0 hOK kx0) g1 dX5_mean_10 ?_
    refine lv_icmp_ge (tgt := 28) hx hb dX5_mean_11 (by decide) (fun c2 => ?_) (fun c2 => ?_)
    · have hs := ite_t hs c2
      refine lv_aload_n hx hb dX5_mean_28 rfl (lv_at hl 0 rfl) ?_
      refine gf_5_0 hF hKK hW kx0 dX5_mean_29 ?_
      refine lv_iconst (v := (0 : Int32)) hx hb dX5_mean_32 (by decide) ?_
      obtain ⟨g3, hs⟩ := gd_some hs
      refine ga_ld hF hKK hW (lk_5_0 hOK kx0) g3 dX5_mean_33 ?_
      refine lv_if_ne (tgt := 42) hx hb dX5_mean_34 (by decide) (fun c4 => ?_) (fun c4 => ?_)
      · have hs := ite_f hs c4
        refine lv_iload_n hx hb dX5_mean_42 rfl (lv_at hl 1 rfl) ?_
        refine lv_i2f hx hb dX5_mean_43 ?_
        refine lv_aload_n hx hb dX5_mean_44 rfl (lv_at hl 0 rfl) ?_
        refine gf_5_0 hF hKK hW kx0 dX5_mean_45 ?_
        refine lv_iconst (v := (0 : Int32)) hx hb dX5_mean_48 (by decide) ?_
        obtain ⟨g5, hs⟩ := gd_some hs
        refine ga_ld hF hKK hW (lk_5_0 hOK kx0) g5 dX5_mean_49 ?_
        refine lv_i2f hx hb dX5_mean_50 ?_
        obtain ⟨g6, hs⟩ := gd_some hs
        refine lv_fdiv hx hb dX5_mean_51 g6 ?_
        obtain ⟨q7, hq7, hs⟩ := obind_e hs
        refine end_i (run_S hF hKK hW hS hl.1 (c_Jxf58ca_floatToIntBits_5c35a l hOK  hq7) (kw_X5_266 hF.2.2.2.2 ⟨Nat.le_of_ble_eq_true rfl, Nat.le_of_ble_eq_true rfl⟩) rfl rfl (Nat.le_of_ble_eq_true rfl) dX5_mean_52 ⟨Nat.zero_le _, Nat.zero_le _⟩) hS (fun H locs hW hS => ?_)
        have h9 := Option.some.inj hs
        rw [← h9]
        exact wr_i hF hr hlocks (vp_nar_int _) hW hS dX5_mean_55
      · have hs := ite_t hs c4
        refine lv_bipush (v := (-4 : Int32)) hx hb dX5_mean_37 (by decide) ?_
        refine lv_goto (tgt := 55) hx hb dX5_mean_39 (by decide) ?_
        have h9 := Option.some.inj hs
        rw [← h9]
        exact wr_i hF hr hlocks (vp_nar_int _) hW hS dX5_mean_55
    · have hs := ite_f hs c2
      refine lv_iload_n hx hb dX5_mean_14 rfl (lv_at hl 1 rfl) ?_
      refine lv_aload_n hx hb dX5_mean_15 rfl (lv_at hl 0 rfl) ?_
      refine lv_iload_n hx hb dX5_mean_16 rfl (lv_at hl 2 rfl) ?_
      obtain ⟨q8, hq8, hs⟩ := obind_e hs
      refine end_i (run_V (q := (RX5, TX5, 21)) (ci := 5) hF hKK hW hS hl.1 kx0 (by decide) rfl (c_X5_depth l hOK kx0 hq8) (kw_X5_144 hF.2.2.2.2 ⟨Nat.le_of_ble_eq_true rfl, Nat.le_of_ble_eq_true rfl⟩) rfl rfl (Nat.le_of_ble_eq_true rfl) dX5_mean_17 ⟨Nat.zero_le _, Nat.zero_le _⟩) hS (fun H locs hW hS => ?_)
      refine lv_iadd hx hb dX5_mean_20 ?_
      obtain ⟨v9, ev9, hs⟩ := bnd_e hs
      refine top_i ev9 ?_
      refine lv_istore_n (lv' := [(1, .int v9), (0, .ref x0), (2, .int x2)]) hx hb dX5_mean_21 rfl hl (by decide) rfl (fun ls hl => ?_)
      obtain ⟨v10, ev10, hs⟩ := bnd_e hs
      refine lv_iinc (v := v10) (lv' := [(2, .int v10), (1, .int v9), (0, .ref x0)]) hx hb dX5_mean_22 hl (k := 2) rfl (by rw [ev10]; rfl) (by decide) rfl (fun ls hl => ?_)
      refine lv_goto (tgt := 4) hx hb dX5_mean_25 (by decide) ?_
      exact ih4 v9 v10 _ _ _ hs hW hS (lv_sub hl [2, 1, 0] rfl)

set_option maxHeartbeats 4000000 in
set_option maxRecDepth 100000 in
theorem c_X5_mean (l : Launch) {G : va_G} {Λ : Lay} {μ : Mem} (hOK : LayOK Λ) {a0 : Nat} (k0 : inK Λ a0 5) {r : Int32} (hs : sX5_mean Λ μ a0 = some r) : CM l G Λ yX5_mean cX5_mean 3 (some .int) 6 μ [.ref a0] (QI G Λ r μ) := by
  refine ofM (own := RX5) (by decide +kernel) rfl (Nat.le_of_ble_eq_true rfl) (fun p e s m args below meth c ls hF hKK hW hr hlocks hl => ?_)
  have hx := hF.1
  have hb := hF.2.1
  have hA : ∀ q, inL Λ q → inL Λ q := fun _ h => h
  have hS : va_S (inL Λ) s.heap s.heap [] := va_S.rf
  have hl : lv_has ls 3 [(0, .ref a0)] := hl
  unfold sX5_mean at hs
  refine lv_iconst (v := (0 : Int32)) hx hb dX5_mean_0 (by decide) ?_
  refine lv_istore_n (lv' := [(1, .int (0 : Int32)), (0, .ref a0)]) hx hb dX5_mean_1 rfl hl (by decide) rfl (fun ls hl => ?_)
  refine lv_iconst (v := (0 : Int32)) hx hb dX5_mean_2 (by decide) ?_
  refine lv_istore_n (lv' := [(2, .int (0 : Int32)), (1, .int (0 : Int32)), (0, .ref a0)]) hx hb dX5_mean_3 rfl hl (by decide) rfl (fun ls hl => ?_)
  exact cl_X5_mean_4 hOK hF hKK hr hlocks k0 fuel (0 : Int32) (0 : Int32) _ _ _ hs hW hS (lv_sub hl [2, 1, 0] rfl)

set_option maxHeartbeats 4000000 in
set_option maxRecDepth 100000 in
theorem cl_X5_meeting_2 {p : Program} {l : Launch} {e : Env} {s : State} {m : MethodId} {args : Array Value} {below : List Frame} {meth : Method} {c : Code} {G : va_G} {Λ : Lay} {μ : Mem} {r : Int32} (hOK : LayOK Λ) (hF : CallFix p m c cX5_meeting 4 s args tw RX5) (hKK : KK G Λ s) (hr : meth.sig.returnType = (some .int)) (hlocks : meth.locks = false) {x0 : Nat} (kx0 : inK Λ x0 5) {x2 : Int32} : ∀ (n : Nat) (x3 : Int32) (H : Heap) (locs : List Loc) (ls : Array Slot), lpX5_meeting_2 Λ μ x0 x2 n x3 = some r → Wd G Λ μ H → va_S (inL Λ) s.heap H locs → lv_has ls 4 [(0, .ref x0), (2, .int x2), (3, .int x3)] → W p l e (rmd 5) s m args below meth c H locs 0 0 (MQ below (QI G Λ r μ) args s 0 0 (inL Λ)) (F0 m 2 ls []) := by
  have hx := hF.1
  have hb := hF.2.1
  have hA : ∀ q, inL Λ q → inL Λ q := fun _ h => h
  intro n
  induction n with
  | zero =>
    intro x3 H locs ls hs hW hS hl
    cases hs
  | succ n2 ih2 =>
    intro x3 H locs ls hs hW hS hl
    rw [lpX5_meeting_2_s] at hs
    refine lv_aload_n hx hb dX5_meeting_2 rfl (lv_at hl 0 rfl) ?_
    refine lv_iload_n hx hb dX5_meeting_3 rfl (lv_at hl 1 rfl) ?_
    refine lv_iload_n hx hb dX5_meeting_4 rfl (lv_at hl 2 rfl) ?_
    obtain ⟨q1, hq1, hs⟩ := obind_e hs
    refine end_i (run_V (q := (RX5, TX5, 21)) (ci := 5) hF hKK hW hS hl.1 kx0 (by decide) rfl (c_X5_below l hOK kx0 hq1) (kw_X5_138 hF.2.2.2.2 ⟨Nat.le_of_ble_eq_true rfl, Nat.le_of_ble_eq_true rfl⟩) rfl rfl (Nat.le_of_ble_eq_true rfl) dX5_meeting_5 ⟨Nat.zero_le _, Nat.zero_le _⟩) hS (fun H locs hW hS => ?_)
    refine lv_if_ne (tgt := 20) hx hb dX5_meeting_8 (by decide) (fun c2 => ?_) (fun c2 => ?_)
    · have hs := ite_f hs c2
      refine lv_iload_n hx hb dX5_meeting_20 rfl (lv_at hl 2 rfl) ?_
      have h9 := Option.some.inj hs
      rw [← h9]
      exact wr_i hF hr hlocks (vp_nar_int _) hW hS dX5_meeting_21
    · have hs := ite_t hs c2
      refine lv_aload_n hx hb dX5_meeting_11 rfl (lv_at hl 0 rfl) ?_
      refine lv_iload_n hx hb dX5_meeting_12 rfl (lv_at hl 2 rfl) ?_
      obtain ⟨q3, hq3, hs⟩ := obind_e hs
      refine end_i (run_V (q := (RX5, TX5, 21)) (ci := 5) hF hKK hW hS hl.1 kx0 (by decide) rfl (c_X5_above l hOK kx0 hq3) (kw_X5_150 hF.2.2.2.2 ⟨Nat.le_of_ble_eq_true rfl, Nat.le_of_ble_eq_true rfl⟩) rfl rfl (Nat.le_of_ble_eq_true rfl) dX5_meeting_13 ⟨Nat.zero_le _, Nat.zero_le _⟩) hS (fun H locs hW hS => ?_)
      refine lv_istore_n (lv' := [(3, .int q3), (0, .ref x0), (2, .int x2)]) hx hb dX5_meeting_16 rfl hl (by decide) rfl (fun ls hl => ?_)
      refine lv_goto (tgt := 2) hx hb dX5_meeting_17 (by decide) ?_
      exact ih2 q3 _ _ _ hs hW hS (lv_sub hl [1, 2, 0] rfl)

set_option maxHeartbeats 4000000 in
set_option maxRecDepth 100000 in
theorem c_X5_meeting (l : Launch) {G : va_G} {Λ : Lay} {μ : Mem} (hOK : LayOK Λ) {a0 : Nat} (k0 : inK Λ a0 5) {a1 : Int32} {a2 : Int32} {r : Int32} (hs : sX5_meeting Λ μ a0 a1 a2 = some r) : CM l G Λ yX5_meeting cX5_meeting 4 (some .int) 5 μ [.ref a0, .int a1, .int a2] (QI G Λ r μ) := by
  refine ofM (own := RX5) (by decide +kernel) rfl (Nat.le_of_ble_eq_true rfl) (fun p e s m args below meth c ls hF hKK hW hr hlocks hl => ?_)
  have hx := hF.1
  have hb := hF.2.1
  have hA : ∀ q, inL Λ q → inL Λ q := fun _ h => h
  have hS : va_S (inL Λ) s.heap s.heap [] := va_S.rf
  have hl : lv_has ls 4 [(0, .ref a0), (1, .int a1), (2, .int a2)] := hl
  unfold sX5_meeting at hs
  refine lv_iload_n hx hb dX5_meeting_0 rfl (lv_at hl 1 rfl) ?_
  refine lv_istore_n (lv' := [(3, .int a1), (0, .ref a0), (1, .int a1), (2, .int a2)]) hx hb dX5_meeting_1 rfl hl (by decide) rfl (fun ls hl => ?_)
  exact cl_X5_meeting_2 hOK hF hKK hr hlocks k0 fuel a1 _ _ _ hs hW hS (lv_sub hl [1, 3, 0] rfl)

set_option maxHeartbeats 4000000 in
set_option maxRecDepth 100000 in
theorem c_X5_meet (l : Launch) {G : va_G} {Λ : Lay} {μ : Mem} (hOK : LayOK Λ) {a0 : Nat} (k0 : inK Λ a0 5) {a1 : Int32} {a2 : Int32} {r : Int32} (hs : sX5_meet Λ μ a0 a1 a2 = some r) : CM l G Λ yX5_meet cX5_meet 3 (some .int) 6 μ [.ref a0, .int a1, .int a2] (QI G Λ r μ) := by
  refine ofM (own := RX5) (by decide +kernel) rfl (Nat.le_of_ble_eq_true rfl) (fun p e s m args below meth c ls hF hKK hW hr hlocks hl => ?_)
  have hx := hF.1
  have hb := hF.2.1
  have hA : ∀ q, inL Λ q → inL Λ q := fun _ h => h
  have hS : va_S (inL Λ) s.heap s.heap [] := va_S.rf
  have hl : lv_has ls 3 [(0, .ref a0), (1, .int a1), (2, .int a2)] := hl
  unfold sX5_meet at hs
  refine lv_aload_n hx hb dX5_meet_0 rfl (lv_at hl 0 rfl) ?_
  refine lv_iload_n hx hb dX5_meet_1 rfl (lv_at hl 1 rfl) ?_
  obtain ⟨q1, hq1, hs⟩ := obind_e hs
  refine end_i (run_V (q := (RX5, TX5, 21)) (ci := 5) hF hKK hW hS hl.1 k0 (by decide) rfl (c_X5_isBank l hOK k0 hq1) (kw_X5_99 hF.2.2.2.2 ⟨Nat.le_of_ble_eq_true rfl, Nat.le_of_ble_eq_true rfl⟩) rfl rfl (Nat.le_of_ble_eq_true rfl) dX5_meet_2 ⟨Nat.zero_le _, Nat.zero_le _⟩) hS (fun H locs hW hS => ?_)
  refine lv_if_eq (tgt := 16) hx hb dX5_meet_5 (by decide) (fun c2 => ?_) (fun c2 => ?_)
  · have hs := ite_t hs c2
    refine lv_iconst (v := (-1 : Int32)) hx hb dX5_meet_16 (by decide) ?_
    have h9 := Option.some.inj hs
    rw [← h9]
    exact wr_i hF hr hlocks (vp_nar_int _) hW hS dX5_meet_17
  · have hs := ite_f hs c2
    refine lv_aload_n hx hb dX5_meet_8 rfl (lv_at hl 0 rfl) ?_
    refine lv_iload_n hx hb dX5_meet_9 rfl (lv_at hl 2 rfl) ?_
    obtain ⟨q3, hq3, hs⟩ := obind_e hs
    refine end_i (run_V (q := (RX5, TX5, 21)) (ci := 5) hF hKK hW hS hl.1 k0 (by decide) rfl (c_X5_isBank l hOK k0 hq3) (kw_X5_99 hF.2.2.2.2 ⟨Nat.le_of_ble_eq_true rfl, Nat.le_of_ble_eq_true rfl⟩) rfl rfl (Nat.le_of_ble_eq_true rfl) dX5_meet_10 ⟨Nat.zero_le _, Nat.zero_le _⟩) hS (fun H locs hW hS => ?_)
    refine lv_if_ne (tgt := 18) hx hb dX5_meet_13 (by decide) (fun c4 => ?_) (fun c4 => ?_)
    · have hs := ite_f hs c4
      refine lv_aload_n hx hb dX5_meet_18 rfl (lv_at hl 0 rfl) ?_
      refine lv_iload_n hx hb dX5_meet_19 rfl (lv_at hl 1 rfl) ?_
      refine lv_iload_n hx hb dX5_meet_20 rfl (lv_at hl 2 rfl) ?_
      obtain ⟨q5, hq5, hs⟩ := obind_e hs
      refine end_i (run_V (q := (RX5, TX5, 21)) (ci := 5) hF hKK hW hS hl.1 k0 (by decide) rfl (c_X5_areOne l hOK k0 hq5) (kw_X5_110 hF.2.2.2.2 ⟨Nat.le_of_ble_eq_true rfl, Nat.le_of_ble_eq_true rfl⟩) rfl rfl (Nat.le_of_ble_eq_true rfl) dX5_meet_21 ⟨Nat.zero_le _, Nat.zero_le _⟩) hS (fun H locs hW hS => ?_)
      refine lv_if_eq (tgt := 36) hx hb dX5_meet_24 (by decide) (fun c6 => ?_) (fun c6 => ?_)
      · have hs := ite_t hs c6
        refine lv_bipush (v := (-4 : Int32)) hx hb dX5_meet_36 (by decide) ?_
        have h9 := Option.some.inj hs
        rw [← h9]
        exact wr_i hF hr hlocks (vp_nar_int _) hW hS dX5_meet_38
      · have hs := ite_f hs c6
        refine lv_aload_n hx hb dX5_meet_27 rfl (lv_at hl 0 rfl) ?_
        refine lv_iload_n hx hb dX5_meet_28 rfl (lv_at hl 1 rfl) ?_
        refine lv_iload_n hx hb dX5_meet_29 rfl (lv_at hl 2 rfl) ?_
        obtain ⟨q7, hq7, hs⟩ := obind_e hs
        refine end_i (run_V (q := (RX5, TX5, 21)) (ci := 5) hF hKK hW hS hl.1 k0 (by decide) rfl (c_X5_meeting l hOK k0 hq7) (kw_X5_165 hF.2.2.2.2 ⟨Nat.le_of_ble_eq_true rfl, Nat.le_of_ble_eq_true rfl⟩) rfl rfl (Nat.le_of_ble_eq_true rfl) dX5_meet_30 ⟨Nat.zero_le _, Nat.zero_le _⟩) hS (fun H locs hW hS => ?_)
        refine lv_goto (tgt := 38) hx hb dX5_meet_33 (by decide) ?_
        have h9 := Option.some.inj hs
        rw [← h9]
        exact wr_i hF hr hlocks (vp_nar_int _) hW hS dX5_meet_38
    · have hs := ite_t hs c4
      refine lv_iconst (v := (-1 : Int32)) hx hb dX5_meet_16 (by decide) ?_
      have h9 := Option.some.inj hs
      rw [← h9]
      exact wr_i hF hr hlocks (vp_nar_int _) hW hS dX5_meet_17

set_option maxHeartbeats 4000000 in
set_option maxRecDepth 100000 in
theorem cl_X5_middle_14 {p : Program} {l : Launch} {e : Env} {s : State} {m : MethodId} {args : Array Value} {below : List Frame} {meth : Method} {c : Code} {G : va_G} {Λ : Lay} {μ : Mem} {r : Int32} (hOK : LayOK Λ) (hF : CallFix p m c cX5_middle 4 s args tw RX5) (hKK : KK G Λ s) (hr : meth.sig.returnType = (some .int)) (hlocks : meth.locks = false) {x0 : Nat} (kx0 : inK Λ x0 5) {x1 : Int32} : ∀ (n : Nat) (x2 : Int32) (x3 : Int32) (H : Heap) (locs : List Loc) (ls : Array Slot), lpX5_middle_14 Λ μ x0 x1 n x2 x3 = some r → Wd G Λ μ H → va_S (inL Λ) s.heap H locs → lv_has ls 4 [(0, .ref x0), (1, .int x1), (2, .int x2), (3, .int x3)] → W p l e (rmd 7) s m args below meth c H locs 0 0 (MQ below (QI G Λ r μ) args s 0 0 (inL Λ)) (F0 m 14 ls []) := by
  have hx := hF.1
  have hb := hF.2.1
  have hA : ∀ q, inL Λ q → inL Λ q := fun _ h => h
  intro n
  induction n with
  | zero =>
    intro x2 x3 H locs ls hs hW hS hl
    cases hs
  | succ n14 ih14 =>
    intro x2 x3 H locs ls hs hW hS hl
    rw [lpX5_middle_14_s] at hs
    refine lv_iload_n hx hb dX5_middle_14 rfl (lv_at hl 3 rfl) ?_
    refine lv_aload_n hx hb dX5_middle_15 rfl (lv_at hl 0 rfl) ?_
    refine gf_5_0 hF hKK hW kx0 dX5_middle_16 ?_
    refine lv_iconst (v := (0 : Int32)) hx hb dX5_middle_19 (by decide) ?_
    obtain ⟨g3, hs⟩ := gd_some hs
    refine ga_ld hF hKK hW (lk_5_0 hOK kx0) g3 dX5_middle_20 ?_
    refine lv_icmp_ge (tgt := 62) hx hb dX5_middle_21 (by decide) (fun c4 => ?_) (fun c4 => ?_)
    · have hs := ite_t hs c4
      refine lv_iload_n hx hb dX5_middle_62 rfl (lv_at hl 2 rfl) ?_
      have h9 := Option.some.inj hs
      rw [← h9]
      exact wr_i hF hr hlocks (vp_nar_int _) hW hS dX5_middle_63
    · have hs := ite_f hs c4
      refine lv_aload_n hx hb dX5_middle_24 rfl (lv_at hl 0 rfl) ?_
      refine lv_iload_n hx hb dX5_middle_25 rfl (lv_at hl 3 rfl) ?_
      refine lv_iload_n hx hb dX5_middle_26 rfl (lv_at hl 1 rfl) ?_
      obtain ⟨q5, hq5, hs⟩ := obind_e hs
      refine end_i (run_V (q := (RX5, TX5, 21)) (ci := 5) hF hKK hW hS hl.1 kx0 (by decide) rfl (c_X5_areOne l hOK kx0 hq5) (kw_X5_110 hF.2.2.2.2 ⟨Nat.le_of_ble_eq_true rfl, Nat.le_of_ble_eq_true rfl⟩) rfl rfl (Nat.le_of_ble_eq_true rfl) dX5_middle_27 ⟨Nat.zero_le _, Nat.zero_le _⟩) hS (fun H locs hW hS => ?_)
      refine lv_if_eq (tgt := 54) hx hb dX5_middle_30 (by decide) (fun c6 => ?_) (fun c6 => ?_)
      · have hs := ite_t hs c6
        refine lv_iload_n hx hb dX5_middle_54 rfl (lv_at hl 2 rfl) ?_
        refine lv_istore_n (lv' := [(2, .int x2), (0, .ref x0), (1, .int x1), (3, .int x3)]) hx hb dX5_middle_55 rfl hl (by decide) rfl (fun ls hl => ?_)
        obtain ⟨v7, ev7, hs⟩ := bnd_e hs
        refine lv_iinc (v := v7) (lv' := [(3, .int v7), (2, .int x2), (0, .ref x0), (1, .int x1)]) hx hb dX5_middle_56 hl (k := 3) rfl (by rw [ev7]; rfl) (by decide) rfl (fun ls hl => ?_)
        refine lv_goto (tgt := 14) hx hb dX5_middle_59 (by decide) ?_
        exact ih14 x2 v7 _ _ _ hs hW hS (lv_sub hl [2, 3, 1, 0] rfl)
      · have hs := ite_f hs c6
        refine lv_iload_n hx hb dX5_middle_33 rfl (lv_at hl 2 rfl) ?_
        refine lv_if_lt (tgt := 50) hx hb dX5_middle_34 (by decide) (fun c8 => ?_) (fun c8 => ?_)
        · have hs := ite_t hs c8
          refine lv_iload_n hx hb dX5_middle_50 rfl (lv_at hl 3 rfl) ?_
          refine lv_goto (tgt := 55) hx hb dX5_middle_51 (by decide) ?_
          refine lv_istore_n (lv' := [(2, .int x3), (0, .ref x0), (1, .int x1), (3, .int x3)]) hx hb dX5_middle_55 rfl hl (by decide) rfl (fun ls hl => ?_)
          obtain ⟨v9, ev9, hs⟩ := bnd_e hs
          refine lv_iinc (v := v9) (lv' := [(3, .int v9), (2, .int x3), (0, .ref x0), (1, .int x1)]) hx hb dX5_middle_56 hl (k := 3) rfl (by rw [ev9]; rfl) (by decide) rfl (fun ls hl => ?_)
          refine lv_goto (tgt := 14) hx hb dX5_middle_59 (by decide) ?_
          exact ih14 x3 v9 _ _ _ hs hW hS (lv_sub hl [2, 3, 1, 0] rfl)
        · have hs := ite_f hs c8
          refine lv_aload_n hx hb dX5_middle_37 rfl (lv_at hl 0 rfl) ?_
          refine lv_iload_n hx hb dX5_middle_38 rfl (lv_at hl 3 rfl) ?_
          obtain ⟨q10, hq10, hs⟩ := obind_e hs
          refine end_i (run_V (q := (RX5, TX5, 21)) (ci := 5) hF hKK hW hS hl.1 kx0 (by decide) rfl (c_X5_heaviestLeft l hOK kx0 hq10) (kw_X5_171 hF.2.2.2.2 ⟨Nat.le_of_ble_eq_true rfl, Nat.le_of_ble_eq_true rfl⟩) rfl rfl (Nat.le_of_ble_eq_true rfl) dX5_middle_39 ⟨Nat.zero_le _, Nat.zero_le _⟩) hS (fun H locs hW hS => ?_)
          refine lv_aload_n hx hb dX5_middle_42 rfl (lv_at hl 0 rfl) ?_
          refine lv_iload_n hx hb dX5_middle_43 rfl (lv_at hl 2 rfl) ?_
          obtain ⟨q11, hq11, hs⟩ := obind_e hs
          refine end_i (run_V (q := (RX5, TX5, 21)) (ci := 5) hF hKK hW hS hl.1 kx0 (by decide) rfl (c_X5_heaviestLeft l hOK kx0 hq11) (kw_X5_171 hF.2.2.2.2 ⟨Nat.le_of_ble_eq_true rfl, Nat.le_of_ble_eq_true rfl⟩) rfl rfl (Nat.le_of_ble_eq_true rfl) dX5_middle_44 ⟨Nat.zero_le _, Nat.zero_le _⟩) hS (fun H locs hW hS => ?_)
          refine lv_icmp_ge (tgt := 54) hx hb dX5_middle_47 (by decide) (fun c12 => ?_) (fun c12 => ?_)
          · have hs := ite_t hs c12
            refine lv_iload_n hx hb dX5_middle_54 rfl (lv_at hl 2 rfl) ?_
            refine lv_istore_n (lv' := [(2, .int x2), (0, .ref x0), (1, .int x1), (3, .int x3)]) hx hb dX5_middle_55 rfl hl (by decide) rfl (fun ls hl => ?_)
            obtain ⟨v13, ev13, hs⟩ := bnd_e hs
            refine lv_iinc (v := v13) (lv' := [(3, .int v13), (2, .int x2), (0, .ref x0), (1, .int x1)]) hx hb dX5_middle_56 hl (k := 3) rfl (by rw [ev13]; rfl) (by decide) rfl (fun ls hl => ?_)
            refine lv_goto (tgt := 14) hx hb dX5_middle_59 (by decide) ?_
            exact ih14 x2 v13 _ _ _ hs hW hS (lv_sub hl [2, 3, 1, 0] rfl)
          · have hs := ite_f hs c12
            refine lv_iload_n hx hb dX5_middle_50 rfl (lv_at hl 3 rfl) ?_
            refine lv_goto (tgt := 55) hx hb dX5_middle_51 (by decide) ?_
            refine lv_istore_n (lv' := [(2, .int x3), (0, .ref x0), (1, .int x1), (3, .int x3)]) hx hb dX5_middle_55 rfl hl (by decide) rfl (fun ls hl => ?_)
            obtain ⟨v14, ev14, hs⟩ := bnd_e hs
            refine lv_iinc (v := v14) (lv' := [(3, .int v14), (2, .int x3), (0, .ref x0), (1, .int x1)]) hx hb dX5_middle_56 hl (k := 3) rfl (by rw [ev14]; rfl) (by decide) rfl (fun ls hl => ?_)
            refine lv_goto (tgt := 14) hx hb dX5_middle_59 (by decide) ?_
            exact ih14 x3 v14 _ _ _ hs hW hS (lv_sub hl [2, 3, 1, 0] rfl)

set_option maxHeartbeats 4000000 in
set_option maxRecDepth 100000 in
theorem c_X5_middle (l : Launch) {G : va_G} {Λ : Lay} {μ : Mem} (hOK : LayOK Λ) {a0 : Nat} (k0 : inK Λ a0 5) {a1 : Int32} {r : Int32} (hs : sX5_middle Λ μ a0 a1 = some r) : CM l G Λ yX5_middle cX5_middle 4 (some .int) 7 μ [.ref a0, .int a1] (QI G Λ r μ) := by
  refine ofM (own := RX5) (by decide +kernel) rfl (Nat.le_of_ble_eq_true rfl) (fun p e s m args below meth c ls hF hKK hW hr hlocks hl => ?_)
  have hx := hF.1
  have hb := hF.2.1
  have hA : ∀ q, inL Λ q → inL Λ q := fun _ h => h
  have hS : va_S (inL Λ) s.heap s.heap [] := va_S.rf
  have hl : lv_has ls 4 [(0, .ref a0), (1, .int a1)] := hl
  unfold sX5_middle at hs
  refine lv_aload_n hx hb dX5_middle_0 rfl (lv_at hl 0 rfl) ?_
  refine lv_iload_n hx hb dX5_middle_1 rfl (lv_at hl 1 rfl) ?_
  obtain ⟨q1, hq1, hs⟩ := obind_e hs
  refine end_i (run_V (q := (RX5, TX5, 21)) (ci := 5) hF hKK hW hS hl.1 k0 (by decide) rfl (c_X5_isBank l hOK k0 hq1) (kw_X5_99 hF.2.2.2.2 ⟨Nat.le_of_ble_eq_true rfl, Nat.le_of_ble_eq_true rfl⟩) rfl rfl (Nat.le_of_ble_eq_true rfl) dX5_middle_2 ⟨Nat.zero_le _, Nat.zero_le _⟩) hS (fun H locs hW hS => ?_)
  refine lv_if_ne (tgt := 10) hx hb dX5_middle_5 (by decide) (fun c2 => ?_) (fun c2 => ?_)
  · have hs := ite_f hs c2
    refine lv_iconst (v := (-1 : Int32)) hx hb dX5_middle_10 (by decide) ?_
    refine lv_istore_n (lv' := [(2, .int (-1 : Int32)), (0, .ref a0), (1, .int a1)]) hx hb dX5_middle_11 rfl hl (by decide) rfl (fun ls hl => ?_)
    refine lv_iconst (v := (0 : Int32)) hx hb dX5_middle_12 (by decide) ?_
    refine lv_istore_n (lv' := [(3, .int (0 : Int32)), (2, .int (-1 : Int32)), (0, .ref a0), (1, .int a1)]) hx hb dX5_middle_13 rfl hl (by decide) rfl (fun ls hl => ?_)
    exact cl_X5_middle_14 hOK hF hKK hr hlocks k0 fuel (-1 : Int32) (0 : Int32) _ _ _ hs hW hS (lv_sub hl [2, 3, 1, 0] rfl)
  · have hs := ite_t hs c2
    refine lv_iconst (v := (-1 : Int32)) hx hb dX5_middle_8 (by decide) ?_
    have h9 := Option.some.inj hs
    rw [← h9]
    exact wr_i hF hr hlocks (vp_nar_int _) hW hS dX5_middle_9

set_option maxHeartbeats 4000000 in
set_option maxRecDepth 100000 in
theorem c_X5_partOf (l : Launch) {G : va_G} {Λ : Lay} {μ : Mem} (hOK : LayOK Λ) {a0 : Nat} (k0 : inK Λ a0 5) {a1 : Int32} {a2 : Int32} {r : Int32} (hs : sX5_partOf Λ μ a0 a1 a2 = some r) : CM l G Λ yX5_partOf cX5_partOf 4 (some .int) 7 μ [.ref a0, .int a1, .int a2] (QI G Λ r μ) := by
  refine ofM (own := RX5) (by decide +kernel) rfl (Nat.le_of_ble_eq_true rfl) (fun p e s m args below meth c ls hF hKK hW hr hlocks hl => ?_)
  have hx := hF.1
  have hb := hF.2.1
  have hA : ∀ q, inL Λ q → inL Λ q := fun _ h => h
  have hS : va_S (inL Λ) s.heap s.heap [] := va_S.rf
  have hl : lv_has ls 4 [(0, .ref a0), (1, .int a1), (2, .int a2)] := hl
  unfold sX5_partOf at hs
  refine lv_aload_n hx hb dX5_partOf_0 rfl (lv_at hl 0 rfl) ?_
  refine lv_iload_n hx hb dX5_partOf_1 rfl (lv_at hl 1 rfl) ?_
  obtain ⟨q1, hq1, hs⟩ := obind_e hs
  refine end_i (run_V (q := (RX5, TX5, 21)) (ci := 5) hF hKK hW hS hl.1 k0 (by decide) rfl (c_X5_isBank l hOK k0 hq1) (kw_X5_99 hF.2.2.2.2 ⟨Nat.le_of_ble_eq_true rfl, Nat.le_of_ble_eq_true rfl⟩) rfl rfl (Nat.le_of_ble_eq_true rfl) dX5_partOf_2 ⟨Nat.zero_le _, Nat.zero_le _⟩) hS (fun H locs hW hS => ?_)
  refine lv_if_ne (tgt := 10) hx hb dX5_partOf_5 (by decide) (fun c2 => ?_) (fun c2 => ?_)
  · have hs := ite_f hs c2
    refine lv_aload_n hx hb dX5_partOf_10 rfl (lv_at hl 0 rfl) ?_
    refine lv_iload_n hx hb dX5_partOf_11 rfl (lv_at hl 1 rfl) ?_
    obtain ⟨q3, hq3, hs⟩ := obind_e hs
    refine end_i (run_V (q := (RX5, TX5, 21)) (ci := 5) hF hKK hW hS hl.1 k0 (by decide) rfl (c_X5_roundOf l hOK k0 hq3) (kw_X5_77 hF.2.2.2.2 ⟨Nat.le_of_ble_eq_true rfl, Nat.le_of_ble_eq_true rfl⟩) rfl rfl (Nat.le_of_ble_eq_true rfl) dX5_partOf_12 ⟨Nat.zero_le _, Nat.zero_le _⟩) hS (fun H locs hW hS => ?_)
    refine lv_istore_n (lv' := [(3, .int q3), (0, .ref a0), (1, .int a1), (2, .int a2)]) hx hb dX5_partOf_15 rfl hl (by decide) rfl (fun ls hl => ?_)
    refine lv_iload_n hx hb dX5_partOf_16 rfl (lv_at hl 3 rfl) ?_
    by_cases c4 : a2 = (0 : Int32)
    · have hs := ite_t hs c4
      refine lv_tableIn (off := 35) (tgt := 52) hx hb dX5_partOf_17 (by rw [c4]; decide) (by rw [c4]; decide) (by rw [c4]; decide) (by decide) ?_
      refine lv_aload_n hx hb dX5_partOf_52 rfl (lv_at hl 1 rfl) ?_
      refine lv_iload_n hx hb dX5_partOf_53 rfl (lv_at hl 0 rfl) ?_
      obtain ⟨q5, hq5, hs⟩ := obind_e hs
      refine end_i (run_V (q := (RX5, TX5, 21)) (ci := 5) hF hKK hW hS hl.1 k0 (by decide) rfl (c_X5_banksOf l hOK k0 hq5) (kw_X5_120 hF.2.2.2.2 ⟨Nat.le_of_ble_eq_true rfl, Nat.le_of_ble_eq_true rfl⟩) rfl rfl (Nat.le_of_ble_eq_true rfl) dX5_partOf_54 ⟨Nat.zero_le _, Nat.zero_le _⟩) hS (fun H locs hW hS => ?_)
      have h9 := Option.some.inj hs
      rw [← h9]
      exact wr_i hF hr hlocks (vp_nar_int _) hW hS dX5_partOf_57
    have hs := ite_f hs c4
    by_cases c6 : a2 = (1 : Int32)
    · have hs := ite_t hs c6
      refine lv_tableIn (off := 41) (tgt := 58) hx hb dX5_partOf_17 (by rw [c6]; decide) (by rw [c6]; decide) (by rw [c6]; decide) (by decide) ?_
      refine lv_aload_n hx hb dX5_partOf_58 rfl (lv_at hl 1 rfl) ?_
      refine lv_iload_n hx hb dX5_partOf_59 rfl (lv_at hl 0 rfl) ?_
      obtain ⟨q7, hq7, hs⟩ := obind_e hs
      refine end_i (run_V (q := (RX5, TX5, 21)) (ci := 5) hF hKK hW hS hl.1 k0 (by decide) rfl (c_X5_size l hOK k0 hq7) (kw_X5_66 hF.2.2.2.2 ⟨Nat.le_of_ble_eq_true rfl, Nat.le_of_ble_eq_true rfl⟩) rfl rfl (Nat.le_of_ble_eq_true rfl) dX5_partOf_60 ⟨Nat.zero_le _, Nat.zero_le _⟩) hS (fun H locs hW hS => ?_)
      have h9 := Option.some.inj hs
      rw [← h9]
      exact wr_i hF hr hlocks (vp_nar_int _) hW hS dX5_partOf_63
    have hs := ite_f hs c6
    by_cases c8 : a2 = (2 : Int32)
    · have hs := ite_t hs c8
      refine lv_tableIn (off := 47) (tgt := 64) hx hb dX5_partOf_17 (by rw [c8]; decide) (by rw [c8]; decide) (by rw [c8]; decide) (by decide) ?_
      refine lv_aload_n hx hb dX5_partOf_64 rfl (lv_at hl 1 rfl) ?_
      refine lv_aload_n hx hb dX5_partOf_65 rfl (lv_at hl 1 rfl) ?_
      refine lv_iload_n hx hb dX5_partOf_66 rfl (lv_at hl 2 rfl) ?_
      obtain ⟨q9, hq9, hs⟩ := obind_e hs
      refine end_i (run_V (q := (RX5, TX5, 21)) (ci := 5) hF hKK hW hS hl.1 k0 (by decide) rfl (c_X5_root l hOK k0 hq9) (kw_X5_114 hF.2.2.2.2 ⟨Nat.le_of_ble_eq_true rfl, Nat.le_of_ble_eq_true rfl⟩) rfl rfl (Nat.le_of_ble_eq_true rfl) dX5_partOf_67 ⟨Nat.zero_le _, Nat.zero_le _⟩) hS (fun H locs hW hS => ?_)
      obtain ⟨q10, hq10, hs⟩ := obind_e hs
      refine end_i (run_V (q := (RX5, TX5, 21)) (ci := 5) hF hKK hW hS hl.1 k0 (by decide) rfl (c_X5_sumBelow l hOK k0 hq10) (kw_X5_156 hF.2.2.2.2 ⟨Nat.le_of_ble_eq_true rfl, Nat.le_of_ble_eq_true rfl⟩) rfl rfl (Nat.le_of_ble_eq_true rfl) dX5_partOf_70 ⟨Nat.zero_le _, Nat.zero_le _⟩) hS (fun H locs hW hS => ?_)
      have h9 := Option.some.inj hs
      rw [← h9]
      exact wr_i hF hr hlocks (vp_nar_int _) hW hS dX5_partOf_73
    have hs := ite_f hs c8
    by_cases c11 : a2 = (3 : Int32)
    · have hs := ite_t hs c11
      refine lv_tableIn (off := 57) (tgt := 74) hx hb dX5_partOf_17 (by rw [c11]; decide) (by rw [c11]; decide) (by rw [c11]; decide) (by decide) ?_
      refine lv_aload_n hx hb dX5_partOf_74 rfl (lv_at hl 1 rfl) ?_
      refine lv_iload_n hx hb dX5_partOf_75 rfl (lv_at hl 0 rfl) ?_
      obtain ⟨q12, hq12, hs⟩ := obind_e hs
      refine end_i (run_V (q := (RX5, TX5, 21)) (ci := 5) hF hKK hW hS hl.1 k0 (by decide) rfl (c_X5_greatestDepth l hOK k0 hq12) (kw_X5_159 hF.2.2.2.2 ⟨Nat.le_of_ble_eq_true rfl, Nat.le_of_ble_eq_true rfl⟩) rfl rfl (Nat.le_of_ble_eq_true rfl) dX5_partOf_76 ⟨Nat.zero_le _, Nat.zero_le _⟩) hS (fun H locs hW hS => ?_)
      have h9 := Option.some.inj hs
      rw [← h9]
      exact wr_i hF hr hlocks (vp_nar_int _) hW hS dX5_partOf_79
    have hs := ite_f hs c11
    by_cases c13 : a2 = (4 : Int32)
    · have hs := ite_t hs c13
      refine lv_tableIn (off := 63) (tgt := 80) hx hb dX5_partOf_17 (by rw [c13]; decide) (by rw [c13]; decide) (by rw [c13]; decide) (by decide) ?_
      refine lv_aload_n hx hb dX5_partOf_80 rfl (lv_at hl 1 rfl) ?_
      refine lv_iload_n hx hb dX5_partOf_81 rfl (lv_at hl 0 rfl) ?_
      obtain ⟨q14, hq14, hs⟩ := obind_e hs
      refine end_i (run_V (q := (RX5, TX5, 21)) (ci := 5) hF hKK hW hS hl.1 k0 (by decide) rfl (c_X5_heaviest l hOK k0 hq14) (kw_X5_162 hF.2.2.2.2 ⟨Nat.le_of_ble_eq_true rfl, Nat.le_of_ble_eq_true rfl⟩) rfl rfl (Nat.le_of_ble_eq_true rfl) dX5_partOf_82 ⟨Nat.zero_le _, Nat.zero_le _⟩) hS (fun H locs hW hS => ?_)
      have h9 := Option.some.inj hs
      rw [← h9]
      exact wr_i hF hr hlocks (vp_nar_int _) hW hS dX5_partOf_85
    have hs := ite_f hs c13
    refine lv_tableOut (tgt := 86) hx hb dX5_partOf_17 (by have := lv_neT c4 (a := 0) (by decide); have := lv_neT c6 (a := 1) (by decide); have := lv_neT c8 (a := 2) (by decide); have := lv_neT c11 (a := 3) (by decide); have := lv_neT c13 (a := 4) (by decide); omega) (by decide) ?_
    refine lv_bipush (v := (-2 : Int32)) hx hb dX5_partOf_86 (by decide) ?_
    have h9 := Option.some.inj hs
    rw [← h9]
    exact wr_i hF hr hlocks (vp_nar_int _) hW hS dX5_partOf_88
  · have hs := ite_t hs c2
    refine lv_iconst (v := (-1 : Int32)) hx hb dX5_partOf_8 (by decide) ?_
    have h9 := Option.some.inj hs
    rw [← h9]
    exact wr_i hF hr hlocks (vp_nar_int _) hW hS dX5_partOf_9

set_option maxHeartbeats 4000000 in
set_option maxRecDepth 100000 in
theorem cl_X5_ranked_13 {p : Program} {l : Launch} {e : Env} {s : State} {m : MethodId} {args : Array Value} {below : List Frame} {meth : Method} {c : Code} {G : va_G} {Λ : Lay} {μ : Mem} {r : Int32} (hOK : LayOK Λ) (hF : CallFix p m c cX5_ranked 5 s args tw RX5) (hKK : KK G Λ s) (hr : meth.sig.returnType = (some .int)) (hlocks : meth.locks = false) {x0 : Nat} (kx0 : inK Λ x0 5) {x1 : Int32} {x2 : Int32} (k : Int32 → Option Int32) (hk : ∀ (x3 : Int32), k x3 = some r → ∀ (H : Heap) (locs : List Loc) (ls : Array Slot), Wd G Λ μ H → va_S (inL Λ) s.heap H locs → lv_has ls 5 [(0, .ref x0), (1, .int x1), (2, .int x2), (3, .int x3)] → W p l e (rmd 7) s m args below meth c H locs 0 0 (MQ below (QI G Λ r μ) args s 0 0 (inL Λ)) (F0 m 61 ls [])) : ∀ (n : Nat) (x3 : Int32) (x4 : Int32) (H : Heap) (locs : List Loc) (ls : Array Slot), lpX5_ranked_13 Λ μ x0 x1 x2 k n x3 x4 = some r → Wd G Λ μ H → va_S (inL Λ) s.heap H locs → lv_has ls 5 [(0, .ref x0), (1, .int x1), (2, .int x2), (3, .int x3), (4, .int x4)] → W p l e (rmd 7) s m args below meth c H locs 0 0 (MQ below (QI G Λ r μ) args s 0 0 (inL Λ)) (F0 m 13 ls []) := by
  have hx := hF.1
  have hb := hF.2.1
  have hA : ∀ q, inL Λ q → inL Λ q := fun _ h => h
  intro n
  induction n with
  | zero =>
    intro x3 x4 H locs ls hs hW hS hl
    cases hs
  | succ n13 ih13 =>
    intro x3 x4 H locs ls hs hW hS hl
    rw [lpX5_ranked_13_s] at hs
    refine lv_iload hx hb dX5_ranked_13 (lv_at hl 4 rfl) ?_
    refine lv_bipush (v := (12 : Int32)) hx hb dX5_ranked_15 (by decide) ?_
    refine lv_icmp_ge (tgt := 61) hx hb dX5_ranked_17 (by decide) (fun c2 => ?_) (fun c2 => ?_)
    · have hs := ite_t hs c2
      exact hk x3 hs _ _ _ hW hS (lv_sub hl [0, 1, 2, 3] rfl)
    · have hs := ite_f hs c2
      refine lv_aload_n hx hb dX5_ranked_20 rfl (lv_at hl 0 rfl) ?_
      refine lv_iload_n hx hb dX5_ranked_21 rfl (lv_at hl 2 rfl) ?_
      obtain ⟨q3, hq3, hs⟩ := obind_e hs
      refine end_i (run_V (q := (RX5, TX5, 21)) (ci := 5) hF hKK hW hS hl.1 kx0 (by decide) rfl (c_X5_size l hOK kx0 hq3) (kw_X5_66 hF.2.2.2.2 ⟨Nat.le_of_ble_eq_true rfl, Nat.le_of_ble_eq_true rfl⟩) rfl rfl (Nat.le_of_ble_eq_true rfl) dX5_ranked_22 ⟨Nat.zero_le _, Nat.zero_le _⟩) hS (fun H locs hW hS => ?_)
      refine lv_if_le (tgt := 61) hx hb dX5_ranked_25 (by decide) (fun c4 => ?_) (fun c4 => ?_)
      · have hs := ite_t hs c4
        exact hk x3 hs _ _ _ hW hS (lv_sub hl [0, 1, 2, 3] rfl)
      · have hs := ite_f hs c4
        refine lv_iload_n hx hb dX5_ranked_28 rfl (lv_at hl 3 rfl) ?_
        refine lv_aload_n hx hb dX5_ranked_29 rfl (lv_at hl 0 rfl) ?_
        refine lv_iload hx hb dX5_ranked_30 (lv_at hl 4 rfl) ?_
        obtain ⟨q5, hq5, hs⟩ := obind_e hs
        refine end_i (run_V (q := (RX5, TX5, 21)) (ci := 5) hF hKK hW hS hl.1 kx0 (by decide) rfl (c_X5_size l hOK kx0 hq5) (kw_X5_66 hF.2.2.2.2 ⟨Nat.le_of_ble_eq_true rfl, Nat.le_of_ble_eq_true rfl⟩) rfl rfl (Nat.le_of_ble_eq_true rfl) dX5_ranked_32 ⟨Nat.zero_le _, Nat.zero_le _⟩) hS (fun H locs hW hS => ?_)
        refine lv_if_le (tgt := 52) hx hb dX5_ranked_35 (by decide) (fun c6 => ?_) (fun c6 => ?_)
        · have hs := ite_t hs c6
          refine lv_iconst (v := (0 : Int32)) hx hb dX5_ranked_52 (by decide) ?_
          refine lv_iadd hx hb dX5_ranked_53 ?_
          obtain ⟨v7, ev7, hs⟩ := bnd_e hs
          refine top_i ev7 ?_
          refine lv_istore_n (lv' := [(3, .int v7), (0, .ref x0), (1, .int x1), (2, .int x2), (4, .int x4)]) hx hb dX5_ranked_54 rfl hl (by decide) rfl (fun ls hl => ?_)
          obtain ⟨v8, ev8, hs⟩ := bnd_e hs
          refine lv_iinc (v := v8) (lv' := [(4, .int v8), (3, .int v7), (0, .ref x0), (1, .int x1), (2, .int x2)]) hx hb dX5_ranked_55 hl (k := 4) rfl (by rw [ev8]; rfl) (by decide) rfl (fun ls hl => ?_)
          refine lv_goto (tgt := 13) hx hb dX5_ranked_58 (by decide) ?_
          exact ih13 v7 v8 _ _ _ hs hW hS (lv_sub hl [2, 3, 4, 1, 0] rfl)
        · have hs := ite_f hs c6
          refine lv_aload_n hx hb dX5_ranked_38 rfl (lv_at hl 0 rfl) ?_
          refine lv_iload hx hb dX5_ranked_39 (lv_at hl 4 rfl) ?_
          refine lv_iload_n hx hb dX5_ranked_41 rfl (lv_at hl 2 rfl) ?_
          obtain ⟨q9, hq9, hs⟩ := obind_e hs
          refine end_i (run_V (q := (RX5, TX5, 21)) (ci := 5) hF hKK hW hS hl.1 kx0 (by decide) rfl (c_X5_isAhead l hOK kx0 hq9) (kw_X5_174 hF.2.2.2.2 ⟨Nat.le_of_ble_eq_true rfl, Nat.le_of_ble_eq_true rfl⟩) rfl rfl (Nat.le_of_ble_eq_true rfl) dX5_ranked_42 ⟨Nat.zero_le _, Nat.zero_le _⟩) hS (fun H locs hW hS => ?_)
          refine lv_if_eq (tgt := 52) hx hb dX5_ranked_45 (by decide) (fun c10 => ?_) (fun c10 => ?_)
          · have hs := ite_t hs c10
            refine lv_iconst (v := (0 : Int32)) hx hb dX5_ranked_52 (by decide) ?_
            refine lv_iadd hx hb dX5_ranked_53 ?_
            obtain ⟨v11, ev11, hs⟩ := bnd_e hs
            refine top_i ev11 ?_
            refine lv_istore_n (lv' := [(3, .int v11), (0, .ref x0), (1, .int x1), (2, .int x2), (4, .int x4)]) hx hb dX5_ranked_54 rfl hl (by decide) rfl (fun ls hl => ?_)
            obtain ⟨v12, ev12, hs⟩ := bnd_e hs
            refine lv_iinc (v := v12) (lv' := [(4, .int v12), (3, .int v11), (0, .ref x0), (1, .int x1), (2, .int x2)]) hx hb dX5_ranked_55 hl (k := 4) rfl (by rw [ev12]; rfl) (by decide) rfl (fun ls hl => ?_)
            refine lv_goto (tgt := 13) hx hb dX5_ranked_58 (by decide) ?_
            exact ih13 v11 v12 _ _ _ hs hW hS (lv_sub hl [2, 3, 4, 1, 0] rfl)
          · have hs := ite_f hs c10
            refine lv_iconst (v := (1 : Int32)) hx hb dX5_ranked_48 (by decide) ?_
            refine lv_goto (tgt := 53) hx hb dX5_ranked_49 (by decide) ?_
            refine lv_iadd hx hb dX5_ranked_53 ?_
            obtain ⟨v13, ev13, hs⟩ := bnd_e hs
            refine top_i ev13 ?_
            refine lv_istore_n (lv' := [(3, .int v13), (0, .ref x0), (1, .int x1), (2, .int x2), (4, .int x4)]) hx hb dX5_ranked_54 rfl hl (by decide) rfl (fun ls hl => ?_)
            obtain ⟨v14, ev14, hs⟩ := bnd_e hs
            refine lv_iinc (v := v14) (lv' := [(4, .int v14), (3, .int v13), (0, .ref x0), (1, .int x1), (2, .int x2)]) hx hb dX5_ranked_55 hl (k := 4) rfl (by rw [ev14]; rfl) (by decide) rfl (fun ls hl => ?_)
            refine lv_goto (tgt := 13) hx hb dX5_ranked_58 (by decide) ?_
            exact ih13 v13 v14 _ _ _ hs hW hS (lv_sub hl [2, 3, 4, 1, 0] rfl)

set_option maxHeartbeats 4000000 in
set_option maxRecDepth 100000 in
theorem cl_X5_ranked_2 {p : Program} {l : Launch} {e : Env} {s : State} {m : MethodId} {args : Array Value} {below : List Frame} {meth : Method} {c : Code} {G : va_G} {Λ : Lay} {μ : Mem} {r : Int32} (hOK : LayOK Λ) (hF : CallFix p m c cX5_ranked 5 s args tw RX5) (hKK : KK G Λ s) (hr : meth.sig.returnType = (some .int)) (hlocks : meth.locks = false) {x0 : Nat} (kx0 : inK Λ x0 5) {x1 : Int32} : ∀ (n : Nat) (x2 : Int32) (H : Heap) (locs : List Loc) (ls : Array Slot), lpX5_ranked_2 Λ μ x0 x1 n x2 = some r → Wd G Λ μ H → va_S (inL Λ) s.heap H locs → lv_has ls 5 [(0, .ref x0), (1, .int x1), (2, .int x2)] → W p l e (rmd 7) s m args below meth c H locs 0 0 (MQ below (QI G Λ r μ) args s 0 0 (inL Λ)) (F0 m 2 ls []) := by
  have hx := hF.1
  have hb := hF.2.1
  have hA : ∀ q, inL Λ q → inL Λ q := fun _ h => h
  intro n
  induction n with
  | zero =>
    intro x2 H locs ls hs hW hS hl
    cases hs
  | succ n2 ih2 =>
    intro x2 H locs ls hs hW hS hl
    rw [lpX5_ranked_2_s] at hs
    refine lv_iload_n hx hb dX5_ranked_2 rfl (lv_at hl 2 rfl) ?_
    refine lv_bipush (v := (12 : Int32)) hx hb dX5_ranked_3 (by decide) ?_
    refine lv_icmp_ge (tgt := 87) hx hb dX5_ranked_5 (by decide) (fun c1 => ?_) (fun c1 => ?_)
    · have hs := ite_t hs c1
      refine lv_iconst (v := (-1 : Int32)) hx hb dX5_ranked_87 (by decide) ?_
      have h9 := Option.some.inj hs
      rw [← h9]
      exact wr_i hF hr hlocks (vp_nar_int _) hW hS dX5_ranked_88
    · have hs := ite_f hs c1
      refine lv_iconst (v := (0 : Int32)) hx hb dX5_ranked_8 (by decide) ?_
      refine lv_istore_n (lv' := [(3, .int (0 : Int32)), (0, .ref x0), (1, .int x1), (2, .int x2)]) hx hb dX5_ranked_9 rfl hl (by decide) rfl (fun ls hl => ?_)
      refine lv_iconst (v := (0 : Int32)) hx hb dX5_ranked_10 (by decide) ?_
      refine lv_istore (lv' := [(4, .int (0 : Int32)), (3, .int (0 : Int32)), (0, .ref x0), (1, .int x1), (2, .int x2)]) hx hb dX5_ranked_11 hl (by decide) rfl (fun ls hl => ?_)
      refine cl_X5_ranked_13 hOK hF hKK hr hlocks kx0 _ (fun x3_z15 hs H locs ls hW hS hl => ?_) fuel (0 : Int32) (0 : Int32) _ _ _ hs hW hS (lv_sub hl [2, 3, 4, 1, 0] rfl)
      refine lv_aload_n hx hb dX5_ranked_61 rfl (lv_at hl 0 rfl) ?_
      refine lv_iload_n hx hb dX5_ranked_62 rfl (lv_at hl 2 rfl) ?_
      obtain ⟨q16, hq16, hs⟩ := obind_e hs
      refine end_i (run_V (q := (RX5, TX5, 21)) (ci := 5) hF hKK hW hS hl.1 kx0 (by decide) rfl (c_X5_size l hOK kx0 hq16) (kw_X5_66 hF.2.2.2.2 ⟨Nat.le_of_ble_eq_true rfl, Nat.le_of_ble_eq_true rfl⟩) rfl rfl (Nat.le_of_ble_eq_true rfl) dX5_ranked_63 ⟨Nat.zero_le _, Nat.zero_le _⟩) hS (fun H locs hW hS => ?_)
      refine lv_if_le (tgt := 81) hx hb dX5_ranked_66 (by decide) (fun c17 => ?_) (fun c17 => ?_)
      · have hs := ite_t hs c17
        obtain ⟨v18, ev18, hs⟩ := bnd_e hs
        refine lv_iinc (v := v18) (lv' := [(2, .int v18), (0, .ref x0), (1, .int x1), (3, .int x3_z15)]) hx hb dX5_ranked_81 hl (k := 2) rfl (by rw [ev18]; rfl) (by decide) rfl (fun ls hl => ?_)
        refine lv_goto (tgt := 2) hx hb dX5_ranked_84 (by decide) ?_
        exact ih2 v18 _ _ _ hs hW hS (lv_sub hl [1, 2, 0] rfl)
      · have hs := ite_f hs c17
        refine lv_iload_n hx hb dX5_ranked_69 rfl (lv_at hl 3 rfl) ?_
        refine lv_iload_n hx hb dX5_ranked_70 rfl (lv_at hl 1 rfl) ?_
        refine lv_icmp_ne (tgt := 81) hx hb dX5_ranked_71 (by decide) (fun c19 => ?_) (fun c19 => ?_)
        · have hs := ite_f hs c19
          obtain ⟨v20, ev20, hs⟩ := bnd_e hs
          refine lv_iinc (v := v20) (lv' := [(2, .int v20), (0, .ref x0), (1, .int x1), (3, .int x3_z15)]) hx hb dX5_ranked_81 hl (k := 2) rfl (by rw [ev20]; rfl) (by decide) rfl (fun ls hl => ?_)
          refine lv_goto (tgt := 2) hx hb dX5_ranked_84 (by decide) ?_
          exact ih2 v20 _ _ _ hs hW hS (lv_sub hl [1, 2, 0] rfl)
        · have hs := ite_t hs c19
          refine lv_aload_n hx hb dX5_ranked_74 rfl (lv_at hl 0 rfl) ?_
          refine lv_iload_n hx hb dX5_ranked_75 rfl (lv_at hl 2 rfl) ?_
          refine lv_iconst (v := (0 : Int32)) hx hb dX5_ranked_76 (by decide) ?_
          obtain ⟨q21, hq21, hs⟩ := obind_e hs
          refine end_i (run_V (q := (RX5, TX5, 21)) (ci := 5) hF hKK hW hS hl.1 kx0 (by decide) rfl (c_X5_place l hOK kx0 hq21) (kw_X5_70 hF.2.2.2.2 ⟨Nat.le_of_ble_eq_true rfl, Nat.le_of_ble_eq_true rfl⟩) rfl rfl (Nat.le_of_ble_eq_true rfl) dX5_ranked_77 ⟨Nat.zero_le _, Nat.zero_le _⟩) hS (fun H locs hW hS => ?_)
          have h9 := Option.some.inj hs
          rw [← h9]
          exact wr_i hF hr hlocks (vp_nar_int _) hW hS dX5_ranked_80

set_option maxHeartbeats 4000000 in
set_option maxRecDepth 100000 in
theorem c_X5_ranked (l : Launch) {G : va_G} {Λ : Lay} {μ : Mem} (hOK : LayOK Λ) {a0 : Nat} (k0 : inK Λ a0 5) {a1 : Int32} {r : Int32} (hs : sX5_ranked Λ μ a0 a1 = some r) : CM l G Λ yX5_ranked cX5_ranked 5 (some .int) 7 μ [.ref a0, .int a1] (QI G Λ r μ) := by
  refine ofM (own := RX5) (by decide +kernel) rfl (Nat.le_of_ble_eq_true rfl) (fun p e s m args below meth c ls hF hKK hW hr hlocks hl => ?_)
  have hx := hF.1
  have hb := hF.2.1
  have hA : ∀ q, inL Λ q → inL Λ q := fun _ h => h
  have hS : va_S (inL Λ) s.heap s.heap [] := va_S.rf
  have hl : lv_has ls 5 [(0, .ref a0), (1, .int a1)] := hl
  unfold sX5_ranked at hs
  refine lv_iconst (v := (0 : Int32)) hx hb dX5_ranked_0 (by decide) ?_
  refine lv_istore_n (lv' := [(2, .int (0 : Int32)), (0, .ref a0), (1, .int a1)]) hx hb dX5_ranked_1 rfl hl (by decide) rfl (fun ls hl => ?_)
  exact cl_X5_ranked_2 hOK hF hKK hr hlocks k0 fuel (0 : Int32) _ _ _ hs hW hS (lv_sub hl [1, 2, 0] rfl)

set_option maxHeartbeats 4000000 in
set_option maxRecDepth 100000 in
theorem c_X5_refusal (l : Launch) {G : va_G} {Λ : Lay} {μ : Mem} (hOK : LayOK Λ) {a0 : Nat} (k0 : inK Λ a0 5) {a1 : Int32} {r : Int32} (hs : sX5_refusal Λ μ a0 a1 = some r) : CM l G Λ yX5_refusal cX5_refusal 2 (some .int) 1 μ [.ref a0, .int a1] (QI G Λ r μ) := by
  refine ofM (own := RX5) (by decide +kernel) rfl (Nat.le_of_ble_eq_true rfl) (fun p e s m args below meth c ls hF hKK hW hr hlocks hl => ?_)
  have hx := hF.1
  have hb := hF.2.1
  have hA : ∀ q, inL Λ q → inL Λ q := fun _ h => h
  have hS : va_S (inL Λ) s.heap s.heap [] := va_S.rf
  have hl : lv_has ls 2 [(0, .ref a0), (1, .int a1)] := hl
  unfold sX5_refusal at hs
  refine lv_iload_n hx hb dX5_refusal_0 rfl (lv_at hl 1 rfl) ?_
  refine lv_iconst (v := (0 : Int32)) hx hb dX5_refusal_1 (by decide) ?_
  refine lv_iconst (v := (2 : Int32)) hx hb dX5_refusal_2 (by decide) ?_
  obtain ⟨q1, hq1, hs⟩ := obind_e hs
  refine end_i (run_S hF hKK hW hS hl.1 (c_X5_isBetween l hOK  hq1) (kw_X5_62 hF.2.2.2.2 ⟨Nat.le_of_ble_eq_true rfl, Nat.le_of_ble_eq_true rfl⟩) rfl rfl (Nat.le_of_ble_eq_true rfl) dX5_refusal_3 ⟨Nat.zero_le _, Nat.zero_le _⟩) hS (fun H locs hW hS => ?_)
  refine lv_if_ne (tgt := 12) hx hb dX5_refusal_6 (by decide) (fun c2 => ?_) (fun c2 => ?_)
  · have hs := ite_f hs c2
    refine lv_aload_n hx hb dX5_refusal_12 rfl (lv_at hl 0 rfl) ?_
    refine gf_5_5 hF hKK hW k0 dX5_refusal_13 ?_
    refine lv_if_eq (tgt := 31) hx hb dX5_refusal_16 (by decide) (fun c3 => ?_) (fun c3 => ?_)
    · have hs := ite_t hs c3
      refine lv_bipush (v := (-4 : Int32)) hx hb dX5_refusal_31 (by decide) ?_
      have h9 := Option.some.inj hs
      rw [← h9]
      exact wr_i hF hr hlocks (vp_nar_int _) hW hS dX5_refusal_33
    · have hs := ite_f hs c3
      refine lv_iload_n hx hb dX5_refusal_19 rfl (lv_at hl 1 rfl) ?_
      refine lv_iconst (v := (2 : Int32)) hx hb dX5_refusal_20 (by decide) ?_
      refine lv_icmp_ne (tgt := 34) hx hb dX5_refusal_21 (by decide) (fun c4 => ?_) (fun c4 => ?_)
      · have hs := ite_f hs c4
        refine lv_iload_n hx hb dX5_refusal_34 rfl (lv_at hl 1 rfl) ?_
        refine lv_if_ne (tgt := 45) hx hb dX5_refusal_35 (by decide) (fun c5 => ?_) (fun c5 => ?_)
        · have hs := ite_f hs c5
          refine lv_iload_n hx hb dX5_refusal_45 rfl (lv_at hl 1 rfl) ?_
          refine lv_iconst (v := (1 : Int32)) hx hb dX5_refusal_46 (by decide) ?_
          refine lv_icmp_ne (tgt := 57) hx hb dX5_refusal_47 (by decide) (fun c6 => ?_) (fun c6 => ?_)
          · have hs := ite_f hs c6
            refine lv_aload_n hx hb dX5_refusal_57 rfl (lv_at hl 0 rfl) ?_
            refine gf_5_7 hF hKK hW k0 dX5_refusal_58 ?_
            have h9 := Option.some.inj hs
            rw [← h9]
            exact wr_i hF hr hlocks (vp_nar_int _) hW hS dX5_refusal_61
          · have hs := ite_t hs c6
            refine lv_aload_n hx hb dX5_refusal_50 rfl (lv_at hl 0 rfl) ?_
            refine gf_5_6 hF hKK hW k0 dX5_refusal_51 ?_
            refine lv_goto (tgt := 61) hx hb dX5_refusal_54 (by decide) ?_
            have h9 := Option.some.inj hs
            rw [← h9]
            exact wr_i hF hr hlocks (vp_nar_int _) hW hS dX5_refusal_61
        · have hs := ite_t hs c5
          refine lv_aload_n hx hb dX5_refusal_38 rfl (lv_at hl 0 rfl) ?_
          refine gf_5_5 hF hKK hW k0 dX5_refusal_39 ?_
          refine lv_goto (tgt := 61) hx hb dX5_refusal_42 (by decide) ?_
          have h9 := Option.some.inj hs
          rw [← h9]
          exact wr_i hF hr hlocks (vp_nar_int _) hW hS dX5_refusal_61
      · have hs := ite_t hs c4
        refine lv_aload_n hx hb dX5_refusal_24 rfl (lv_at hl 0 rfl) ?_
        refine gf_5_7 hF hKK hW k0 dX5_refusal_25 ?_
        refine lv_if_ge (tgt := 34) hx hb dX5_refusal_28 (by decide) (fun c7 => ?_) (fun c7 => ?_)
        · have hs := ite_t hs c7
          refine lv_iload_n hx hb dX5_refusal_34 rfl (lv_at hl 1 rfl) ?_
          refine lv_if_ne (tgt := 45) hx hb dX5_refusal_35 (by decide) (fun c8 => ?_) (fun c8 => ?_)
          · have hs := ite_f hs c8
            refine lv_iload_n hx hb dX5_refusal_45 rfl (lv_at hl 1 rfl) ?_
            refine lv_iconst (v := (1 : Int32)) hx hb dX5_refusal_46 (by decide) ?_
            refine lv_icmp_ne (tgt := 57) hx hb dX5_refusal_47 (by decide) (fun c9 => ?_) (fun c9 => ?_)
            · have hs := ite_f hs c9
              refine lv_aload_n hx hb dX5_refusal_57 rfl (lv_at hl 0 rfl) ?_
              refine gf_5_7 hF hKK hW k0 dX5_refusal_58 ?_
              have h9 := Option.some.inj hs
              rw [← h9]
              exact wr_i hF hr hlocks (vp_nar_int _) hW hS dX5_refusal_61
            · have hs := ite_t hs c9
              refine lv_aload_n hx hb dX5_refusal_50 rfl (lv_at hl 0 rfl) ?_
              refine gf_5_6 hF hKK hW k0 dX5_refusal_51 ?_
              refine lv_goto (tgt := 61) hx hb dX5_refusal_54 (by decide) ?_
              have h9 := Option.some.inj hs
              rw [← h9]
              exact wr_i hF hr hlocks (vp_nar_int _) hW hS dX5_refusal_61
          · have hs := ite_t hs c8
            refine lv_aload_n hx hb dX5_refusal_38 rfl (lv_at hl 0 rfl) ?_
            refine gf_5_5 hF hKK hW k0 dX5_refusal_39 ?_
            refine lv_goto (tgt := 61) hx hb dX5_refusal_42 (by decide) ?_
            have h9 := Option.some.inj hs
            rw [← h9]
            exact wr_i hF hr hlocks (vp_nar_int _) hW hS dX5_refusal_61
        · have hs := ite_f hs c7
          refine lv_bipush (v := (-4 : Int32)) hx hb dX5_refusal_31 (by decide) ?_
          have h9 := Option.some.inj hs
          rw [← h9]
          exact wr_i hF hr hlocks (vp_nar_int _) hW hS dX5_refusal_33
  · have hs := ite_t hs c2
    refine lv_bipush (v := (-2 : Int32)) hx hb dX5_refusal_9 (by decide) ?_
    have h9 := Option.some.inj hs
    rw [← h9]
    exact wr_i hF hr hlocks (vp_nar_int _) hW hS dX5_refusal_11

set_option maxHeartbeats 4000000 in
set_option maxRecDepth 100000 in
theorem c_X5_restore (l : Launch) {G : va_G} {Λ : Lay} {μ : Mem} (hOK : LayOK Λ) {a0 : Nat} (k0 : inK Λ a0 5) {r : (Int32 × Mem)} (hs : sX5_restore Λ μ a0 = some r) : CM l G Λ yX5_restore cX5_restore 1 (some .int) 1 μ [.ref a0] (QI G Λ r.1 r.2) := by
  refine ofM (own := RX5) (by decide +kernel) rfl (Nat.le_of_ble_eq_true rfl) (fun p e s m args below meth c ls hF hKK hW hr hlocks hl => ?_)
  have hx := hF.1
  have hb := hF.2.1
  have hA : ∀ q, inL Λ q → inL Λ q := fun _ h => h
  have hS : va_S (inL Λ) s.heap s.heap [] := va_S.rf
  have hl : lv_has ls 1 [(0, .ref a0)] := hl
  unfold sX5_restore at hs
  refine lv_aload_n hx hb dX5_restore_0 rfl (lv_at hl 0 rfl) ?_
  refine gf_5_9 hF hKK hW k0 dX5_restore_1 ?_
  refine lv_if_ne (tgt := 10) hx hb dX5_restore_4 (by decide) (fun c1 => ?_) (fun c1 => ?_)
  · have hs := ite_f hs c1
    refine lv_aload_n hx hb dX5_restore_10 rfl (lv_at hl 0 rfl) ?_
    refine gf_5_1 hF hKK hW k0 dX5_restore_11 ?_
    refine lv_aload_n hx hb dX5_restore_14 rfl (lv_at hl 0 rfl) ?_
    refine gf_5_0 hF hKK hW k0 dX5_restore_15 ?_
    obtain ⟨q2, hq2, hs⟩ := obind_e hs
    refine end_v (run_S hF hKK hW hS hl.1 (c_X5_copyRow l hOK (lk_5_1 hOK k0) (lk_5_0 hOK k0) hq2) (kw_X5_54 hF.2.2.2.2 ⟨Nat.le_of_ble_eq_true rfl, Nat.le_of_ble_eq_true rfl⟩) rfl rfl (Nat.le_of_ble_eq_true rfl) dX5_restore_18 ⟨Nat.zero_le _, Nat.zero_le _⟩) hS (fun H locs hW hS => ?_)
    refine lv_aload_n hx hb dX5_restore_21 rfl (lv_at hl 0 rfl) ?_
    refine lv_iconst (v := (0 : Int32)) hx hb dX5_restore_22 (by decide) ?_
    obtain ⟨μ3, eμ3, hs⟩ := bnd_e hs
    refine pf_5_4 hOK hF hKK hW hS hA k0 eμ3 dX5_restore_23 (fun H locs hW hS => ?_)
    refine lv_aload_n hx hb dX5_restore_26 rfl (lv_at hl 0 rfl) ?_
    refine gf_5_0 hF hKK hW k0 dX5_restore_27 ?_
    refine lv_iconst (v := (0 : Int32)) hx hb dX5_restore_30 (by decide) ?_
    obtain ⟨g4, hs⟩ := gd_some hs
    refine ga_ld hF hKK hW (lk_5_0 hOK k0) g4 dX5_restore_31 ?_
    have h9 := Option.some.inj hs
    rw [← h9]
    exact wr_i hF hr hlocks (vp_nar_int _) hW hS dX5_restore_32
  · have hs := ite_t hs c1
    refine lv_bipush (v := (-4 : Int32)) hx hb dX5_restore_7 (by decide) ?_
    have h9 := Option.some.inj hs
    rw [← h9]
    exact wr_i hF hr hlocks (vp_nar_int _) hW hS dX5_restore_9

set_option maxHeartbeats 4000000 in
set_option maxRecDepth 100000 in
theorem c_X5_save (l : Launch) {G : va_G} {Λ : Lay} {μ : Mem} (hOK : LayOK Λ) {a0 : Nat} (k0 : inK Λ a0 5) {r : (Int32 × Mem)} (hs : sX5_save Λ μ a0 = some r) : CM l G Λ yX5_save cX5_save 1 (some .int) 1 μ [.ref a0] (QI G Λ r.1 r.2) := by
  refine ofM (own := RX5) (by decide +kernel) rfl (Nat.le_of_ble_eq_true rfl) (fun p e s m args below meth c ls hF hKK hW hr hlocks hl => ?_)
  have hx := hF.1
  have hb := hF.2.1
  have hA : ∀ q, inL Λ q → inL Λ q := fun _ h => h
  have hS : va_S (inL Λ) s.heap s.heap [] := va_S.rf
  have hl : lv_has ls 1 [(0, .ref a0)] := hl
  unfold sX5_save at hs
  refine lv_aload_n hx hb dX5_save_0 rfl (lv_at hl 0 rfl) ?_
  refine lv_iconst (v := (1 : Int32)) hx hb dX5_save_1 (by decide) ?_
  obtain ⟨μ1, eμ1, hs⟩ := bnd_e hs
  refine pf_5_9 (by decide) hOK hF hKK hW hS hA k0 eμ1 dX5_save_2 (fun H locs hW hS => ?_)
  refine lv_aload_n hx hb dX5_save_5 rfl (lv_at hl 0 rfl) ?_
  refine gf_5_0 hF hKK hW k0 dX5_save_6 ?_
  refine lv_aload_n hx hb dX5_save_9 rfl (lv_at hl 0 rfl) ?_
  refine gf_5_1 hF hKK hW k0 dX5_save_10 ?_
  obtain ⟨q2, hq2, hs⟩ := obind_e hs
  refine end_v (run_S hF hKK hW hS hl.1 (c_X5_copyRow l hOK (lk_5_0 hOK k0) (lk_5_1 hOK k0) hq2) (kw_X5_54 hF.2.2.2.2 ⟨Nat.le_of_ble_eq_true rfl, Nat.le_of_ble_eq_true rfl⟩) rfl rfl (Nat.le_of_ble_eq_true rfl) dX5_save_13 ⟨Nat.zero_le _, Nat.zero_le _⟩) hS (fun H locs hW hS => ?_)
  refine lv_aload_n hx hb dX5_save_16 rfl (lv_at hl 0 rfl) ?_
  refine gf_5_0 hF hKK hW k0 dX5_save_17 ?_
  refine lv_iconst (v := (0 : Int32)) hx hb dX5_save_20 (by decide) ?_
  obtain ⟨g3, hs⟩ := gd_some hs
  refine ga_ld hF hKK hW (lk_5_0 hOK k0) g3 dX5_save_21 ?_
  have h9 := Option.some.inj hs
  rw [← h9]
  exact wr_i hF hr hlocks (vp_nar_int _) hW hS dX5_save_22

set_option maxHeartbeats 4000000 in
set_option maxRecDepth 100000 in
theorem c_X5_sign (l : Launch) {G : va_G} {Λ : Lay} {μ : Mem} (hOK : LayOK Λ) {a0 : Nat} (k0 : inK Λ a0 5) {a1 : Int32} {r : Int32} (hs : sX5_sign Λ μ a0 a1 = some r) : CM l G Λ yX5_sign cX5_sign 2 (some .int) 1 μ [.ref a0, .int a1] (QI G Λ r μ) := by
  refine ofM (own := RX5) (by decide +kernel) rfl (Nat.le_of_ble_eq_true rfl) (fun p e s m args below meth c ls hF hKK hW hr hlocks hl => ?_)
  have hx := hF.1
  have hb := hF.2.1
  have hA : ∀ q, inL Λ q → inL Λ q := fun _ h => h
  have hS : va_S (inL Λ) s.heap s.heap [] := va_S.rf
  have hl : lv_has ls 2 [(0, .ref a0), (1, .int a1)] := hl
  unfold sX5_sign at hs
  refine lv_iload_n hx hb dX5_sign_0 rfl (lv_at hl 1 rfl) ?_
  refine lv_iconst (v := (0 : Int32)) hx hb dX5_sign_1 (by decide) ?_
  refine lv_aload_n hx hb dX5_sign_2 rfl (lv_at hl 0 rfl) ?_
  refine gf_5_13 hF hKK hW k0 dX5_sign_3 ?_
  refine lv_iconst (v := (1 : Int32)) hx hb dX5_sign_6 (by decide) ?_
  refine lv_isub hx hb dX5_sign_7 ?_
  obtain ⟨q1, hq1, hs⟩ := obind_e hs
  refine end_i (run_S hF hKK hW hS hl.1 (c_X5_isBetween l hOK  hq1) (kw_X5_62 hF.2.2.2.2 ⟨Nat.le_of_ble_eq_true rfl, Nat.le_of_ble_eq_true rfl⟩) rfl rfl (Nat.le_of_ble_eq_true rfl) dX5_sign_8 ⟨Nat.zero_le _, Nat.zero_le _⟩) hS (fun H locs hW hS => ?_)
  refine lv_if_eq (tgt := 23) hx hb dX5_sign_11 (by decide) (fun c2 => ?_) (fun c2 => ?_)
  · have hs := ite_t hs c2
    refine lv_iconst (v := (-1 : Int32)) hx hb dX5_sign_23 (by decide) ?_
    have h9 := Option.some.inj hs
    rw [← h9]
    exact wr_i hF hr hlocks (vp_nar_int _) hW hS dX5_sign_24
  · have hs := ite_f hs c2
    refine lv_aload_n hx hb dX5_sign_14 rfl (lv_at hl 0 rfl) ?_
    refine gf_5_12 hF hKK hW k0 dX5_sign_15 ?_
    refine lv_iload_n hx hb dX5_sign_18 rfl (lv_at hl 1 rfl) ?_
    obtain ⟨g3, hs⟩ := gd_some hs
    refine gc_ld hF hKK hW (lk_5_12 hOK k0) g3 dX5_sign_19 ?_
    refine lv_goto (tgt := 24) hx hb dX5_sign_20 (by decide) ?_
    have h9 := Option.some.inj hs
    rw [← h9]
    exact wr_i hF hr hlocks (vp_nar_int _) hW hS dX5_sign_24

set_option maxHeartbeats 4000000 in
set_option maxRecDepth 100000 in
theorem cl_X5_tell_23 {p : Program} {l : Launch} {e : Env} {s : State} {m : MethodId} {args : Array Value} {below : List Frame} {meth : Method} {c : Code} {G : va_G} {Λ : Lay} {r : (Int32 × Mem)} (hOK : LayOK Λ) (hF : CallFix p m c cX5_tell 4 s args tw RX5) (hKK : KK G Λ s) (hr : meth.sig.returnType = (some .int)) (hlocks : meth.locks = false) {x0 : Nat} (kx0 : inK Λ x0 5) {x2 : Int32} : ∀ (n : Nat) (μ : Mem) (x3 : Int32) (H : Heap) (locs : List Loc) (ls : Array Slot), lpX5_tell_23 Λ x0 x2 n μ x3 = some r → Wd G Λ μ H → va_S (inL Λ) s.heap H locs → lv_has ls 4 [(0, .ref x0), (2, .int x2), (3, .int x3)] → W p l e (rmd 3) s m args below meth c H locs 0 0 (MQ below (QI G Λ r.1 r.2) args s 0 0 (inL Λ)) (F0 m 23 ls []) := by
  have hx := hF.1
  have hb := hF.2.1
  have hA : ∀ q, inL Λ q → inL Λ q := fun _ h => h
  intro n
  induction n with
  | zero =>
    intro μ x3 H locs ls hs hW hS hl
    cases hs
  | succ n23 ih23 =>
    intro μ x3 H locs ls hs hW hS hl
    rw [lpX5_tell_23_s] at hs
    refine lv_iload_n hx hb dX5_tell_23 rfl (lv_at hl 2 rfl) ?_
    refine lv_aload_n hx hb dX5_tell_24 rfl (lv_at hl 0 rfl) ?_
    refine lv_iload_n hx hb dX5_tell_25 rfl (lv_at hl 1 rfl) ?_
    obtain ⟨q5, hq5, hs⟩ := obind_e hs
    refine end_i (run_V (q := (RX5, TX5, 21)) (ci := 5) hF hKK hW hS hl.1 kx0 (by decide) rfl (c_X5_size l hOK kx0 hq5) (kw_X5_66 hF.2.2.2.2 ⟨Nat.le_of_ble_eq_true rfl, Nat.le_of_ble_eq_true rfl⟩) rfl rfl (Nat.le_of_ble_eq_true rfl) dX5_tell_26 ⟨Nat.zero_le _, Nat.zero_le _⟩) hS (fun H locs hW hS => ?_)
    refine lv_icmp_ge (tgt := 58) hx hb dX5_tell_29 (by decide) (fun c6 => ?_) (fun c6 => ?_)
    · have hs := ite_t hs c6
      refine lv_aload_n hx hb dX5_tell_58 rfl (lv_at hl 0 rfl) ?_
      refine gf_5_13 hF hKK hW kx0 dX5_tell_59 ?_
      have h9 := Option.some.inj hs
      rw [← h9]
      exact wr_i hF hr hlocks (vp_nar_int _) hW hS dX5_tell_62
    · have hs := ite_f hs c6
      refine lv_iload_n hx hb dX5_tell_32 rfl (lv_at hl 2 rfl) ?_
      refine lv_if_le (tgt := 42) hx hb dX5_tell_33 (by decide) (fun c7 => ?_) (fun c7 => ?_)
      · have hs := ite_t hs c7
        refine lv_aload_n hx hb dX5_tell_42 rfl (lv_at hl 0 rfl) ?_
        refine lv_aload_n hx hb dX5_tell_43 rfl (lv_at hl 0 rfl) ?_
        refine lv_iload_n hx hb dX5_tell_44 rfl (lv_at hl 1 rfl) ?_
        refine lv_iload_n hx hb dX5_tell_45 rfl (lv_at hl 2 rfl) ?_
        obtain ⟨q8, hq8, hs⟩ := obind_e hs
        refine end_i (run_V (q := (RX5, TX5, 21)) (ci := 5) hF hKK hW hS hl.1 kx0 (by decide) rfl (c_X5_place l hOK kx0 hq8) (kw_X5_70 hF.2.2.2.2 ⟨Nat.le_of_ble_eq_true rfl, Nat.le_of_ble_eq_true rfl⟩) rfl rfl (Nat.le_of_ble_eq_true rfl) dX5_tell_46 ⟨Nat.zero_le _, Nat.zero_le _⟩) hS (fun H locs hW hS => ?_)
        obtain ⟨q9, hq9, hs⟩ := obind_e hs
        refine end_v (run_V (q := (RX5, TX5, 21)) (ci := 5) hF hKK hW hS hl.1 kx0 (by decide) rfl (c_X5_writeNumber l hOK kx0 hq9) (kw_X5_180 hF.2.2.2.2 ⟨Nat.le_of_ble_eq_true rfl, Nat.le_of_ble_eq_true rfl⟩) rfl rfl (Nat.le_of_ble_eq_true rfl) dX5_tell_49 ⟨Nat.zero_le _, Nat.zero_le _⟩) hS (fun H locs hW hS => ?_)
        obtain ⟨v10, ev10, hs⟩ := bnd_e hs
        refine lv_iinc (v := v10) (lv' := [(3, .int v10), (0, .ref x0), (2, .int x2)]) hx hb dX5_tell_52 hl (k := 2) rfl (by rw [ev10]; rfl) (by decide) rfl (fun ls hl => ?_)
        refine lv_goto (tgt := 23) hx hb dX5_tell_55 (by decide) ?_
        exact ih23 q9 v10 _ _ _ hs hW hS (lv_sub hl [1, 2, 0] rfl)
      · have hs := ite_f hs c7
        refine lv_aload_n hx hb dX5_tell_36 rfl (lv_at hl 0 rfl) ?_
        refine lv_bipush (v := (45 : Int32)) hx hb dX5_tell_37 (by decide) ?_
        obtain ⟨q11, hq11, hs⟩ := obind_e hs
        refine end_v (run_V (q := (RX5, TX5, 21)) (ci := 5) hF hKK hW hS hl.1 kx0 (by decide) rfl (c_X5_write l hOK kx0 hq11) (kw_X5_183 hF.2.2.2.2 ⟨Nat.le_of_ble_eq_true rfl, Nat.le_of_ble_eq_true rfl⟩) rfl rfl (Nat.le_of_ble_eq_true rfl) dX5_tell_39 ⟨Nat.zero_le _, Nat.zero_le _⟩) hS (fun H locs hW hS => ?_)
        refine lv_aload_n hx hb dX5_tell_42 rfl (lv_at hl 0 rfl) ?_
        refine lv_aload_n hx hb dX5_tell_43 rfl (lv_at hl 0 rfl) ?_
        refine lv_iload_n hx hb dX5_tell_44 rfl (lv_at hl 1 rfl) ?_
        refine lv_iload_n hx hb dX5_tell_45 rfl (lv_at hl 2 rfl) ?_
        obtain ⟨q12, hq12, hs⟩ := obind_e hs
        refine end_i (run_V (q := (RX5, TX5, 21)) (ci := 5) hF hKK hW hS hl.1 kx0 (by decide) rfl (c_X5_place l hOK kx0 hq12) (kw_X5_70 hF.2.2.2.2 ⟨Nat.le_of_ble_eq_true rfl, Nat.le_of_ble_eq_true rfl⟩) rfl rfl (Nat.le_of_ble_eq_true rfl) dX5_tell_46 ⟨Nat.zero_le _, Nat.zero_le _⟩) hS (fun H locs hW hS => ?_)
        obtain ⟨q13, hq13, hs⟩ := obind_e hs
        refine end_v (run_V (q := (RX5, TX5, 21)) (ci := 5) hF hKK hW hS hl.1 kx0 (by decide) rfl (c_X5_writeNumber l hOK kx0 hq13) (kw_X5_180 hF.2.2.2.2 ⟨Nat.le_of_ble_eq_true rfl, Nat.le_of_ble_eq_true rfl⟩) rfl rfl (Nat.le_of_ble_eq_true rfl) dX5_tell_49 ⟨Nat.zero_le _, Nat.zero_le _⟩) hS (fun H locs hW hS => ?_)
        obtain ⟨v14, ev14, hs⟩ := bnd_e hs
        refine lv_iinc (v := v14) (lv' := [(3, .int v14), (0, .ref x0), (2, .int x2)]) hx hb dX5_tell_52 hl (k := 2) rfl (by rw [ev14]; rfl) (by decide) rfl (fun ls hl => ?_)
        refine lv_goto (tgt := 23) hx hb dX5_tell_55 (by decide) ?_
        exact ih23 q13 v14 _ _ _ hs hW hS (lv_sub hl [1, 2, 0] rfl)

set_option maxHeartbeats 4000000 in
set_option maxRecDepth 100000 in
theorem c_X5_tell (l : Launch) {G : va_G} {Λ : Lay} {μ : Mem} (hOK : LayOK Λ) {a0 : Nat} (k0 : inK Λ a0 5) {a1 : Int32} {r : (Int32 × Mem)} (hs : sX5_tell Λ μ a0 a1 = some r) : CM l G Λ yX5_tell cX5_tell 4 (some .int) 3 μ [.ref a0, .int a1] (QI G Λ r.1 r.2) := by
  refine ofM (own := RX5) (by decide +kernel) rfl (Nat.le_of_ble_eq_true rfl) (fun p e s m args below meth c ls hF hKK hW hr hlocks hl => ?_)
  have hx := hF.1
  have hb := hF.2.1
  have hA : ∀ q, inL Λ q → inL Λ q := fun _ h => h
  have hS : va_S (inL Λ) s.heap s.heap [] := va_S.rf
  have hl : lv_has ls 4 [(0, .ref a0), (1, .int a1)] := hl
  unfold sX5_tell at hs
  refine lv_aload_n hx hb dX5_tell_0 rfl (lv_at hl 0 rfl) ?_
  refine lv_iload_n hx hb dX5_tell_1 rfl (lv_at hl 1 rfl) ?_
  obtain ⟨q1, hq1, hs⟩ := obind_e hs
  refine end_i (run_V (q := (RX5, TX5, 21)) (ci := 5) hF hKK hW hS hl.1 k0 (by decide) rfl (c_X5_isBank l hOK k0 hq1) (kw_X5_99 hF.2.2.2.2 ⟨Nat.le_of_ble_eq_true rfl, Nat.le_of_ble_eq_true rfl⟩) rfl rfl (Nat.le_of_ble_eq_true rfl) dX5_tell_2 ⟨Nat.zero_le _, Nat.zero_le _⟩) hS (fun H locs hW hS => ?_)
  refine lv_if_ne (tgt := 10) hx hb dX5_tell_5 (by decide) (fun c2 => ?_) (fun c2 => ?_)
  · have hs := ite_f hs c2
    refine lv_aload_n hx hb dX5_tell_10 rfl (lv_at hl 0 rfl) ?_
    refine lv_iload_n hx hb dX5_tell_11 rfl (lv_at hl 1 rfl) ?_
    obtain ⟨q3, hq3, hs⟩ := obind_e hs
    refine end_i (run_V (q := (RX5, TX5, 21)) (ci := 5) hF hKK hW hS hl.1 k0 (by decide) rfl (c_X5_roundOf l hOK k0 hq3) (kw_X5_77 hF.2.2.2.2 ⟨Nat.le_of_ble_eq_true rfl, Nat.le_of_ble_eq_true rfl⟩) rfl rfl (Nat.le_of_ble_eq_true rfl) dX5_tell_12 ⟨Nat.zero_le _, Nat.zero_le _⟩) hS (fun H locs hW hS => ?_)
    refine lv_istore_n (lv' := [(2, .int q3), (0, .ref a0), (1, .int a1)]) hx hb dX5_tell_15 rfl hl (by decide) rfl (fun ls hl => ?_)
    refine lv_aload_n hx hb dX5_tell_16 rfl (lv_at hl 1 rfl) ?_
    refine lv_iconst (v := (0 : Int32)) hx hb dX5_tell_17 (by decide) ?_
    obtain ⟨μ4, eμ4, hs⟩ := bnd_e hs
    refine pf_5_13 hOK hF hKK hW hS hA k0 eμ4 dX5_tell_18 (fun H locs hW hS => ?_)
    refine lv_iconst (v := (0 : Int32)) hx hb dX5_tell_21 (by decide) ?_
    refine lv_istore_n (lv' := [(3, .int (0 : Int32)), (2, .int q3), (0, .ref a0), (1, .int a1)]) hx hb dX5_tell_22 rfl hl (by decide) rfl (fun ls hl => ?_)
    exact cl_X5_tell_23 hOK hF hKK hr hlocks k0 fuel μ4 (0 : Int32) _ _ _ hs hW hS (lv_sub hl [2, 1, 0] rfl)
  · have hs := ite_t hs c2
    refine lv_iconst (v := (-1 : Int32)) hx hb dX5_tell_8 (by decide) ?_
    have h9 := Option.some.inj hs
    rw [← h9]
    exact wr_i hF hr hlocks (vp_nar_int _) hW hS dX5_tell_9

set_option maxHeartbeats 4000000 in
set_option maxRecDepth 100000 in
theorem c_X5_undo (l : Launch) {G : va_G} {Λ : Lay} {μ : Mem} (hOK : LayOK Λ) {a0 : Nat} (k0 : inK Λ a0 5) {r : (Int32 × Mem)} (hs : sX5_undo Λ μ a0 = some r) : CM l G Λ yX5_undo cX5_undo 1 (some .int) 1 μ [.ref a0] (QI G Λ r.1 r.2) := by
  refine ofM (own := RX5) (by decide +kernel) rfl (Nat.le_of_ble_eq_true rfl) (fun p e s m args below meth c ls hF hKK hW hr hlocks hl => ?_)
  have hx := hF.1
  have hb := hF.2.1
  have hA : ∀ q, inL Λ q → inL Λ q := fun _ h => h
  have hS : va_S (inL Λ) s.heap s.heap [] := va_S.rf
  have hl : lv_has ls 1 [(0, .ref a0)] := hl
  unfold sX5_undo at hs
  refine lv_aload_n hx hb dX5_undo_0 rfl (lv_at hl 0 rfl) ?_
  refine gf_5_4 hF hKK hW k0 dX5_undo_1 ?_
  refine lv_if_ne (tgt := 10) hx hb dX5_undo_4 (by decide) (fun c1 => ?_) (fun c1 => ?_)
  · have hs := ite_f hs c1
    refine lv_aload_n hx hb dX5_undo_10 rfl (lv_at hl 0 rfl) ?_
    refine lv_dup hx hb dX5_undo_11 rfl ?_
    refine gf_5_4 hF hKK hW k0 dX5_undo_12 ?_
    refine lv_iconst (v := (1 : Int32)) hx hb dX5_undo_15 (by decide) ?_
    refine lv_isub hx hb dX5_undo_16 ?_
    obtain ⟨μ2, eμ2, hs⟩ := bnd_e hs
    refine pf_5_4 hOK hF hKK hW hS hA k0 eμ2 dX5_undo_17 (fun H locs hW hS => ?_)
    refine lv_aload_n hx hb dX5_undo_20 rfl (lv_at hl 0 rfl) ?_
    refine gf_5_3 hF hKK hW k0 dX5_undo_21 ?_
    refine lv_aload_n hx hb dX5_undo_24 rfl (lv_at hl 0 rfl) ?_
    refine gf_5_4 hF hKK hW k0 dX5_undo_25 ?_
    obtain ⟨g3, hs⟩ := gd_some hs
    refine gq_ld10 hF hKK hW (lk_5_3 hOK k0) g3 dX5_undo_28 ?_
    refine lv_aload_n hx hb dX5_undo_29 rfl (lv_at hl 0 rfl) ?_
    refine gf_5_0 hF hKK hW k0 dX5_undo_30 ?_
    obtain ⟨q4, hq4, hs⟩ := obind_e hs
    refine end_v (run_S hF hKK hW hS hl.1 (c_X5_copyRow l hOK (lk_10 hOK (lk_5_3 hOK k0) (inb_lt g3)) (lk_5_0 hOK k0) hq4) (kw_X5_54 hF.2.2.2.2 ⟨Nat.le_of_ble_eq_true rfl, Nat.le_of_ble_eq_true rfl⟩) rfl rfl (Nat.le_of_ble_eq_true rfl) dX5_undo_33 ⟨Nat.zero_le _, Nat.zero_le _⟩) hS (fun H locs hW hS => ?_)
    refine lv_aload_n hx hb dX5_undo_36 rfl (lv_at hl 0 rfl) ?_
    refine gf_5_4 hF hKK hW k0 dX5_undo_37 ?_
    have h9 := Option.some.inj hs
    rw [← h9]
    exact wr_i hF hr hlocks (vp_nar_int _) hW hS dX5_undo_40
  · have hs := ite_t hs c1
    refine lv_bipush (v := (-4 : Int32)) hx hb dX5_undo_7 (by decide) ?_
    have h9 := Option.some.inj hs
    rw [← h9]
    exact wr_i hF hr hlocks (vp_nar_int _) hW hS dX5_undo_9

set_option maxHeartbeats 4000000 in
set_option maxRecDepth 100000 in
theorem c_X5_way (l : Launch) {G : va_G} {Λ : Lay} {μ : Mem} (hOK : LayOK Λ) {a0 : Nat} (k0 : inK Λ a0 5) {a1 : Int32} {a2 : Int32} {a3 : Int32} {r : Int32} (hs : sX5_way Λ μ a0 a1 a2 a3 = some r) : CM l G Λ yX5_way cX5_way 7 (some .int) 6 μ [.ref a0, .int a1, .int a2, .int a3] (QI G Λ r μ) := by
  refine ofM (own := RX5) (by decide +kernel) rfl (Nat.le_of_ble_eq_true rfl) (fun p e s m args below meth c ls hF hKK hW hr hlocks hl => ?_)
  have hx := hF.1
  have hb := hF.2.1
  have hA : ∀ q, inL Λ q → inL Λ q := fun _ h => h
  have hS : va_S (inL Λ) s.heap s.heap [] := va_S.rf
  have hl : lv_has ls 7 [(0, .ref a0), (1, .int a1), (2, .int a2), (3, .int a3)] := hl
  unfold sX5_way at hs
  refine lv_aload_n hx hb dX5_way_0 rfl (lv_at hl 0 rfl) ?_
  refine lv_iload_n hx hb dX5_way_1 rfl (lv_at hl 1 rfl) ?_
  obtain ⟨q1, hq1, hs⟩ := obind_e hs
  refine end_i (run_V (q := (RX5, TX5, 21)) (ci := 5) hF hKK hW hS hl.1 k0 (by decide) rfl (c_X5_isBank l hOK k0 hq1) (kw_X5_99 hF.2.2.2.2 ⟨Nat.le_of_ble_eq_true rfl, Nat.le_of_ble_eq_true rfl⟩) rfl rfl (Nat.le_of_ble_eq_true rfl) dX5_way_2 ⟨Nat.zero_le _, Nat.zero_le _⟩) hS (fun H locs hW hS => ?_)
  refine lv_if_eq (tgt := 16) hx hb dX5_way_5 (by decide) (fun c2 => ?_) (fun c2 => ?_)
  · have hs := ite_t hs c2
    refine lv_iconst (v := (-1 : Int32)) hx hb dX5_way_16 (by decide) ?_
    have h9 := Option.some.inj hs
    rw [← h9]
    exact wr_i hF hr hlocks (vp_nar_int _) hW hS dX5_way_17
  · have hs := ite_f hs c2
    refine lv_aload_n hx hb dX5_way_8 rfl (lv_at hl 0 rfl) ?_
    refine lv_iload_n hx hb dX5_way_9 rfl (lv_at hl 2 rfl) ?_
    obtain ⟨q3, hq3, hs⟩ := obind_e hs
    refine end_i (run_V (q := (RX5, TX5, 21)) (ci := 5) hF hKK hW hS hl.1 k0 (by decide) rfl (c_X5_isBank l hOK k0 hq3) (kw_X5_99 hF.2.2.2.2 ⟨Nat.le_of_ble_eq_true rfl, Nat.le_of_ble_eq_true rfl⟩) rfl rfl (Nat.le_of_ble_eq_true rfl) dX5_way_10 ⟨Nat.zero_le _, Nat.zero_le _⟩) hS (fun H locs hW hS => ?_)
    refine lv_if_ne (tgt := 18) hx hb dX5_way_13 (by decide) (fun c4 => ?_) (fun c4 => ?_)
    · have hs := ite_f hs c4
      refine lv_aload_n hx hb dX5_way_18 rfl (lv_at hl 0 rfl) ?_
      refine lv_iload_n hx hb dX5_way_19 rfl (lv_at hl 1 rfl) ?_
      refine lv_iload_n hx hb dX5_way_20 rfl (lv_at hl 2 rfl) ?_
      obtain ⟨q5, hq5, hs⟩ := obind_e hs
      refine end_i (run_V (q := (RX5, TX5, 21)) (ci := 5) hF hKK hW hS hl.1 k0 (by decide) rfl (c_X5_areOne l hOK k0 hq5) (kw_X5_110 hF.2.2.2.2 ⟨Nat.le_of_ble_eq_true rfl, Nat.le_of_ble_eq_true rfl⟩) rfl rfl (Nat.le_of_ble_eq_true rfl) dX5_way_21 ⟨Nat.zero_le _, Nat.zero_le _⟩) hS (fun H locs hW hS => ?_)
      refine lv_if_ne (tgt := 30) hx hb dX5_way_24 (by decide) (fun c6 => ?_) (fun c6 => ?_)
      · have hs := ite_f hs c6
        refine lv_aload_n hx hb dX5_way_30 rfl (lv_at hl 0 rfl) ?_
        refine lv_iload_n hx hb dX5_way_31 rfl (lv_at hl 1 rfl) ?_
        refine lv_iload_n hx hb dX5_way_32 rfl (lv_at hl 2 rfl) ?_
        obtain ⟨q7, hq7, hs⟩ := obind_e hs
        refine end_i (run_V (q := (RX5, TX5, 21)) (ci := 5) hF hKK hW hS hl.1 k0 (by decide) rfl (c_X5_meeting l hOK k0 hq7) (kw_X5_165 hF.2.2.2.2 ⟨Nat.le_of_ble_eq_true rfl, Nat.le_of_ble_eq_true rfl⟩) rfl rfl (Nat.le_of_ble_eq_true rfl) dX5_way_33 ⟨Nat.zero_le _, Nat.zero_le _⟩) hS (fun H locs hW hS => ?_)
        refine lv_istore (lv' := [(4, .int q7), (0, .ref a0), (1, .int a1), (2, .int a2), (3, .int a3)]) hx hb dX5_way_36 hl (by decide) rfl (fun ls hl => ?_)
        refine lv_aload_n hx hb dX5_way_38 rfl (lv_at hl 1 rfl) ?_
        refine lv_iload_n hx hb dX5_way_39 rfl (lv_at hl 2 rfl) ?_
        obtain ⟨q8, hq8, hs⟩ := obind_e hs
        refine end_i (run_V (q := (RX5, TX5, 21)) (ci := 5) hF hKK hW hS hl.1 k0 (by decide) rfl (c_X5_depth l hOK k0 hq8) (kw_X5_144 hF.2.2.2.2 ⟨Nat.le_of_ble_eq_true rfl, Nat.le_of_ble_eq_true rfl⟩) rfl rfl (Nat.le_of_ble_eq_true rfl) dX5_way_40 ⟨Nat.zero_le _, Nat.zero_le _⟩) hS (fun H locs hW hS => ?_)
        refine lv_aload_n hx hb dX5_way_43 rfl (lv_at hl 1 rfl) ?_
        refine lv_iload hx hb dX5_way_44 (lv_at hl 0 rfl) ?_
        obtain ⟨q9, hq9, hs⟩ := obind_e hs
        refine end_i (run_V (q := (RX5, TX5, 21)) (ci := 5) hF hKK hW hS hl.1 k0 (by decide) rfl (c_X5_depth l hOK k0 hq9) (kw_X5_144 hF.2.2.2.2 ⟨Nat.le_of_ble_eq_true rfl, Nat.le_of_ble_eq_true rfl⟩) rfl rfl (Nat.le_of_ble_eq_true rfl) dX5_way_46 ⟨Nat.zero_le _, Nat.zero_le _⟩) hS (fun H locs hW hS => ?_)
        refine lv_isub hx hb dX5_way_49 ?_
        obtain ⟨v10, ev10, hs⟩ := bnd_e hs
        refine top_i ev10 ?_
        refine lv_istore (lv' := [(5, .int v10), (4, .int q7), (0, .ref a0), (1, .int a1), (2, .int a2), (3, .int a3)]) hx hb dX5_way_50 hl (by decide) rfl (fun ls hl => ?_)
        refine lv_iload hx hb dX5_way_52 (lv_at hl 0 rfl) ?_
        refine lv_aload_n hx hb dX5_way_54 rfl (lv_at hl 2 rfl) ?_
        refine lv_iload_n hx hb dX5_way_55 rfl (lv_at hl 4 rfl) ?_
        obtain ⟨q11, hq11, hs⟩ := obind_e hs
        refine end_i (run_V (q := (RX5, TX5, 21)) (ci := 5) hF hKK hW hS hl.1 k0 (by decide) rfl (c_X5_depth l hOK k0 hq11) (kw_X5_144 hF.2.2.2.2 ⟨Nat.le_of_ble_eq_true rfl, Nat.le_of_ble_eq_true rfl⟩) rfl rfl (Nat.le_of_ble_eq_true rfl) dX5_way_56 ⟨Nat.zero_le _, Nat.zero_le _⟩) hS (fun H locs hW hS => ?_)
        refine lv_iadd hx hb dX5_way_59 ?_
        refine lv_aload_n hx hb dX5_way_60 rfl (lv_at hl 2 rfl) ?_
        refine lv_iload hx hb dX5_way_61 (lv_at hl 1 rfl) ?_
        obtain ⟨q12, hq12, hs⟩ := obind_e hs
        refine end_i (run_V (q := (RX5, TX5, 21)) (ci := 5) hF hKK hW hS hl.1 k0 (by decide) rfl (c_X5_depth l hOK k0 hq12) (kw_X5_144 hF.2.2.2.2 ⟨Nat.le_of_ble_eq_true rfl, Nat.le_of_ble_eq_true rfl⟩) rfl rfl (Nat.le_of_ble_eq_true rfl) dX5_way_63 ⟨Nat.zero_le _, Nat.zero_le _⟩) hS (fun H locs hW hS => ?_)
        refine lv_isub hx hb dX5_way_66 ?_
        obtain ⟨v13, ev13, hs⟩ := bnd_e hs
        refine top_i ev13 ?_
        refine lv_istore (lv' := [(6, .int v13), (5, .int v10), (4, .int q7), (0, .ref a0), (1, .int a1), (2, .int a2), (3, .int a3)]) hx hb dX5_way_67 hl (by decide) rfl (fun ls hl => ?_)
        refine lv_iload_n hx hb dX5_way_69 rfl (lv_at hl 6 rfl) ?_
        refine lv_iconst (v := (-1 : Int32)) hx hb dX5_way_70 (by decide) ?_
        refine lv_icmp_ne (tgt := 77) hx hb dX5_way_71 (by decide) (fun c14 => ?_) (fun c14 => ?_)
        · have hs := ite_f hs c14
          refine lv_iload_n hx hb dX5_way_77 rfl (lv_at hl 6 rfl) ?_
          refine lv_iconst (v := (0 : Int32)) hx hb dX5_way_78 (by decide) ?_
          refine lv_iload hx hb dX5_way_79 (lv_at hl 0 rfl) ?_
          obtain ⟨q15, hq15, hs⟩ := obind_e hs
          refine end_i (run_S hF hKK hW hS hl.1 (c_X5_isBetween l hOK  hq15) (kw_X5_62 hF.2.2.2.2 ⟨Nat.le_of_ble_eq_true rfl, Nat.le_of_ble_eq_true rfl⟩) rfl rfl (Nat.le_of_ble_eq_true rfl) dX5_way_81 ⟨Nat.zero_le _, Nat.zero_le _⟩) hS (fun H locs hW hS => ?_)
          refine lv_if_ne (tgt := 89) hx hb dX5_way_84 (by decide) (fun c16 => ?_) (fun c16 => ?_)
          · have hs := ite_f hs c16
            refine lv_iload_n hx hb dX5_way_89 rfl (lv_at hl 6 rfl) ?_
            refine lv_iload hx hb dX5_way_90 (lv_at hl 1 rfl) ?_
            refine lv_icmp_gt (tgt := 104) hx hb dX5_way_92 (by decide) (fun c17 => ?_) (fun c17 => ?_)
            · have hs := ite_t hs c17
              refine lv_aload_n hx hb dX5_way_104 rfl (lv_at hl 3 rfl) ?_
              refine lv_iload_n hx hb dX5_way_105 rfl (lv_at hl 5 rfl) ?_
              refine lv_iload hx hb dX5_way_106 (lv_at hl 0 rfl) ?_
              refine lv_iload_n hx hb dX5_way_108 rfl (lv_at hl 6 rfl) ?_
              refine lv_isub hx hb dX5_way_109 ?_
              obtain ⟨q18, hq18, hs⟩ := obind_e hs
              refine end_i (run_V (q := (RX5, TX5, 21)) (ci := 5) hF hKK hW hS hl.1 k0 (by decide) rfl (c_X5_climb l hOK k0 hq18) (kw_X5_168 hF.2.2.2.2 ⟨Nat.le_of_ble_eq_true rfl, Nat.le_of_ble_eq_true rfl⟩) rfl rfl (Nat.le_of_ble_eq_true rfl) dX5_way_110 ⟨Nat.zero_le _, Nat.zero_le _⟩) hS (fun H locs hW hS => ?_)
              have h9 := Option.some.inj hs
              rw [← h9]
              exact wr_i hF hr hlocks (vp_nar_int _) hW hS dX5_way_113
            · have hs := ite_f hs c17
              refine lv_aload_n hx hb dX5_way_95 rfl (lv_at hl 3 rfl) ?_
              refine lv_iload_n hx hb dX5_way_96 rfl (lv_at hl 4 rfl) ?_
              refine lv_iload_n hx hb dX5_way_97 rfl (lv_at hl 6 rfl) ?_
              obtain ⟨q19, hq19, hs⟩ := obind_e hs
              refine end_i (run_V (q := (RX5, TX5, 21)) (ci := 5) hF hKK hW hS hl.1 k0 (by decide) rfl (c_X5_climb l hOK k0 hq19) (kw_X5_168 hF.2.2.2.2 ⟨Nat.le_of_ble_eq_true rfl, Nat.le_of_ble_eq_true rfl⟩) rfl rfl (Nat.le_of_ble_eq_true rfl) dX5_way_98 ⟨Nat.zero_le _, Nat.zero_le _⟩) hS (fun H locs hW hS => ?_)
              refine lv_goto (tgt := 113) hx hb dX5_way_101 (by decide) ?_
              have h9 := Option.some.inj hs
              rw [← h9]
              exact wr_i hF hr hlocks (vp_nar_int _) hW hS dX5_way_113
          · have hs := ite_t hs c16
            refine lv_iconst (v := (-1 : Int32)) hx hb dX5_way_87 (by decide) ?_
            have h9 := Option.some.inj hs
            rw [← h9]
            exact wr_i hF hr hlocks (vp_nar_int _) hW hS dX5_way_88
        · have hs := ite_t hs c14
          refine lv_iload hx hb dX5_way_74 (lv_at hl 0 rfl) ?_
          have h9 := Option.some.inj hs
          rw [← h9]
          exact wr_i hF hr hlocks (vp_nar_int _) hW hS dX5_way_76
      · have hs := ite_t hs c6
        refine lv_bipush (v := (-4 : Int32)) hx hb dX5_way_27 (by decide) ?_
        have h9 := Option.some.inj hs
        rw [← h9]
        exact wr_i hF hr hlocks (vp_nar_int _) hW hS dX5_way_29
    · have hs := ite_t hs c4
      refine lv_iconst (v := (-1 : Int32)) hx hb dX5_way_16 (by decide) ?_
      have h9 := Option.some.inj hs
      rw [← h9]
      exact wr_i hF hr hlocks (vp_nar_int _) hW hS dX5_way_17

set_option maxHeartbeats 4000000 in
set_option maxRecDepth 100000 in
theorem c_X5_would (l : Launch) {G : va_G} {Λ : Lay} {μ : Mem} (hOK : LayOK Λ) {a0 : Nat} (k0 : inK Λ a0 5) {a1 : Int32} {a2 : Int32} {r : Int32} (hs : sX5_would Λ μ a0 a1 a2 = some r) : CM l G Λ yX5_would cX5_would 3 (some .int) 4 μ [.ref a0, .int a1, .int a2] (QI G Λ r μ) := by
  refine ofM (own := RX5) (by decide +kernel) rfl (Nat.le_of_ble_eq_true rfl) (fun p e s m args below meth c ls hF hKK hW hr hlocks hl => ?_)
  have hx := hF.1
  have hb := hF.2.1
  have hA : ∀ q, inL Λ q → inL Λ q := fun _ h => h
  have hS : va_S (inL Λ) s.heap s.heap [] := va_S.rf
  have hl : lv_has ls 3 [(0, .ref a0), (1, .int a1), (2, .int a2)] := hl
  unfold sX5_would at hs
  refine lv_aload_n hx hb dX5_would_0 rfl (lv_at hl 0 rfl) ?_
  refine lv_iload_n hx hb dX5_would_1 rfl (lv_at hl 1 rfl) ?_
  obtain ⟨q1, hq1, hs⟩ := obind_e hs
  refine end_i (run_V (q := (RX5, TX5, 21)) (ci := 5) hF hKK hW hS hl.1 k0 (by decide) rfl (c_X5_isBank l hOK k0 hq1) (kw_X5_99 hF.2.2.2.2 ⟨Nat.le_of_ble_eq_true rfl, Nat.le_of_ble_eq_true rfl⟩) rfl rfl (Nat.le_of_ble_eq_true rfl) dX5_would_2 ⟨Nat.zero_le _, Nat.zero_le _⟩) hS (fun H locs hW hS => ?_)
  refine lv_if_eq (tgt := 16) hx hb dX5_would_5 (by decide) (fun c2 => ?_) (fun c2 => ?_)
  · have hs := ite_t hs c2
    refine lv_iconst (v := (-1 : Int32)) hx hb dX5_would_16 (by decide) ?_
    have h9 := Option.some.inj hs
    rw [← h9]
    exact wr_i hF hr hlocks (vp_nar_int _) hW hS dX5_would_17
  · have hs := ite_f hs c2
    refine lv_aload_n hx hb dX5_would_8 rfl (lv_at hl 0 rfl) ?_
    refine lv_iload_n hx hb dX5_would_9 rfl (lv_at hl 2 rfl) ?_
    obtain ⟨q3, hq3, hs⟩ := obind_e hs
    refine end_i (run_V (q := (RX5, TX5, 21)) (ci := 5) hF hKK hW hS hl.1 k0 (by decide) rfl (c_X5_isBank l hOK k0 hq3) (kw_X5_99 hF.2.2.2.2 ⟨Nat.le_of_ble_eq_true rfl, Nat.le_of_ble_eq_true rfl⟩) rfl rfl (Nat.le_of_ble_eq_true rfl) dX5_would_10 ⟨Nat.zero_le _, Nat.zero_le _⟩) hS (fun H locs hW hS => ?_)
    refine lv_if_ne (tgt := 18) hx hb dX5_would_13 (by decide) (fun c4 => ?_) (fun c4 => ?_)
    · have hs := ite_f hs c4
      refine lv_aload_n hx hb dX5_would_18 rfl (lv_at hl 0 rfl) ?_
      refine lv_iload_n hx hb dX5_would_19 rfl (lv_at hl 1 rfl) ?_
      refine lv_iload_n hx hb dX5_would_20 rfl (lv_at hl 2 rfl) ?_
      obtain ⟨q5, hq5, hs⟩ := obind_e hs
      refine end_i (run_V (q := (RX5, TX5, 21)) (ci := 5) hF hKK hW hS hl.1 k0 (by decide) rfl (c_X5_areOne l hOK k0 hq5) (kw_X5_110 hF.2.2.2.2 ⟨Nat.le_of_ble_eq_true rfl, Nat.le_of_ble_eq_true rfl⟩) rfl rfl (Nat.le_of_ble_eq_true rfl) dX5_would_21 ⟨Nat.zero_le _, Nat.zero_le _⟩) hS (fun H locs hW hS => ?_)
      refine lv_if_eq (tgt := 32) hx hb dX5_would_24 (by decide) (fun c6 => ?_) (fun c6 => ?_)
      · have hs := ite_t hs c6
        refine lv_aload_n hx hb dX5_would_32 rfl (lv_at hl 0 rfl) ?_
        refine lv_iload_n hx hb dX5_would_33 rfl (lv_at hl 1 rfl) ?_
        obtain ⟨q7, hq7, hs⟩ := obind_e hs
        refine end_i (run_V (q := (RX5, TX5, 21)) (ci := 5) hF hKK hW hS hl.1 k0 (by decide) rfl (c_X5_root l hOK k0 hq7) (kw_X5_114 hF.2.2.2.2 ⟨Nat.le_of_ble_eq_true rfl, Nat.le_of_ble_eq_true rfl⟩) rfl rfl (Nat.le_of_ble_eq_true rfl) dX5_would_34 ⟨Nat.zero_le _, Nat.zero_le _⟩) hS (fun H locs hW hS => ?_)
        have h9 := Option.some.inj hs
        rw [← h9]
        exact wr_i hF hr hlocks (vp_nar_int _) hW hS dX5_would_37
      · have hs := ite_f hs c6
        refine lv_bipush (v := (-4 : Int32)) hx hb dX5_would_27 (by decide) ?_
        refine lv_goto (tgt := 37) hx hb dX5_would_29 (by decide) ?_
        have h9 := Option.some.inj hs
        rw [← h9]
        exact wr_i hF hr hlocks (vp_nar_int _) hW hS dX5_would_37
    · have hs := ite_t hs c4
      refine lv_iconst (v := (-1 : Int32)) hx hb dX5_would_16 (by decide) ?_
      have h9 := Option.some.inj hs
      rw [← h9]
      exact wr_i hF hr hlocks (vp_nar_int _) hW hS dX5_would_17

set_option maxHeartbeats 4000000 in
set_option maxRecDepth 100000 in
theorem c_X5_wouldDiffer (l : Launch) {G : va_G} {Λ : Lay} {μ : Mem} (hOK : LayOK Λ) {a0 : Nat} (k0 : inK Λ a0 5) {a1 : Int32} {a2 : Int32} {r : Int32} (hs : sX5_wouldDiffer Λ μ a0 a1 a2 = some r) : CM l G Λ yX5_wouldDiffer cX5_wouldDiffer 4 (some .int) 6 μ [.ref a0, .int a1, .int a2] (QI G Λ r μ) := by
  refine ofM (own := RX5) (by decide +kernel) rfl (Nat.le_of_ble_eq_true rfl) (fun p e s m args below meth c ls hF hKK hW hr hlocks hl => ?_)
  have hx := hF.1
  have hb := hF.2.1
  have hA : ∀ q, inL Λ q → inL Λ q := fun _ h => h
  have hS : va_S (inL Λ) s.heap s.heap [] := va_S.rf
  have hl : lv_has ls 4 [(0, .ref a0), (1, .int a1), (2, .int a2)] := hl
  unfold sX5_wouldDiffer at hs
  refine lv_aload_n hx hb dX5_wouldDiffer_0 rfl (lv_at hl 0 rfl) ?_
  refine lv_iload_n hx hb dX5_wouldDiffer_1 rfl (lv_at hl 1 rfl) ?_
  obtain ⟨q1, hq1, hs⟩ := obind_e hs
  refine end_i (run_V (q := (RX5, TX5, 21)) (ci := 5) hF hKK hW hS hl.1 k0 (by decide) rfl (c_X5_isBank l hOK k0 hq1) (kw_X5_99 hF.2.2.2.2 ⟨Nat.le_of_ble_eq_true rfl, Nat.le_of_ble_eq_true rfl⟩) rfl rfl (Nat.le_of_ble_eq_true rfl) dX5_wouldDiffer_2 ⟨Nat.zero_le _, Nat.zero_le _⟩) hS (fun H locs hW hS => ?_)
  refine lv_if_eq (tgt := 16) hx hb dX5_wouldDiffer_5 (by decide) (fun c2 => ?_) (fun c2 => ?_)
  · have hs := ite_t hs c2
    refine lv_iconst (v := (-1 : Int32)) hx hb dX5_wouldDiffer_16 (by decide) ?_
    have h9 := Option.some.inj hs
    rw [← h9]
    exact wr_i hF hr hlocks (vp_nar_int _) hW hS dX5_wouldDiffer_17
  · have hs := ite_f hs c2
    refine lv_aload_n hx hb dX5_wouldDiffer_8 rfl (lv_at hl 0 rfl) ?_
    refine lv_iload_n hx hb dX5_wouldDiffer_9 rfl (lv_at hl 2 rfl) ?_
    obtain ⟨q3, hq3, hs⟩ := obind_e hs
    refine end_i (run_V (q := (RX5, TX5, 21)) (ci := 5) hF hKK hW hS hl.1 k0 (by decide) rfl (c_X5_isBank l hOK k0 hq3) (kw_X5_99 hF.2.2.2.2 ⟨Nat.le_of_ble_eq_true rfl, Nat.le_of_ble_eq_true rfl⟩) rfl rfl (Nat.le_of_ble_eq_true rfl) dX5_wouldDiffer_10 ⟨Nat.zero_le _, Nat.zero_le _⟩) hS (fun H locs hW hS => ?_)
    refine lv_if_ne (tgt := 18) hx hb dX5_wouldDiffer_13 (by decide) (fun c4 => ?_) (fun c4 => ?_)
    · have hs := ite_f hs c4
      refine lv_aload_n hx hb dX5_wouldDiffer_18 rfl (lv_at hl 0 rfl) ?_
      refine lv_iload_n hx hb dX5_wouldDiffer_19 rfl (lv_at hl 1 rfl) ?_
      refine lv_iload_n hx hb dX5_wouldDiffer_20 rfl (lv_at hl 2 rfl) ?_
      obtain ⟨q5, hq5, hs⟩ := obind_e hs
      refine end_i (run_V (q := (RX5, TX5, 21)) (ci := 5) hF hKK hW hS hl.1 k0 (by decide) rfl (c_X5_isTied l hOK k0 hq5) (kw_X5_126 hF.2.2.2.2 ⟨Nat.le_of_ble_eq_true rfl, Nat.le_of_ble_eq_true rfl⟩) rfl rfl (Nat.le_of_ble_eq_true rfl) dX5_wouldDiffer_21 ⟨Nat.zero_le _, Nat.zero_le _⟩) hS (fun H locs hW hS => ?_)
      refine lv_if_ne (tgt := 30) hx hb dX5_wouldDiffer_24 (by decide) (fun c6 => ?_) (fun c6 => ?_)
      · have hs := ite_f hs c6
        refine lv_aload_n hx hb dX5_wouldDiffer_30 rfl (lv_at hl 0 rfl) ?_
        refine lv_aload_n hx hb dX5_wouldDiffer_31 rfl (lv_at hl 0 rfl) ?_
        refine lv_iload_n hx hb dX5_wouldDiffer_32 rfl (lv_at hl 1 rfl) ?_
        obtain ⟨q7, hq7, hs⟩ := obind_e hs
        refine end_i (run_V (q := (RX5, TX5, 21)) (ci := 5) hF hKK hW hS hl.1 k0 (by decide) rfl (c_X5_root l hOK k0 hq7) (kw_X5_114 hF.2.2.2.2 ⟨Nat.le_of_ble_eq_true rfl, Nat.le_of_ble_eq_true rfl⟩) rfl rfl (Nat.le_of_ble_eq_true rfl) dX5_wouldDiffer_33 ⟨Nat.zero_le _, Nat.zero_le _⟩) hS (fun H locs hW hS => ?_)
        obtain ⟨q8, hq8, hs⟩ := obind_e hs
        refine end_i (run_V (q := (RX5, TX5, 21)) (ci := 5) hF hKK hW hS hl.1 k0 (by decide) rfl (c_X5_sumBelow l hOK k0 hq8) (kw_X5_156 hF.2.2.2.2 ⟨Nat.le_of_ble_eq_true rfl, Nat.le_of_ble_eq_true rfl⟩) rfl rfl (Nat.le_of_ble_eq_true rfl) dX5_wouldDiffer_36 ⟨Nat.zero_le _, Nat.zero_le _⟩) hS (fun H locs hW hS => ?_)
        refine lv_iconst (v := (2 : Int32)) hx hb dX5_wouldDiffer_39 (by decide) ?_
        refine lv_aload_n hx hb dX5_wouldDiffer_40 rfl (lv_at hl 0 rfl) ?_
        refine lv_aload_n hx hb dX5_wouldDiffer_41 rfl (lv_at hl 0 rfl) ?_
        refine lv_iload_n hx hb dX5_wouldDiffer_42 rfl (lv_at hl 1 rfl) ?_
        refine lv_iload_n hx hb dX5_wouldDiffer_43 rfl (lv_at hl 2 rfl) ?_
        obtain ⟨q9, hq9, hs⟩ := obind_e hs
        refine end_i (run_V (q := (RX5, TX5, 21)) (ci := 5) hF hKK hW hS hl.1 k0 (by decide) rfl (c_X5_lower l hOK k0 hq9) (kw_X5_129 hF.2.2.2.2 ⟨Nat.le_of_ble_eq_true rfl, Nat.le_of_ble_eq_true rfl⟩) rfl rfl (Nat.le_of_ble_eq_true rfl) dX5_wouldDiffer_44 ⟨Nat.zero_le _, Nat.zero_le _⟩) hS (fun H locs hW hS => ?_)
        obtain ⟨q10, hq10, hs⟩ := obind_e hs
        refine end_i (run_V (q := (RX5, TX5, 21)) (ci := 5) hF hKK hW hS hl.1 k0 (by decide) rfl (c_X5_sumBelow l hOK k0 hq10) (kw_X5_156 hF.2.2.2.2 ⟨Nat.le_of_ble_eq_true rfl, Nat.le_of_ble_eq_true rfl⟩) rfl rfl (Nat.le_of_ble_eq_true rfl) dX5_wouldDiffer_47 ⟨Nat.zero_le _, Nat.zero_le _⟩) hS (fun H locs hW hS => ?_)
        refine lv_imul hx hb dX5_wouldDiffer_50 ?_
        refine lv_isub hx hb dX5_wouldDiffer_51 ?_
        obtain ⟨v11, ev11, hs⟩ := bnd_e hs
        refine top_i ev11 ?_
        refine lv_istore_n (lv' := [(3, .int v11), (0, .ref a0), (1, .int a1), (2, .int a2)]) hx hb dX5_wouldDiffer_52 rfl hl (by decide) rfl (fun ls hl => ?_)
        refine lv_iload_n hx hb dX5_wouldDiffer_53 rfl (lv_at hl 0 rfl) ?_
        refine lv_if_ge (tgt := 62) hx hb dX5_wouldDiffer_54 (by decide) (fun c12 => ?_) (fun c12 => ?_)
        · have hs := ite_t hs c12
          refine lv_iload_n hx hb dX5_wouldDiffer_62 rfl (lv_at hl 0 rfl) ?_
          have h9 := Option.some.inj hs
          rw [← h9]
          exact wr_i hF hr hlocks (vp_nar_int _) hW hS dX5_wouldDiffer_63
        · have hs := ite_f hs c12
          refine lv_iload_n hx hb dX5_wouldDiffer_57 rfl (lv_at hl 0 rfl) ?_
          refine lv_ineg hx hb dX5_wouldDiffer_58 ?_
          refine lv_goto (tgt := 63) hx hb dX5_wouldDiffer_59 (by decide) ?_
          have h9 := Option.some.inj hs
          rw [← h9]
          exact wr_i hF hr hlocks (vp_nar_int _) hW hS dX5_wouldDiffer_63
      · have hs := ite_t hs c6
        refine lv_bipush (v := (-4 : Int32)) hx hb dX5_wouldDiffer_27 (by decide) ?_
        have h9 := Option.some.inj hs
        rw [← h9]
        exact wr_i hF hr hlocks (vp_nar_int _) hW hS dX5_wouldDiffer_29
    · have hs := ite_t hs c4
      refine lv_iconst (v := (-1 : Int32)) hx hb dX5_wouldDiffer_16 (by decide) ?_
      have h9 := Option.some.inj hs
      rw [← h9]
      exact wr_i hF hr hlocks (vp_nar_int _) hW hS dX5_wouldDiffer_17
