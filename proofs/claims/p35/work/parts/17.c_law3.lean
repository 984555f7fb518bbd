/-! printed by wip/gen35/build.py out of the decode rows: do not edit by hand -/
set_option maxHeartbeats 4000000 in
set_option maxRecDepth 100000 in
theorem c_L_act (l : Launch) {G : va_G} {Λ : Lay} {μ : Mem} (hOK : LayOK Λ) {a0 : Nat} (k0 : inK Λ a0 4) {a1 : Int32} {r : (Int32 × Mem)} (hs : sL_act Λ μ a0 a1 = some r) : CM l G Λ yL_act cL_act 6 (some .int) 7 μ [.ref a0, .int a1] (QI G Λ r.1 r.2) := by
  refine ofM (own := RL) (by decide +kernel) rfl (Nat.le_of_ble_eq_true rfl) (fun p e s m args below meth c ls hF hKK hW hr hlocks hl => ?_)
  have hx := hF.1
  have hb := hF.2.1
  have hA : ∀ q, inL Λ q → inL Λ q := fun _ h => h
  have hS : va_S (inL Λ) s.heap s.heap [] := va_S.rf
  have hl : lv_has ls 6 [(0, .ref a0), (1, .int a1)] := hl
  unfold sL_act at hs
  refine lv_iload_n hx hb dL_act_0 rfl (lv_at hl 1 rfl) ?_
  refine lv_iconst (v := (4 : Int32)) hx hb dL_act_1 (by decide) ?_
  refine lv_ishr hx hb dL_act_2 ?_
  refine lv_ldc (v := (65535 : Int32)) hx hb hF.2.2.2.1 (hF.2.2.2.2 _ wd_457) dL_act_3 ?_
  refine lv_iand hx hb dL_act_5 ?_
  obtain ⟨v1, ev1, hs⟩ := bnd_e hs
  refine top_i ev1 ?_
  refine lv_istore_n (lv' := [(2, .int v1), (0, .ref a0), (1, .int a1)]) hx hb dL_act_6 rfl hl (by decide) rfl (fun ls hl => ?_)
  refine lv_iload_n hx hb dL_act_7 rfl (lv_at hl 0 rfl) ?_
  refine lv_iconst (v := (1 : Int32)) hx hb dL_act_8 (by decide) ?_
  refine lv_ishr hx hb dL_act_9 ?_
  refine lv_bipush (v := (9 : Int32)) hx hb dL_act_10 (by decide) ?_
  refine lv_irem hx hb dL_act_12 (by decide) ?_
  obtain ⟨v2, ev2, hs⟩ := bnd_e hs
  refine top_i ev2 ?_
  refine lv_istore_n (lv' := [(3, .int v2), (2, .int v1), (0, .ref a0), (1, .int a1)]) hx hb dL_act_13 rfl hl (by decide) rfl (fun ls hl => ?_)
  refine lv_iload_n hx hb dL_act_14 rfl (lv_at hl 1 rfl) ?_
  refine lv_iconst (v := (5 : Int32)) hx hb dL_act_15 (by decide) ?_
  refine lv_ishr hx hb dL_act_16 ?_
  refine lv_bipush (v := (9 : Int32)) hx hb dL_act_17 (by decide) ?_
  refine lv_irem hx hb dL_act_19 (by decide) ?_
  obtain ⟨v3, ev3, hs⟩ := bnd_e hs
  refine top_i ev3 ?_
  refine lv_istore (lv' := [(4, .int v3), (3, .int v2), (2, .int v1), (0, .ref a0), (1, .int a1)]) hx hb dL_act_20 hl (by decide) rfl (fun ls hl => ?_)
  refine lv_iload_n hx hb dL_act_22 rfl (lv_at hl 4 rfl) ?_
  refine lv_bipush (v := (15 : Int32)) hx hb dL_act_23 (by decide) ?_
  refine lv_iand hx hb dL_act_25 ?_
  obtain ⟨v4, ev4, hs⟩ := bnd_e hs
  refine top_i ev4 ?_
  by_cases c5 : v4 = (0 : Int32)
  · have hs := ite_t hs c5
    refine lv_tableIn (off := 74) (tgt := 100) hx hb dL_act_26 (by rw [c5]; decide) (by rw [c5]; decide) (by rw [c5]; decide) (by decide) ?_
    refine lv_aload_n hx hb dL_act_100 rfl (lv_at hl 3 rfl) ?_
    refine lv_iload_n hx hb dL_act_101 rfl (lv_at hl 2 rfl) ?_
    refine lv_bipush (v := (102 : Int32)) hx hb dL_act_102 (by decide) ?_
    refine lv_irem hx hb dL_act_104 (by decide) ?_
    obtain ⟨q6, hq6, hs⟩ := obind_e hs
    refine end_i (run_V (q := (RX4, TX4, 11)) (ci := 4) hF hKK hW hS hl.1 k0 (by decide) rfl (c_X4_bank l hOK k0 hq6) (kw_L_24 hF.2.2.2.2 ⟨Nat.le_of_ble_eq_true rfl, Nat.le_of_ble_eq_true rfl⟩) rfl rfl (Nat.le_of_ble_eq_true rfl) dL_act_105 ⟨Nat.zero_le _, Nat.zero_le _⟩) hS (fun H locs hW hS => ?_)
    have h9 := Option.some.inj hs
    rw [← h9]
    exact wr_i hF hr hlocks (vp_nar_int _) hW hS dL_act_108
  have hs := ite_f hs c5
  by_cases c7 : v4 = (1 : Int32)
  · have hs := ite_t hs c7
    refine lv_tableIn (off := 83) (tgt := 109) hx hb dL_act_26 (by rw [c7]; decide) (by rw [c7]; decide) (by rw [c7]; decide) (by decide) ?_
    refine lv_aload_n hx hb dL_act_109 rfl (lv_at hl 3 rfl) ?_
    refine lv_iload_n hx hb dL_act_110 rfl (lv_at hl 1 rfl) ?_
    refine lv_iload hx hb dL_act_111 (lv_at hl 0 rfl) ?_
    obtain ⟨q8, hq8, hs⟩ := obind_e hs
    refine end_i (run_V (q := (RX4, TX4, 11)) (ci := 4) hF hKK hW hS hl.1 k0 (by decide) rfl (c_X4_join l hOK k0 hq8) (kw_L_27 hF.2.2.2.2 ⟨Nat.le_of_ble_eq_true rfl, Nat.le_of_ble_eq_true rfl⟩) rfl rfl (Nat.le_of_ble_eq_true rfl) dL_act_113 ⟨Nat.zero_le _, Nat.zero_le _⟩) hS (fun H locs hW hS => ?_)
    have h9 := Option.some.inj hs
    rw [← h9]
    exact wr_i hF hr hlocks (vp_nar_int _) hW hS dL_act_116
  have hs := ite_f hs c7
  by_cases c9 : v4 = (2 : Int32)
  · have hs := ite_t hs c9
    refine lv_tableIn (off := 83) (tgt := 109) hx hb dL_act_26 (by rw [c9]; decide) (by rw [c9]; decide) (by rw [c9]; decide) (by decide) ?_
    refine lv_aload_n hx hb dL_act_109 rfl (lv_at hl 3 rfl) ?_
    refine lv_iload_n hx hb dL_act_110 rfl (lv_at hl 1 rfl) ?_
    refine lv_iload hx hb dL_act_111 (lv_at hl 0 rfl) ?_
    obtain ⟨q10, hq10, hs⟩ := obind_e hs
    refine end_i (run_V (q := (RX4, TX4, 11)) (ci := 4) hF hKK hW hS hl.1 k0 (by decide) rfl (c_X4_join l hOK k0 hq10) (kw_L_27 hF.2.2.2.2 ⟨Nat.le_of_ble_eq_true rfl, Nat.le_of_ble_eq_true rfl⟩) rfl rfl (Nat.le_of_ble_eq_true rfl) dL_act_113 ⟨Nat.zero_le _, Nat.zero_le _⟩) hS (fun H locs hW hS => ?_)
    have h9 := Option.some.inj hs
    rw [← h9]
    exact wr_i hF hr hlocks (vp_nar_int _) hW hS dL_act_116
  have hs := ite_f hs c9
  by_cases c11 : v4 = (3 : Int32)
  · have hs := ite_t hs c11
    refine lv_tableIn (off := 83) (tgt := 109) hx hb dL_act_26 (by rw [c11]; decide) (by rw [c11]; decide) (by rw [c11]; decide) (by decide) ?_
    refine lv_aload_n hx hb dL_act_109 rfl (lv_at hl 3 rfl) ?_
    refine lv_iload_n hx hb dL_act_110 rfl (lv_at hl 1 rfl) ?_
    refine lv_iload hx hb dL_act_111 (lv_at hl 0 rfl) ?_
    obtain ⟨q12, hq12, hs⟩ := obind_e hs
    refine end_i (run_V (q := (RX4, TX4, 11)) (ci := 4) hF hKK hW hS hl.1 k0 (by decide) rfl (c_X4_join l hOK k0 hq12) (kw_L_27 hF.2.2.2.2 ⟨Nat.le_of_ble_eq_true rfl, Nat.le_of_ble_eq_true rfl⟩) rfl rfl (Nat.le_of_ble_eq_true rfl) dL_act_113 ⟨Nat.zero_le _, Nat.zero_le _⟩) hS (fun H locs hW hS => ?_)
    have h9 := Option.some.inj hs
    rw [← h9]
    exact wr_i hF hr hlocks (vp_nar_int _) hW hS dL_act_116
  have hs := ite_f hs c11
  by_cases c13 : v4 = (4 : Int32)
  · have hs := ite_t hs c13
    refine lv_tableIn (off := 83) (tgt := 109) hx hb dL_act_26 (by rw [c13]; decide) (by rw [c13]; decide) (by rw [c13]; decide) (by decide) ?_
    refine lv_aload_n hx hb dL_act_109 rfl (lv_at hl 3 rfl) ?_
    refine lv_iload_n hx hb dL_act_110 rfl (lv_at hl 1 rfl) ?_
    refine lv_iload hx hb dL_act_111 (lv_at hl 0 rfl) ?_
    obtain ⟨q14, hq14, hs⟩ := obind_e hs
    refine end_i (run_V (q := (RX4, TX4, 11)) (ci := 4) hF hKK hW hS hl.1 k0 (by decide) rfl (c_X4_join l hOK k0 hq14) (kw_L_27 hF.2.2.2.2 ⟨Nat.le_of_ble_eq_true rfl, Nat.le_of_ble_eq_true rfl⟩) rfl rfl (Nat.le_of_ble_eq_true rfl) dL_act_113 ⟨Nat.zero_le _, Nat.zero_le _⟩) hS (fun H locs hW hS => ?_)
    have h9 := Option.some.inj hs
    rw [← h9]
    exact wr_i hF hr hlocks (vp_nar_int _) hW hS dL_act_116
  have hs := ite_f hs c13
  by_cases c15 : v4 = (5 : Int32)
  · have hs := ite_t hs c15
    refine lv_tableIn (off := 83) (tgt := 109) hx hb dL_act_26 (by rw [c15]; decide) (by rw [c15]; decide) (by rw [c15]; decide) (by decide) ?_
    refine lv_aload_n hx hb dL_act_109 rfl (lv_at hl 3 rfl) ?_
    refine lv_iload_n hx hb dL_act_110 rfl (lv_at hl 1 rfl) ?_
    refine lv_iload hx hb dL_act_111 (lv_at hl 0 rfl) ?_
    obtain ⟨q16, hq16, hs⟩ := obind_e hs
    refine end_i (run_V (q := (RX4, TX4, 11)) (ci := 4) hF hKK hW hS hl.1 k0 (by decide) rfl (c_X4_join l hOK k0 hq16) (kw_L_27 hF.2.2.2.2 ⟨Nat.le_of_ble_eq_true rfl, Nat.le_of_ble_eq_true rfl⟩) rfl rfl (Nat.le_of_ble_eq_true rfl) dL_act_113 ⟨Nat.zero_le _, Nat.zero_le _⟩) hS (fun H locs hW hS => ?_)
    have h9 := Option.some.inj hs
    rw [← h9]
    exact wr_i hF hr hlocks (vp_nar_int _) hW hS dL_act_116
  have hs := ite_f hs c15
  by_cases c17 : v4 = (6 : Int32)
  · have hs := ite_t hs c17
    refine lv_tableIn (off := 91) (tgt := 117) hx hb dL_act_26 (by rw [c17]; decide) (by rw [c17]; decide) (by rw [c17]; decide) (by decide) ?_
    refine lv_aload_n hx hb dL_act_117 rfl (lv_at hl 3 rfl) ?_
    refine lv_iload_n hx hb dL_act_118 rfl (lv_at hl 1 rfl) ?_
    refine lv_iload hx hb dL_act_119 (lv_at hl 0 rfl) ?_
    obtain ⟨q18, hq18, hs⟩ := obind_e hs
    refine end_i (run_V (q := (RX4, TX4, 11)) (ci := 4) hF hKK hW hS hl.1 k0 (by decide) rfl (c_X4_cut l hOK k0 hq18) (kw_L_31 hF.2.2.2.2 ⟨Nat.le_of_ble_eq_true rfl, Nat.le_of_ble_eq_true rfl⟩) rfl rfl (Nat.le_of_ble_eq_true rfl) dL_act_121 ⟨Nat.zero_le _, Nat.zero_le _⟩) hS (fun H locs hW hS => ?_)
    have h9 := Option.some.inj hs
    rw [← h9]
    exact wr_i hF hr hlocks (vp_nar_int _) hW hS dL_act_124
  have hs := ite_f hs c17
  by_cases c19 : v4 = (7 : Int32)
  · have hs := ite_t hs c19
    refine lv_tableIn (off := 91) (tgt := 117) hx hb dL_act_26 (by rw [c19]; decide) (by rw [c19]; decide) (by rw [c19]; decide) (by decide) ?_
    refine lv_aload_n hx hb dL_act_117 rfl (lv_at hl 3 rfl) ?_
    refine lv_iload_n hx hb dL_act_118 rfl (lv_at hl 1 rfl) ?_
    refine lv_iload hx hb dL_act_119 (lv_at hl 0 rfl) ?_
    obtain ⟨q20, hq20, hs⟩ := obind_e hs
    refine end_i (run_V (q := (RX4, TX4, 11)) (ci := 4) hF hKK hW hS hl.1 k0 (by decide) rfl (c_X4_cut l hOK k0 hq20) (kw_L_31 hF.2.2.2.2 ⟨Nat.le_of_ble_eq_true rfl, Nat.le_of_ble_eq_true rfl⟩) rfl rfl (Nat.le_of_ble_eq_true rfl) dL_act_121 ⟨Nat.zero_le _, Nat.zero_le _⟩) hS (fun H locs hW hS => ?_)
    have h9 := Option.some.inj hs
    rw [← h9]
    exact wr_i hF hr hlocks (vp_nar_int _) hW hS dL_act_124
  have hs := ite_f hs c19
  by_cases c21 : v4 = (8 : Int32)
  · have hs := ite_t hs c21
    refine lv_tableIn (off := 99) (tgt := 125) hx hb dL_act_26 (by rw [c21]; decide) (by rw [c21]; decide) (by rw [c21]; decide) (by decide) ?_
    refine lv_aload_n hx hb dL_act_125 rfl (lv_at hl 3 rfl) ?_
    refine lv_iload_n hx hb dL_act_126 rfl (lv_at hl 1 rfl) ?_
    refine lv_bipush (v := (6 : Int32)) hx hb dL_act_127 (by decide) ?_
    obtain ⟨q22, hq22, hs⟩ := obind_e hs
    refine end_i (run_V (q := (RX4, TX4, 11)) (ci := 4) hF hKK hW hS hl.1 k0 (by decide) rfl (c_X4_bankOf l hOK k0 hq22) (kw_L_34 hF.2.2.2.2 ⟨Nat.le_of_ble_eq_true rfl, Nat.le_of_ble_eq_true rfl⟩) rfl rfl (Nat.le_of_ble_eq_true rfl) dL_act_129 ⟨Nat.zero_le _, Nat.zero_le _⟩) hS (fun H locs hW hS => ?_)
    refine lv_istore (lv' := [(5, .int q22), (4, .int v3), (3, .int v2), (2, .int v1), (0, .ref a0), (1, .int a1)]) hx hb dL_act_132 hl (by decide) rfl (fun ls hl => ?_)
    refine lv_iload hx hb dL_act_134 (lv_at hl 0 rfl) ?_
    obtain ⟨kj23, ekj23, hs⟩ := bnd_e hs
    have hj23 : ∀ (j23 : Int32) (μj23 : Mem) (H : Heap) (locs : List Loc) (ls : Array Slot), kj23 j23 μj23 = some r → Wd G Λ μj23 H → va_S (inL Λ) s.heap H locs → lv_has ls 6 [] → W p l e (rmd 7) s m args below meth c H locs 0 0 (MQ below (QI G Λ r.1 r.2) args s 0 0 (inL Λ)) (F0 m 150 ls [.int j23]) := by
      intro j23 μj23 H locs ls hs hW hS hl
      have hs := kj2 ekj23 hs
      have h9 := Option.some.inj hs
      rw [← h9]
      exact wr_i hF hr hlocks (vp_nar_int _) hW hS dL_act_150
    refine lv_if_ge (tgt := 143) hx hb dL_act_136 (by decide) (fun c24 => ?_) (fun c24 => ?_)
    · have hs := ite_t hs c24
      refine lv_aload_n hx hb dL_act_143 rfl (lv_at hl 4 rfl) ?_
      refine lv_iload hx hb dL_act_144 (lv_at hl 0 rfl) ?_
      refine lv_iload_n hx hb dL_act_146 rfl (lv_at hl 2 rfl) ?_
      obtain ⟨q25, hq25, hs⟩ := obind_e hs
      refine end_i (run_V (q := (RX4, TX4, 11)) (ci := 4) hF hKK hW hS hl.1 k0 (by decide) rfl (c_X4_cut l hOK k0 hq25) (kw_L_31 hF.2.2.2.2 ⟨Nat.le_of_ble_eq_true rfl, Nat.le_of_ble_eq_true rfl⟩) rfl rfl (Nat.le_of_ble_eq_true rfl) dL_act_147 ⟨Nat.zero_le _, Nat.zero_le _⟩) hS (fun H locs hW hS => ?_)
      exact hj23 q25.1 q25.2 _ _ _ hs hW hS (lv_sub hl [] rfl)
    · have hs := ite_f hs c24
      refine lv_iconst (v := (0 : Int32)) hx hb dL_act_139 (by decide) ?_
      refine lv_goto (tgt := 150) hx hb dL_act_140 (by decide) ?_
      exact hj23 (0 : Int32) μ _ _ _ hs hW hS (lv_sub hl [] rfl)
  have hs := ite_f hs c21
  by_cases c26 : v4 = (9 : Int32)
  · have hs := ite_t hs c26
    refine lv_tableIn (off := 125) (tgt := 151) hx hb dL_act_26 (by rw [c26]; decide) (by rw [c26]; decide) (by rw [c26]; decide) (by decide) ?_
    refine lv_aload_n hx hb dL_act_151 rfl (lv_at hl 3 rfl) ?_
    refine lv_iload_n hx hb dL_act_152 rfl (lv_at hl 1 rfl) ?_
    obtain ⟨q27, hq27, hs⟩ := obind_e hs
    refine end_i (run_V (q := (RX4, TX4, 11)) (ci := 4) hF hKK hW hS hl.1 k0 (by decide) rfl (c_X4_turn l hOK k0 hq27) (kw_L_37 hF.2.2.2.2 ⟨Nat.le_of_ble_eq_true rfl, Nat.le_of_ble_eq_true rfl⟩) rfl rfl (Nat.le_of_ble_eq_true rfl) dL_act_153 ⟨Nat.zero_le _, Nat.zero_le _⟩) hS (fun H locs hW hS => ?_)
    have h9 := Option.some.inj hs
    rw [← h9]
    exact wr_i hF hr hlocks (vp_nar_int _) hW hS dL_act_156
  have hs := ite_f hs c26
  by_cases c28 : v4 = (10 : Int32)
  · have hs := ite_t hs c28
    refine lv_tableIn (off := 125) (tgt := 151) hx hb dL_act_26 (by rw [c28]; decide) (by rw [c28]; decide) (by rw [c28]; decide) (by decide) ?_
    refine lv_aload_n hx hb dL_act_151 rfl (lv_at hl 3 rfl) ?_
    refine lv_iload_n hx hb dL_act_152 rfl (lv_at hl 1 rfl) ?_
    obtain ⟨q29, hq29, hs⟩ := obind_e hs
    refine end_i (run_V (q := (RX4, TX4, 11)) (ci := 4) hF hKK hW hS hl.1 k0 (by decide) rfl (c_X4_turn l hOK k0 hq29) (kw_L_37 hF.2.2.2.2 ⟨Nat.le_of_ble_eq_true rfl, Nat.le_of_ble_eq_true rfl⟩) rfl rfl (Nat.le_of_ble_eq_true rfl) dL_act_153 ⟨Nat.zero_le _, Nat.zero_le _⟩) hS (fun H locs hW hS => ?_)
    have h9 := Option.some.inj hs
    rw [← h9]
    exact wr_i hF hr hlocks (vp_nar_int _) hW hS dL_act_156
  have hs := ite_f hs c28
  by_cases c30 : v4 = (11 : Int32)
  · have hs := ite_t hs c30
    refine lv_tableIn (off := 131) (tgt := 157) hx hb dL_act_26 (by rw [c30]; decide) (by rw [c30]; decide) (by rw [c30]; decide) (by decide) ?_
    refine lv_aload_n hx hb dL_act_157 rfl (lv_at hl 3 rfl) ?_
    refine lv_iload_n hx hb dL_act_158 rfl (lv_at hl 1 rfl) ?_
    refine lv_iload_n hx hb dL_act_159 rfl (lv_at hl 2 rfl) ?_
    refine lv_iconst (v := (5 : Int32)) hx hb dL_act_160 (by decide) ?_
    refine lv_ishr hx hb dL_act_161 ?_
    refine lv_bipush (v := (101 : Int32)) hx hb dL_act_162 (by decide) ?_
    refine lv_irem hx hb dL_act_164 (by decide) ?_
    obtain ⟨q31, hq31, hs⟩ := obind_e hs
    refine end_i (run_V (q := (RX4, TX4, 11)) (ci := 4) hF hKK hW hS hl.1 k0 (by decide) rfl (c_X4_weigh l hOK k0 hq31) (kw_L_40 hF.2.2.2.2 ⟨Nat.le_of_ble_eq_true rfl, Nat.le_of_ble_eq_true rfl⟩) rfl rfl (Nat.le_of_ble_eq_true rfl) dL_act_165 ⟨Nat.zero_le _, Nat.zero_le _⟩) hS (fun H locs hW hS => ?_)
    have h9 := Option.some.inj hs
    rw [← h9]
    exact wr_i hF hr hlocks (vp_nar_int _) hW hS dL_act_168
  have hs := ite_f hs c30
  by_cases c32 : v4 = (12 : Int32)
  · have hs := ite_t hs c32
    refine lv_tableIn (off := 143) (tgt := 169) hx hb dL_act_26 (by rw [c32]; decide) (by rw [c32]; decide) (by rw [c32]; decide) (by decide) ?_
    refine lv_aload_n hx hb dL_act_169 rfl (lv_at hl 3 rfl) ?_
    refine lv_iload_n hx hb dL_act_170 rfl (lv_at hl 1 rfl) ?_
    refine lv_iload_n hx hb dL_act_171 rfl (lv_at hl 2 rfl) ?_
    refine lv_iconst (v := (5 : Int32)) hx hb dL_act_172 (by decide) ?_
    refine lv_ishr hx hb dL_act_173 ?_
    refine lv_sipush (v := (202 : Int32)) hx hb dL_act_174 (by decide) ?_
    refine lv_irem hx hb dL_act_177 (by decide) ?_
    refine lv_bipush (v := (101 : Int32)) hx hb dL_act_178 (by decide) ?_
    refine lv_isub hx hb dL_act_180 ?_
    obtain ⟨q33, hq33, hs⟩ := obind_e hs
    refine end_i (run_V (q := (RX4, TX4, 11)) (ci := 4) hF hKK hW hS hl.1 k0 (by decide) rfl (c_X4_rise l hOK k0 hq33) (kw_L_43 hF.2.2.2.2 ⟨Nat.le_of_ble_eq_true rfl, Nat.le_of_ble_eq_true rfl⟩) rfl rfl (Nat.le_of_ble_eq_true rfl) dL_act_181 ⟨Nat.zero_le _, Nat.zero_le _⟩) hS (fun H locs hW hS => ?_)
    have h9 := Option.some.inj hs
    rw [← h9]
    exact wr_i hF hr hlocks (vp_nar_int _) hW hS dL_act_184
  have hs := ite_f hs c32
  by_cases c34 : v4 = (13 : Int32)
  · have hs := ite_t hs c34
    refine lv_tableIn (off := 159) (tgt := 185) hx hb dL_act_26 (by rw [c34]; decide) (by rw [c34]; decide) (by rw [c34]; decide) (by decide) ?_
    refine lv_aload_n hx hb dL_act_185 rfl (lv_at hl 3 rfl) ?_
    obtain ⟨tx, qa, va, hX⟩ := hKK.2.2
    refine va_gets (C := RL) (ref := RL) hx hb hX.1 hS hF.2.2.2.1 (hF.2.2.2.2 _ wd_552) (fun _ h => h) dL_act_186 ?_
    refine lv_iload_n hx hb dL_act_189 rfl (lv_at hl 2 rfl) ?_
    refine va_gets (C := RL) (ref := RL) hx hb hX.1 hS hF.2.2.2.1 (hF.2.2.2.2 _ wd_552) (fun _ h => h) dL_act_190 ?_
    refine va_tlen (v := (20 : Int32)) hx hb hX.2.1 hS (by decide) dL_act_193 ?_
    refine lv_irem hx hb dL_act_194 (by decide) ?_
    obtain ⟨g35, hs⟩ := gd_some hs
    refine vb_tq hx hb hX.2.1 hS g35 rfl dL_act_195 ?_
    obtain ⟨q36, hq36, hs⟩ := obind_e hs
    refine row_write hOK hF hKK hX hW hS hl.1 k0 (inb_lt g35) hq36 (Nat.le_of_ble_eq_true rfl) ⟨Nat.le_of_ble_eq_true rfl, Nat.le_of_ble_eq_true rfl⟩ ⟨Nat.zero_le _, Nat.zero_le _⟩ dL_act_196 (fun H locs hW hS => ?_)
    obtain ⟨q37, hq37, hs⟩ := obind_e hs
    refine end_i (run_V (q := (RX4, TX4, 11)) (ci := 4) hF hKK hW hS hl.1 k0 (by decide) rfl (c_X4_read l hOK k0 hq37) (kw_L_56 hF.2.2.2.2 ⟨Nat.le_of_ble_eq_true rfl, Nat.le_of_ble_eq_true rfl⟩) rfl rfl (Nat.le_of_ble_eq_true rfl) dL_act_199 ⟨Nat.zero_le _, Nat.zero_le _⟩) hS (fun H locs hW hS => ?_)
    have h9 := Option.some.inj hs
    rw [← h9]
    exact wr_i hF hr hlocks (vp_nar_int _) hW hS dL_act_202
  have hs := ite_f hs c34
  by_cases c38 : v4 = (14 : Int32)
  · have hs := ite_t hs c38
    refine lv_tableIn (off := 159) (tgt := 185) hx hb dL_act_26 (by rw [c38]; decide) (by rw [c38]; decide) (by rw [c38]; decide) (by decide) ?_
    refine lv_aload_n hx hb dL_act_185 rfl (lv_at hl 3 rfl) ?_
    obtain ⟨tx, qa, va, hX⟩ := hKK.2.2
    refine va_gets (C := RL) (ref := RL) hx hb hX.1 hS hF.2.2.2.1 (hF.2.2.2.2 _ wd_552) (fun _ h => h) dL_act_186 ?_
    refine lv_iload_n hx hb dL_act_189 rfl (lv_at hl 2 rfl) ?_
    refine va_gets (C := RL) (ref := RL) hx hb hX.1 hS hF.2.2.2.1 (hF.2.2.2.2 _ wd_552) (fun _ h => h) dL_act_190 ?_
    refine va_tlen (v := (20 : Int32)) hx hb hX.2.1 hS (by decide) dL_act_193 ?_
    refine lv_irem hx hb dL_act_194 (by decide) ?_
    obtain ⟨g39, hs⟩ := gd_some hs
    refine vb_tq hx hb hX.2.1 hS g39 rfl dL_act_195 ?_
    obtain ⟨q40, hq40, hs⟩ := obind_e hs
    refine row_write hOK hF hKK hX hW hS hl.1 k0 (inb_lt g39) hq40 (Nat.le_of_ble_eq_true rfl) ⟨Nat.le_of_ble_eq_true rfl, Nat.le_of_ble_eq_true rfl⟩ ⟨Nat.zero_le _, Nat.zero_le _⟩ dL_act_196 (fun H locs hW hS => ?_)
    obtain ⟨q41, hq41, hs⟩ := obind_e hs
    refine end_i (run_V (q := (RX4, TX4, 11)) (ci := 4) hF hKK hW hS hl.1 k0 (by decide) rfl (c_X4_read l hOK k0 hq41) (kw_L_56 hF.2.2.2.2 ⟨Nat.le_of_ble_eq_true rfl, Nat.le_of_ble_eq_true rfl⟩) rfl rfl (Nat.le_of_ble_eq_true rfl) dL_act_199 ⟨Nat.zero_le _, Nat.zero_le _⟩) hS (fun H locs hW hS => ?_)
    have h9 := Option.some.inj hs
    rw [← h9]
    exact wr_i hF hr hlocks (vp_nar_int _) hW hS dL_act_202
  have hs := ite_f hs c38
  refine lv_tableOut (tgt := 203) hx hb dL_act_26 (by have := lv_neT c5 (a := 0) (by decide); have := lv_neT c7 (a := 1) (by decide); have := lv_neT c9 (a := 2) (by decide); have := lv_neT c11 (a := 3) (by decide); have := lv_neT c13 (a := 4) (by decide); have := lv_neT c15 (a := 5) (by decide); have := lv_neT c17 (a := 6) (by decide); have := lv_neT c19 (a := 7) (by decide); have := lv_neT c21 (a := 8) (by decide); have := lv_neT c26 (a := 9) (by decide); have := lv_neT c28 (a := 10) (by decide); have := lv_neT c30 (a := 11) (by decide); have := lv_neT c32 (a := 12) (by decide); have := lv_neT c34 (a := 13) (by decide); have := lv_neT c38 (a := 14) (by decide); omega) (by decide) ?_
  refine lv_iload_n hx hb dL_act_203 rfl (lv_at hl 2 rfl) ?_
  refine lv_iconst (v := (3 : Int32)) hx hb dL_act_204 (by decide) ?_
  refine lv_iand hx hb dL_act_205 ?_
  obtain ⟨kj42, ekj42, hs⟩ := bnd_e hs
  have hj42 : ∀ (j42 : Int32) (μj42 : Mem) (H : Heap) (locs : List Loc) (ls : Array Slot), kj42 j42 μj42 = some r → Wd G Λ μj42 H → va_S (inL Λ) s.heap H locs → lv_has ls 6 [] → W p l e (rmd 7) s m args below meth c H locs 0 0 (MQ below (QI G Λ r.1 r.2) args s 0 0 (inL Λ)) (F0 m 234 ls [.int j42]) := by
    intro j42 μj42 H locs ls hs hW hS hl
    have hs := kj2 ekj42 hs
    have h9 := Option.some.inj hs
    rw [← h9]
    exact wr_i hF hr hlocks (vp_nar_int _) hW hS dL_act_234
  refine lv_if_ne (tgt := 216) hx hb dL_act_206 (by decide) (fun c43 => ?_) (fun c43 => ?_)
  · have hs := ite_f hs c43
    refine lv_iload_n hx hb dL_act_216 rfl (lv_at hl 2 rfl) ?_
    refine lv_iconst (v := (3 : Int32)) hx hb dL_act_217 (by decide) ?_
    refine lv_iand hx hb dL_act_218 ?_
    refine lv_iconst (v := (1 : Int32)) hx hb dL_act_219 (by decide) ?_
    refine lv_icmp_ne (tgt := 230) hx hb dL_act_220 (by decide) (fun c44 => ?_) (fun c44 => ?_)
    · have hs := ite_f hs c44
      refine lv_aload_n hx hb dL_act_230 rfl (lv_at hl 3 rfl) ?_
      obtain ⟨q45, hq45, hs⟩ := obind_e hs
      refine end_i (run_V (q := (RX4, TX4, 11)) (ci := 4) hF hKK hW hS hl.1 k0 (by decide) rfl (c_X4_undo l hOK k0 hq45) (kw_L_65 hF.2.2.2.2 ⟨Nat.le_of_ble_eq_true rfl, Nat.le_of_ble_eq_true rfl⟩) rfl rfl (Nat.le_of_ble_eq_true rfl) dL_act_231 ⟨Nat.zero_le _, Nat.zero_le _⟩) hS (fun H locs hW hS => ?_)
      exact hj42 q45.1 q45.2 _ _ _ hs hW hS (lv_sub hl [] rfl)
    · have hs := ite_t hs c44
      refine lv_aload_n hx hb dL_act_223 rfl (lv_at hl 3 rfl) ?_
      obtain ⟨q46, hq46, hs⟩ := obind_e hs
      refine end_i (run_V (q := (RX4, TX4, 11)) (ci := 4) hF hKK hW hS hl.1 k0 (by decide) rfl (c_X4_restore l hOK k0 hq46) (kw_L_62 hF.2.2.2.2 ⟨Nat.le_of_ble_eq_true rfl, Nat.le_of_ble_eq_true rfl⟩) rfl rfl (Nat.le_of_ble_eq_true rfl) dL_act_224 ⟨Nat.zero_le _, Nat.zero_le _⟩) hS (fun H locs hW hS => ?_)
      refine lv_goto (tgt := 234) hx hb dL_act_227 (by decide) ?_
      exact hj42 q46.1 q46.2 _ _ _ hs hW hS (lv_sub hl [] rfl)
  · have hs := ite_t hs c43
    refine lv_aload_n hx hb dL_act_209 rfl (lv_at hl 3 rfl) ?_
    obtain ⟨q47, hq47, hs⟩ := obind_e hs
    refine end_i (run_V (q := (RX4, TX4, 11)) (ci := 4) hF hKK hW hS hl.1 k0 (by decide) rfl (c_X4_save l hOK k0 hq47) (kw_L_59 hF.2.2.2.2 ⟨Nat.le_of_ble_eq_true rfl, Nat.le_of_ble_eq_true rfl⟩) rfl rfl (Nat.le_of_ble_eq_true rfl) dL_act_210 ⟨Nat.zero_le _, Nat.zero_le _⟩) hS (fun H locs hW hS => ?_)
    refine lv_goto (tgt := 234) hx hb dL_act_213 (by decide) ?_
    exact hj42 q47.1 q47.2 _ _ _ hs hW hS (lv_sub hl [] rfl)
