/-! printed by wip/gen35/build.py out of the decode rows: do not edit by hand -/
set_option maxHeartbeats 4000000 in
set_option maxRecDepth 100000 in
theorem cl_L_isRound_87 {p : Program} {l : Launch} {e : Env} {s : State} {m : MethodId} {args : Array Value} {below : List Frame} {meth : Method} {c : Code} {G : va_G} {Λ : Lay} {μ : Mem} {r : Int32} (hOK : LayOK Λ) (hF : CallFix p m c cL_isRound 9 s args tw RL) (hKK : KK G Λ s) (hr : meth.sig.returnType = (some .boolean)) (hlocks : meth.locks = false) {x0 : Nat} (kx0 : inK Λ x0 4) {x1 : Int32} {x2 : Int32} {x3 : Int32} {x4 : Nat} : ∀ (n : Nat) (x5 : Int32) (x6 : Int32) (x100 : (Nat → Int32)) (H : Heap) (locs : List Loc) (ls : Array Slot), lpL_isRound_87 Λ μ x0 x1 x2 x3 n x5 x6 x100 = some r → WdB G Λ μ s x4 x100 H → va_S (AN Λ s.heap.size) s.heap H locs → lv_has ls 9 [(0, .ref x0), (1, .int x1), (2, .int x2), (3, .int x3), (4, .ref x4), (5, .int x5), (6, .int x6)] → W p l e (nrm 7 1 144) s m args below meth c H locs (0 + 1) (0 + 144) (MQ below (QA G Λ r μ s.heap.size) args s 1 144 (AN Λ s.heap.size)) (F0 m 87 ls []) := by
  have hx := hF.1
  have hb := hF.2.1
  have hA : ∀ q, inL Λ q → AN Λ s.heap.size q := fun _ h => Or.inl h
  intro n
  induction n with
  | zero =>
    intro x5 x6 x100 H locs ls hs hW hS hl
    cases hs
  | succ n87 ih87 =>
    intro x5 x6 x100 H locs ls hs hW hS hl
    rw [lpL_isRound_87_s] at hs
    refine lv_iload hx hb dL_isRound_87 (lv_at hl 5 rfl) ?_
    obtain ⟨kj6, ekj6, hs⟩ := bnd_e hs
    have hj6 : ∀ (H : Heap) (locs : List Loc) (ls : Array Slot), kj6 = some r → WdB G Λ μ s x4 x100 H → va_S (AN Λ s.heap.size) s.heap H locs → lv_has ls 9 [(4, .ref x4), (5, .int x5)] → W p l e (nrm 7 1 144) s m args below meth c H locs (0 + 1) (0 + 144) (MQ below (QA G Λ r μ s.heap.size) args s 1 144 (AN Λ s.heap.size)) (F0 m 192 ls []) := by
      intro  H locs ls hs hW hS hl
      have hs := ekj6.symm.trans hs
      refine lv_iload hx hb dL_isRound_192 (lv_at hl 1 rfl) ?_
      obtain ⟨g7, hs⟩ := gd_some hs
      have h9 := Option.some.inj hs
      rw [← h9]
      exact wr_iN hF hr hlocks (isB_nar g7) hW.1 hS (by omega) (by omega) dL_isRound_194
    refine lv_if_eq (tgt := 192) hx hb dL_isRound_89 (by decide) (fun c8 => ?_) (fun c8 => ?_)
    · have hs := ite_t hs c8
      exact hj6 _ _ _ hs hW hS (lv_sub hl [4, 5] rfl)
    · have hs := ite_f hs c8
      refine lv_iload hx hb dL_isRound_92 (lv_at hl 6 rfl) ?_
      refine lv_iload_n hx hb dL_isRound_94 rfl (lv_at hl 2 rfl) ?_
      refine lv_icmp_ge (tgt := 192) hx hb dL_isRound_95 (by decide) (fun c9 => ?_) (fun c9 => ?_)
      · have hs := ite_t hs c9
        exact hj6 _ _ _ hs hW hS (lv_sub hl [4, 5] rfl)
      · have hs := ite_f hs c9
        refine lv_aload_n hx hb dL_isRound_98 rfl (lv_at hl 0 rfl) ?_
        refine lv_iload_n hx hb dL_isRound_99 rfl (lv_at hl 1 rfl) ?_
        refine lv_iload hx hb dL_isRound_100 (lv_at hl 6 rfl) ?_
        refine lv_iconst (v := (1 : Int32)) hx hb dL_isRound_102 (by decide) ?_
        refine lv_isub hx hb dL_isRound_103 ?_
        obtain ⟨q10, hq10, hs⟩ := obind_e hs
        refine end_iB hW (run_VN (q := (RX4, TX4, 11)) (ci := 4) hF hKK hW.1 hS hl.1 kx0 (by decide) rfl (c_X4_inRound l hOK kx0 hq10) (kw_L_78 hF.2.2.2.2 ⟨Nat.le_of_ble_eq_true rfl, Nat.le_of_ble_eq_true rfl⟩) rfl rfl (Nat.le_of_ble_eq_true rfl) dL_isRound_104 ⟨Nat.le_of_ble_eq_true rfl, Nat.le_of_ble_eq_true rfl⟩) hS (fun H locs hW hS => ?_)
        refine lv_istore (lv' := [(7, .int q10), (0, .ref x0), (1, .int x1), (2, .int x2), (3, .int x3), (4, .ref x4), (5, .int x5), (6, .int x6)]) hx hb dL_isRound_107 hl (by decide) rfl (fun ls hl => ?_)
        refine lv_aload_n hx hb dL_isRound_109 rfl (lv_at hl 1 rfl) ?_
        refine lv_iload_n hx hb dL_isRound_110 rfl (lv_at hl 2 rfl) ?_
        refine lv_iload hx hb dL_isRound_111 (lv_at hl 7 rfl) ?_
        obtain ⟨q11, hq11, hs⟩ := obind_e hs
        refine end_iB hW (run_VN (q := (RX4, TX4, 11)) (ci := 4) hF hKK hW.1 hS hl.1 kx0 (by decide) rfl (c_X4_inRound l hOK kx0 hq11) (kw_L_78 hF.2.2.2.2 ⟨Nat.le_of_ble_eq_true rfl, Nat.le_of_ble_eq_true rfl⟩) rfl rfl (Nat.le_of_ble_eq_true rfl) dL_isRound_113 ⟨Nat.le_of_ble_eq_true rfl, Nat.le_of_ble_eq_true rfl⟩) hS (fun H locs hW hS => ?_)
        refine lv_istore (lv' := [(8, .int q11), (7, .int q10), (0, .ref x0), (1, .int x1), (2, .int x2), (3, .int x3), (4, .ref x4), (5, .int x5), (6, .int x6)]) hx hb dL_isRound_116 hl (by decide) rfl (fun ls hl => ?_)
        refine lv_aload_n hx hb dL_isRound_118 rfl (lv_at hl 2 rfl) ?_
        refine lv_iload hx hb dL_isRound_119 (lv_at hl 1 rfl) ?_
        refine lv_iload hx hb dL_isRound_121 (lv_at hl 0 rfl) ?_
        obtain ⟨q12, hq12, hs⟩ := obind_e hs
        refine end_iB hW (run_VN (q := (RX4, TX4, 11)) (ci := 4) hF hKK hW.1 hS hl.1 kx0 (by decide) rfl (c_X4_isRope l hOK kx0 hq12) (kw_L_81 hF.2.2.2.2 ⟨Nat.le_of_ble_eq_true rfl, Nat.le_of_ble_eq_true rfl⟩) rfl rfl (Nat.le_of_ble_eq_true rfl) dL_isRound_123 ⟨Nat.le_of_ble_eq_true rfl, Nat.le_of_ble_eq_true rfl⟩) hS (fun H locs hW hS => ?_)
        refine lv_iconst (v := (1 : Int32)) hx hb dL_isRound_126 (by decide) ?_
        obtain ⟨kj13, ekj13, hs⟩ := bnd_e hs
        have hj13 : ∀ (j13 : Int32) (H : Heap) (locs : List Loc) (ls : Array Slot), kj13 j13 = some r → WdB G Λ μ s x4 x100 H → va_S (AN Λ s.heap.size) s.heap H locs → lv_has ls 9 [(8, .int q11), (7, .int q10), (0, .ref x0), (1, .int x1), (2, .int x2), (3, .int x3), (4, .ref x4), (6, .int x6)] → W p l e (nrm 7 1 144) s m args below meth c H locs (0 + 1) (0 + 144) (MQ below (QA G Λ r μ s.heap.size) args s 1 144 (AN Λ s.heap.size)) (F0 m 172 ls [.int j13]) := by
          intro j13 H locs ls hs hW hS hl
          have hs := kj1 ekj13 hs
          refine lv_istore (lv' := [(5, .int j13), (8, .int q11), (7, .int q10), (0, .ref x0), (1, .int x1), (2, .int x2), (3, .int x3), (4, .ref x4), (6, .int x6)]) hx hb dL_isRound_172 hl (by decide) rfl (fun ls hl => ?_)
          refine lv_aload hx hb dL_isRound_174 (lv_at hl 7 rfl) ?_
          refine lv_bipush (v := (12 : Int32)) hx hb dL_isRound_176 (by decide) ?_
          refine lv_iload hx hb dL_isRound_178 (lv_at hl 2 rfl) ?_
          refine lv_imul hx hb dL_isRound_180 ?_
          refine lv_iload hx hb dL_isRound_181 (lv_at hl 1 rfl) ?_
          refine lv_iadd hx hb dL_isRound_183 ?_
          refine lv_iconst (v := (1 : Int32)) hx hb dL_isRound_184 (by decide) ?_
          obtain ⟨g14, hs⟩ := gd_some hs
          obtain ⟨f15, ef15, hs⟩ := bnd_e hs
          refine gz_st hOK hF hW hS g14 ef15 dL_isRound_185 (fun H locs hW hS => ?_)
          obtain ⟨v16, ev16, hs⟩ := bnd_e hs
          refine lv_iinc (v := v16) (lv' := [(6, .int v16), (5, .int j13), (8, .int q11), (7, .int q10), (0, .ref x0), (1, .int x1), (2, .int x2), (3, .int x3), (4, .ref x4)]) hx hb dL_isRound_186 hl (k := 8) rfl (by rw [ev16]; rfl) (by decide) rfl (fun ls hl => ?_)
          refine lv_goto (tgt := 87) hx hb dL_isRound_189 (by decide) ?_
          exact ih87 j13 v16 f15 _ _ _ hs hW hS (lv_sub hl [4, 5, 6, 7, 8, 1, 0] rfl)
        obtain ⟨kj17, ekj17, hs⟩ := bnd_e hs
        have hj17 : ∀ (H : Heap) (locs : List Loc) (ls : Array Slot), kj17 = some r → WdB G Λ μ s x4 x100 H → va_S (AN Λ s.heap.size) s.heap H locs → lv_has ls 9 [(8, .int q11), (7, .int q10), (0, .ref x0), (1, .int x1), (2, .int x2), (3, .int x3), (4, .ref x4), (6, .int x6)] → W p l e (nrm 7 1 144) s m args below meth c H locs (0 + 1) (0 + 144) (MQ below (QA G Λ r μ s.heap.size) args s 1 144 (AN Λ s.heap.size)) (F0 m 171 ls []) := by
          intro  H locs ls hs hW hS hl
          have hs := ekj17.symm.trans hs
          refine lv_iconst (v := (0 : Int32)) hx hb dL_isRound_171 (by decide) ?_
          exact hj13 (0 : Int32) _ _ _ hs hW hS (lv_sub hl [0, 1, 2, 3, 4, 5, 6, 7] rfl)
        refine lv_icmp_ne (tgt := 171) hx hb dL_isRound_127 (by decide) (fun c18 => ?_) (fun c18 => ?_)
        · have hs := ite_f hs c18
          exact hj17 _ _ _ hs hW hS (lv_sub hl [0, 1, 2, 3, 4, 5, 6, 8] rfl)
        · have hs := ite_t hs c18
          refine lv_aload_n hx hb dL_isRound_130 rfl (lv_at hl 2 rfl) ?_
          refine lv_iload hx hb dL_isRound_131 (lv_at hl 0 rfl) ?_
          refine lv_iload hx hb dL_isRound_133 (lv_at hl 1 rfl) ?_
          obtain ⟨q19, hq19, hs⟩ := obind_e hs
          refine end_iB hW (run_VN (q := (RX4, TX4, 11)) (ci := 4) hF hKK hW.1 hS hl.1 kx0 (by decide) rfl (c_X4_isRope l hOK kx0 hq19) (kw_L_81 hF.2.2.2.2 ⟨Nat.le_of_ble_eq_true rfl, Nat.le_of_ble_eq_true rfl⟩) rfl rfl (Nat.le_of_ble_eq_true rfl) dL_isRound_135 ⟨Nat.le_of_ble_eq_true rfl, Nat.le_of_ble_eq_true rfl⟩) hS (fun H locs hW hS => ?_)
          refine lv_iconst (v := (1 : Int32)) hx hb dL_isRound_138 (by decide) ?_
          refine lv_icmp_ne (tgt := 171) hx hb dL_isRound_139 (by decide) (fun c20 => ?_) (fun c20 => ?_)
          · have hs := ite_f hs c20
            exact hj17 _ _ _ hs hW hS (lv_sub hl [0, 1, 2, 3, 4, 5, 6, 8] rfl)
          · have hs := ite_t hs c20
            refine lv_aload hx hb dL_isRound_142 (lv_at hl 6 rfl) ?_
            refine lv_bipush (v := (12 : Int32)) hx hb dL_isRound_144 (by decide) ?_
            refine lv_iload hx hb dL_isRound_146 (lv_at hl 1 rfl) ?_
            refine lv_imul hx hb dL_isRound_148 ?_
            refine lv_iload hx hb dL_isRound_149 (lv_at hl 0 rfl) ?_
            refine lv_iadd hx hb dL_isRound_151 ?_
            obtain ⟨g21, hs⟩ := gd_some hs
            refine gz_ld hF hW g21 dL_isRound_152 ?_
            refine lv_if_ne (tgt := 171) hx hb dL_isRound_153 (by decide) (fun c22 => ?_) (fun c22 => ?_)
            · have hs := ite_f hs c22
              exact hj17 _ _ _ hs hW hS (lv_sub hl [0, 1, 2, 3, 4, 5, 6, 8] rfl)
            · have hs := ite_t hs c22
              refine lv_aload_n hx hb dL_isRound_156 rfl (lv_at hl 2 rfl) ?_
              refine lv_iload hx hb dL_isRound_157 (lv_at hl 0 rfl) ?_
              refine lv_iconst (v := (1 : Int32)) hx hb dL_isRound_159 (by decide) ?_
              obtain ⟨q23, hq23, hs⟩ := obind_e hs
              refine end_iB hW (run_VN (q := (RX4, TX4, 11)) (ci := 4) hF hKK hW.1 hS hl.1 kx0 (by decide) rfl (c_X4_bankOf l hOK kx0 hq23) (kw_L_34 hF.2.2.2.2 ⟨Nat.le_of_ble_eq_true rfl, Nat.le_of_ble_eq_true rfl⟩) rfl rfl (Nat.le_of_ble_eq_true rfl) dL_isRound_160 ⟨Nat.le_of_ble_eq_true rfl, Nat.le_of_ble_eq_true rfl⟩) hS (fun H locs hW hS => ?_)
              refine lv_iload_n hx hb dL_isRound_163 rfl (lv_at hl 5 rfl) ?_
              refine lv_icmp_ne (tgt := 171) hx hb dL_isRound_164 (by decide) (fun c24 => ?_) (fun c24 => ?_)
              · have hs := ite_f hs c24
                exact hj17 _ _ _ hs hW hS (lv_sub hl [0, 1, 2, 3, 4, 5, 6, 8] rfl)
              · have hs := ite_t hs c24
                refine lv_iconst (v := (1 : Int32)) hx hb dL_isRound_167 (by decide) ?_
                refine lv_goto (tgt := 172) hx hb dL_isRound_168 (by decide) ?_
                exact hj13 (1 : Int32) _ _ _ hs hW hS (lv_sub hl [0, 1, 2, 3, 4, 5, 6, 8] rfl)

set_option maxHeartbeats 4000000 in
set_option maxRecDepth 100000 in
theorem c_L_isRound (l : Launch) {G : va_G} {Λ : Lay} {μ : Mem} (hOK : LayOK Λ) {a0 : Nat} (k0 : inK Λ a0 4) {a1 : Int32} {r : Int32} (hs : sL_isRound Λ μ a0 a1 = some r) : CA l G Λ yL_isRound cL_isRound 9 (some .boolean) 7 1 144 μ [.ref a0, .int a1] r μ := by
  refine ofA (own := RL) (by decide +kernel) rfl (Nat.le_of_ble_eq_true rfl) (fun p e s m args below meth c ls hF hKK hW hr hlocks hl => ?_)
  have hx := hF.1
  have hb := hF.2.1
  have hA : ∀ q, inL Λ q → AN Λ s.heap.size q := fun _ h => Or.inl h
  have hS : va_S (AN Λ s.heap.size) s.heap s.heap [] := va_S.rf
  have hl : lv_has ls 9 [(0, .ref a0), (1, .int a1)] := hl
  unfold sL_isRound at hs
  refine lv_aload_n hx hb dL_isRound_0 rfl (lv_at hl 0 rfl) ?_
  refine lv_iload_n hx hb dL_isRound_1 rfl (lv_at hl 1 rfl) ?_
  refine lv_iconst (v := (1 : Int32)) hx hb dL_isRound_2 (by decide) ?_
  obtain ⟨q1, hq1, hs⟩ := obind_e hs
  refine end_iN (run_VN (q := (RX4, TX4, 11)) (ci := 4) hF hKK hW hS hl.1 k0 (by decide) rfl (c_X4_partOf l hOK k0 hq1) (kw_L_75 hF.2.2.2.2 ⟨Nat.le_of_ble_eq_true rfl, Nat.le_of_ble_eq_true rfl⟩) rfl rfl (Nat.le_of_ble_eq_true rfl) dL_isRound_3 ⟨Nat.le_of_ble_eq_true rfl, Nat.le_of_ble_eq_true rfl⟩) hS (fun H locs hW hS => ?_)
  refine lv_istore_n (lv' := [(2, .int q1), (0, .ref a0), (1, .int a1)]) hx hb dL_isRound_6 rfl hl (by decide) rfl (fun ls hl => ?_)
  refine lv_aload_n hx hb dL_isRound_7 rfl (lv_at hl 1 rfl) ?_
  refine lv_iload_n hx hb dL_isRound_8 rfl (lv_at hl 2 rfl) ?_
  refine lv_iconst (v := (1 : Int32)) hx hb dL_isRound_9 (by decide) ?_
  obtain ⟨q2, hq2, hs⟩ := obind_e hs
  refine end_iN (run_VN (q := (RX4, TX4, 11)) (ci := 4) hF hKK hW hS hl.1 k0 (by decide) rfl (c_X4_bankOf l hOK k0 hq2) (kw_L_34 hF.2.2.2.2 ⟨Nat.le_of_ble_eq_true rfl, Nat.le_of_ble_eq_true rfl⟩) rfl rfl (Nat.le_of_ble_eq_true rfl) dL_isRound_10 ⟨Nat.le_of_ble_eq_true rfl, Nat.le_of_ble_eq_true rfl⟩) hS (fun H locs hW hS => ?_)
  refine lv_istore_n (lv' := [(3, .int q2), (2, .int q1), (0, .ref a0), (1, .int a1)]) hx hb dL_isRound_13 rfl hl (by decide) rfl (fun ls hl => ?_)
  refine lv_sipush (v := (144 : Int32)) hx hb dL_isRound_14 (by decide) ?_
  refine gz_new hOK hF wd_665 hKK hW hS rfl (Nat.le_of_ble_eq_true rfl) (Nat.le_of_ble_eq_true rfl) dL_isRound_17 (fun b3 H hW hS => ?_)
  refine lv_astore (lv' := [(4, .ref b3), (3, .int q2), (2, .int q1), (0, .ref a0), (1, .int a1)]) hx hb dL_isRound_19 hl (by decide) rfl (fun ls hl => ?_)
  refine lv_iload_n hx hb dL_isRound_21 rfl (lv_at hl 2 rfl) ?_
  refine lv_iconst (v := (2 : Int32)) hx hb dL_isRound_22 (by decide) ?_
  refine lv_aload_n hx hb dL_isRound_23 rfl (lv_at hl 3 rfl) ?_
  refine lv_iload_n hx hb dL_isRound_24 rfl (lv_at hl 4 rfl) ?_
  refine lv_iconst (v := (0 : Int32)) hx hb dL_isRound_25 (by decide) ?_
  obtain ⟨q4, hq4, hs⟩ := obind_e hs
  refine end_iB hW (run_VN (q := (RX4, TX4, 11)) (ci := 4) hF hKK hW.1 hS hl.1 k0 (by decide) rfl (c_X4_partOf l hOK k0 hq4) (kw_L_75 hF.2.2.2.2 ⟨Nat.le_of_ble_eq_true rfl, Nat.le_of_ble_eq_true rfl⟩) rfl rfl (Nat.le_of_ble_eq_true rfl) dL_isRound_26 ⟨Nat.le_of_ble_eq_true rfl, Nat.le_of_ble_eq_true rfl⟩) hS (fun H locs hW hS => ?_)
  refine lv_imul hx hb dL_isRound_29 ?_
  refine lv_iconst (v := (1 : Int32)) hx hb dL_isRound_30 (by decide) ?_
  refine lv_isub hx hb dL_isRound_31 ?_
  obtain ⟨kj5, ekj5, hs⟩ := bnd_e hs
  have hj5 : ∀ (j5 : Int32) (H : Heap) (locs : List Loc) (ls : Array Slot), kj5 j5 = some r → WdB G Λ μ s b3 (fun _ => 0) H → va_S (AN Λ s.heap.size) s.heap H locs → lv_has ls 9 [(4, .ref b3), (3, .int q2), (2, .int q1), (0, .ref a0), (1, .int a1)] → W p l e (nrm 7 1 144) s m args below meth c H locs (0 + 1) (0 + 144) (MQ below (QA G Λ r μ s.heap.size) args s 1 144 (AN Λ s.heap.size)) (F0 m 82 ls [.int j5]) := by
    intro j5 H locs ls hs hW hS hl
    have hs := kj1 ekj5 hs
    refine lv_istore (lv' := [(5, .int j5), (4, .ref b3), (3, .int q2), (2, .int q1), (0, .ref a0), (1, .int a1)]) hx hb dL_isRound_82 hl (by decide) rfl (fun ls hl => ?_)
    refine lv_iconst (v := (1 : Int32)) hx hb dL_isRound_84 (by decide) ?_
    refine lv_istore (lv' := [(6, .int (1 : Int32)), (5, .int j5), (4, .ref b3), (3, .int q2), (2, .int q1), (0, .ref a0), (1, .int a1)]) hx hb dL_isRound_85 hl (by decide) rfl (fun ls hl => ?_)
    exact cl_L_isRound_87 hOK hF hKK hr hlocks k0 fuel j5 (1 : Int32) (fun _ => 0) _ _ _ hs hW hS (lv_sub hl [5, 6, 4, 3, 2, 1, 0] rfl)
  obtain ⟨kj25, ekj25, hs⟩ := bnd_e hs
  have hj25 : ∀ (H : Heap) (locs : List Loc) (ls : Array Slot), kj25 = some r → WdB G Λ μ s b3 (fun _ => 0) H → va_S (AN Λ s.heap.size) s.heap H locs → lv_has ls 9 [(4, .ref b3), (3, .int q2), (2, .int q1), (0, .ref a0), (1, .int a1)] → W p l e (nrm 7 1 144) s m args below meth c H locs (0 + 1) (0 + 144) (MQ below (QA G Λ r μ s.heap.size) args s 1 144 (AN Λ s.heap.size)) (F0 m 81 ls []) := by
    intro  H locs ls hs hW hS hl
    have hs := ekj25.symm.trans hs
    refine lv_iconst (v := (0 : Int32)) hx hb dL_isRound_81 (by decide) ?_
    exact hj5 (0 : Int32) _ _ _ hs hW hS (lv_sub hl [0, 1, 2, 3, 4] rfl)
  refine lv_icmp_ne (tgt := 81) hx hb dL_isRound_32 (by decide) (fun c26 => ?_) (fun c26 => ?_)
  · have hs := ite_f hs c26
    exact hj25 _ _ _ hs hW hS (lv_sub hl [0, 1, 2, 3, 4] rfl)
  · have hs := ite_t hs c26
    refine lv_aload_n hx hb dL_isRound_35 rfl (lv_at hl 3 rfl) ?_
    refine lv_iload_n hx hb dL_isRound_36 rfl (lv_at hl 4 rfl) ?_
    refine lv_iconst (v := (0 : Int32)) hx hb dL_isRound_37 (by decide) ?_
    obtain ⟨q27, hq27, hs⟩ := obind_e hs
    refine end_iB hW (run_VN (q := (RX4, TX4, 11)) (ci := 4) hF hKK hW.1 hS hl.1 k0 (by decide) rfl (c_X4_inRound l hOK k0 hq27) (kw_L_78 hF.2.2.2.2 ⟨Nat.le_of_ble_eq_true rfl, Nat.le_of_ble_eq_true rfl⟩) rfl rfl (Nat.le_of_ble_eq_true rfl) dL_isRound_38 ⟨Nat.le_of_ble_eq_true rfl, Nat.le_of_ble_eq_true rfl⟩) hS (fun H locs hW hS => ?_)
    refine lv_iload_n hx hb dL_isRound_41 rfl (lv_at hl 1 rfl) ?_
    refine lv_icmp_ne (tgt := 81) hx hb dL_isRound_42 (by decide) (fun c28 => ?_) (fun c28 => ?_)
    · have hs := ite_f hs c28
      exact hj25 _ _ _ hs hW hS (lv_sub hl [0, 1, 2, 3, 4] rfl)
    · have hs := ite_t hs c28
      refine lv_aload_n hx hb dL_isRound_45 rfl (lv_at hl 3 rfl) ?_
      refine lv_iload_n hx hb dL_isRound_46 rfl (lv_at hl 4 rfl) ?_
      refine lv_iload_n hx hb dL_isRound_47 rfl (lv_at hl 2 rfl) ?_
      refine lv_iconst (v := (1 : Int32)) hx hb dL_isRound_48 (by decide) ?_
      refine lv_isub hx hb dL_isRound_49 ?_
      obtain ⟨q29, hq29, hs⟩ := obind_e hs
      refine end_iB hW (run_VN (q := (RX4, TX4, 11)) (ci := 4) hF hKK hW.1 hS hl.1 k0 (by decide) rfl (c_X4_inRound l hOK k0 hq29) (kw_L_78 hF.2.2.2.2 ⟨Nat.le_of_ble_eq_true rfl, Nat.le_of_ble_eq_true rfl⟩) rfl rfl (Nat.le_of_ble_eq_true rfl) dL_isRound_50 ⟨Nat.le_of_ble_eq_true rfl, Nat.le_of_ble_eq_true rfl⟩) hS (fun H locs hW hS => ?_)
      refine lv_iload_n hx hb dL_isRound_53 rfl (lv_at hl 1 rfl) ?_
      refine lv_icmp_ne (tgt := 81) hx hb dL_isRound_54 (by decide) (fun c30 => ?_) (fun c30 => ?_)
      · have hs := ite_f hs c30
        exact hj25 _ _ _ hs hW hS (lv_sub hl [0, 1, 2, 3, 4] rfl)
      · have hs := ite_t hs c30
        refine lv_aload_n hx hb dL_isRound_57 rfl (lv_at hl 3 rfl) ?_
        refine lv_iload_n hx hb dL_isRound_58 rfl (lv_at hl 4 rfl) ?_
        refine lv_iload_n hx hb dL_isRound_59 rfl (lv_at hl 2 rfl) ?_
        obtain ⟨q31, hq31, hs⟩ := obind_e hs
        refine end_iB hW (run_VN (q := (RX4, TX4, 11)) (ci := 4) hF hKK hW.1 hS hl.1 k0 (by decide) rfl (c_X4_inRound l hOK k0 hq31) (kw_L_78 hF.2.2.2.2 ⟨Nat.le_of_ble_eq_true rfl, Nat.le_of_ble_eq_true rfl⟩) rfl rfl (Nat.le_of_ble_eq_true rfl) dL_isRound_60 ⟨Nat.le_of_ble_eq_true rfl, Nat.le_of_ble_eq_true rfl⟩) hS (fun H locs hW hS => ?_)
        refine lv_iconst (v := (-1 : Int32)) hx hb dL_isRound_63 (by decide) ?_
        refine lv_icmp_ne (tgt := 81) hx hb dL_isRound_64 (by decide) (fun c32 => ?_) (fun c32 => ?_)
        · have hs := ite_f hs c32
          exact hj25 _ _ _ hs hW hS (lv_sub hl [0, 1, 2, 3, 4] rfl)
        · have hs := ite_t hs c32
          refine lv_aload_n hx hb dL_isRound_67 rfl (lv_at hl 3 rfl) ?_
          refine lv_iload_n hx hb dL_isRound_68 rfl (lv_at hl 4 rfl) ?_
          refine lv_iconst (v := (-1 : Int32)) hx hb dL_isRound_69 (by decide) ?_
          obtain ⟨q33, hq33, hs⟩ := obind_e hs
          refine end_iB hW (run_VN (q := (RX4, TX4, 11)) (ci := 4) hF hKK hW.1 hS hl.1 k0 (by decide) rfl (c_X4_inRound l hOK k0 hq33) (kw_L_78 hF.2.2.2.2 ⟨Nat.le_of_ble_eq_true rfl, Nat.le_of_ble_eq_true rfl⟩) rfl rfl (Nat.le_of_ble_eq_true rfl) dL_isRound_70 ⟨Nat.le_of_ble_eq_true rfl, Nat.le_of_ble_eq_true rfl⟩) hS (fun H locs hW hS => ?_)
          refine lv_iconst (v := (-1 : Int32)) hx hb dL_isRound_73 (by decide) ?_
          refine lv_icmp_ne (tgt := 81) hx hb dL_isRound_74 (by decide) (fun c34 => ?_) (fun c34 => ?_)
          · have hs := ite_f hs c34
            exact hj25 _ _ _ hs hW hS (lv_sub hl [0, 1, 2, 3, 4] rfl)
          · have hs := ite_t hs c34
            refine lv_iconst (v := (1 : Int32)) hx hb dL_isRound_77 (by decide) ?_
            refine lv_goto (tgt := 82) hx hb dL_isRound_78 (by decide) ?_
            exact hj5 (1 : Int32) _ _ _ hs hW hS (lv_sub hl [0, 1, 2, 3, 4] rfl)

set_option maxHeartbeats 4000000 in
set_option maxRecDepth 100000 in
theorem cl_L_areParts_41 {p : Program} {l : Launch} {e : Env} {s : State} {m : MethodId} {args : Array Value} {below : List Frame} {meth : Method} {c : Code} {G : va_G} {Λ : Lay} {μ : Mem} {r : Int32} (hOK : LayOK Λ) (hF : CallFix p m c cL_areParts 8 s args tw RL) (hKK : KK G Λ s) (hr : meth.sig.returnType = (some .boolean)) (hlocks : meth.locks = false) {x0 : Nat} (kx0 : inK Λ x0 4) {x1 : Int32} : ∀ (n : Nat) (x2 : Int32) (x3 : Int32) (x4 : Int32) (x5 : Int32) (x6 : Int32) (H : Heap) (locs : List Loc) (ls : Array Slot), lpL_areParts_41 Λ μ x0 x1 n x2 x3 x4 x5 x6 = some r → x6.toNatClampNeg ≤ 12 → Wd G Λ μ H → va_S (AN Λ s.heap.size) s.heap H locs → lv_has ls 8 [(0, .ref x0), (1, .int x1), (2, .int x2), (3, .int x3), (4, .int x4), (5, .int x5), (6, .int x6)] → W p l e (nrm 8 12 1728) s m args below meth c H locs x6.toNatClampNeg (144 * x6.toNatClampNeg) (MQ below (QA G Λ r μ s.heap.size) args s 12 1728 (AN Λ s.heap.size)) (F0 m 41 ls []) := by
  have hx := hF.1
  have hb := hF.2.1
  have hA : ∀ q, inL Λ q → AN Λ s.heap.size q := fun _ h => Or.inl h
  intro n
  induction n with
  | zero =>
    intro x2 x3 x4 x5 x6 H locs ls hs hc hW hS hl
    cases hs
  | succ n41 ih41 =>
    intro x2 x3 x4 x5 x6 H locs ls hs hc hW hS hl
    rw [lpL_areParts_41_s] at hs
    refine lv_iload hx hb dL_areParts_41 (lv_at hl 5 rfl) ?_
    obtain ⟨kj4, ekj4, hs⟩ := bnd_e hs
    have hj4 : ∀ (H : Heap) (locs : List Loc) (ls : Array Slot), kj4 = some r → Wd G Λ μ H → va_S (AN Λ s.heap.size) s.heap H locs → lv_has ls 8 [(0, .ref x0), (1, .int x1), (2, .int x2), (3, .int x3), (4, .int x4), (5, .int x5)] → W p l e (nrm 8 12 1728) s m args below meth c H locs x6.toNatClampNeg (144 * x6.toNatClampNeg) (MQ below (QA G Λ r μ s.heap.size) args s 12 1728 (AN Λ s.heap.size)) (F0 m 194 ls []) := by
      intro  H locs ls hs hW hS hl
      have hs := ekj4.symm.trans hs
      refine lv_iload hx hb dL_areParts_194 (lv_at hl 5 rfl) ?_
      obtain ⟨kj5, ekj5, hs⟩ := bnd_e hs
      have hj5 : ∀ (j5 : Int32) (H : Heap) (locs : List Loc) (ls : Array Slot), kj5 j5 = some r → Wd G Λ μ H → va_S (AN Λ s.heap.size) s.heap H locs → lv_has ls 8 [] → W p l e (nrm 8 12 1728) s m args below meth c H locs x6.toNatClampNeg (144 * x6.toNatClampNeg) (MQ below (QA G Λ r μ s.heap.size) args s 12 1728 (AN Λ s.heap.size)) (F0 m 267 ls [.int j5]) := by
        intro j5 H locs ls hs hW hS hl
        have hs := kj1 ekj5 hs
        obtain ⟨g6, hs⟩ := gd_some hs
        have h9 := Option.some.inj hs
        rw [← h9]
        exact wr_iN hF hr hlocks (isB_nar g6) hW hS (by omega) (by omega) dL_areParts_267
      obtain ⟨kj7, ekj7, hs⟩ := bnd_e hs
      have hj7 : ∀ (H : Heap) (locs : List Loc) (ls : Array Slot), kj7 = some r → Wd G Λ μ H → va_S (AN Λ s.heap.size) s.heap H locs → lv_has ls 8 [] → W p l e (nrm 8 12 1728) s m args below meth c H locs x6.toNatClampNeg (144 * x6.toNatClampNeg) (MQ below (QA G Λ r μ s.heap.size) args s 12 1728 (AN Λ s.heap.size)) (F0 m 266 ls []) := by
        intro  H locs ls hs hW hS hl
        have hs := ekj7.symm.trans hs
        refine lv_iconst (v := (0 : Int32)) hx hb dL_areParts_266 (by decide) ?_
        exact hj5 (0 : Int32) _ _ _ hs hW hS (lv_sub hl [] rfl)
      refine lv_if_eq (tgt := 266) hx hb dL_areParts_196 (by decide) (fun c8 => ?_) (fun c8 => ?_)
      · have hs := ite_t hs c8
        exact hj7 _ _ _ hs hW hS (lv_sub hl [] rfl)
      · have hs := ite_f hs c8
        refine lv_iload_n hx hb dL_areParts_199 rfl (lv_at hl 2 rfl) ?_
        refine lv_aload_n hx hb dL_areParts_200 rfl (lv_at hl 0 rfl) ?_
        refine lv_iconst (v := (0 : Int32)) hx hb dL_areParts_201 (by decide) ?_
        obtain ⟨q9, hq9, hs⟩ := obind_e hs
        refine end_iN (run_VN (q := (RX4, TX4, 11)) (ci := 4) hF hKK hW hS hl.1 kx0 (by decide) rfl (c_X4_account l hOK kx0 hq9) (kw_L_72 hF.2.2.2.2 ⟨Nat.le_of_ble_eq_true rfl, Nat.le_of_ble_eq_true rfl⟩) rfl rfl (Nat.le_of_ble_eq_true rfl) dL_areParts_202 ⟨(by show _ ≤ 12; omega), (by show _ ≤ 1728; omega)⟩) hS (fun H locs hW hS => ?_)
        refine lv_icmp_ne (tgt := 266) hx hb dL_areParts_205 (by decide) (fun c10 => ?_) (fun c10 => ?_)
        · have hs := ite_f hs c10
          exact hj7 _ _ _ hs hW hS (lv_sub hl [] rfl)
        · have hs := ite_t hs c10
          refine lv_iload_n hx hb dL_areParts_208 rfl (lv_at hl 3 rfl) ?_
          refine lv_aload_n hx hb dL_areParts_209 rfl (lv_at hl 0 rfl) ?_
          refine lv_iconst (v := (3 : Int32)) hx hb dL_areParts_210 (by decide) ?_
          obtain ⟨q11, hq11, hs⟩ := obind_e hs
          refine end_iN (run_VN (q := (RX4, TX4, 11)) (ci := 4) hF hKK hW hS hl.1 kx0 (by decide) rfl (c_X4_account l hOK kx0 hq11) (kw_L_72 hF.2.2.2.2 ⟨Nat.le_of_ble_eq_true rfl, Nat.le_of_ble_eq_true rfl⟩) rfl rfl (Nat.le_of_ble_eq_true rfl) dL_areParts_211 ⟨(by show _ ≤ 12; omega), (by show _ ≤ 1728; omega)⟩) hS (fun H locs hW hS => ?_)
          refine lv_icmp_ne (tgt := 266) hx hb dL_areParts_214 (by decide) (fun c12 => ?_) (fun c12 => ?_)
          · have hs := ite_f hs c12
            exact hj7 _ _ _ hs hW hS (lv_sub hl [] rfl)
          · have hs := ite_t hs c12
            refine lv_iload hx hb dL_areParts_217 (lv_at hl 4 rfl) ?_
            refine lv_aload_n hx hb dL_areParts_219 rfl (lv_at hl 0 rfl) ?_
            refine lv_iconst (v := (4 : Int32)) hx hb dL_areParts_220 (by decide) ?_
            obtain ⟨q13, hq13, hs⟩ := obind_e hs
            refine end_iN (run_VN (q := (RX4, TX4, 11)) (ci := 4) hF hKK hW hS hl.1 kx0 (by decide) rfl (c_X4_account l hOK kx0 hq13) (kw_L_72 hF.2.2.2.2 ⟨Nat.le_of_ble_eq_true rfl, Nat.le_of_ble_eq_true rfl⟩) rfl rfl (Nat.le_of_ble_eq_true rfl) dL_areParts_221 ⟨(by show _ ≤ 12; omega), (by show _ ≤ 1728; omega)⟩) hS (fun H locs hW hS => ?_)
            refine lv_icmp_ne (tgt := 266) hx hb dL_areParts_224 (by decide) (fun c14 => ?_) (fun c14 => ?_)
            · have hs := ite_f hs c14
              exact hj7 _ _ _ hs hW hS (lv_sub hl [] rfl)
            · have hs := ite_t hs c14
              refine lv_aload_n hx hb dL_areParts_227 rfl (lv_at hl 0 rfl) ?_
              refine lv_iconst (v := (1 : Int32)) hx hb dL_areParts_228 (by decide) ?_
              obtain ⟨q15, hq15, hs⟩ := obind_e hs
              refine end_iN (run_VN (q := (RX4, TX4, 11)) (ci := 4) hF hKK hW hS hl.1 kx0 (by decide) rfl (c_X4_account l hOK kx0 hq15) (kw_L_72 hF.2.2.2.2 ⟨Nat.le_of_ble_eq_true rfl, Nat.le_of_ble_eq_true rfl⟩) rfl rfl (Nat.le_of_ble_eq_true rfl) dL_areParts_229 ⟨(by show _ ≤ 12; omega), (by show _ ≤ 1728; omega)⟩) hS (fun H locs hW hS => ?_)
              refine lv_aload_n hx hb dL_areParts_232 rfl (lv_at hl 0 rfl) ?_
              refine lv_iconst (v := (0 : Int32)) hx hb dL_areParts_233 (by decide) ?_
              obtain ⟨q16, hq16, hs⟩ := obind_e hs
              refine end_iN (run_VN (q := (RX4, TX4, 11)) (ci := 4) hF hKK hW hS hl.1 kx0 (by decide) rfl (c_X4_account l hOK kx0 hq16) (kw_L_72 hF.2.2.2.2 ⟨Nat.le_of_ble_eq_true rfl, Nat.le_of_ble_eq_true rfl⟩) rfl rfl (Nat.le_of_ble_eq_true rfl) dL_areParts_234 ⟨(by show _ ≤ 12; omega), (by show _ ≤ 1728; omega)⟩) hS (fun H locs hW hS => ?_)
              refine lv_iload_n hx hb dL_areParts_237 rfl (lv_at hl 1 rfl) ?_
              refine lv_isub hx hb dL_areParts_238 ?_
              refine lv_icmp_ne (tgt := 266) hx hb dL_areParts_239 (by decide) (fun c17 => ?_) (fun c17 => ?_)
              · have hs := ite_f hs c17
                exact hj7 _ _ _ hs hW hS (lv_sub hl [] rfl)
              · have hs := ite_t hs c17
                refine lv_aload_n hx hb dL_areParts_242 rfl (lv_at hl 0 rfl) ?_
                refine lv_iconst (v := (5 : Int32)) hx hb dL_areParts_243 (by decide) ?_
                obtain ⟨q18, hq18, hs⟩ := obind_e hs
                refine end_iN (run_VN (q := (RX4, TX4, 11)) (ci := 4) hF hKK hW hS hl.1 kx0 (by decide) rfl (c_X4_account l hOK kx0 hq18) (kw_L_72 hF.2.2.2.2 ⟨Nat.le_of_ble_eq_true rfl, Nat.le_of_ble_eq_true rfl⟩) rfl rfl (Nat.le_of_ble_eq_true rfl) dL_areParts_244 ⟨(by show _ ≤ 12; omega), (by show _ ≤ 1728; omega)⟩) hS (fun H locs hW hS => ?_)
                refine lv_aload_n hx hb dL_areParts_247 rfl (lv_at hl 0 rfl) ?_
                refine lv_bipush (v := (6 : Int32)) hx hb dL_areParts_248 (by decide) ?_
                obtain ⟨q19, hq19, hs⟩ := obind_e hs
                refine end_iN (run_VN (q := (RX4, TX4, 11)) (ci := 4) hF hKK hW hS hl.1 kx0 (by decide) rfl (c_X4_account l hOK kx0 hq19) (kw_L_72 hF.2.2.2.2 ⟨Nat.le_of_ble_eq_true rfl, Nat.le_of_ble_eq_true rfl⟩) rfl rfl (Nat.le_of_ble_eq_true rfl) dL_areParts_250 ⟨(by show _ ≤ 12; omega), (by show _ ≤ 1728; omega)⟩) hS (fun H locs hW hS => ?_)
                refine lv_isub hx hb dL_areParts_253 ?_
                refine lv_aload_n hx hb dL_areParts_254 rfl (lv_at hl 0 rfl) ?_
                refine lv_iconst (v := (1 : Int32)) hx hb dL_areParts_255 (by decide) ?_
                obtain ⟨q20, hq20, hs⟩ := obind_e hs
                refine end_iN (run_VN (q := (RX4, TX4, 11)) (ci := 4) hF hKK hW hS hl.1 kx0 (by decide) rfl (c_X4_account l hOK kx0 hq20) (kw_L_72 hF.2.2.2.2 ⟨Nat.le_of_ble_eq_true rfl, Nat.le_of_ble_eq_true rfl⟩) rfl rfl (Nat.le_of_ble_eq_true rfl) dL_areParts_256 ⟨(by show _ ≤ 12; omega), (by show _ ≤ 1728; omega)⟩) hS (fun H locs hW hS => ?_)
                refine lv_icmp_ne (tgt := 266) hx hb dL_areParts_259 (by decide) (fun c21 => ?_) (fun c21 => ?_)
                · have hs := ite_f hs c21
                  exact hj7 _ _ _ hs hW hS (lv_sub hl [] rfl)
                · have hs := ite_t hs c21
                  refine lv_iconst (v := (1 : Int32)) hx hb dL_areParts_262 (by decide) ?_
                  refine lv_goto (tgt := 267) hx hb dL_areParts_263 (by decide) ?_
                  exact hj5 (1 : Int32) _ _ _ hs hW hS (lv_sub hl [] rfl)
    refine lv_if_eq (tgt := 194) hx hb dL_areParts_43 (by decide) (fun c22 => ?_) (fun c22 => ?_)
    · have hs := ite_t hs c22
      exact hj4 _ _ _ hs hW hS (lv_sub hl [0, 1, 2, 3, 4, 5] rfl)
    · have hs := ite_f hs c22
      refine lv_iload hx hb dL_areParts_46 (lv_at hl 6 rfl) ?_
      refine lv_iload_n hx hb dL_areParts_48 rfl (lv_at hl 1 rfl) ?_
      refine lv_icmp_ge (tgt := 194) hx hb dL_areParts_49 (by decide) (fun c23 => ?_) (fun c23 => ?_)
      · have hs := ite_t hs c23
        exact hj4 _ _ _ hs hW hS (lv_sub hl [0, 1, 2, 3, 4, 5] rfl)
      · have hs := ite_f hs c23
        obtain ⟨g24, hs⟩ := gd_some hs
        refine lv_aload_n hx hb dL_areParts_52 rfl (lv_at hl 0 rfl) ?_
        refine lv_iload hx hb dL_areParts_53 (lv_at hl 6 rfl) ?_
        obtain ⟨q25, hq25, hs⟩ := obind_e hs
        refine end_iN (run_VN (q := (RX4, TX4, 11)) (ci := 4) hF hKK hW hS hl.1 kx0 (by decide) rfl (c_X4_ranked l hOK kx0 hq25) (kw_L_118 hF.2.2.2.2 ⟨Nat.le_of_ble_eq_true rfl, Nat.le_of_ble_eq_true rfl⟩) rfl rfl (Nat.le_of_ble_eq_true rfl) dL_areParts_55 ⟨(by have := inb_lt g24; show _ ≤ 12; omega), (by have := inb_lt g24; show _ ≤ 1728; omega)⟩) hS (fun H locs hW hS => ?_)
        refine lv_istore (lv' := [(7, .int q25), (0, .ref x0), (1, .int x1), (2, .int x2), (3, .int x3), (4, .int x4), (5, .int x5), (6, .int x6)]) hx hb dL_areParts_58 hl (by decide) rfl (fun ls hl => ?_)
        refine lv_iload_n hx hb dL_areParts_60 rfl (lv_at hl 3 rfl) ?_
        refine lv_aload_n hx hb dL_areParts_61 rfl (lv_at hl 1 rfl) ?_
        refine lv_iload hx hb dL_areParts_62 (lv_at hl 0 rfl) ?_
        refine lv_iconst (v := (0 : Int32)) hx hb dL_areParts_64 (by decide) ?_
        obtain ⟨q26, hq26, hs⟩ := obind_e hs
        refine end_iN (run_VN (q := (RX4, TX4, 11)) (ci := 4) hF hKK hW hS hl.1 kx0 (by decide) rfl (c_X4_partOf l hOK kx0 hq26) (kw_L_75 hF.2.2.2.2 ⟨Nat.le_of_ble_eq_true rfl, Nat.le_of_ble_eq_true rfl⟩) rfl rfl (Nat.le_of_ble_eq_true rfl) dL_areParts_65 ⟨(by have := inb_lt g24; show _ ≤ 12; omega), (by have := inb_lt g24; show _ ≤ 1728; omega)⟩) hS (fun H locs hW hS => ?_)
        refine lv_iadd hx hb dL_areParts_68 ?_
        obtain ⟨v27, ev27, hs⟩ := bnd_e hs
        refine top_i ev27 ?_
        refine lv_istore_n (lv' := [(2, .int v27), (7, .int q25), (0, .ref x0), (1, .int x1), (3, .int x3), (4, .int x4), (5, .int x5), (6, .int x6)]) hx hb dL_areParts_69 rfl hl (by decide) rfl (fun ls hl => ?_)
        refine lv_iload_n hx hb dL_areParts_70 rfl (lv_at hl 4 rfl) ?_
        refine lv_aload_n hx hb dL_areParts_71 rfl (lv_at hl 2 rfl) ?_
        refine lv_iload hx hb dL_areParts_72 (lv_at hl 1 rfl) ?_
        refine lv_iconst (v := (2 : Int32)) hx hb dL_areParts_74 (by decide) ?_
        obtain ⟨q28, hq28, hs⟩ := obind_e hs
        refine end_iN (run_VN (q := (RX4, TX4, 11)) (ci := 4) hF hKK hW hS hl.1 kx0 (by decide) rfl (c_X4_partOf l hOK kx0 hq28) (kw_L_75 hF.2.2.2.2 ⟨Nat.le_of_ble_eq_true rfl, Nat.le_of_ble_eq_true rfl⟩) rfl rfl (Nat.le_of_ble_eq_true rfl) dL_areParts_75 ⟨(by have := inb_lt g24; show _ ≤ 12; omega), (by have := inb_lt g24; show _ ≤ 1728; omega)⟩) hS (fun H locs hW hS => ?_)
        refine lv_iadd hx hb dL_areParts_78 ?_
        obtain ⟨v29, ev29, hs⟩ := bnd_e hs
        refine top_i ev29 ?_
        refine lv_istore_n (lv' := [(3, .int v29), (2, .int v27), (7, .int q25), (0, .ref x0), (1, .int x1), (4, .int x4), (5, .int x5), (6, .int x6)]) hx hb dL_areParts_79 rfl hl (by decide) rfl (fun ls hl => ?_)
        refine lv_iload hx hb dL_areParts_80 (lv_at hl 5 rfl) ?_
        refine lv_aload_n hx hb dL_areParts_82 rfl (lv_at hl 3 rfl) ?_
        refine lv_iload hx hb dL_areParts_83 (lv_at hl 2 rfl) ?_
        refine lv_iconst (v := (1 : Int32)) hx hb dL_areParts_85 (by decide) ?_
        obtain ⟨q30, hq30, hs⟩ := obind_e hs
        refine end_iN (run_VN (q := (RX4, TX4, 11)) (ci := 4) hF hKK hW hS hl.1 kx0 (by decide) rfl (c_X4_partOf l hOK kx0 hq30) (kw_L_75 hF.2.2.2.2 ⟨Nat.le_of_ble_eq_true rfl, Nat.le_of_ble_eq_true rfl⟩) rfl rfl (Nat.le_of_ble_eq_true rfl) dL_areParts_86 ⟨(by have := inb_lt g24; show _ ≤ 12; omega), (by have := inb_lt g24; show _ ≤ 1728; omega)⟩) hS (fun H locs hW hS => ?_)
        refine lv_iadd hx hb dL_areParts_89 ?_
        obtain ⟨v31, ev31, hs⟩ := bnd_e hs
        refine top_i ev31 ?_
        refine lv_istore (lv' := [(4, .int v31), (3, .int v29), (2, .int v27), (7, .int q25), (0, .ref x0), (1, .int x1), (5, .int x5), (6, .int x6)]) hx hb dL_areParts_90 hl (by decide) rfl (fun ls hl => ?_)
        refine lv_aload_n hx hb dL_areParts_92 rfl (lv_at hl 4 rfl) ?_
        refine lv_iload hx hb dL_areParts_93 (lv_at hl 3 rfl) ?_
        refine lv_iconst (v := (1 : Int32)) hx hb dL_areParts_95 (by decide) ?_
        obtain ⟨q32, hq32, hs⟩ := obind_e hs
        refine end_iN (run_VN (q := (RX4, TX4, 11)) (ci := 4) hF hKK hW hS hl.1 kx0 (by decide) rfl (c_X4_bankOf l hOK kx0 hq32) (kw_L_34 hF.2.2.2.2 ⟨Nat.le_of_ble_eq_true rfl, Nat.le_of_ble_eq_true rfl⟩) rfl rfl (Nat.le_of_ble_eq_true rfl) dL_areParts_96 ⟨(by have := inb_lt g24; show _ ≤ 12; omega), (by have := inb_lt g24; show _ ≤ 1728; omega)⟩) hS (fun H locs hW hS => ?_)
        refine lv_iload hx hb dL_areParts_99 (lv_at hl 3 rfl) ?_
        obtain ⟨kj33, ekj33, hs⟩ := bnd_e hs
        have hj33 : ∀ (j33 : Int32) (H : Heap) (locs : List Loc) (ls : Array Slot), kj33 j33 = some r → Wd G Λ μ H → va_S (AN Λ s.heap.size) s.heap H locs → lv_has ls 8 [(4, .int v31), (3, .int v29), (2, .int v27), (0, .ref x0), (1, .int x1), (6, .int x6)] → W p l e (nrm 8 12 1728) s m args below meth c H locs (x6.toNatClampNeg + 1) ((144 * x6.toNatClampNeg) + 144) (MQ below (QA G Λ r μ s.heap.size) args s 12 1728 (AN Λ s.heap.size)) (F0 m 186 ls [.int j33]) := by
          intro j33 H locs ls hs hW hS hl
          have hs := kj1 ekj33 hs
          refine lv_istore (lv' := [(5, .int j33), (4, .int v31), (3, .int v29), (2, .int v27), (0, .ref x0), (1, .int x1), (6, .int x6)]) hx hb dL_areParts_186 hl (by decide) rfl (fun ls hl => ?_)
          obtain ⟨v34, ev34, hs⟩ := bnd_e hs
          refine lv_iinc (v := v34) (lv' := [(6, .int v34), (5, .int j33), (4, .int v31), (3, .int v29), (2, .int v27), (0, .ref x0), (1, .int x1)]) hx hb dL_areParts_188 hl (k := 6) rfl (by rw [ev34]; rfl) (by decide) rfl (fun ls hl => ?_)
          refine lv_goto (tgt := 41) hx hb dL_areParts_191 (by decide) ?_
          refine W_cs (k := v34.toNatClampNeg) (n := 144 * v34.toNatClampNeg) (by rw [clamp_s g24 ev34]) (by rw [clamp_s g24 ev34]; omega) ?_
          exact ih41 v27 v29 v31 j33 v34 _ _ _ hs (by rw [clamp_s g24 ev34]; have := inb_lt g24; omega) hW hS (lv_sub hl [5, 6, 4, 3, 2, 1, 0] rfl)
        obtain ⟨kj35, ekj35, hs⟩ := bnd_e hs
        have hj35 : ∀ (H : Heap) (locs : List Loc) (ls : Array Slot), kj35 = some r → Wd G Λ μ H → va_S (AN Λ s.heap.size) s.heap H locs → lv_has ls 8 [(4, .int v31), (3, .int v29), (2, .int v27), (0, .ref x0), (1, .int x1), (6, .int x6)] → W p l e (nrm 8 12 1728) s m args below meth c H locs (x6.toNatClampNeg + 1) ((144 * x6.toNatClampNeg) + 144) (MQ below (QA G Λ r μ s.heap.size) args s 12 1728 (AN Λ s.heap.size)) (F0 m 185 ls []) := by
          intro  H locs ls hs hW hS hl
          have hs := ekj35.symm.trans hs
          refine lv_iconst (v := (0 : Int32)) hx hb dL_areParts_185 (by decide) ?_
          refine W.widen (k := (x6.toNatClampNeg + 1)) (n := ((144 * x6.toNatClampNeg) + 144)) (by omega) (by omega) ?_
          exact hj33 (0 : Int32) _ _ _ hs hW hS (lv_sub hl [0, 1, 2, 3, 4, 5] rfl)
        refine lv_icmp_ne (tgt := 185) hx hb dL_areParts_101 (by decide) (fun c36 => ?_) (fun c36 => ?_)
        · have hs := ite_f hs c36
          refine W.widen (k := (x6.toNatClampNeg + 1)) (n := ((144 * x6.toNatClampNeg) + 144)) (by omega) (by omega) ?_
          exact hj35 _ _ _ hs hW hS (lv_sub hl [0, 1, 2, 4, 5, 7] rfl)
        · have hs := ite_t hs c36
          refine lv_aload_n hx hb dL_areParts_104 rfl (lv_at hl 4 rfl) ?_
          refine lv_iload hx hb dL_areParts_105 (lv_at hl 3 rfl) ?_
          obtain ⟨q37, hq37, hs⟩ := obind_e hs
          refine run_SA hF hKK hW hS hl.1 (c_L_isRound l hOK kx0 hq37) (kw_L_121 hF.2.2.2.2 ⟨Nat.le_of_ble_eq_true rfl, Nat.le_of_ble_eq_true rfl⟩) rfl rfl (Nat.le_of_ble_eq_true rfl) dL_areParts_107 ⟨(by have := inb_lt g24; show _ ≤ 12; omega), (by have := inb_lt g24; show _ ≤ 1728; omega)⟩ (fun H locs hW hS => ?_)
          refine lv_if_eq (tgt := 185) hx hb dL_areParts_110 (by decide) (fun c38 => ?_) (fun c38 => ?_)
          · have hs := ite_t hs c38
            refine W.widen (k := (x6.toNatClampNeg + 1)) (n := ((144 * x6.toNatClampNeg) + 144)) (by omega) (by omega) ?_
            exact hj35 _ _ _ hs hW hS (lv_sub hl [0, 1, 2, 4, 5, 7] rfl)
          · have hs := ite_f hs c38
            refine lv_iload hx hb dL_areParts_113 (lv_at hl 7 rfl) ?_
            obtain ⟨kj39, ekj39, hs⟩ := bnd_e hs
            have hj39 : ∀ (H : Heap) (locs : List Loc) (ls : Array Slot), kj39 = some r → Wd G Λ μ H → va_S (AN Λ s.heap.size) s.heap H locs → lv_has ls 8 [(4, .int v31), (3, .int v29), (2, .int v27), (7, .int q25), (0, .ref x0), (1, .int x1), (6, .int x6)] → W p l e (nrm 8 12 1728) s m args below meth c H locs (x6.toNatClampNeg + 1) ((144 * x6.toNatClampNeg) + 144) (MQ below (QA G Λ r μ s.heap.size) args s 12 1728 (AN Λ s.heap.size)) (F0 m 135 ls []) := by
              intro  H locs ls hs hW hS hl
              have hs := ekj39.symm.trans hs
              refine lv_aload_n hx hb dL_areParts_135 rfl (lv_at hl 4 rfl) ?_
              refine lv_aload_n hx hb dL_areParts_136 rfl (lv_at hl 4 rfl) ?_
              refine lv_iload hx hb dL_areParts_137 (lv_at hl 3 rfl) ?_
              obtain ⟨q40, hq40, hs⟩ := obind_e hs
              refine end_iN (run_VN (q := (RX4, TX4, 11)) (ci := 4) hF hKK hW hS hl.1 kx0 (by decide) rfl (c_X4_middle l hOK kx0 hq40) (kw_L_128 hF.2.2.2.2 ⟨Nat.le_of_ble_eq_true rfl, Nat.le_of_ble_eq_true rfl⟩) rfl rfl (Nat.le_of_ble_eq_true rfl) dL_areParts_139 ⟨(by have := inb_lt g24; show _ ≤ 12; omega), (by have := inb_lt g24; show _ ≤ 1728; omega)⟩) hS (fun H locs hW hS => ?_)
              refine lv_iconst (v := (1 : Int32)) hx hb dL_areParts_142 (by decide) ?_
              obtain ⟨q41, hq41, hs⟩ := obind_e hs
              refine end_iN (run_VN (q := (RX4, TX4, 11)) (ci := 4) hF hKK hW hS hl.1 kx0 (by decide) rfl (c_X4_bankOf l hOK kx0 hq41) (kw_L_34 hF.2.2.2.2 ⟨Nat.le_of_ble_eq_true rfl, Nat.le_of_ble_eq_true rfl⟩) rfl rfl (Nat.le_of_ble_eq_true rfl) dL_areParts_143 ⟨(by have := inb_lt g24; show _ ≤ 12; omega), (by have := inb_lt g24; show _ ≤ 1728; omega)⟩) hS (fun H locs hW hS => ?_)
              refine lv_iload hx hb dL_areParts_146 (lv_at hl 3 rfl) ?_
              refine lv_icmp_ne (tgt := 185) hx hb dL_areParts_148 (by decide) (fun c42 => ?_) (fun c42 => ?_)
              · have hs := ite_f hs c42
                refine W.widen (k := (x6.toNatClampNeg + 1)) (n := ((144 * x6.toNatClampNeg) + 144)) (by omega) (by omega) ?_
                exact hj35 _ _ _ hs hW hS (lv_sub hl [0, 1, 2, 4, 5, 6] rfl)
              · have hs := ite_t hs c42
                refine lv_aload_n hx hb dL_areParts_151 rfl (lv_at hl 4 rfl) ?_
                refine lv_aload_n hx hb dL_areParts_152 rfl (lv_at hl 4 rfl) ?_
                refine lv_iload hx hb dL_areParts_153 (lv_at hl 3 rfl) ?_
                refine lv_iconst (v := (4 : Int32)) hx hb dL_areParts_155 (by decide) ?_
                obtain ⟨q43, hq43, hs⟩ := obind_e hs
                refine end_iN (run_VN (q := (RX4, TX4, 11)) (ci := 4) hF hKK hW hS hl.1 kx0 (by decide) rfl (c_X4_partOf l hOK kx0 hq43) (kw_L_75 hF.2.2.2.2 ⟨Nat.le_of_ble_eq_true rfl, Nat.le_of_ble_eq_true rfl⟩) rfl rfl (Nat.le_of_ble_eq_true rfl) dL_areParts_156 ⟨(by have := inb_lt g24; show _ ≤ 12; omega), (by have := inb_lt g24; show _ ≤ 1728; omega)⟩) hS (fun H locs hW hS => ?_)
                refine lv_iconst (v := (0 : Int32)) hx hb dL_areParts_159 (by decide) ?_
                obtain ⟨q44, hq44, hs⟩ := obind_e hs
                refine end_iN (run_VN (q := (RX4, TX4, 11)) (ci := 4) hF hKK hW hS hl.1 kx0 (by decide) rfl (c_X4_bankOf l hOK kx0 hq44) (kw_L_34 hF.2.2.2.2 ⟨Nat.le_of_ble_eq_true rfl, Nat.le_of_ble_eq_true rfl⟩) rfl rfl (Nat.le_of_ble_eq_true rfl) dL_areParts_160 ⟨(by have := inb_lt g24; show _ ≤ 12; omega), (by have := inb_lt g24; show _ ≤ 1728; omega)⟩) hS (fun H locs hW hS => ?_)
                refine lv_aload_n hx hb dL_areParts_163 rfl (lv_at hl 4 rfl) ?_
                refine lv_iload hx hb dL_areParts_164 (lv_at hl 3 rfl) ?_
                refine lv_iconst (v := (0 : Int32)) hx hb dL_areParts_166 (by decide) ?_
                obtain ⟨q45, hq45, hs⟩ := obind_e hs
                refine end_iN (run_VN (q := (RX4, TX4, 11)) (ci := 4) hF hKK hW hS hl.1 kx0 (by decide) rfl (c_X4_partOf l hOK kx0 hq45) (kw_L_75 hF.2.2.2.2 ⟨Nat.le_of_ble_eq_true rfl, Nat.le_of_ble_eq_true rfl⟩) rfl rfl (Nat.le_of_ble_eq_true rfl) dL_areParts_167 ⟨(by have := inb_lt g24; show _ ≤ 12; omega), (by have := inb_lt g24; show _ ≤ 1728; omega)⟩) hS (fun H locs hW hS => ?_)
                refine lv_imul hx hb dL_areParts_170 ?_
                refine lv_aload_n hx hb dL_areParts_171 rfl (lv_at hl 4 rfl) ?_
                refine lv_iload hx hb dL_areParts_172 (lv_at hl 3 rfl) ?_
                refine lv_iconst (v := (2 : Int32)) hx hb dL_areParts_174 (by decide) ?_
                obtain ⟨q46, hq46, hs⟩ := obind_e hs
                refine end_iN (run_VN (q := (RX4, TX4, 11)) (ci := 4) hF hKK hW hS hl.1 kx0 (by decide) rfl (c_X4_partOf l hOK kx0 hq46) (kw_L_75 hF.2.2.2.2 ⟨Nat.le_of_ble_eq_true rfl, Nat.le_of_ble_eq_true rfl⟩) rfl rfl (Nat.le_of_ble_eq_true rfl) dL_areParts_175 ⟨(by have := inb_lt g24; show _ ≤ 12; omega), (by have := inb_lt g24; show _ ≤ 1728; omega)⟩) hS (fun H locs hW hS => ?_)
                refine lv_icmp_lt (tgt := 185) hx hb dL_areParts_178 (by decide) (fun c47 => ?_) (fun c47 => ?_)
                · have hs := ite_t hs c47
                  refine W.widen (k := (x6.toNatClampNeg + 1)) (n := ((144 * x6.toNatClampNeg) + 144)) (by omega) (by omega) ?_
                  exact hj35 _ _ _ hs hW hS (lv_sub hl [0, 1, 2, 4, 5, 6] rfl)
                · have hs := ite_f hs c47
                  refine lv_iconst (v := (1 : Int32)) hx hb dL_areParts_181 (by decide) ?_
                  refine lv_goto (tgt := 186) hx hb dL_areParts_182 (by decide) ?_
                  refine W.widen (k := (x6.toNatClampNeg + 1)) (n := ((144 * x6.toNatClampNeg) + 144)) (by omega) (by omega) ?_
                  exact hj33 (1 : Int32) _ _ _ hs hW hS (lv_sub hl [0, 1, 2, 4, 5, 6] rfl)
            refine lv_if_eq (tgt := 135) hx hb dL_areParts_115 (by decide) (fun c48 => ?_) (fun c48 => ?_)
            · have hs := ite_t hs c48
              exact hj39 _ _ _ hs hW hS (lv_sub hl [0, 1, 2, 3, 4, 5, 7] rfl)
            · have hs := ite_f hs c48
              refine lv_aload_n hx hb dL_areParts_118 rfl (lv_at hl 4 rfl) ?_
              refine lv_aload_n hx hb dL_areParts_119 rfl (lv_at hl 4 rfl) ?_
              refine lv_iload hx hb dL_areParts_120 (lv_at hl 7 rfl) ?_
              refine lv_iconst (v := (1 : Int32)) hx hb dL_areParts_122 (by decide) ?_
              refine lv_isub hx hb dL_areParts_123 ?_
              obtain ⟨q49, hq49, hs⟩ := obind_e hs
              refine end_iN (run_VN (q := (RX4, TX4, 11)) (ci := 4) hF hKK hW hS hl.1 kx0 (by decide) rfl (c_X4_ranked l hOK kx0 hq49) (kw_L_118 hF.2.2.2.2 ⟨Nat.le_of_ble_eq_true rfl, Nat.le_of_ble_eq_true rfl⟩) rfl rfl (Nat.le_of_ble_eq_true rfl) dL_areParts_124 ⟨(by have := inb_lt g24; show _ ≤ 12; omega), (by have := inb_lt g24; show _ ≤ 1728; omega)⟩) hS (fun H locs hW hS => ?_)
              refine lv_iload hx hb dL_areParts_127 (lv_at hl 3 rfl) ?_
              obtain ⟨q50, hq50, hs⟩ := obind_e hs
              refine end_iN (run_SN hF hKK hW hS hl.1 (c_L_isAhead l hOK kx0 hq50) (kw_L_125 hF.2.2.2.2 ⟨Nat.le_of_ble_eq_true rfl, Nat.le_of_ble_eq_true rfl⟩) rfl rfl (Nat.le_of_ble_eq_true rfl) dL_areParts_129 ⟨(by have := inb_lt g24; show _ ≤ 12; omega), (by have := inb_lt g24; show _ ≤ 1728; omega)⟩) hS (fun H locs hW hS => ?_)
              refine lv_if_eq (tgt := 185) hx hb dL_areParts_132 (by decide) (fun c51 => ?_) (fun c51 => ?_)
              · have hs := ite_t hs c51
                refine W.widen (k := (x6.toNatClampNeg + 1)) (n := ((144 * x6.toNatClampNeg) + 144)) (by omega) (by omega) ?_
                exact hj35 _ _ _ hs hW hS (lv_sub hl [0, 1, 2, 4, 5, 7] rfl)
              · have hs := ite_f hs c51
                exact hj39 _ _ _ hs hW hS (lv_sub hl [0, 1, 2, 3, 4, 5, 7] rfl)

set_option maxHeartbeats 4000000 in
set_option maxRecDepth 100000 in
theorem c_L_areParts (l : Launch) {G : va_G} {Λ : Lay} {μ : Mem} (hOK : LayOK Λ) {a0 : Nat} (k0 : inK Λ a0 4) {r : Int32} (hs : sL_areParts Λ μ a0 = some r) : CA l G Λ yL_areParts cL_areParts 8 (some .boolean) 8 12 1728 μ [.ref a0] r μ := by
  refine ofA (own := RL) (by decide +kernel) rfl (Nat.le_of_ble_eq_true rfl) (fun p e s m args below meth c ls hF hKK hW hr hlocks hl => ?_)
  have hx := hF.1
  have hb := hF.2.1
  have hA : ∀ q, inL Λ q → AN Λ s.heap.size q := fun _ h => Or.inl h
  have hS : va_S (AN Λ s.heap.size) s.heap s.heap [] := va_S.rf
  have hl : lv_has ls 8 [(0, .ref a0)] := hl
  unfold sL_areParts at hs
  refine lv_aload_n hx hb dL_areParts_0 rfl (lv_at hl 0 rfl) ?_
  refine lv_iconst (v := (2 : Int32)) hx hb dL_areParts_1 (by decide) ?_
  obtain ⟨q1, hq1, hs⟩ := obind_e hs
  refine end_iN (run_VN (q := (RX4, TX4, 11)) (ci := 4) hF hKK hW hS hl.1 k0 (by decide) rfl (c_X4_account l hOK k0 hq1) (kw_L_72 hF.2.2.2.2 ⟨Nat.le_of_ble_eq_true rfl, Nat.le_of_ble_eq_true rfl⟩) rfl rfl (Nat.le_of_ble_eq_true rfl) dL_areParts_2 ⟨Nat.le_of_ble_eq_true rfl, Nat.le_of_ble_eq_true rfl⟩) hS (fun H locs hW hS => ?_)
  refine lv_istore_n (lv' := [(1, .int q1), (0, .ref a0)]) hx hb dL_areParts_5 rfl hl (by decide) rfl (fun ls hl => ?_)
  refine lv_iconst (v := (0 : Int32)) hx hb dL_areParts_6 (by decide) ?_
  refine lv_istore_n (lv' := [(2, .int (0 : Int32)), (1, .int q1), (0, .ref a0)]) hx hb dL_areParts_7 rfl hl (by decide) rfl (fun ls hl => ?_)
  refine lv_iconst (v := (0 : Int32)) hx hb dL_areParts_8 (by decide) ?_
  refine lv_istore_n (lv' := [(3, .int (0 : Int32)), (2, .int (0 : Int32)), (1, .int q1), (0, .ref a0)]) hx hb dL_areParts_9 rfl hl (by decide) rfl (fun ls hl => ?_)
  refine lv_iconst (v := (0 : Int32)) hx hb dL_areParts_10 (by decide) ?_
  refine lv_istore (lv' := [(4, .int (0 : Int32)), (3, .int (0 : Int32)), (2, .int (0 : Int32)), (1, .int q1), (0, .ref a0)]) hx hb dL_areParts_11 hl (by decide) rfl (fun ls hl => ?_)
  refine lv_aload_n hx hb dL_areParts_13 rfl (lv_at hl 4 rfl) ?_
  refine lv_iload_n hx hb dL_areParts_14 rfl (lv_at hl 3 rfl) ?_
  obtain ⟨q2, hq2, hs⟩ := obind_e hs
  refine end_iN (run_VN (q := (RX4, TX4, 11)) (ci := 4) hF hKK hW hS hl.1 k0 (by decide) rfl (c_X4_ranked l hOK k0 hq2) (kw_L_118 hF.2.2.2.2 ⟨Nat.le_of_ble_eq_true rfl, Nat.le_of_ble_eq_true rfl⟩) rfl rfl (Nat.le_of_ble_eq_true rfl) dL_areParts_15 ⟨Nat.le_of_ble_eq_true rfl, Nat.le_of_ble_eq_true rfl⟩) hS (fun H locs hW hS => ?_)
  refine lv_iconst (v := (-1 : Int32)) hx hb dL_areParts_18 (by decide) ?_
  obtain ⟨kj3, ekj3, hs⟩ := bnd_e hs
  have hj3 : ∀ (j3 : Int32) (H : Heap) (locs : List Loc) (ls : Array Slot), kj3 j3 = some r → Wd G Λ μ H → va_S (AN Λ s.heap.size) s.heap H locs → lv_has ls 8 [(4, .int (0 : Int32)), (3, .int (0 : Int32)), (2, .int (0 : Int32)), (1, .int q1), (0, .ref a0)] → W p l e (nrm 8 12 1728) s m args below meth c H locs 0 0 (MQ below (QA G Λ r μ s.heap.size) args s 12 1728 (AN Λ s.heap.size)) (F0 m 36 ls [.int j3]) := by
    intro j3 H locs ls hs hW hS hl
    have hs := kj1 ekj3 hs
    refine lv_istore (lv' := [(5, .int j3), (4, .int (0 : Int32)), (3, .int (0 : Int32)), (2, .int (0 : Int32)), (1, .int q1), (0, .ref a0)]) hx hb dL_areParts_36 hl (by decide) rfl (fun ls hl => ?_)
    refine lv_iconst (v := (0 : Int32)) hx hb dL_areParts_38 (by decide) ?_
    refine lv_istore (lv' := [(6, .int (0 : Int32)), (5, .int j3), (4, .int (0 : Int32)), (3, .int (0 : Int32)), (2, .int (0 : Int32)), (1, .int q1), (0, .ref a0)]) hx hb dL_areParts_39 hl (by decide) rfl (fun ls hl => ?_)
    refine W_cs (k := Int32.toNatClampNeg (0 : Int32)) (n := 144 * Int32.toNatClampNeg (0 : Int32)) rfl rfl ?_
    exact cl_L_areParts_41 hOK hF hKK hr hlocks k0 fuel (0 : Int32) (0 : Int32) (0 : Int32) j3 (0 : Int32) _ _ _ hs (by decide) hW hS (lv_sub hl [6, 5, 4, 3, 2, 1, 0] rfl)
  obtain ⟨kj52, ekj52, hs⟩ := bnd_e hs
  have hj52 : ∀ (H : Heap) (locs : List Loc) (ls : Array Slot), kj52 = some r → Wd G Λ μ H → va_S (AN Λ s.heap.size) s.heap H locs → lv_has ls 8 [(4, .int (0 : Int32)), (3, .int (0 : Int32)), (2, .int (0 : Int32)), (1, .int q1), (0, .ref a0)] → W p l e (nrm 8 12 1728) s m args below meth c H locs 0 0 (MQ below (QA G Λ r μ s.heap.size) args s 12 1728 (AN Λ s.heap.size)) (F0 m 35 ls []) := by
    intro  H locs ls hs hW hS hl
    have hs := ekj52.symm.trans hs
    refine lv_iconst (v := (0 : Int32)) hx hb dL_areParts_35 (by decide) ?_
    exact hj3 (0 : Int32) _ _ _ hs hW hS (lv_sub hl [0, 1, 2, 3, 4] rfl)
  refine lv_icmp_ne (tgt := 35) hx hb dL_areParts_19 (by decide) (fun c53 => ?_) (fun c53 => ?_)
  · have hs := ite_f hs c53
    exact hj52 _ _ _ hs hW hS (lv_sub hl [0, 1, 2, 3, 4] rfl)
  · have hs := ite_t hs c53
    refine lv_aload_n hx hb dL_areParts_22 rfl (lv_at hl 4 rfl) ?_
    refine lv_iconst (v := (-1 : Int32)) hx hb dL_areParts_23 (by decide) ?_
    obtain ⟨q54, hq54, hs⟩ := obind_e hs
    refine end_iN (run_VN (q := (RX4, TX4, 11)) (ci := 4) hF hKK hW hS hl.1 k0 (by decide) rfl (c_X4_ranked l hOK k0 hq54) (kw_L_118 hF.2.2.2.2 ⟨Nat.le_of_ble_eq_true rfl, Nat.le_of_ble_eq_true rfl⟩) rfl rfl (Nat.le_of_ble_eq_true rfl) dL_areParts_24 ⟨Nat.le_of_ble_eq_true rfl, Nat.le_of_ble_eq_true rfl⟩) hS (fun H locs hW hS => ?_)
    refine lv_iconst (v := (-1 : Int32)) hx hb dL_areParts_27 (by decide) ?_
    refine lv_icmp_ne (tgt := 35) hx hb dL_areParts_28 (by decide) (fun c55 => ?_) (fun c55 => ?_)
    · have hs := ite_f hs c55
      exact hj52 _ _ _ hs hW hS (lv_sub hl [0, 1, 2, 3, 4] rfl)
    · have hs := ite_t hs c55
      refine lv_iconst (v := (1 : Int32)) hx hb dL_areParts_31 (by decide) ?_
      refine lv_goto (tgt := 36) hx hb dL_areParts_32 (by decide) ?_
      exact hj3 (1 : Int32) _ _ _ hs hW hS (lv_sub hl [0, 1, 2, 3, 4] rfl)

set_option maxHeartbeats 4000000 in
set_option maxRecDepth 100000 in
theorem cl_L_isFit_74 {p : Program} {l : Launch} {e : Env} {s : State} {m : MethodId} {args : Array Value} {below : List Frame} {meth : Method} {c : Code} {G : va_G} {Λ : Lay} {μ : Mem} {r : Int32} (hOK : LayOK Λ) (hF : CallFix p m c cL_isFit 6 s args tw RL) (hKK : KK G Λ s) (hr : meth.sig.returnType = (some .boolean)) (hlocks : meth.locks = false) {x0 : Nat} (kx0 : inK Λ x0 4) {x2 : Int32} {x3 : Int32} {x4 : Int32} (k : Int32 → Option Int32) (hk : ∀ (x1 : Int32), k x1 = some r → ∀ (H : Heap) (locs : List Loc) (ls : Array Slot), Wd G Λ μ H → va_S (AN Λ s.heap.size) s.heap H locs → lv_has ls 6 [(0, .ref x0), (1, .int x1), (2, .int x2), (3, .int x3), (4, .int x4)] → W p l e (nrm 9 12 1728) s m args below meth c H locs (0 + 12) (0 + 1728) (MQ below (QA G Λ r μ s.heap.size) args s 12 1728 (AN Λ s.heap.size)) (F0 m 103 ls [])) : ∀ (n : Nat) (x1 : Int32) (x5 : Int32) (H : Heap) (locs : List Loc) (ls : Array Slot), lpL_isFit_74 Λ μ x0 x2 x3 x4 k n x1 x5 = some r → Wd G Λ μ H → va_S (AN Λ s.heap.size) s.heap H locs → lv_has ls 6 [(0, .ref x0), (1, .int x1), (2, .int x2), (3, .int x3), (4, .int x4), (5, .int x5)] → W p l e (nrm 9 12 1728) s m args below meth c H locs (0 + 12) (0 + 1728) (MQ below (QA G Λ r μ s.heap.size) args s 12 1728 (AN Λ s.heap.size)) (F0 m 74 ls []) := by
  have hx := hF.1
  have hb := hF.2.1
  have hA : ∀ q, inL Λ q → AN Λ s.heap.size q := fun _ h => Or.inl h
  intro n
  induction n with
  | zero =>
    intro x1 x5 H locs ls hs hW hS hl
    cases hs
  | succ n74 ih74 =>
    intro x1 x5 H locs ls hs hW hS hl
    rw [lpL_isFit_74_s] at hs
    refine lv_iload_n hx hb dL_isFit_74 rfl (lv_at hl 1 rfl) ?_
    refine lv_if_eq (tgt := 103) hx hb dL_isFit_75 (by decide) (fun c26 => ?_) (fun c26 => ?_)
    · have hs := ite_t hs c26
      exact hk x1 hs _ _ _ hW hS (lv_sub hl [0, 1, 2, 3, 4] rfl)
    · have hs := ite_f hs c26
      refine lv_iload hx hb dL_isFit_78 (lv_at hl 5 rfl) ?_
      refine lv_aload_n hx hb dL_isFit_80 rfl (lv_at hl 0 rfl) ?_
      refine lv_iconst (v := (0 : Int32)) hx hb dL_isFit_81 (by decide) ?_
      obtain ⟨q27, hq27, hs⟩ := obind_e hs
      refine end_iN (run_VN (q := (RX4, TX4, 11)) (ci := 4) hF hKK hW hS hl.1 kx0 (by decide) rfl (c_X4_account l hOK kx0 hq27) (kw_L_72 hF.2.2.2.2 ⟨Nat.le_of_ble_eq_true rfl, Nat.le_of_ble_eq_true rfl⟩) rfl rfl (Nat.le_of_ble_eq_true rfl) dL_isFit_82 ⟨Nat.le_of_ble_eq_true rfl, Nat.le_of_ble_eq_true rfl⟩) hS (fun H locs hW hS => ?_)
      refine lv_icmp_ge (tgt := 103) hx hb dL_isFit_85 (by decide) (fun c28 => ?_) (fun c28 => ?_)
      · have hs := ite_t hs c28
        exact hk x1 hs _ _ _ hW hS (lv_sub hl [0, 1, 2, 3, 4] rfl)
      · have hs := ite_f hs c28
        refine lv_aload_n hx hb dL_isFit_88 rfl (lv_at hl 0 rfl) ?_
        refine lv_iload hx hb dL_isFit_89 (lv_at hl 4 rfl) ?_
        refine lv_iload hx hb dL_isFit_91 (lv_at hl 5 rfl) ?_
        obtain ⟨q29, hq29, hs⟩ := obind_e hs
        refine end_iN (run_SN hF hKK hW hS hl.1 (c_L_isPair l hOK kx0 hq29) (kw_L_144 hF.2.2.2.2 ⟨Nat.le_of_ble_eq_true rfl, Nat.le_of_ble_eq_true rfl⟩) rfl rfl (Nat.le_of_ble_eq_true rfl) dL_isFit_93 ⟨Nat.le_of_ble_eq_true rfl, Nat.le_of_ble_eq_true rfl⟩) hS (fun H locs hW hS => ?_)
        refine lv_istore_n (lv' := [(1, .int q29), (0, .ref x0), (2, .int x2), (3, .int x3), (4, .int x4), (5, .int x5)]) hx hb dL_isFit_96 rfl hl (by decide) rfl (fun ls hl => ?_)
        obtain ⟨v30, ev30, hs⟩ := bnd_e hs
        refine lv_iinc (v := v30) (lv' := [(5, .int v30), (1, .int q29), (0, .ref x0), (2, .int x2), (3, .int x3), (4, .int x4)]) hx hb dL_isFit_97 hl (k := 5) rfl (by rw [ev30]; rfl) (by decide) rfl (fun ls hl => ?_)
        refine lv_goto (tgt := 74) hx hb dL_isFit_100 (by decide) ?_
        exact ih74 q29 v30 _ _ _ hs hW hS (lv_sub hl [2, 1, 3, 4, 5, 0] rfl)

set_option maxHeartbeats 4000000 in
set_option maxRecDepth 100000 in
theorem cl_L_isFit_28 {p : Program} {l : Launch} {e : Env} {s : State} {m : MethodId} {args : Array Value} {below : List Frame} {meth : Method} {c : Code} {G : va_G} {Λ : Lay} {μ : Mem} {r : Int32} (hOK : LayOK Λ) (hF : CallFix p m c cL_isFit 6 s args tw RL) (hKK : KK G Λ s) (hr : meth.sig.returnType = (some .boolean)) (hlocks : meth.locks = false) {x0 : Nat} (kx0 : inK Λ x0 4) : ∀ (n : Nat) (x1 : Int32) (x2 : Int32) (x3 : Int32) (x4 : Int32) (H : Heap) (locs : List Loc) (ls : Array Slot), lpL_isFit_28 Λ μ x0 n x1 x2 x3 x4 = some r → Wd G Λ μ H → va_S (AN Λ s.heap.size) s.heap H locs → lv_has ls 6 [(0, .ref x0), (1, .int x1), (2, .int x2), (3, .int x3), (4, .int x4)] → W p l e (nrm 9 12 1728) s m args below meth c H locs (0 + 12) (0 + 1728) (MQ below (QA G Λ r μ s.heap.size) args s 12 1728 (AN Λ s.heap.size)) (F0 m 28 ls []) := by
  have hx := hF.1
  have hb := hF.2.1
  have hA : ∀ q, inL Λ q → AN Λ s.heap.size q := fun _ h => Or.inl h
  intro n
  induction n with
  | zero =>
    intro x1 x2 x3 x4 H locs ls hs hW hS hl
    cases hs
  | succ n28 ih28 =>
    intro x1 x2 x3 x4 H locs ls hs hW hS hl
    rw [lpL_isFit_28_s] at hs
    refine lv_iload_n hx hb dL_isFit_28 rfl (lv_at hl 1 rfl) ?_
    obtain ⟨kj3, ekj3, hs⟩ := bnd_e hs
    have hj3 : ∀ (H : Heap) (locs : List Loc) (ls : Array Slot), kj3 = some r → Wd G Λ μ H → va_S (AN Λ s.heap.size) s.heap H locs → lv_has ls 6 [(0, .ref x0), (1, .int x1), (2, .int x2), (3, .int x3)] → W p l e (nrm 9 12 1728) s m args below meth c H locs (0 + 12) (0 + 1728) (MQ below (QA G Λ r μ s.heap.size) args s 12 1728 (AN Λ s.heap.size)) (F0 m 109 ls []) := by
      intro  H locs ls hs hW hS hl
      have hs := ekj3.symm.trans hs
      refine lv_iload_n hx hb dL_isFit_109 rfl (lv_at hl 1 rfl) ?_
      obtain ⟨kj4, ekj4, hs⟩ := bnd_e hs
      have hj4 : ∀ (j4 : Int32) (H : Heap) (locs : List Loc) (ls : Array Slot), kj4 j4 = some r → Wd G Λ μ H → va_S (AN Λ s.heap.size) s.heap H locs → lv_has ls 6 [] → W p l e (nrm 9 12 1728) s m args below meth c H locs (0 + 12) (0 + 1728) (MQ below (QA G Λ r μ s.heap.size) args s 12 1728 (AN Λ s.heap.size)) (F0 m 160 ls [.int j4]) := by
        intro j4 H locs ls hs hW hS hl
        have hs := kj1 ekj4 hs
        obtain ⟨g5, hs⟩ := gd_some hs
        have h9 := Option.some.inj hs
        rw [← h9]
        exact wr_iN hF hr hlocks (isB_nar g5) hW hS (by omega) (by omega) dL_isFit_160
      obtain ⟨kj6, ekj6, hs⟩ := bnd_e hs
      have hj6 : ∀ (H : Heap) (locs : List Loc) (ls : Array Slot), kj6 = some r → Wd G Λ μ H → va_S (AN Λ s.heap.size) s.heap H locs → lv_has ls 6 [] → W p l e (nrm 9 12 1728) s m args below meth c H locs (0 + 12) (0 + 1728) (MQ below (QA G Λ r μ s.heap.size) args s 12 1728 (AN Λ s.heap.size)) (F0 m 159 ls []) := by
        intro  H locs ls hs hW hS hl
        have hs := ekj6.symm.trans hs
        refine lv_iconst (v := (0 : Int32)) hx hb dL_isFit_159 (by decide) ?_
        exact hj4 (0 : Int32) _ _ _ hs hW hS (lv_sub hl [] rfl)
      refine lv_if_eq (tgt := 159) hx hb dL_isFit_110 (by decide) (fun c7 => ?_) (fun c7 => ?_)
      · have hs := ite_t hs c7
        exact hj6 _ _ _ hs hW hS (lv_sub hl [] rfl)
      · have hs := ite_f hs c7
        refine lv_iload_n hx hb dL_isFit_113 rfl (lv_at hl 3 rfl) ?_
        refine lv_aload_n hx hb dL_isFit_114 rfl (lv_at hl 0 rfl) ?_
        refine lv_bipush (v := (8 : Int32)) hx hb dL_isFit_115 (by decide) ?_
        obtain ⟨q8, hq8, hs⟩ := obind_e hs
        refine end_iN (run_VN (q := (RX4, TX4, 11)) (ci := 4) hF hKK hW hS hl.1 kx0 (by decide) rfl (c_X4_account l hOK kx0 hq8) (kw_L_72 hF.2.2.2.2 ⟨Nat.le_of_ble_eq_true rfl, Nat.le_of_ble_eq_true rfl⟩) rfl rfl (Nat.le_of_ble_eq_true rfl) dL_isFit_117 ⟨Nat.le_of_ble_eq_true rfl, Nat.le_of_ble_eq_true rfl⟩) hS (fun H locs hW hS => ?_)
        refine lv_icmp_ne (tgt := 159) hx hb dL_isFit_120 (by decide) (fun c9 => ?_) (fun c9 => ?_)
        · have hs := ite_f hs c9
          exact hj6 _ _ _ hs hW hS (lv_sub hl [] rfl)
        · have hs := ite_t hs c9
          refine lv_aload_n hx hb dL_isFit_123 rfl (lv_at hl 0 rfl) ?_
          obtain ⟨q10, hq10, hs⟩ := obind_e hs
          refine end_iN (run_VN (q := (RX4, TX4, 11)) (ci := 4) hF hKK hW hS hl.1 kx0 (by decide) rfl (c_X4_mean l hOK kx0 hq10) (kw_L_147 hF.2.2.2.2 ⟨Nat.le_of_ble_eq_true rfl, Nat.le_of_ble_eq_true rfl⟩) rfl rfl (Nat.le_of_ble_eq_true rfl) dL_isFit_124 ⟨Nat.le_of_ble_eq_true rfl, Nat.le_of_ble_eq_true rfl⟩) hS (fun H locs hW hS => ?_)
          refine lv_aload_n hx hb dL_isFit_127 rfl (lv_at hl 0 rfl) ?_
          refine lv_iconst (v := (0 : Int32)) hx hb dL_isFit_128 (by decide) ?_
          obtain ⟨q11, hq11, hs⟩ := obind_e hs
          refine end_iN (run_VN (q := (RX4, TX4, 11)) (ci := 4) hF hKK hW hS hl.1 kx0 (by decide) rfl (c_X4_account l hOK kx0 hq11) (kw_L_72 hF.2.2.2.2 ⟨Nat.le_of_ble_eq_true rfl, Nat.le_of_ble_eq_true rfl⟩) rfl rfl (Nat.le_of_ble_eq_true rfl) dL_isFit_129 ⟨Nat.le_of_ble_eq_true rfl, Nat.le_of_ble_eq_true rfl⟩) hS (fun H locs hW hS => ?_)
          obtain ⟨kj12, ekj12, hs⟩ := bnd_e hs
          have hj12 : ∀ (j12 : Int32) (H : Heap) (locs : List Loc) (ls : Array Slot), kj12 j12 = some r → Wd G Λ μ H → va_S (AN Λ s.heap.size) s.heap H locs → lv_has ls 6 [] → W p l e (nrm 9 12 1728) s m args below meth c H locs (0 + 12) (0 + 1728) (MQ below (QA G Λ r μ s.heap.size) args s 12 1728 (AN Λ s.heap.size)) (F0 m 152 ls [.int j12, .int q10]) := by
            intro j12 H locs ls hs hW hS hl
            have hs := kj1 ekj12 hs
            refine lv_icmp_ne (tgt := 159) hx hb dL_isFit_152 (by decide) (fun c13 => ?_) (fun c13 => ?_)
            · have hs := ite_f hs c13
              exact hj6 _ _ _ hs hW hS (lv_sub hl [] rfl)
            · have hs := ite_t hs c13
              refine lv_iconst (v := (1 : Int32)) hx hb dL_isFit_155 (by decide) ?_
              refine lv_goto (tgt := 160) hx hb dL_isFit_156 (by decide) ?_
              exact hj4 (1 : Int32) _ _ _ hs hW hS (lv_sub hl [] rfl)
          refine lv_if_ne (tgt := 140) hx hb dL_isFit_132 (by decide) (fun c14 => ?_) (fun c14 => ?_)
          · have hs := ite_f hs c14
            refine lv_iload_n hx hb dL_isFit_140 rfl (lv_at hl 2 rfl) ?_
            refine lv_i2f hx hb dL_isFit_141 ?_
            refine lv_aload_n hx hb dL_isFit_142 rfl (lv_at hl 0 rfl) ?_
            refine lv_iconst (v := (0 : Int32)) hx hb dL_isFit_143 (by decide) ?_
            obtain ⟨q15, hq15, hs⟩ := obind_e hs
            refine end_iN (run_VN (q := (RX4, TX4, 11)) (ci := 4) hF hKK hW hS hl.1 kx0 (by decide) rfl (c_X4_account l hOK kx0 hq15) (kw_L_72 hF.2.2.2.2 ⟨Nat.le_of_ble_eq_true rfl, Nat.le_of_ble_eq_true rfl⟩) rfl rfl (Nat.le_of_ble_eq_true rfl) dL_isFit_144 ⟨Nat.le_of_ble_eq_true rfl, Nat.le_of_ble_eq_true rfl⟩) hS (fun H locs hW hS => ?_)
            refine lv_i2f hx hb dL_isFit_147 ?_
            obtain ⟨g16, hs⟩ := gd_some hs
            refine lv_fdiv hx hb dL_isFit_148 g16 ?_
            obtain ⟨q17, hq17, hs⟩ := obind_e hs
            refine end_iN (run_SN hF hKK hW hS hl.1 (c_Jxf58ca_floatToIntBits_5c35a l hOK  hq17) (kw_L_150 hF.2.2.2.2 ⟨Nat.le_of_ble_eq_true rfl, Nat.le_of_ble_eq_true rfl⟩) rfl rfl (Nat.le_of_ble_eq_true rfl) dL_isFit_149 ⟨Nat.le_of_ble_eq_true rfl, Nat.le_of_ble_eq_true rfl⟩) hS (fun H locs hW hS => ?_)
            exact hj12 q17 _ _ _ hs hW hS (lv_sub hl [] rfl)
          · have hs := ite_t hs c14
            refine lv_bipush (v := (-4 : Int32)) hx hb dL_isFit_135 (by decide) ?_
            refine lv_goto (tgt := 152) hx hb dL_isFit_137 (by decide) ?_
            exact hj12 (-4 : Int32) _ _ _ hs hW hS (lv_sub hl [] rfl)
    refine lv_if_eq (tgt := 109) hx hb dL_isFit_29 (by decide) (fun c18 => ?_) (fun c18 => ?_)
    · have hs := ite_t hs c18
      exact hj3 _ _ _ hs hW hS (lv_sub hl [0, 1, 2, 3] rfl)
    · have hs := ite_f hs c18
      refine lv_iload hx hb dL_isFit_32 (lv_at hl 4 rfl) ?_
      refine lv_aload_n hx hb dL_isFit_34 rfl (lv_at hl 0 rfl) ?_
      refine lv_iconst (v := (0 : Int32)) hx hb dL_isFit_35 (by decide) ?_
      obtain ⟨q19, hq19, hs⟩ := obind_e hs
      refine end_iN (run_VN (q := (RX4, TX4, 11)) (ci := 4) hF hKK hW hS hl.1 kx0 (by decide) rfl (c_X4_account l hOK kx0 hq19) (kw_L_72 hF.2.2.2.2 ⟨Nat.le_of_ble_eq_true rfl, Nat.le_of_ble_eq_true rfl⟩) rfl rfl (Nat.le_of_ble_eq_true rfl) dL_isFit_36 ⟨Nat.le_of_ble_eq_true rfl, Nat.le_of_ble_eq_true rfl⟩) hS (fun H locs hW hS => ?_)
      refine lv_icmp_ge (tgt := 109) hx hb dL_isFit_39 (by decide) (fun c20 => ?_) (fun c20 => ?_)
      · have hs := ite_t hs c20
        exact hj3 _ _ _ hs hW hS (lv_sub hl [0, 1, 2, 3] rfl)
      · have hs := ite_f hs c20
        refine lv_iload_n hx hb dL_isFit_42 rfl (lv_at hl 2 rfl) ?_
        refine lv_aload_n hx hb dL_isFit_43 rfl (lv_at hl 0 rfl) ?_
        refine lv_iload hx hb dL_isFit_44 (lv_at hl 4 rfl) ?_
        refine lv_iconst (v := (2 : Int32)) hx hb dL_isFit_46 (by decide) ?_
        obtain ⟨q21, hq21, hs⟩ := obind_e hs
        refine end_iN (run_VN (q := (RX4, TX4, 11)) (ci := 4) hF hKK hW hS hl.1 kx0 (by decide) rfl (c_X4_bankOf l hOK kx0 hq21) (kw_L_34 hF.2.2.2.2 ⟨Nat.le_of_ble_eq_true rfl, Nat.le_of_ble_eq_true rfl⟩) rfl rfl (Nat.le_of_ble_eq_true rfl) dL_isFit_47 ⟨Nat.le_of_ble_eq_true rfl, Nat.le_of_ble_eq_true rfl⟩) hS (fun H locs hW hS => ?_)
        refine lv_iadd hx hb dL_isFit_50 ?_
        obtain ⟨v22, ev22, hs⟩ := bnd_e hs
        refine top_i ev22 ?_
        refine lv_istore_n (lv' := [(2, .int v22), (0, .ref x0), (1, .int x1), (3, .int x3), (4, .int x4)]) hx hb dL_isFit_51 rfl hl (by decide) rfl (fun ls hl => ?_)
        refine lv_iload_n hx hb dL_isFit_52 rfl (lv_at hl 3 rfl) ?_
        refine lv_aload_n hx hb dL_isFit_53 rfl (lv_at hl 1 rfl) ?_
        refine lv_iload hx hb dL_isFit_54 (lv_at hl 4 rfl) ?_
        refine lv_iconst (v := (2 : Int32)) hx hb dL_isFit_56 (by decide) ?_
        obtain ⟨q23, hq23, hs⟩ := obind_e hs
        refine end_iN (run_VN (q := (RX4, TX4, 11)) (ci := 4) hF hKK hW hS hl.1 kx0 (by decide) rfl (c_X4_bankOf l hOK kx0 hq23) (kw_L_34 hF.2.2.2.2 ⟨Nat.le_of_ble_eq_true rfl, Nat.le_of_ble_eq_true rfl⟩) rfl rfl (Nat.le_of_ble_eq_true rfl) dL_isFit_57 ⟨Nat.le_of_ble_eq_true rfl, Nat.le_of_ble_eq_true rfl⟩) hS (fun H locs hW hS => ?_)
        refine va_mmax hx hb (hF.2.2.1.trans hl.1.symm) hF.2.2.2.1 (hF.2.2.2.2 _ wd_686) (hF.2.2.2.2 _ wd_360) (hF.2.2.2.2 _ wd_22) (hF.2.2.2.2 _ wd_361) (Nat.le_of_ble_eq_true rfl) (Nat.le_of_ble_eq_true rfl) (Nat.le_of_ble_eq_true rfl) (Nat.le_of_ble_eq_true rfl) dL_isFit_60 ?_
        obtain ⟨v24, ev24, hs⟩ := bnd_e hs
        refine top_i ev24 ?_
        refine lv_istore_n (lv' := [(3, .int v24), (2, .int v22), (0, .ref x0), (1, .int x1), (4, .int x4)]) hx hb dL_isFit_63 rfl hl (by decide) rfl (fun ls hl => ?_)
        refine lv_aload_n hx hb dL_isFit_64 rfl (lv_at hl 2 rfl) ?_
        refine lv_iload hx hb dL_isFit_65 (lv_at hl 4 rfl) ?_
        obtain ⟨q25, hq25, hs⟩ := obind_e hs
        refine end_iN (run_SN hF hKK hW hS hl.1 (c_L_isBank l hOK kx0 hq25) (kw_L_141 hF.2.2.2.2 ⟨Nat.le_of_ble_eq_true rfl, Nat.le_of_ble_eq_true rfl⟩) rfl rfl (Nat.le_of_ble_eq_true rfl) dL_isFit_67 ⟨Nat.le_of_ble_eq_true rfl, Nat.le_of_ble_eq_true rfl⟩) hS (fun H locs hW hS => ?_)
        refine lv_istore_n (lv' := [(1, .int q25), (3, .int v24), (2, .int v22), (0, .ref x0), (4, .int x4)]) hx hb dL_isFit_70 rfl hl (by decide) rfl (fun ls hl => ?_)
        refine lv_iconst (v := (0 : Int32)) hx hb dL_isFit_71 (by decide) ?_
        refine lv_istore (lv' := [(5, .int (0 : Int32)), (1, .int q25), (3, .int v24), (2, .int v22), (0, .ref x0), (4, .int x4)]) hx hb dL_isFit_72 hl (by decide) rfl (fun ls hl => ?_)
        refine cl_L_isFit_74 hOK hF hKK hr hlocks kx0 _ (fun x1_z31 hs H locs ls hW hS hl => ?_) fuel q25 (0 : Int32) _ _ _ hs hW hS (lv_sub hl [4, 1, 3, 2, 5, 0] rfl)
        obtain ⟨v32, ev32, hs⟩ := bnd_e hs
        refine lv_iinc (v := v32) (lv' := [(4, .int v32), (0, .ref x0), (1, .int x1_z31), (2, .int v22), (3, .int v24)]) hx hb dL_isFit_103 hl (k := 4) rfl (by rw [ev32]; rfl) (by decide) rfl (fun ls hl => ?_)
        refine lv_goto (tgt := 28) hx hb dL_isFit_106 (by decide) ?_
        exact ih28 x1_z31 v22 v24 v32 _ _ _ hs hW hS (lv_sub hl [1, 2, 3, 4, 0] rfl)

set_option maxHeartbeats 4000000 in
set_option maxRecDepth 100000 in
theorem c_L_isFit (l : Launch) {G : va_G} {Λ : Lay} {μ : Mem} (hOK : LayOK Λ) {a0 : Nat} (k0 : inK Λ a0 4) {r : Int32} (hs : sL_isFit Λ μ a0 = some r) : CA l G Λ yL_isFit cL_isFit 6 (some .boolean) 9 12 1728 μ [.ref a0] r μ := by
  refine ofA (own := RL) (by decide +kernel) rfl (Nat.le_of_ble_eq_true rfl) (fun p e s m args below meth c ls hF hKK hW hr hlocks hl => ?_)
  have hx := hF.1
  have hb := hF.2.1
  have hA : ∀ q, inL Λ q → AN Λ s.heap.size q := fun _ h => Or.inl h
  have hS : va_S (AN Λ s.heap.size) s.heap s.heap [] := va_S.rf
  have hl : lv_has ls 6 [(0, .ref a0)] := hl
  unfold sL_isFit at hs
  refine lv_aload_n hx hb dL_isFit_0 rfl (lv_at hl 0 rfl) ?_
  obtain ⟨q1, hq1, hs⟩ := obind_e hs
  refine run_SA hF hKK hW hS hl.1 (c_L_areParts l hOK k0 hq1) (kw_L_131 hF.2.2.2.2 ⟨Nat.le_of_ble_eq_true rfl, Nat.le_of_ble_eq_true rfl⟩) rfl rfl (Nat.le_of_ble_eq_true rfl) dL_isFit_1 ⟨Nat.le_of_ble_eq_true rfl, Nat.le_of_ble_eq_true rfl⟩ (fun H locs hW hS => ?_)
  obtain ⟨kj2, ekj2, hs⟩ := bnd_e hs
  have hj2 : ∀ (j2 : Int32) (H : Heap) (locs : List Loc) (ls : Array Slot), kj2 j2 = some r → Wd G Λ μ H → va_S (AN Λ s.heap.size) s.heap H locs → lv_has ls 6 [(0, .ref a0)] → W p l e (nrm 9 12 1728) s m args below meth c H locs (0 + 12) (0 + 1728) (MQ below (QA G Λ r μ s.heap.size) args s 12 1728 (AN Λ s.heap.size)) (F0 m 20 ls [.int j2]) := by
    intro j2 H locs ls hs hW hS hl
    have hs := kj1 ekj2 hs
    refine lv_istore_n (lv' := [(1, .int j2), (0, .ref a0)]) hx hb dL_isFit_20 rfl hl (by decide) rfl (fun ls hl => ?_)
    refine lv_iconst (v := (0 : Int32)) hx hb dL_isFit_21 (by decide) ?_
    refine lv_istore_n (lv' := [(2, .int (0 : Int32)), (1, .int j2), (0, .ref a0)]) hx hb dL_isFit_22 rfl hl (by decide) rfl (fun ls hl => ?_)
    refine lv_iconst (v := (0 : Int32)) hx hb dL_isFit_23 (by decide) ?_
    refine lv_istore_n (lv' := [(3, .int (0 : Int32)), (2, .int (0 : Int32)), (1, .int j2), (0, .ref a0)]) hx hb dL_isFit_24 rfl hl (by decide) rfl (fun ls hl => ?_)
    refine lv_iconst (v := (0 : Int32)) hx hb dL_isFit_25 (by decide) ?_
    refine lv_istore (lv' := [(4, .int (0 : Int32)), (3, .int (0 : Int32)), (2, .int (0 : Int32)), (1, .int j2), (0, .ref a0)]) hx hb dL_isFit_26 hl (by decide) rfl (fun ls hl => ?_)
    exact cl_L_isFit_28 hOK hF hKK hr hlocks k0 fuel j2 (0 : Int32) (0 : Int32) (0 : Int32) _ _ _ hs hW hS (lv_sub hl [4, 3, 2, 1, 0] rfl)
  obtain ⟨kj33, ekj33, hs⟩ := bnd_e hs
  have hj33 : ∀ (H : Heap) (locs : List Loc) (ls : Array Slot), kj33 = some r → Wd G Λ μ H → va_S (AN Λ s.heap.size) s.heap H locs → lv_has ls 6 [(0, .ref a0)] → W p l e (nrm 9 12 1728) s m args below meth c H locs (0 + 12) (0 + 1728) (MQ below (QA G Λ r μ s.heap.size) args s 12 1728 (AN Λ s.heap.size)) (F0 m 19 ls []) := by
    intro  H locs ls hs hW hS hl
    have hs := ekj33.symm.trans hs
    refine lv_iconst (v := (0 : Int32)) hx hb dL_isFit_19 (by decide) ?_
    exact hj2 (0 : Int32) _ _ _ hs hW hS (lv_sub hl [0] rfl)
  refine lv_if_eq (tgt := 19) hx hb dL_isFit_4 (by decide) (fun c34 => ?_) (fun c34 => ?_)
  · have hs := ite_t hs c34
    exact hj33 _ _ _ hs hW hS (lv_sub hl [0] rfl)
  · have hs := ite_f hs c34
    refine lv_aload_n hx hb dL_isFit_7 rfl (lv_at hl 0 rfl) ?_
    obtain ⟨q35, hq35, hs⟩ := obind_e hs
    refine end_iN (run_VN (q := (RX4, TX4, 11)) (ci := 4) hF hKK hW hS hl.1 k0 (by decide) rfl (c_X4_isWell l hOK k0 hq35) (kw_L_135 hF.2.2.2.2 ⟨Nat.le_of_ble_eq_true rfl, Nat.le_of_ble_eq_true rfl⟩) rfl rfl (Nat.le_of_ble_eq_true rfl) dL_isFit_8 ⟨Nat.le_of_ble_eq_true rfl, Nat.le_of_ble_eq_true rfl⟩) hS (fun H locs hW hS => ?_)
    refine lv_iconst (v := (1 : Int32)) hx hb dL_isFit_11 (by decide) ?_
    refine lv_icmp_ne (tgt := 19) hx hb dL_isFit_12 (by decide) (fun c36 => ?_) (fun c36 => ?_)
    · have hs := ite_f hs c36
      exact hj33 _ _ _ hs hW hS (lv_sub hl [0] rfl)
    · have hs := ite_t hs c36
      refine lv_iconst (v := (1 : Int32)) hx hb dL_isFit_15 (by decide) ?_
      refine lv_goto (tgt := 20) hx hb dL_isFit_16 (by decide) ?_
      exact hj2 (1 : Int32) _ _ _ hs hW hS (lv_sub hl [0] rfl)

set_option maxHeartbeats 4000000 in
set_option maxRecDepth 100000 in
theorem c_L_isTiedAgain (l : Launch) {G : va_G} {Λ : Lay} {μ : Mem} (hOK : LayOK Λ) {a0 : Nat} (k0 : inK Λ a0 4) {a1 : Int32} {a2 : Int32} {r : (Int32 × Mem)} (hs : sL_isTiedAgain Λ μ a0 a1 a2 = some r) : CA l G Λ yL_isTiedAgain cL_isTiedAgain 9 (some .boolean) 9 12 1728 μ [.ref a0, .int a1, .int a2] r.1 r.2 := by
  refine ofA (own := RL) (by decide +kernel) rfl (Nat.le_of_ble_eq_true rfl) (fun p e s m args below meth c ls hF hKK hW hr hlocks hl => ?_)
  have hx := hF.1
  have hb := hF.2.1
  have hA : ∀ q, inL Λ q → AN Λ s.heap.size q := fun _ h => Or.inl h
  have hS : va_S (AN Λ s.heap.size) s.heap s.heap [] := va_S.rf
  have hl : lv_has ls 9 [(0, .ref a0), (1, .int a1), (2, .int a2)] := hl
  unfold sL_isTiedAgain at hs
  refine lv_aload_n hx hb dL_isTiedAgain_0 rfl (lv_at hl 0 rfl) ?_
  obtain ⟨q1, hq1, hs⟩ := obind_e hs
  refine end_lN (run_SN hF hKK hW hS hl.1 (c_L_digest l hOK k0 hq1) (kw_L_156 hF.2.2.2.2 ⟨Nat.le_of_ble_eq_true rfl, Nat.le_of_ble_eq_true rfl⟩) rfl rfl (Nat.le_of_ble_eq_true rfl) dL_isTiedAgain_1 ⟨Nat.le_of_ble_eq_true rfl, Nat.le_of_ble_eq_true rfl⟩) hS (fun H locs hW hS => ?_)
  obtain ⟨v2, ev2, hs⟩ := bnd_e hs
  refine top_l ev2 ?_
  refine lv_lstore_n (lv' := [(3, .long v2), (0, .ref a0), (1, .int a1), (2, .int a2)]) hx hb dL_isTiedAgain_4 rfl hl (by decide) rfl (fun ls hl => ?_)
  refine lv_aload_n hx hb dL_isTiedAgain_5 rfl (lv_at hl 1 rfl) ?_
  refine lv_iload_n hx hb dL_isTiedAgain_6 rfl (lv_at hl 2 rfl) ?_
  refine lv_iconst (v := (0 : Int32)) hx hb dL_isTiedAgain_7 (by decide) ?_
  obtain ⟨q3, hq3, hs⟩ := obind_e hs
  refine end_iN (run_VN (q := (RX4, TX4, 11)) (ci := 4) hF hKK hW hS hl.1 k0 (by decide) rfl (c_X4_partOf l hOK k0 hq3) (kw_L_75 hF.2.2.2.2 ⟨Nat.le_of_ble_eq_true rfl, Nat.le_of_ble_eq_true rfl⟩) rfl rfl (Nat.le_of_ble_eq_true rfl) dL_isTiedAgain_8 ⟨Nat.le_of_ble_eq_true rfl, Nat.le_of_ble_eq_true rfl⟩) hS (fun H locs hW hS => ?_)
  refine lv_istore (lv' := [(5, .int q3), (3, .long v2), (0, .ref a0), (1, .int a1), (2, .int a2)]) hx hb dL_isTiedAgain_11 hl (by decide) rfl (fun ls hl => ?_)
  refine lv_aload_n hx hb dL_isTiedAgain_13 rfl (lv_at hl 2 rfl) ?_
  refine lv_iload_n hx hb dL_isTiedAgain_14 rfl (lv_at hl 3 rfl) ?_
  refine lv_iload_n hx hb dL_isTiedAgain_15 rfl (lv_at hl 4 rfl) ?_
  obtain ⟨q4, hq4, hs⟩ := obind_e hs
  refine end_iN (run_VN (q := (RX4, TX4, 11)) (ci := 4) hF hKK hW hS hl.1 k0 (by decide) rfl (c_X4_wouldDiffer l hOK k0 hq4) (kw_L_110 hF.2.2.2.2 ⟨Nat.le_of_ble_eq_true rfl, Nat.le_of_ble_eq_true rfl⟩) rfl rfl (Nat.le_of_ble_eq_true rfl) dL_isTiedAgain_16 ⟨Nat.le_of_ble_eq_true rfl, Nat.le_of_ble_eq_true rfl⟩) hS (fun H locs hW hS => ?_)
  refine lv_istore (lv' := [(6, .int q4), (5, .int q3), (3, .long v2), (0, .ref a0), (1, .int a1), (2, .int a2)]) hx hb dL_isTiedAgain_19 hl (by decide) rfl (fun ls hl => ?_)
  refine lv_aload_n hx hb dL_isTiedAgain_21 rfl (lv_at hl 3 rfl) ?_
  refine lv_iload_n hx hb dL_isTiedAgain_22 rfl (lv_at hl 4 rfl) ?_
  refine lv_iload_n hx hb dL_isTiedAgain_23 rfl (lv_at hl 5 rfl) ?_
  obtain ⟨q5, hq5, hs⟩ := obind_e hs
  refine end_iN (run_VN (q := (RX4, TX4, 11)) (ci := 4) hF hKK hW hS hl.1 k0 (by decide) rfl (c_X4_cut l hOK k0 hq5) (kw_L_31 hF.2.2.2.2 ⟨Nat.le_of_ble_eq_true rfl, Nat.le_of_ble_eq_true rfl⟩) rfl rfl (Nat.le_of_ble_eq_true rfl) dL_isTiedAgain_24 ⟨Nat.le_of_ble_eq_true rfl, Nat.le_of_ble_eq_true rfl⟩) hS (fun H locs hW hS => ?_)
  obtain ⟨v6, ev6, hs⟩ := bnd_e hs
  refine top_i ev6 ?_
  refine lv_istore (lv' := [(7, .int v6), (6, .int q4), (5, .int q3), (3, .long v2), (0, .ref a0), (1, .int a1), (2, .int a2)]) hx hb dL_isTiedAgain_27 hl (by decide) rfl (fun ls hl => ?_)
  refine lv_iload hx hb dL_isTiedAgain_29 (lv_at hl 0 rfl) ?_
  refine lv_if_ge (tgt := 64) hx hb dL_isTiedAgain_31 (by decide) (fun c7 => ?_) (fun c7 => ?_)
  · have hs := ite_t hs c7
    refine lv_iload hx hb dL_isTiedAgain_64 (lv_at hl 0 rfl) ?_
    refine lv_iload_n hx hb dL_isTiedAgain_66 rfl (lv_at hl 5 rfl) ?_
    obtain ⟨kj8, ekj8, hs⟩ := bnd_e hs
    have hj8 : ∀ (j8 : Int32) (H : Heap) (locs : List Loc) (ls : Array Slot), kj8 j8 = some r → Wd G Λ q5.2 H → va_S (AN Λ s.heap.size) s.heap H locs → lv_has ls 9 [(5, .int q3), (3, .long v2), (0, .ref a0), (1, .int a1), (2, .int a2)] → W p l e (nrm 9 12 1728) s m args below meth c H locs 0 0 (MQ below (QA G Λ r.1 r.2 s.heap.size) args s 12 1728 (AN Λ s.heap.size)) (F0 m 123 ls [.int j8]) := by
      intro j8 H locs ls hs hW hS hl
      have hs := kj1 ekj8 hs
      refine lv_istore (lv' := [(8, .int j8), (5, .int q3), (3, .long v2), (0, .ref a0), (1, .int a1), (2, .int a2)]) hx hb dL_isTiedAgain_123 hl (by decide) rfl (fun ls hl => ?_)
      refine lv_iload hx hb dL_isTiedAgain_125 (lv_at hl 0 rfl) ?_
      obtain ⟨kj9, ekj9, hs⟩ := bnd_e hs
      have hj9 : ∀ (j9 : Int32) (μj9 : Mem) (H : Heap) (locs : List Loc) (ls : Array Slot), kj9 j9 μj9 = some r → Wd G Λ μj9 H → va_S (AN Λ s.heap.size) s.heap H locs → lv_has ls 9 [(3, .long v2), (0, .ref a0)] → W p l e (nrm 9 12 1728) s m args below meth c H locs (0 + 12) (0 + 1728) (MQ below (QA G Λ r.1 r.2 s.heap.size) args s 12 1728 (AN Λ s.heap.size)) (F0 m 163 ls [.int j9]) := by
        intro j9 μj9 H locs ls hs hW hS hl
        have hs := kj2 ekj9 hs
        refine lv_istore (lv' := [(8, .int j9), (3, .long v2), (0, .ref a0)]) hx hb dL_isTiedAgain_163 hl (by decide) rfl (fun ls hl => ?_)
        refine lv_iload hx hb dL_isTiedAgain_165 (lv_at hl 0 rfl) ?_
        obtain ⟨kj10, ekj10, hs⟩ := bnd_e hs
        have hj10 : ∀ (j10 : Int32) (μj10 : Mem) (H : Heap) (locs : List Loc) (ls : Array Slot), kj10 j10 μj10 = some r → Wd G Λ μj10 H → va_S (AN Λ s.heap.size) s.heap H locs → lv_has ls 9 [] → W p l e (nrm 9 12 1728) s m args below meth c H locs (0 + 12) (0 + 1728) (MQ below (QA G Λ r.1 r.2 s.heap.size) args s 12 1728 (AN Λ s.heap.size)) (F0 m 198 ls [.int j10]) := by
          intro j10 μj10 H locs ls hs hW hS hl
          have hs := kj2 ekj10 hs
          obtain ⟨g11, hs⟩ := gd_some hs
          have h9 := Option.some.inj hs
          rw [← h9]
          exact wr_iN hF hr hlocks (isB_nar g11) hW hS (by omega) (by omega) dL_isTiedAgain_198
        obtain ⟨kj12, ekj12, hs⟩ := bnd_e hs
        have hj12 : ∀ (μj12 : Mem) (H : Heap) (locs : List Loc) (ls : Array Slot), kj12 μj12 = some r → Wd G Λ μj12 H → va_S (AN Λ s.heap.size) s.heap H locs → lv_has ls 9 [] → W p l e (nrm 9 12 1728) s m args below meth c H locs (0 + 12) (0 + 1728) (MQ below (QA G Λ r.1 r.2 s.heap.size) args s 12 1728 (AN Λ s.heap.size)) (F0 m 197 ls []) := by
          intro μj12 H locs ls hs hW hS hl
          have hs := kj1 ekj12 hs
          refine lv_iconst (v := (0 : Int32)) hx hb dL_isTiedAgain_197 (by decide) ?_
          exact hj10 (0 : Int32) μj12 _ _ _ hs hW hS (lv_sub hl [] rfl)
        refine lv_if_eq (tgt := 197) hx hb dL_isTiedAgain_167 (by decide) (fun c13 => ?_) (fun c13 => ?_)
        · have hs := ite_t hs c13
          exact hj12 μj9 _ _ _ hs hW hS (lv_sub hl [] rfl)
        · have hs := ite_f hs c13
          refine lv_aload_n hx hb dL_isTiedAgain_170 rfl (lv_at hl 2 rfl) ?_
          obtain ⟨q14, hq14, hs⟩ := obind_e hs
          refine end_iN (run_VN (q := (RX4, TX4, 11)) (ci := 4) hF hKK hW hS hl.1 k0 (by decide) rfl (c_X4_undo l hOK k0 hq14) (kw_L_65 hF.2.2.2.2 ⟨Nat.le_of_ble_eq_true rfl, Nat.le_of_ble_eq_true rfl⟩) rfl rfl (Nat.le_of_ble_eq_true rfl) dL_isTiedAgain_171 ⟨Nat.le_of_ble_eq_true rfl, Nat.le_of_ble_eq_true rfl⟩) hS (fun H locs hW hS => ?_)
          refine lv_if_lt (tgt := 197) hx hb dL_isTiedAgain_174 (by decide) (fun c15 => ?_) (fun c15 => ?_)
          · have hs := ite_t hs c15
            exact hj12 q14.2 _ _ _ hs hW hS (lv_sub hl [] rfl)
          · have hs := ite_f hs c15
            refine lv_aload_n hx hb dL_isTiedAgain_177 rfl (lv_at hl 2 rfl) ?_
            obtain ⟨q16, hq16, hs⟩ := obind_e hs
            refine end_iN (run_VN (q := (RX4, TX4, 11)) (ci := 4) hF hKK hW hS hl.1 k0 (by decide) rfl (c_X4_undo l hOK k0 hq16) (kw_L_65 hF.2.2.2.2 ⟨Nat.le_of_ble_eq_true rfl, Nat.le_of_ble_eq_true rfl⟩) rfl rfl (Nat.le_of_ble_eq_true rfl) dL_isTiedAgain_178 ⟨Nat.le_of_ble_eq_true rfl, Nat.le_of_ble_eq_true rfl⟩) hS (fun H locs hW hS => ?_)
            refine lv_if_lt (tgt := 197) hx hb dL_isTiedAgain_181 (by decide) (fun c17 => ?_) (fun c17 => ?_)
            · have hs := ite_t hs c17
              exact hj12 q16.2 _ _ _ hs hW hS (lv_sub hl [] rfl)
            · have hs := ite_f hs c17
              refine lv_aload_n hx hb dL_isTiedAgain_184 rfl (lv_at hl 2 rfl) ?_
              obtain ⟨q18, hq18, hs⟩ := obind_e hs
              refine end_lN (run_SN hF hKK hW hS hl.1 (c_L_digest l hOK k0 hq18) (kw_L_156 hF.2.2.2.2 ⟨Nat.le_of_ble_eq_true rfl, Nat.le_of_ble_eq_true rfl⟩) rfl rfl (Nat.le_of_ble_eq_true rfl) dL_isTiedAgain_185 ⟨Nat.le_of_ble_eq_true rfl, Nat.le_of_ble_eq_true rfl⟩) hS (fun H locs hW hS => ?_)
              refine lv_lload_n hx hb dL_isTiedAgain_188 rfl (lv_at hl 1 rfl) ?_
              refine W.lcmp hx hb dL_isTiedAgain_189 ?_
              refine lv_if_ne (tgt := 197) hx hb dL_isTiedAgain_190 (by decide) (fun c19 => ?_) (fun c19 => ?_)
              · have hs := ite_f hs c19
                exact hj12 q16.2 _ _ _ hs hW hS (lv_sub hl [] rfl)
              · have hs := ite_t hs c19
                refine lv_iconst (v := (1 : Int32)) hx hb dL_isTiedAgain_193 (by decide) ?_
                refine lv_goto (tgt := 198) hx hb dL_isTiedAgain_194 (by decide) ?_
                exact hj10 (1 : Int32) q16.2 _ _ _ hs hW hS (lv_sub hl [] rfl)
      obtain ⟨kj20, ekj20, hs⟩ := bnd_e hs
      have hj20 : ∀ (μj20 : Mem) (H : Heap) (locs : List Loc) (ls : Array Slot), kj20 μj20 = some r → Wd G Λ μj20 H → va_S (AN Λ s.heap.size) s.heap H locs → lv_has ls 9 [(3, .long v2), (0, .ref a0)] → W p l e (nrm 9 12 1728) s m args below meth c H locs (0 + 12) (0 + 1728) (MQ below (QA G Λ r.1 r.2 s.heap.size) args s 12 1728 (AN Λ s.heap.size)) (F0 m 162 ls []) := by
        intro μj20 H locs ls hs hW hS hl
        have hs := kj1 ekj20 hs
        refine lv_iconst (v := (0 : Int32)) hx hb dL_isTiedAgain_162 (by decide) ?_
        refine W.widen (k := (0 + 12)) (n := (0 + 1728)) (by omega) (by omega) ?_
        exact hj9 (0 : Int32) μj20 _ _ _ hs hW hS (lv_sub hl [0, 1] rfl)
      refine lv_if_eq (tgt := 162) hx hb dL_isTiedAgain_127 (by decide) (fun c21 => ?_) (fun c21 => ?_)
      · have hs := ite_t hs c21
        refine W.widen (k := (0 + 12)) (n := (0 + 1728)) (by omega) (by omega) ?_
        exact hj20 q5.2 _ _ _ hs hW hS (lv_sub hl [2, 3] rfl)
      · have hs := ite_f hs c21
        refine lv_aload_n hx hb dL_isTiedAgain_130 rfl (lv_at hl 3 rfl) ?_
        refine lv_iload_n hx hb dL_isTiedAgain_131 rfl (lv_at hl 4 rfl) ?_
        refine lv_iload_n hx hb dL_isTiedAgain_132 rfl (lv_at hl 5 rfl) ?_
        obtain ⟨q22, hq22, hs⟩ := obind_e hs
        refine end_iN (run_VN (q := (RX4, TX4, 11)) (ci := 4) hF hKK hW hS hl.1 k0 (by decide) rfl (c_X4_join l hOK k0 hq22) (kw_L_27 hF.2.2.2.2 ⟨Nat.le_of_ble_eq_true rfl, Nat.le_of_ble_eq_true rfl⟩) rfl rfl (Nat.le_of_ble_eq_true rfl) dL_isTiedAgain_133 ⟨Nat.le_of_ble_eq_true rfl, Nat.le_of_ble_eq_true rfl⟩) hS (fun H locs hW hS => ?_)
        refine lv_iload hx hb dL_isTiedAgain_136 (lv_at hl 1 rfl) ?_
        refine lv_icmp_ne (tgt := 162) hx hb dL_isTiedAgain_138 (by decide) (fun c23 => ?_) (fun c23 => ?_)
        · have hs := ite_f hs c23
          refine W.widen (k := (0 + 12)) (n := (0 + 1728)) (by omega) (by omega) ?_
          exact hj20 q22.2 _ _ _ hs hW hS (lv_sub hl [2, 3] rfl)
        · have hs := ite_t hs c23
          refine lv_aload_n hx hb dL_isTiedAgain_141 rfl (lv_at hl 3 rfl) ?_
          refine lv_iload_n hx hb dL_isTiedAgain_142 rfl (lv_at hl 4 rfl) ?_
          refine lv_iload_n hx hb dL_isTiedAgain_143 rfl (lv_at hl 5 rfl) ?_
          obtain ⟨q24, hq24, hs⟩ := obind_e hs
          refine end_iN (run_VN (q := (RX4, TX4, 11)) (ci := 4) hF hKK hW hS hl.1 k0 (by decide) rfl (c_X4_isRope l hOK k0 hq24) (kw_L_81 hF.2.2.2.2 ⟨Nat.le_of_ble_eq_true rfl, Nat.le_of_ble_eq_true rfl⟩) rfl rfl (Nat.le_of_ble_eq_true rfl) dL_isTiedAgain_144 ⟨Nat.le_of_ble_eq_true rfl, Nat.le_of_ble_eq_true rfl⟩) hS (fun H locs hW hS => ?_)
          refine lv_iconst (v := (1 : Int32)) hx hb dL_isTiedAgain_147 (by decide) ?_
          refine lv_icmp_ne (tgt := 162) hx hb dL_isTiedAgain_148 (by decide) (fun c25 => ?_) (fun c25 => ?_)
          · have hs := ite_f hs c25
            refine W.widen (k := (0 + 12)) (n := (0 + 1728)) (by omega) (by omega) ?_
            exact hj20 q22.2 _ _ _ hs hW hS (lv_sub hl [2, 3] rfl)
          · have hs := ite_t hs c25
            refine lv_aload_n hx hb dL_isTiedAgain_151 rfl (lv_at hl 3 rfl) ?_
            obtain ⟨q26, hq26, hs⟩ := obind_e hs
            refine run_SA hF hKK hW hS hl.1 (c_L_areParts l hOK k0 hq26) (kw_L_131 hF.2.2.2.2 ⟨Nat.le_of_ble_eq_true rfl, Nat.le_of_ble_eq_true rfl⟩) rfl rfl (Nat.le_of_ble_eq_true rfl) dL_isTiedAgain_152 ⟨Nat.le_of_ble_eq_true rfl, Nat.le_of_ble_eq_true rfl⟩ (fun H locs hW hS => ?_)
            refine lv_if_eq (tgt := 162) hx hb dL_isTiedAgain_155 (by decide) (fun c27 => ?_) (fun c27 => ?_)
            · have hs := ite_t hs c27
              refine W.widen (k := (0 + 12)) (n := (0 + 1728)) (by omega) (by omega) ?_
              exact hj20 q22.2 _ _ _ hs hW hS (lv_sub hl [2, 3] rfl)
            · have hs := ite_f hs c27
              refine lv_iconst (v := (1 : Int32)) hx hb dL_isTiedAgain_158 (by decide) ?_
              refine lv_goto (tgt := 163) hx hb dL_isTiedAgain_159 (by decide) ?_
              refine W.widen (k := (0 + 12)) (n := (0 + 1728)) (by omega) (by omega) ?_
              exact hj9 (1 : Int32) q22.2 _ _ _ hs hW hS (lv_sub hl [2, 3] rfl)
    obtain ⟨kj28, ekj28, hs⟩ := bnd_e hs
    have hj28 : ∀ (H : Heap) (locs : List Loc) (ls : Array Slot), kj28 = some r → Wd G Λ q5.2 H → va_S (AN Λ s.heap.size) s.heap H locs → lv_has ls 9 [(5, .int q3), (3, .long v2), (0, .ref a0), (1, .int a1), (2, .int a2)] → W p l e (nrm 9 12 1728) s m args below meth c H locs 0 0 (MQ below (QA G Λ r.1 r.2 s.heap.size) args s 12 1728 (AN Λ s.heap.size)) (F0 m 122 ls []) := by
      intro  H locs ls hs hW hS hl
      have hs := ekj28.symm.trans hs
      refine lv_iconst (v := (0 : Int32)) hx hb dL_isTiedAgain_122 (by decide) ?_
      exact hj8 (0 : Int32) _ _ _ hs hW hS (lv_sub hl [0, 1, 2, 3, 4] rfl)
    obtain ⟨kj29, ekj29, hs⟩ := bnd_e hs
    have hj29 : ∀ (H : Heap) (locs : List Loc) (ls : Array Slot), kj29 = some r → Wd G Λ q5.2 H → va_S (AN Λ s.heap.size) s.heap H locs → lv_has ls 9 [(7, .int v6), (6, .int q4), (5, .int q3), (3, .long v2), (0, .ref a0), (1, .int a1), (2, .int a2)] → W p l e (nrm 9 12 1728) s m args below meth c H locs 0 0 (MQ below (QA G Λ r.1 r.2 s.heap.size) args s 12 1728 (AN Λ s.heap.size)) (F0 m 76 ls []) := by
      intro  H locs ls hs hW hS hl
      have hs := ekj29.symm.trans hs
      refine lv_aload_n hx hb dL_isTiedAgain_76 rfl (lv_at hl 4 rfl) ?_
      refine lv_iload hx hb dL_isTiedAgain_77 (lv_at hl 0 rfl) ?_
      refine lv_iconst (v := (1 : Int32)) hx hb dL_isTiedAgain_79 (by decide) ?_
      obtain ⟨q30, hq30, hs⟩ := obind_e hs
      refine end_iN (run_VN (q := (RX4, TX4, 11)) (ci := 4) hF hKK hW hS hl.1 k0 (by decide) rfl (c_X4_bankOf l hOK k0 hq30) (kw_L_34 hF.2.2.2.2 ⟨Nat.le_of_ble_eq_true rfl, Nat.le_of_ble_eq_true rfl⟩) rfl rfl (Nat.le_of_ble_eq_true rfl) dL_isTiedAgain_80 ⟨Nat.le_of_ble_eq_true rfl, Nat.le_of_ble_eq_true rfl⟩) hS (fun H locs hW hS => ?_)
      refine lv_iload hx hb dL_isTiedAgain_83 (lv_at hl 0 rfl) ?_
      refine lv_icmp_ne (tgt := 122) hx hb dL_isTiedAgain_85 (by decide) (fun c31 => ?_) (fun c31 => ?_)
      · have hs := ite_f hs c31
        exact hj28 _ _ _ hs hW hS (lv_sub hl [2, 3, 4, 5, 6] rfl)
      · have hs := ite_t hs c31
        refine lv_aload_n hx hb dL_isTiedAgain_88 rfl (lv_at hl 4 rfl) ?_
        refine lv_iload_n hx hb dL_isTiedAgain_89 rfl (lv_at hl 5 rfl) ?_
        refine lv_iload_n hx hb dL_isTiedAgain_90 rfl (lv_at hl 6 rfl) ?_
        obtain ⟨q32, hq32, hs⟩ := obind_e hs
        refine end_iN (run_VN (q := (RX4, TX4, 11)) (ci := 4) hF hKK hW hS hl.1 k0 (by decide) rfl (c_X4_areJoined l hOK k0 hq32) (kw_L_90 hF.2.2.2.2 ⟨Nat.le_of_ble_eq_true rfl, Nat.le_of_ble_eq_true rfl⟩) rfl rfl (Nat.le_of_ble_eq_true rfl) dL_isTiedAgain_91 ⟨Nat.le_of_ble_eq_true rfl, Nat.le_of_ble_eq_true rfl⟩) hS (fun H locs hW hS => ?_)
        refine lv_if_ne (tgt := 122) hx hb dL_isTiedAgain_94 (by decide) (fun c33 => ?_) (fun c33 => ?_)
        · have hs := ite_f hs c33
          exact hj28 _ _ _ hs hW hS (lv_sub hl [2, 3, 4, 5, 6] rfl)
        · have hs := ite_t hs c33
          refine lv_aload_n hx hb dL_isTiedAgain_97 rfl (lv_at hl 4 rfl) ?_
          refine lv_iload_n hx hb dL_isTiedAgain_98 rfl (lv_at hl 5 rfl) ?_
          refine lv_iconst (v := (2 : Int32)) hx hb dL_isTiedAgain_99 (by decide) ?_
          obtain ⟨q34, hq34, hs⟩ := obind_e hs
          refine end_iN (run_VN (q := (RX4, TX4, 11)) (ci := 4) hF hKK hW hS hl.1 k0 (by decide) rfl (c_X4_partOf l hOK k0 hq34) (kw_L_75 hF.2.2.2.2 ⟨Nat.le_of_ble_eq_true rfl, Nat.le_of_ble_eq_true rfl⟩) rfl rfl (Nat.le_of_ble_eq_true rfl) dL_isTiedAgain_100 ⟨Nat.le_of_ble_eq_true rfl, Nat.le_of_ble_eq_true rfl⟩) hS (fun H locs hW hS => ?_)
          refine lv_aload_n hx hb dL_isTiedAgain_103 rfl (lv_at hl 4 rfl) ?_
          refine lv_iload_n hx hb dL_isTiedAgain_104 rfl (lv_at hl 6 rfl) ?_
          refine lv_iconst (v := (2 : Int32)) hx hb dL_isTiedAgain_105 (by decide) ?_
          obtain ⟨q35, hq35, hs⟩ := obind_e hs
          refine end_iN (run_VN (q := (RX4, TX4, 11)) (ci := 4) hF hKK hW hS hl.1 k0 (by decide) rfl (c_X4_partOf l hOK k0 hq35) (kw_L_75 hF.2.2.2.2 ⟨Nat.le_of_ble_eq_true rfl, Nat.le_of_ble_eq_true rfl⟩) rfl rfl (Nat.le_of_ble_eq_true rfl) dL_isTiedAgain_106 ⟨Nat.le_of_ble_eq_true rfl, Nat.le_of_ble_eq_true rfl⟩) hS (fun H locs hW hS => ?_)
          refine lv_isub hx hb dL_isTiedAgain_109 ?_
          refine va_mabs hx hb (hF.2.2.1.trans hl.1.symm) hF.2.2.2.1 (hF.2.2.2.2 _ wd_744) (hF.2.2.2.2 _ wd_742) (hF.2.2.2.2 _ wd_22) (hF.2.2.2.2 _ wd_743) (Nat.le_of_ble_eq_true rfl) (Nat.le_of_ble_eq_true rfl) (Nat.le_of_ble_eq_true rfl) (Nat.le_of_ble_eq_true rfl) dL_isTiedAgain_110 ?_
          refine lv_iload hx hb dL_isTiedAgain_113 (lv_at hl 1 rfl) ?_
          refine lv_icmp_ne (tgt := 122) hx hb dL_isTiedAgain_115 (by decide) (fun c36 => ?_) (fun c36 => ?_)
          · have hs := ite_f hs c36
            exact hj28 _ _ _ hs hW hS (lv_sub hl [2, 3, 4, 5, 6] rfl)
          · have hs := ite_t hs c36
            refine lv_iconst (v := (1 : Int32)) hx hb dL_isTiedAgain_118 (by decide) ?_
            refine lv_goto (tgt := 123) hx hb dL_isTiedAgain_119 (by decide) ?_
            exact hj8 (1 : Int32) _ _ _ hs hW hS (lv_sub hl [2, 3, 4, 5, 6] rfl)
    refine lv_icmp_eq (tgt := 76) hx hb dL_isTiedAgain_67 (by decide) (fun c37 => ?_) (fun c37 => ?_)
    · have hs := ite_t hs c37
      exact hj29 _ _ _ hs hW hS (lv_sub hl [0, 1, 2, 3, 4, 5, 6] rfl)
    · have hs := ite_f hs c37
      refine lv_iload hx hb dL_isTiedAgain_70 (lv_at hl 0 rfl) ?_
      refine lv_iload_n hx hb dL_isTiedAgain_72 rfl (lv_at hl 6 rfl) ?_
      refine lv_icmp_ne (tgt := 122) hx hb dL_isTiedAgain_73 (by decide) (fun c38 => ?_) (fun c38 => ?_)
      · have hs := ite_f hs c38
        exact hj28 _ _ _ hs hW hS (lv_sub hl [2, 3, 4, 5, 6] rfl)
      · have hs := ite_t hs c38
        exact hj29 _ _ _ hs hW hS (lv_sub hl [0, 1, 2, 3, 4, 5, 6] rfl)
  · have hs := ite_f hs c7
    refine lv_aload_n hx hb dL_isTiedAgain_34 rfl (lv_at hl 4 rfl) ?_
    obtain ⟨q39, hq39, hs⟩ := obind_e hs
    refine end_lN (run_SN hF hKK hW hS hl.1 (c_L_digest l hOK k0 hq39) (kw_L_156 hF.2.2.2.2 ⟨Nat.le_of_ble_eq_true rfl, Nat.le_of_ble_eq_true rfl⟩) rfl rfl (Nat.le_of_ble_eq_true rfl) dL_isTiedAgain_35 ⟨Nat.le_of_ble_eq_true rfl, Nat.le_of_ble_eq_true rfl⟩) hS (fun H locs hW hS => ?_)
    refine lv_lload_n hx hb dL_isTiedAgain_38 rfl (lv_at hl 3 rfl) ?_
    refine W.lcmp hx hb dL_isTiedAgain_39 ?_
    obtain ⟨kj40, ekj40, hs⟩ := bnd_e hs
    have hj40 : ∀ (j40 : Int32) (H : Heap) (locs : List Loc) (ls : Array Slot), kj40 j40 = some r → Wd G Λ q5.2 H → va_S (AN Λ s.heap.size) s.heap H locs → lv_has ls 9 [] → W p l e (nrm 9 12 1728) s m args below meth c H locs 0 0 (MQ below (QA G Λ r.1 r.2 s.heap.size) args s 12 1728 (AN Λ s.heap.size)) (F0 m 63 ls [.int j40]) := by
      intro j40 H locs ls hs hW hS hl
      have hs := kj1 ekj40 hs
      obtain ⟨g41, hs⟩ := gd_some hs
      have h9 := Option.some.inj hs
      rw [← h9]
      exact wr_iN hF hr hlocks (isB_nar g41) hW hS (by omega) (by omega) dL_isTiedAgain_63
    obtain ⟨kj42, ekj42, hs⟩ := bnd_e hs
    have hj42 : ∀ (H : Heap) (locs : List Loc) (ls : Array Slot), kj42 = some r → Wd G Λ q5.2 H → va_S (AN Λ s.heap.size) s.heap H locs → lv_has ls 9 [] → W p l e (nrm 9 12 1728) s m args below meth c H locs 0 0 (MQ below (QA G Λ r.1 r.2 s.heap.size) args s 12 1728 (AN Λ s.heap.size)) (F0 m 62 ls []) := by
      intro  H locs ls hs hW hS hl
      have hs := ekj42.symm.trans hs
      refine lv_iconst (v := (0 : Int32)) hx hb dL_isTiedAgain_62 (by decide) ?_
      exact hj40 (0 : Int32) _ _ _ hs hW hS (lv_sub hl [] rfl)
    refine lv_if_ne (tgt := 62) hx hb dL_isTiedAgain_40 (by decide) (fun c43 => ?_) (fun c43 => ?_)
    · have hs := ite_f hs c43
      exact hj42 _ _ _ hs hW hS (lv_sub hl [] rfl)
    · have hs := ite_t hs c43
      refine lv_iload hx hb dL_isTiedAgain_43 (lv_at hl 0 rfl) ?_
      refine lv_iconst (v := (-1 : Int32)) hx hb dL_isTiedAgain_45 (by decide) ?_
      obtain ⟨kj44, ekj44, hs⟩ := bnd_e hs
      have hj44 : ∀ (H : Heap) (locs : List Loc) (ls : Array Slot), kj44 = some r → Wd G Λ q5.2 H → va_S (AN Λ s.heap.size) s.heap H locs → lv_has ls 9 [] → W p l e (nrm 9 12 1728) s m args below meth c H locs 0 0 (MQ below (QA G Λ r.1 r.2 s.heap.size) args s 12 1728 (AN Λ s.heap.size)) (F0 m 58 ls []) := by
        intro  H locs ls hs hW hS hl
        have hs := ekj44.symm.trans hs
        refine lv_iconst (v := (1 : Int32)) hx hb dL_isTiedAgain_58 (by decide) ?_
        refine lv_goto (tgt := 63) hx hb dL_isTiedAgain_59 (by decide) ?_
        exact hj40 (1 : Int32) _ _ _ hs hW hS (lv_sub hl [] rfl)
      refine lv_icmp_eq (tgt := 58) hx hb dL_isTiedAgain_46 (by decide) (fun c45 => ?_) (fun c45 => ?_)
      · have hs := ite_t hs c45
        exact hj44 _ _ _ hs hW hS (lv_sub hl [] rfl)
      · have hs := ite_f hs c45
        refine lv_aload_n hx hb dL_isTiedAgain_49 rfl (lv_at hl 4 rfl) ?_
        refine lv_iconst (v := (0 : Int32)) hx hb dL_isTiedAgain_50 (by decide) ?_
        obtain ⟨q46, hq46, hs⟩ := obind_e hs
        refine end_iN (run_VN (q := (RX4, TX4, 11)) (ci := 4) hF hKK hW hS hl.1 k0 (by decide) rfl (c_X4_refusal l hOK k0 hq46) (kw_L_160 hF.2.2.2.2 ⟨Nat.le_of_ble_eq_true rfl, Nat.le_of_ble_eq_true rfl⟩) rfl rfl (Nat.le_of_ble_eq_true rfl) dL_isTiedAgain_51 ⟨Nat.le_of_ble_eq_true rfl, Nat.le_of_ble_eq_true rfl⟩) hS (fun H locs hW hS => ?_)
        refine lv_iconst (v := (4 : Int32)) hx hb dL_isTiedAgain_54 (by decide) ?_
        refine lv_icmp_ne (tgt := 62) hx hb dL_isTiedAgain_55 (by decide) (fun c47 => ?_) (fun c47 => ?_)
        · have hs := ite_f hs c47
          exact hj42 _ _ _ hs hW hS (lv_sub hl [] rfl)
        · have hs := ite_t hs c47
          exact hj44 _ _ _ hs hW hS (lv_sub hl [] rfl)
