/-! printed by wip/gen/build.py out of the decode rows: do not edit by hand -/
set_option maxHeartbeats 4000000 in
set_option maxRecDepth 100000 in
theorem c_X5_readCommand (l : Launch) {G : va_G} {Λ : Lay} {μ : Mem} (hOK : LayOK Λ) {a0 : Nat} (k0 : inK Λ a0 5) {r : Mem} (hs : sX5_readCommand Λ μ a0 = some r) : CM l G Λ yX5_readCommand cX5_readCommand 1 none 4 μ [.ref a0] (QV G Λ r) := by
  refine ofM (own := RX5) (by decide +kernel) rfl (Nat.le_of_ble_eq_true rfl) (fun p e s m args below meth c ls hF hKK hW hr hlocks hl => ?_)
  have hx := hF.1
  have hb := hF.2.1
  have hA : ∀ q, inL Λ q → inL Λ q := fun _ h => h
  have hS : va_S (inL Λ) s.heap s.heap [] := va_S.rf
  have hl : lv_has ls 1 [(0, .ref a0)] := hl
  unfold sX5_readCommand at hs
  refine lv_aload_n hx hb dX5_readCommand_0 rfl (lv_at hl 0 rfl) ?_
  refine lv_aload_n hx hb dX5_readCommand_1 rfl (lv_at hl 0 rfl) ?_
  refine gf_5_20 hF hKK hW k0 dX5_readCommand_2 ?_
  refine lv_if_ne (tgt := 31) hx hb dX5_readCommand_5 (by decide) (fun c1 => ?_) (fun c1 => ?_)
  · have hs := ite_f hs c1
    refine lv_bipush (v := (32 : Int32)) hx hb dX5_readCommand_31 (by decide) ?_
    obtain ⟨μ2, eμ2, hs⟩ := bnd_e hs
    refine pf_5_19 hOK hF hKK hW hS hA k0 eμ2 dX5_readCommand_33 (fun H locs hW hS => ?_)
    refine lv_aload_n hx hb dX5_readCommand_36 rfl (lv_at hl 0 rfl) ?_
    refine lv_dup hx hb dX5_readCommand_37 rfl ?_
    refine gf_5_20 hF hKK hW k0 dX5_readCommand_38 ?_
    refine row_ldcS hF hKK dX5_readCommand_41 (fun qs3 hqs3 => ?_)
    refine lv_aload_n hx hb dX5_readCommand_43 rfl (lv_at hl 0 rfl) ?_
    refine gf_5_19 hF hKK hW k0 dX5_readCommand_44 ?_
    refine lv_i2c (v := (jchar (mI μ2 a0 19))) hx hb dX5_readCommand_47 rfl ?_
    refine row_indexOf hF hKK hW hS hqs3 hl.1 (Nat.le_of_ble_eq_true rfl) ⟨Nat.le_of_ble_eq_true rfl, Nat.le_of_ble_eq_true rfl⟩ ⟨Nat.zero_le _, Nat.zero_le _⟩ dX5_readCommand_48 (fun H locs hW hS => ?_)
    refine lv_if_ge (tgt := 58) hx hb dX5_readCommand_51 (by decide) (fun c4 => ?_) (fun c4 => ?_)
    · have hs := ite_t hs c4
      refine lv_iconst (v := (0 : Int32)) hx hb dX5_readCommand_58 (by decide) ?_
      refine lv_ior hx hb dX5_readCommand_59 ?_
      obtain ⟨g33, hs⟩ := gd_some hs
      obtain ⟨μ5, eμ5, hs⟩ := bnd_e hs
      refine pf_5_20 g33 hOK hF hKK hW hS hA k0 eμ5 dX5_readCommand_60 (fun H locs hW hS => ?_)
      refine lv_aload_n hx hb dX5_readCommand_63 rfl (lv_at hl 0 rfl) ?_
      refine lv_dup hx hb dX5_readCommand_64 rfl ?_
      refine gf_5_16 hF hKK hW k0 dX5_readCommand_65 ?_
      refine lv_aload_n hx hb dX5_readCommand_68 rfl (lv_at hl 0 rfl) ?_
      refine gf_5_20 hF hKK hW k0 dX5_readCommand_69 ?_
      refine lv_if_eq (tgt := 79) hx hb dX5_readCommand_72 (by decide) (fun c6 => ?_) (fun c6 => ?_)
      · have hs := ite_t hs c6
        refine lv_iconst (v := (1 : Int32)) hx hb dX5_readCommand_79 (by decide) ?_
        refine lv_iadd hx hb dX5_readCommand_80 ?_
        obtain ⟨μ7, eμ7, hs⟩ := bnd_e hs
        refine pf_5_16 hOK hF hKK hW hS hA k0 eμ7 dX5_readCommand_81 (fun H locs hW hS => ?_)
        refine lv_aload_n hx hb dX5_readCommand_84 rfl (lv_at hl 0 rfl) ?_
        refine lv_aload_n hx hb dX5_readCommand_85 rfl (lv_at hl 0 rfl) ?_
        obtain ⟨q8, hq8, hs⟩ := obind_e hs
        refine end_i (run_V (q := (RX5, TX5, 21)) (ci := 5) hF hKK hW hS hl.1 k0 (by decide) rfl (c_X5_readNumber l hOK k0 hq8) (kw_X5_202 hF.2.2.2.2 ⟨Nat.le_of_ble_eq_true rfl, Nat.le_of_ble_eq_true rfl⟩) rfl rfl (Nat.le_of_ble_eq_true rfl) dX5_readCommand_86 ⟨Nat.zero_le _, Nat.zero_le _⟩) hS (fun H locs hW hS => ?_)
        obtain ⟨μ9, eμ9, hs⟩ := bnd_e hs
        refine pf_5_17 hOK hF hKK hW hS hA k0 eμ9 dX5_readCommand_89 (fun H locs hW hS => ?_)
        refine lv_aload_n hx hb dX5_readCommand_92 rfl (lv_at hl 0 rfl) ?_
        refine gf_5_19 hF hKK hW k0 dX5_readCommand_93 ?_
        obtain ⟨v10, ev10, hs⟩ := bnd_e hs
        refine top_i ev10 ?_
        by_cases c11 : v10 = (99 : Int32)
        · have hs := ite_t hs c11
          refine lv_lookup (off := 53) (tgt := 149) hx hb dX5_readCommand_96 (by decide) (by rw [c11]; decide) (by decide) ?_
          refine lv_aload_n hx hb dX5_readCommand_149 rfl (lv_at hl 0 rfl) ?_
          refine lv_bipush (v := (126 : Int32)) hx hb dX5_readCommand_150 (by decide) ?_
          obtain ⟨q12, hq12, hs⟩ := obind_e hs
          refine end_v (run_V (q := (RX5, TX5, 21)) (ci := 5) hF hKK hW hS hl.1 k0 (by decide) rfl (c_X5_readBehind l hOK k0 hq12) (kw_X5_221 hF.2.2.2.2 ⟨Nat.le_of_ble_eq_true rfl, Nat.le_of_ble_eq_true rfl⟩) rfl rfl (Nat.le_of_ble_eq_true rfl) dX5_readCommand_152 ⟨Nat.zero_le _, Nat.zero_le _⟩) hS (fun H locs hW hS => ?_)
          refine lv_goto (tgt := 170) hx hb dX5_readCommand_155 (by decide) ?_
          have h9 := Option.some.inj hs
          rw [← h9]
          exact wr_v hF hr hlocks hW hS dX5_readCommand_170
        have hs := ite_f hs c11
        by_cases c13 : v10 = (106 : Int32)
        · have hs := ite_t hs c13
          refine lv_lookup (off := 53) (tgt := 149) hx hb dX5_readCommand_96 (by decide) (by rw [c13]; decide) (by decide) ?_
          refine lv_aload_n hx hb dX5_readCommand_149 rfl (lv_at hl 0 rfl) ?_
          refine lv_bipush (v := (126 : Int32)) hx hb dX5_readCommand_150 (by decide) ?_
          obtain ⟨q14, hq14, hs⟩ := obind_e hs
          refine end_v (run_V (q := (RX5, TX5, 21)) (ci := 5) hF hKK hW hS hl.1 k0 (by decide) rfl (c_X5_readBehind l hOK k0 hq14) (kw_X5_221 hF.2.2.2.2 ⟨Nat.le_of_ble_eq_true rfl, Nat.le_of_ble_eq_true rfl⟩) rfl rfl (Nat.le_of_ble_eq_true rfl) dX5_readCommand_152 ⟨Nat.zero_le _, Nat.zero_le _⟩) hS (fun H locs hW hS => ?_)
          refine lv_goto (tgt := 170) hx hb dX5_readCommand_155 (by decide) ?_
          have h9 := Option.some.inj hs
          rw [← h9]
          exact wr_v hF hr hlocks hW hS dX5_readCommand_170
        have hs := ite_f hs c13
        by_cases c15 : v10 = (117 : Int32)
        · have hs := ite_t hs c15
          refine lv_lookup (off := 62) (tgt := 158) hx hb dX5_readCommand_96 (by decide) (by rw [c15]; decide) (by decide) ?_
          refine lv_aload_n hx hb dX5_readCommand_158 rfl (lv_at hl 0 rfl) ?_
          obtain ⟨q16, hq16, hs⟩ := obind_e hs
          refine end_v (run_V (q := (RX5, TX5, 21)) (ci := 5) hF hKK hW hS hl.1 k0 (by decide) rfl (c_X5_readRise l hOK k0 hq16) (kw_X5_224 hF.2.2.2.2 ⟨Nat.le_of_ble_eq_true rfl, Nat.le_of_ble_eq_true rfl⟩) rfl rfl (Nat.le_of_ble_eq_true rfl) dX5_readCommand_159 ⟨Nat.zero_le _, Nat.zero_le _⟩) hS (fun H locs hW hS => ?_)
          refine lv_goto (tgt := 170) hx hb dX5_readCommand_162 (by decide) ?_
          have h9 := Option.some.inj hs
          rw [← h9]
          exact wr_v hF hr hlocks hW hS dX5_readCommand_170
        have hs := ite_f hs c15
        by_cases c17 : v10 = (119 : Int32)
        · have hs := ite_t hs c17
          refine lv_lookup (off := 44) (tgt := 140) hx hb dX5_readCommand_96 (by decide) (by rw [c17]; decide) (by decide) ?_
          refine lv_aload_n hx hb dX5_readCommand_140 rfl (lv_at hl 0 rfl) ?_
          refine lv_bipush (v := (61 : Int32)) hx hb dX5_readCommand_141 (by decide) ?_
          obtain ⟨q18, hq18, hs⟩ := obind_e hs
          refine end_v (run_V (q := (RX5, TX5, 21)) (ci := 5) hF hKK hW hS hl.1 k0 (by decide) rfl (c_X5_readBehind l hOK k0 hq18) (kw_X5_221 hF.2.2.2.2 ⟨Nat.le_of_ble_eq_true rfl, Nat.le_of_ble_eq_true rfl⟩) rfl rfl (Nat.le_of_ble_eq_true rfl) dX5_readCommand_143 ⟨Nat.zero_le _, Nat.zero_le _⟩) hS (fun H locs hW hS => ?_)
          refine lv_goto (tgt := 170) hx hb dX5_readCommand_146 (by decide) ?_
          have h9 := Option.some.inj hs
          rw [← h9]
          exact wr_v hF hr hlocks hW hS dX5_readCommand_170
        have hs := ite_f hs c17
        refine lv_lookup (off := 69) (tgt := 165) hx hb dX5_readCommand_96 (by decide) ((lv_osw c11 (by decide)).trans ((lv_osw c13 (by decide)).trans ((lv_osw c15 (by decide)).trans ((lv_osw c17 (by decide)).trans rfl)))) (by decide) ?_
        refine lv_aload_n hx hb dX5_readCommand_165 rfl (lv_at hl 0 rfl) ?_
        refine lv_iconst (v := (0 : Int32)) hx hb dX5_readCommand_166 (by decide) ?_
        obtain ⟨μ19, eμ19, hs⟩ := bnd_e hs
        refine pf_5_18 hOK hF hKK hW hS hA k0 eμ19 dX5_readCommand_167 (fun H locs hW hS => ?_)
        have h9 := Option.some.inj hs
        rw [← h9]
        exact wr_v hF hr hlocks hW hS dX5_readCommand_170
      · have hs := ite_f hs c6
        refine lv_iconst (v := (0 : Int32)) hx hb dX5_readCommand_75 (by decide) ?_
        refine lv_goto (tgt := 80) hx hb dX5_readCommand_76 (by decide) ?_
        refine lv_iadd hx hb dX5_readCommand_80 ?_
        obtain ⟨μ20, eμ20, hs⟩ := bnd_e hs
        refine pf_5_16 hOK hF hKK hW hS hA k0 eμ20 dX5_readCommand_81 (fun H locs hW hS => ?_)
        refine lv_aload_n hx hb dX5_readCommand_84 rfl (lv_at hl 0 rfl) ?_
        refine lv_aload_n hx hb dX5_readCommand_85 rfl (lv_at hl 0 rfl) ?_
        obtain ⟨q21, hq21, hs⟩ := obind_e hs
        refine end_i (run_V (q := (RX5, TX5, 21)) (ci := 5) hF hKK hW hS hl.1 k0 (by decide) rfl (c_X5_readNumber l hOK k0 hq21) (kw_X5_202 hF.2.2.2.2 ⟨Nat.le_of_ble_eq_true rfl, Nat.le_of_ble_eq_true rfl⟩) rfl rfl (Nat.le_of_ble_eq_true rfl) dX5_readCommand_86 ⟨Nat.zero_le _, Nat.zero_le _⟩) hS (fun H locs hW hS => ?_)
        obtain ⟨μ22, eμ22, hs⟩ := bnd_e hs
        refine pf_5_17 hOK hF hKK hW hS hA k0 eμ22 dX5_readCommand_89 (fun H locs hW hS => ?_)
        refine lv_aload_n hx hb dX5_readCommand_92 rfl (lv_at hl 0 rfl) ?_
        refine gf_5_19 hF hKK hW k0 dX5_readCommand_93 ?_
        obtain ⟨v23, ev23, hs⟩ := bnd_e hs
        refine top_i ev23 ?_
        by_cases c24 : v23 = (99 : Int32)
        · have hs := ite_t hs c24
          refine lv_lookup (off := 53) (tgt := 149) hx hb dX5_readCommand_96 (by decide) (by rw [c24]; decide) (by decide) ?_
          refine lv_aload_n hx hb dX5_readCommand_149 rfl (lv_at hl 0 rfl) ?_
          refine lv_bipush (v := (126 : Int32)) hx hb dX5_readCommand_150 (by decide) ?_
          obtain ⟨q25, hq25, hs⟩ := obind_e hs
          refine end_v (run_V (q := (RX5, TX5, 21)) (ci := 5) hF hKK hW hS hl.1 k0 (by decide) rfl (c_X5_readBehind l hOK k0 hq25) (kw_X5_221 hF.2.2.2.2 ⟨Nat.le_of_ble_eq_true rfl, Nat.le_of_ble_eq_true rfl⟩) rfl rfl (Nat.le_of_ble_eq_true rfl) dX5_readCommand_152 ⟨Nat.zero_le _, Nat.zero_le _⟩) hS (fun H locs hW hS => ?_)
          refine lv_goto (tgt := 170) hx hb dX5_readCommand_155 (by decide) ?_
          have h9 := Option.some.inj hs
          rw [← h9]
          exact wr_v hF hr hlocks hW hS dX5_readCommand_170
        have hs := ite_f hs c24
        by_cases c26 : v23 = (106 : Int32)
        · have hs := ite_t hs c26
          refine lv_lookup (off := 53) (tgt := 149) hx hb dX5_readCommand_96 (by decide) (by rw [c26]; decide) (by decide) ?_
          refine lv_aload_n hx hb dX5_readCommand_149 rfl (lv_at hl 0 rfl) ?_
          refine lv_bipush (v := (126 : Int32)) hx hb dX5_readCommand_150 (by decide) ?_
          obtain ⟨q27, hq27, hs⟩ := obind_e hs
          refine end_v (run_V (q := (RX5, TX5, 21)) (ci := 5) hF hKK hW hS hl.1 k0 (by decide) rfl (c_X5_readBehind l hOK k0 hq27) (kw_X5_221 hF.2.2.2.2 ⟨Nat.le_of_ble_eq_true rfl, Nat.le_of_ble_eq_true rfl⟩) rfl rfl (Nat.le_of_ble_eq_true rfl) dX5_readCommand_152 ⟨Nat.zero_le _, Nat.zero_le _⟩) hS (fun H locs hW hS => ?_)
          refine lv_goto (tgt := 170) hx hb dX5_readCommand_155 (by decide) ?_
          have h9 := Option.some.inj hs
          rw [← h9]
          exact wr_v hF hr hlocks hW hS dX5_readCommand_170
        have hs := ite_f hs c26
        by_cases c28 : v23 = (117 : Int32)
        · have hs := ite_t hs c28
          refine lv_lookup (off := 62) (tgt := 158) hx hb dX5_readCommand_96 (by decide) (by rw [c28]; decide) (by decide) ?_
          refine lv_aload_n hx hb dX5_readCommand_158 rfl (lv_at hl 0 rfl) ?_
          obtain ⟨q29, hq29, hs⟩ := obind_e hs
          refine end_v (run_V (q := (RX5, TX5, 21)) (ci := 5) hF hKK hW hS hl.1 k0 (by decide) rfl (c_X5_readRise l hOK k0 hq29) (kw_X5_224 hF.2.2.2.2 ⟨Nat.le_of_ble_eq_true rfl, Nat.le_of_ble_eq_true rfl⟩) rfl rfl (Nat.le_of_ble_eq_true rfl) dX5_readCommand_159 ⟨Nat.zero_le _, Nat.zero_le _⟩) hS (fun H locs hW hS => ?_)
          refine lv_goto (tgt := 170) hx hb dX5_readCommand_162 (by decide) ?_
          have h9 := Option.some.inj hs
          rw [← h9]
          exact wr_v hF hr hlocks hW hS dX5_readCommand_170
        have hs := ite_f hs c28
        by_cases c30 : v23 = (119 : Int32)
        · have hs := ite_t hs c30
          refine lv_lookup (off := 44) (tgt := 140) hx hb dX5_readCommand_96 (by decide) (by rw [c30]; decide) (by decide) ?_
          refine lv_aload_n hx hb dX5_readCommand_140 rfl (lv_at hl 0 rfl) ?_
          refine lv_bipush (v := (61 : Int32)) hx hb dX5_readCommand_141 (by decide) ?_
          obtain ⟨q31, hq31, hs⟩ := obind_e hs
          refine end_v (run_V (q := (RX5, TX5, 21)) (ci := 5) hF hKK hW hS hl.1 k0 (by decide) rfl (c_X5_readBehind l hOK k0 hq31) (kw_X5_221 hF.2.2.2.2 ⟨Nat.le_of_ble_eq_true rfl, Nat.le_of_ble_eq_true rfl⟩) rfl rfl (Nat.le_of_ble_eq_true rfl) dX5_readCommand_143 ⟨Nat.zero_le _, Nat.zero_le _⟩) hS (fun H locs hW hS => ?_)
          refine lv_goto (tgt := 170) hx hb dX5_readCommand_146 (by decide) ?_
          have h9 := Option.some.inj hs
          rw [← h9]
          exact wr_v hF hr hlocks hW hS dX5_readCommand_170
        have hs := ite_f hs c30
        refine lv_lookup (off := 69) (tgt := 165) hx hb dX5_readCommand_96 (by decide) ((lv_osw c24 (by decide)).trans ((lv_osw c26 (by decide)).trans ((lv_osw c28 (by decide)).trans ((lv_osw c30 (by decide)).trans rfl)))) (by decide) ?_
        refine lv_aload_n hx hb dX5_readCommand_165 rfl (lv_at hl 0 rfl) ?_
        refine lv_iconst (v := (0 : Int32)) hx hb dX5_readCommand_166 (by decide) ?_
        obtain ⟨μ32, eμ32, hs⟩ := bnd_e hs
        refine pf_5_18 hOK hF hKK hW hS hA k0 eμ32 dX5_readCommand_167 (fun H locs hW hS => ?_)
        have h9 := Option.some.inj hs
        rw [← h9]
        exact wr_v hF hr hlocks hW hS dX5_readCommand_170
    · have hs := ite_f hs c4
      refine lv_iconst (v := (1 : Int32)) hx hb dX5_readCommand_54 (by decide) ?_
      refine lv_goto (tgt := 59) hx hb dX5_readCommand_55 (by decide) ?_
      refine lv_ior hx hb dX5_readCommand_59 ?_
      obtain ⟨g62, hs⟩ := gd_some hs
      obtain ⟨μ34, eμ34, hs⟩ := bnd_e hs
      refine pf_5_20 g62 hOK hF hKK hW hS hA k0 eμ34 dX5_readCommand_60 (fun H locs hW hS => ?_)
      refine lv_aload_n hx hb dX5_readCommand_63 rfl (lv_at hl 0 rfl) ?_
      refine lv_dup hx hb dX5_readCommand_64 rfl ?_
      refine gf_5_16 hF hKK hW k0 dX5_readCommand_65 ?_
      refine lv_aload_n hx hb dX5_readCommand_68 rfl (lv_at hl 0 rfl) ?_
      refine gf_5_20 hF hKK hW k0 dX5_readCommand_69 ?_
      refine lv_if_eq (tgt := 79) hx hb dX5_readCommand_72 (by decide) (fun c35 => ?_) (fun c35 => ?_)
      · have hs := ite_t hs c35
        refine lv_iconst (v := (1 : Int32)) hx hb dX5_readCommand_79 (by decide) ?_
        refine lv_iadd hx hb dX5_readCommand_80 ?_
        obtain ⟨μ36, eμ36, hs⟩ := bnd_e hs
        refine pf_5_16 hOK hF hKK hW hS hA k0 eμ36 dX5_readCommand_81 (fun H locs hW hS => ?_)
        refine lv_aload_n hx hb dX5_readCommand_84 rfl (lv_at hl 0 rfl) ?_
        refine lv_aload_n hx hb dX5_readCommand_85 rfl (lv_at hl 0 rfl) ?_
        obtain ⟨q37, hq37, hs⟩ := obind_e hs
        refine end_i (run_V (q := (RX5, TX5, 21)) (ci := 5) hF hKK hW hS hl.1 k0 (by decide) rfl (c_X5_readNumber l hOK k0 hq37) (kw_X5_202 hF.2.2.2.2 ⟨Nat.le_of_ble_eq_true rfl, Nat.le_of_ble_eq_true rfl⟩) rfl rfl (Nat.le_of_ble_eq_true rfl) dX5_readCommand_86 ⟨Nat.zero_le _, Nat.zero_le _⟩) hS (fun H locs hW hS => ?_)
        obtain ⟨μ38, eμ38, hs⟩ := bnd_e hs
        refine pf_5_17 hOK hF hKK hW hS hA k0 eμ38 dX5_readCommand_89 (fun H locs hW hS => ?_)
        refine lv_aload_n hx hb dX5_readCommand_92 rfl (lv_at hl 0 rfl) ?_
        refine gf_5_19 hF hKK hW k0 dX5_readCommand_93 ?_
        obtain ⟨v39, ev39, hs⟩ := bnd_e hs
        refine top_i ev39 ?_
        by_cases c40 : v39 = (99 : Int32)
        · have hs := ite_t hs c40
          refine lv_lookup (off := 53) (tgt := 149) hx hb dX5_readCommand_96 (by decide) (by rw [c40]; decide) (by decide) ?_
          refine lv_aload_n hx hb dX5_readCommand_149 rfl (lv_at hl 0 rfl) ?_
          refine lv_bipush (v := (126 : Int32)) hx hb dX5_readCommand_150 (by decide) ?_
          obtain ⟨q41, hq41, hs⟩ := obind_e hs
          refine end_v (run_V (q := (RX5, TX5, 21)) (ci := 5) hF hKK hW hS hl.1 k0 (by decide) rfl (c_X5_readBehind l hOK k0 hq41) (kw_X5_221 hF.2.2.2.2 ⟨Nat.le_of_ble_eq_true rfl, Nat.le_of_ble_eq_true rfl⟩) rfl rfl (Nat.le_of_ble_eq_true rfl) dX5_readCommand_152 ⟨Nat.zero_le _, Nat.zero_le _⟩) hS (fun H locs hW hS => ?_)
          refine lv_goto (tgt := 170) hx hb dX5_readCommand_155 (by decide) ?_
          have h9 := Option.some.inj hs
          rw [← h9]
          exact wr_v hF hr hlocks hW hS dX5_readCommand_170
        have hs := ite_f hs c40
        by_cases c42 : v39 = (106 : Int32)
        · have hs := ite_t hs c42
          refine lv_lookup (off := 53) (tgt := 149) hx hb dX5_readCommand_96 (by decide) (by rw [c42]; decide) (by decide) ?_
          refine lv_aload_n hx hb dX5_readCommand_149 rfl (lv_at hl 0 rfl) ?_
          refine lv_bipush (v := (126 : Int32)) hx hb dX5_readCommand_150 (by decide) ?_
          obtain ⟨q43, hq43, hs⟩ := obind_e hs
          refine end_v (run_V (q := (RX5, TX5, 21)) (ci := 5) hF hKK hW hS hl.1 k0 (by decide) rfl (c_X5_readBehind l hOK k0 hq43) (kw_X5_221 hF.2.2.2.2 ⟨Nat.le_of_ble_eq_true rfl, Nat.le_of_ble_eq_true rfl⟩) rfl rfl (Nat.le_of_ble_eq_true rfl) dX5_readCommand_152 ⟨Nat.zero_le _, Nat.zero_le _⟩) hS (fun H locs hW hS => ?_)
          refine lv_goto (tgt := 170) hx hb dX5_readCommand_155 (by decide) ?_
          have h9 := Option.some.inj hs
          rw [← h9]
          exact wr_v hF hr hlocks hW hS dX5_readCommand_170
        have hs := ite_f hs c42
        by_cases c44 : v39 = (117 : Int32)
        · have hs := ite_t hs c44
          refine lv_lookup (off := 62) (tgt := 158) hx hb dX5_readCommand_96 (by decide) (by rw [c44]; decide) (by decide) ?_
          refine lv_aload_n hx hb dX5_readCommand_158 rfl (lv_at hl 0 rfl) ?_
          obtain ⟨q45, hq45, hs⟩ := obind_e hs
          refine end_v (run_V (q := (RX5, TX5, 21)) (ci := 5) hF hKK hW hS hl.1 k0 (by decide) rfl (c_X5_readRise l hOK k0 hq45) (kw_X5_224 hF.2.2.2.2 ⟨Nat.le_of_ble_eq_true rfl, Nat.le_of_ble_eq_true rfl⟩) rfl rfl (Nat.le_of_ble_eq_true rfl) dX5_readCommand_159 ⟨Nat.zero_le _, Nat.zero_le _⟩) hS (fun H locs hW hS => ?_)
          refine lv_goto (tgt := 170) hx hb dX5_readCommand_162 (by decide) ?_
          have h9 := Option.some.inj hs
          rw [← h9]
          exact wr_v hF hr hlocks hW hS dX5_readCommand_170
        have hs := ite_f hs c44
        by_cases c46 : v39 = (119 : Int32)
        · have hs := ite_t hs c46
          refine lv_lookup (off := 44) (tgt := 140) hx hb dX5_readCommand_96 (by decide) (by rw [c46]; decide) (by decide) ?_
          refine lv_aload_n hx hb dX5_readCommand_140 rfl (lv_at hl 0 rfl) ?_
          refine lv_bipush (v := (61 : Int32)) hx hb dX5_readCommand_141 (by decide) ?_
          obtain ⟨q47, hq47, hs⟩ := obind_e hs
          refine end_v (run_V (q := (RX5, TX5, 21)) (ci := 5) hF hKK hW hS hl.1 k0 (by decide) rfl (c_X5_readBehind l hOK k0 hq47) (kw_X5_221 hF.2.2.2.2 ⟨Nat.le_of_ble_eq_true rfl, Nat.le_of_ble_eq_true rfl⟩) rfl rfl (Nat.le_of_ble_eq_true rfl) dX5_readCommand_143 ⟨Nat.zero_le _, Nat.zero_le _⟩) hS (fun H locs hW hS => ?_)
          refine lv_goto (tgt := 170) hx hb dX5_readCommand_146 (by decide) ?_
          have h9 := Option.some.inj hs
          rw [← h9]
          exact wr_v hF hr hlocks hW hS dX5_readCommand_170
        have hs := ite_f hs c46
        refine lv_lookup (off := 69) (tgt := 165) hx hb dX5_readCommand_96 (by decide) ((lv_osw c40 (by decide)).trans ((lv_osw c42 (by decide)).trans ((lv_osw c44 (by decide)).trans ((lv_osw c46 (by decide)).trans rfl)))) (by decide) ?_
        refine lv_aload_n hx hb dX5_readCommand_165 rfl (lv_at hl 0 rfl) ?_
        refine lv_iconst (v := (0 : Int32)) hx hb dX5_readCommand_166 (by decide) ?_
        obtain ⟨μ48, eμ48, hs⟩ := bnd_e hs
        refine pf_5_18 hOK hF hKK hW hS hA k0 eμ48 dX5_readCommand_167 (fun H locs hW hS => ?_)
        have h9 := Option.some.inj hs
        rw [← h9]
        exact wr_v hF hr hlocks hW hS dX5_readCommand_170
      · have hs := ite_f hs c35
        refine lv_iconst (v := (0 : Int32)) hx hb dX5_readCommand_75 (by decide) ?_
        refine lv_goto (tgt := 80) hx hb dX5_readCommand_76 (by decide) ?_
        refine lv_iadd hx hb dX5_readCommand_80 ?_
        obtain ⟨μ49, eμ49, hs⟩ := bnd_e hs
        refine pf_5_16 hOK hF hKK hW hS hA k0 eμ49 dX5_readCommand_81 (fun H locs hW hS => ?_)
        refine lv_aload_n hx hb dX5_readCommand_84 rfl (lv_at hl 0 rfl) ?_
        refine lv_aload_n hx hb dX5_readCommand_85 rfl (lv_at hl 0 rfl) ?_
        obtain ⟨q50, hq50, hs⟩ := obind_e hs
        refine end_i (run_V (q := (RX5, TX5, 21)) (ci := 5) hF hKK hW hS hl.1 k0 (by decide) rfl (c_X5_readNumber l hOK k0 hq50) (kw_X5_202 hF.2.2.2.2 ⟨Nat.le_of_ble_eq_true rfl, Nat.le_of_ble_eq_true rfl⟩) rfl rfl (Nat.le_of_ble_eq_true rfl) dX5_readCommand_86 ⟨Nat.zero_le _, Nat.zero_le _⟩) hS (fun H locs hW hS => ?_)
        obtain ⟨μ51, eμ51, hs⟩ := bnd_e hs
        refine pf_5_17 hOK hF hKK hW hS hA k0 eμ51 dX5_readCommand_89 (fun H locs hW hS => ?_)
        refine lv_aload_n hx hb dX5_readCommand_92 rfl (lv_at hl 0 rfl) ?_
        refine gf_5_19 hF hKK hW k0 dX5_readCommand_93 ?_
        obtain ⟨v52, ev52, hs⟩ := bnd_e hs
        refine top_i ev52 ?_
        by_cases c53 : v52 = (99 : Int32)
        · have hs := ite_t hs c53
          refine lv_lookup (off := 53) (tgt := 149) hx hb dX5_readCommand_96 (by decide) (by rw [c53]; decide) (by decide) ?_
          refine lv_aload_n hx hb dX5_readCommand_149 rfl (lv_at hl 0 rfl) ?_
          refine lv_bipush (v := (126 : Int32)) hx hb dX5_readCommand_150 (by decide) ?_
          obtain ⟨q54, hq54, hs⟩ := obind_e hs
          refine end_v (run_V (q := (RX5, TX5, 21)) (ci := 5) hF hKK hW hS hl.1 k0 (by decide) rfl (c_X5_readBehind l hOK k0 hq54) (kw_X5_221 hF.2.2.2.2 ⟨Nat.le_of_ble_eq_true rfl, Nat.le_of_ble_eq_true rfl⟩) rfl rfl (Nat.le_of_ble_eq_true rfl) dX5_readCommand_152 ⟨Nat.zero_le _, Nat.zero_le _⟩) hS (fun H locs hW hS => ?_)
          refine lv_goto (tgt := 170) hx hb dX5_readCommand_155 (by decide) ?_
          have h9 := Option.some.inj hs
          rw [← h9]
          exact wr_v hF hr hlocks hW hS dX5_readCommand_170
        have hs := ite_f hs c53
        by_cases c55 : v52 = (106 : Int32)
        · have hs := ite_t hs c55
          refine lv_lookup (off := 53) (tgt := 149) hx hb dX5_readCommand_96 (by decide) (by rw [c55]; decide) (by decide) ?_
          refine lv_aload_n hx hb dX5_readCommand_149 rfl (lv_at hl 0 rfl) ?_
          refine lv_bipush (v := (126 : Int32)) hx hb dX5_readCommand_150 (by decide) ?_
          obtain ⟨q56, hq56, hs⟩ := obind_e hs
          refine end_v (run_V (q := (RX5, TX5, 21)) (ci := 5) hF hKK hW hS hl.1 k0 (by decide) rfl (c_X5_readBehind l hOK k0 hq56) (kw_X5_221 hF.2.2.2.2 ⟨Nat.le_of_ble_eq_true rfl, Nat.le_of_ble_eq_true rfl⟩) rfl rfl (Nat.le_of_ble_eq_true rfl) dX5_readCommand_152 ⟨Nat.zero_le _, Nat.zero_le _⟩) hS (fun H locs hW hS => ?_)
          refine lv_goto (tgt := 170) hx hb dX5_readCommand_155 (by decide) ?_
          have h9 := Option.some.inj hs
          rw [← h9]
          exact wr_v hF hr hlocks hW hS dX5_readCommand_170
        have hs := ite_f hs c55
        by_cases c57 : v52 = (117 : Int32)
        · have hs := ite_t hs c57
          refine lv_lookup (off := 62) (tgt := 158) hx hb dX5_readCommand_96 (by decide) (by rw [c57]; decide) (by decide) ?_
          refine lv_aload_n hx hb dX5_readCommand_158 rfl (lv_at hl 0 rfl) ?_
          obtain ⟨q58, hq58, hs⟩ := obind_e hs
          refine end_v (run_V (q := (RX5, TX5, 21)) (ci := 5) hF hKK hW hS hl.1 k0 (by decide) rfl (c_X5_readRise l hOK k0 hq58) (kw_X5_224 hF.2.2.2.2 ⟨Nat.le_of_ble_eq_true rfl, Nat.le_of_ble_eq_true rfl⟩) rfl rfl (Nat.le_of_ble_eq_true rfl) dX5_readCommand_159 ⟨Nat.zero_le _, Nat.zero_le _⟩) hS (fun H locs hW hS => ?_)
          refine lv_goto (tgt := 170) hx hb dX5_readCommand_162 (by decide) ?_
          have h9 := Option.some.inj hs
          rw [← h9]
          exact wr_v hF hr hlocks hW hS dX5_readCommand_170
        have hs := ite_f hs c57
        by_cases c59 : v52 = (119 : Int32)
        · have hs := ite_t hs c59
          refine lv_lookup (off := 44) (tgt := 140) hx hb dX5_readCommand_96 (by decide) (by rw [c59]; decide) (by decide) ?_
          refine lv_aload_n hx hb dX5_readCommand_140 rfl (lv_at hl 0 rfl) ?_
          refine lv_bipush (v := (61 : Int32)) hx hb dX5_readCommand_141 (by decide) ?_
          obtain ⟨q60, hq60, hs⟩ := obind_e hs
          refine end_v (run_V (q := (RX5, TX5, 21)) (ci := 5) hF hKK hW hS hl.1 k0 (by decide) rfl (c_X5_readBehind l hOK k0 hq60) (kw_X5_221 hF.2.2.2.2 ⟨Nat.le_of_ble_eq_true rfl, Nat.le_of_ble_eq_true rfl⟩) rfl rfl (Nat.le_of_ble_eq_true rfl) dX5_readCommand_143 ⟨Nat.zero_le _, Nat.zero_le _⟩) hS (fun H locs hW hS => ?_)
          refine lv_goto (tgt := 170) hx hb dX5_readCommand_146 (by decide) ?_
          have h9 := Option.some.inj hs
          rw [← h9]
          exact wr_v hF hr hlocks hW hS dX5_readCommand_170
        have hs := ite_f hs c59
        refine lv_lookup (off := 69) (tgt := 165) hx hb dX5_readCommand_96 (by decide) ((lv_osw c53 (by decide)).trans ((lv_osw c55 (by decide)).trans ((lv_osw c57 (by decide)).trans ((lv_osw c59 (by decide)).trans rfl)))) (by decide) ?_
        refine lv_aload_n hx hb dX5_readCommand_165 rfl (lv_at hl 0 rfl) ?_
        refine lv_iconst (v := (0 : Int32)) hx hb dX5_readCommand_166 (by decide) ?_
        obtain ⟨μ61, eμ61, hs⟩ := bnd_e hs
        refine pf_5_18 hOK hF hKK hW hS hA k0 eμ61 dX5_readCommand_167 (fun H locs hW hS => ?_)
        have h9 := Option.some.inj hs
        rw [← h9]
        exact wr_v hF hr hlocks hW hS dX5_readCommand_170
  · have hs := ite_t hs c1
    refine lv_aload_n hx hb dX5_readCommand_8 rfl (lv_at hl 0 rfl) ?_
    refine gf_5_16 hF hKK hW k0 dX5_readCommand_9 ?_
    refine lv_aload_n hx hb dX5_readCommand_12 rfl (lv_at hl 0 rfl) ?_
    refine gf_5_15 hF hKK hW k0 dX5_readCommand_13 ?_
    refine lv_icmp_ge (tgt := 31) hx hb dX5_readCommand_16 (by decide) (fun c63 => ?_) (fun c63 => ?_)
    · have hs := ite_t hs c63
      refine lv_bipush (v := (32 : Int32)) hx hb dX5_readCommand_31 (by decide) ?_
      obtain ⟨μ64, eμ64, hs⟩ := bnd_e hs
      refine pf_5_19 hOK hF hKK hW hS hA k0 eμ64 dX5_readCommand_33 (fun H locs hW hS => ?_)
      refine lv_aload_n hx hb dX5_readCommand_36 rfl (lv_at hl 0 rfl) ?_
      refine lv_dup hx hb dX5_readCommand_37 rfl ?_
      refine gf_5_20 hF hKK hW k0 dX5_readCommand_38 ?_
      refine row_ldcS hF hKK dX5_readCommand_41 (fun qs65 hqs65 => ?_)
      refine lv_aload_n hx hb dX5_readCommand_43 rfl (lv_at hl 0 rfl) ?_
      refine gf_5_19 hF hKK hW k0 dX5_readCommand_44 ?_
      refine lv_i2c (v := (jchar (mI μ64 a0 19))) hx hb dX5_readCommand_47 rfl ?_
      refine row_indexOf hF hKK hW hS hqs65 hl.1 (Nat.le_of_ble_eq_true rfl) ⟨Nat.le_of_ble_eq_true rfl, Nat.le_of_ble_eq_true rfl⟩ ⟨Nat.zero_le _, Nat.zero_le _⟩ dX5_readCommand_48 (fun H locs hW hS => ?_)
      refine lv_if_ge (tgt := 58) hx hb dX5_readCommand_51 (by decide) (fun c66 => ?_) (fun c66 => ?_)
      · have hs := ite_t hs c66
        refine lv_iconst (v := (0 : Int32)) hx hb dX5_readCommand_58 (by decide) ?_
        refine lv_ior hx hb dX5_readCommand_59 ?_
        obtain ⟨g95, hs⟩ := gd_some hs
        obtain ⟨μ67, eμ67, hs⟩ := bnd_e hs
        refine pf_5_20 g95 hOK hF hKK hW hS hA k0 eμ67 dX5_readCommand_60 (fun H locs hW hS => ?_)
        refine lv_aload_n hx hb dX5_readCommand_63 rfl (lv_at hl 0 rfl) ?_
        refine lv_dup hx hb dX5_readCommand_64 rfl ?_
        refine gf_5_16 hF hKK hW k0 dX5_readCommand_65 ?_
        refine lv_aload_n hx hb dX5_readCommand_68 rfl (lv_at hl 0 rfl) ?_
        refine gf_5_20 hF hKK hW k0 dX5_readCommand_69 ?_
        refine lv_if_eq (tgt := 79) hx hb dX5_readCommand_72 (by decide) (fun c68 => ?_) (fun c68 => ?_)
        · have hs := ite_t hs c68
          refine lv_iconst (v := (1 : Int32)) hx hb dX5_readCommand_79 (by decide) ?_
          refine lv_iadd hx hb dX5_readCommand_80 ?_
          obtain ⟨μ69, eμ69, hs⟩ := bnd_e hs
          refine pf_5_16 hOK hF hKK hW hS hA k0 eμ69 dX5_readCommand_81 (fun H locs hW hS => ?_)
          refine lv_aload_n hx hb dX5_readCommand_84 rfl (lv_at hl 0 rfl) ?_
          refine lv_aload_n hx hb dX5_readCommand_85 rfl (lv_at hl 0 rfl) ?_
          obtain ⟨q70, hq70, hs⟩ := obind_e hs
          refine end_i (run_V (q := (RX5, TX5, 21)) (ci := 5) hF hKK hW hS hl.1 k0 (by decide) rfl (c_X5_readNumber l hOK k0 hq70) (kw_X5_202 hF.2.2.2.2 ⟨Nat.le_of_ble_eq_true rfl, Nat.le_of_ble_eq_true rfl⟩) rfl rfl (Nat.le_of_ble_eq_true rfl) dX5_readCommand_86 ⟨Nat.zero_le _, Nat.zero_le _⟩) hS (fun H locs hW hS => ?_)
          obtain ⟨μ71, eμ71, hs⟩ := bnd_e hs
          refine pf_5_17 hOK hF hKK hW hS hA k0 eμ71 dX5_readCommand_89 (fun H locs hW hS => ?_)
          refine lv_aload_n hx hb dX5_readCommand_92 rfl (lv_at hl 0 rfl) ?_
          refine gf_5_19 hF hKK hW k0 dX5_readCommand_93 ?_
          obtain ⟨v72, ev72, hs⟩ := bnd_e hs
          refine top_i ev72 ?_
          by_cases c73 : v72 = (99 : Int32)
          · have hs := ite_t hs c73
            refine lv_lookup (off := 53) (tgt := 149) hx hb dX5_readCommand_96 (by decide) (by rw [c73]; decide) (by decide) ?_
            refine lv_aload_n hx hb dX5_readCommand_149 rfl (lv_at hl 0 rfl) ?_
            refine lv_bipush (v := (126 : Int32)) hx hb dX5_readCommand_150 (by decide) ?_
            obtain ⟨q74, hq74, hs⟩ := obind_e hs
            refine end_v (run_V (q := (RX5, TX5, 21)) (ci := 5) hF hKK hW hS hl.1 k0 (by decide) rfl (c_X5_readBehind l hOK k0 hq74) (kw_X5_221 hF.2.2.2.2 ⟨Nat.le_of_ble_eq_true rfl, Nat.le_of_ble_eq_true rfl⟩) rfl rfl (Nat.le_of_ble_eq_true rfl) dX5_readCommand_152 ⟨Nat.zero_le _, Nat.zero_le _⟩) hS (fun H locs hW hS => ?_)
            refine lv_goto (tgt := 170) hx hb dX5_readCommand_155 (by decide) ?_
            have h9 := Option.some.inj hs
            rw [← h9]
            exact wr_v hF hr hlocks hW hS dX5_readCommand_170
          have hs := ite_f hs c73
          by_cases c75 : v72 = (106 : Int32)
          · have hs := ite_t hs c75
            refine lv_lookup (off := 53) (tgt := 149) hx hb dX5_readCommand_96 (by decide) (by rw [c75]; decide) (by decide) ?_
            refine lv_aload_n hx hb dX5_readCommand_149 rfl (lv_at hl 0 rfl) ?_
            refine lv_bipush (v := (126 : Int32)) hx hb dX5_readCommand_150 (by decide) ?_
            obtain ⟨q76, hq76, hs⟩ := obind_e hs
            refine end_v (run_V (q := (RX5, TX5, 21)) (ci := 5) hF hKK hW hS hl.1 k0 (by decide) rfl (c_X5_readBehind l hOK k0 hq76) (kw_X5_221 hF.2.2.2.2 ⟨Nat.le_of_ble_eq_true rfl, Nat.le_of_ble_eq_true rfl⟩) rfl rfl (Nat.le_of_ble_eq_true rfl) dX5_readCommand_152 ⟨Nat.zero_le _, Nat.zero_le _⟩) hS (fun H locs hW hS => ?_)
            refine lv_goto (tgt := 170) hx hb dX5_readCommand_155 (by decide) ?_
            have h9 := Option.some.inj hs
            rw [← h9]
            exact wr_v hF hr hlocks hW hS dX5_readCommand_170
          have hs := ite_f hs c75
          by_cases c77 : v72 = (117 : Int32)
          · have hs := ite_t hs c77
            refine lv_lookup (off := 62) (tgt := 158) hx hb dX5_readCommand_96 (by decide) (by rw [c77]; decide) (by decide) ?_
            refine lv_aload_n hx hb dX5_readCommand_158 rfl (lv_at hl 0 rfl) ?_
            obtain ⟨q78, hq78, hs⟩ := obind_e hs
            refine end_v (run_V (q := (RX5, TX5, 21)) (ci := 5) hF hKK hW hS hl.1 k0 (by decide) rfl (c_X5_readRise l hOK k0 hq78) (kw_X5_224 hF.2.2.2.2 ⟨Nat.le_of_ble_eq_true rfl, Nat.le_of_ble_eq_true rfl⟩) rfl rfl (Nat.le_of_ble_eq_true rfl) dX5_readCommand_159 ⟨Nat.zero_le _, Nat.zero_le _⟩) hS (fun H locs hW hS => ?_)
            refine lv_goto (tgt := 170) hx hb dX5_readCommand_162 (by decide) ?_
            have h9 := Option.some.inj hs
            rw [← h9]
            exact wr_v hF hr hlocks hW hS dX5_readCommand_170
          have hs := ite_f hs c77
          by_cases c79 : v72 = (119 : Int32)
          · have hs := ite_t hs c79
            refine lv_lookup (off := 44) (tgt := 140) hx hb dX5_readCommand_96 (by decide) (by rw [c79]; decide) (by decide) ?_
            refine lv_aload_n hx hb dX5_readCommand_140 rfl (lv_at hl 0 rfl) ?_
            refine lv_bipush (v := (61 : Int32)) hx hb dX5_readCommand_141 (by decide) ?_
            obtain ⟨q80, hq80, hs⟩ := obind_e hs
            refine end_v (run_V (q := (RX5, TX5, 21)) (ci := 5) hF hKK hW hS hl.1 k0 (by decide) rfl (c_X5_readBehind l hOK k0 hq80) (kw_X5_221 hF.2.2.2.2 ⟨Nat.le_of_ble_eq_true rfl, Nat.le_of_ble_eq_true rfl⟩) rfl rfl (Nat.le_of_ble_eq_true rfl) dX5_readCommand_143 ⟨Nat.zero_le _, Nat.zero_le _⟩) hS (fun H locs hW hS => ?_)
            refine lv_goto (tgt := 170) hx hb dX5_readCommand_146 (by decide) ?_
            have h9 := Option.some.inj hs
            rw [← h9]
            exact wr_v hF hr hlocks hW hS dX5_readCommand_170
          have hs := ite_f hs c79
          refine lv_lookup (off := 69) (tgt := 165) hx hb dX5_readCommand_96 (by decide) ((lv_osw c73 (by decide)).trans ((lv_osw c75 (by decide)).trans ((lv_osw c77 (by decide)).trans ((lv_osw c79 (by decide)).trans rfl)))) (by decide) ?_
          refine lv_aload_n hx hb dX5_readCommand_165 rfl (lv_at hl 0 rfl) ?_
          refine lv_iconst (v := (0 : Int32)) hx hb dX5_readCommand_166 (by decide) ?_
          obtain ⟨μ81, eμ81, hs⟩ := bnd_e hs
          refine pf_5_18 hOK hF hKK hW hS hA k0 eμ81 dX5_readCommand_167 (fun H locs hW hS => ?_)
          have h9 := Option.some.inj hs
          rw [← h9]
          exact wr_v hF hr hlocks hW hS dX5_readCommand_170
        · have hs := ite_f hs c68
          refine lv_iconst (v := (0 : Int32)) hx hb dX5_readCommand_75 (by decide) ?_
          refine lv_goto (tgt := 80) hx hb dX5_readCommand_76 (by decide) ?_
          refine lv_iadd hx hb dX5_readCommand_80 ?_
          obtain ⟨μ82, eμ82, hs⟩ := bnd_e hs
          refine pf_5_16 hOK hF hKK hW hS hA k0 eμ82 dX5_readCommand_81 (fun H locs hW hS => ?_)
          refine lv_aload_n hx hb dX5_readCommand_84 rfl (lv_at hl 0 rfl) ?_
          refine lv_aload_n hx hb dX5_readCommand_85 rfl (lv_at hl 0 rfl) ?_
          obtain ⟨q83, hq83, hs⟩ := obind_e hs
          refine end_i (run_V (q := (RX5, TX5, 21)) (ci := 5) hF hKK hW hS hl.1 k0 (by decide) rfl (c_X5_readNumber l hOK k0 hq83) (kw_X5_202 hF.2.2.2.2 ⟨Nat.le_of_ble_eq_true rfl, Nat.le_of_ble_eq_true rfl⟩) rfl rfl (Nat.le_of_ble_eq_true rfl) dX5_readCommand_86 ⟨Nat.zero_le _, Nat.zero_le _⟩) hS (fun H locs hW hS => ?_)
          obtain ⟨μ84, eμ84, hs⟩ := bnd_e hs
          refine pf_5_17 hOK hF hKK hW hS hA k0 eμ84 dX5_readCommand_89 (fun H locs hW hS => ?_)
          refine lv_aload_n hx hb dX5_readCommand_92 rfl (lv_at hl 0 rfl) ?_
          refine gf_5_19 hF hKK hW k0 dX5_readCommand_93 ?_
          obtain ⟨v85, ev85, hs⟩ := bnd_e hs
          refine top_i ev85 ?_
          by_cases c86 : v85 = (99 : Int32)
          · have hs := ite_t hs c86
            refine lv_lookup (off := 53) (tgt := 149) hx hb dX5_readCommand_96 (by decide) (by rw [c86]; decide) (by decide) ?_
            refine lv_aload_n hx hb dX5_readCommand_149 rfl (lv_at hl 0 rfl) ?_
            refine lv_bipush (v := (126 : Int32)) hx hb dX5_readCommand_150 (by decide) ?_
            obtain ⟨q87, hq87, hs⟩ := obind_e hs
            refine end_v (run_V (q := (RX5, TX5, 21)) (ci := 5) hF hKK hW hS hl.1 k0 (by decide) rfl (c_X5_readBehind l hOK k0 hq87) (kw_X5_221 hF.2.2.2.2 ⟨Nat.le_of_ble_eq_true rfl, Nat.le_of_ble_eq_true rfl⟩) rfl rfl (Nat.le_of_ble_eq_true rfl) dX5_readCommand_152 ⟨Nat.zero_le _, Nat.zero_le _⟩) hS (fun H locs hW hS => ?_)
            refine lv_goto (tgt := 170) hx hb dX5_readCommand_155 (by decide) ?_
            have h9 := Option.some.inj hs
            rw [← h9]
            exact wr_v hF hr hlocks hW hS dX5_readCommand_170
          have hs := ite_f hs c86
          by_cases c88 : v85 = (106 : Int32)
          · have hs := ite_t hs c88
            refine lv_lookup (off := 53) (tgt := 149) hx hb dX5_readCommand_96 (by decide) (by rw [c88]; decide) (by decide) ?_
            refine lv_aload_n hx hb dX5_readCommand_149 rfl (lv_at hl 0 rfl) ?_
            refine lv_bipush (v := (126 : Int32)) hx hb dX5_readCommand_150 (by decide) ?_
            obtain ⟨q89, hq89, hs⟩ := obind_e hs
            refine end_v (run_V (q := (RX5, TX5, 21)) (ci := 5) hF hKK hW hS hl.1 k0 (by decide) rfl (c_X5_readBehind l hOK k0 hq89) (kw_X5_221 hF.2.2.2.2 ⟨Nat.le_of_ble_eq_true rfl, Nat.le_of_ble_eq_true rfl⟩) rfl rfl (Nat.le_of_ble_eq_true rfl) dX5_readCommand_152 ⟨Nat.zero_le _, Nat.zero_le _⟩) hS (fun H locs hW hS => ?_)
            refine lv_goto (tgt := 170) hx hb dX5_readCommand_155 (by decide) ?_
            have h9 := Option.some.inj hs
            rw [← h9]
            exact wr_v hF hr hlocks hW hS dX5_readCommand_170
          have hs := ite_f hs c88
          by_cases c90 : v85 = (117 : Int32)
          · have hs := ite_t hs c90
            refine lv_lookup (off := 62) (tgt := 158) hx hb dX5_readCommand_96 (by decide) (by rw [c90]; decide) (by decide) ?_
            refine lv_aload_n hx hb dX5_readCommand_158 rfl (lv_at hl 0 rfl) ?_
            obtain ⟨q91, hq91, hs⟩ := obind_e hs
            refine end_v (run_V (q := (RX5, TX5, 21)) (ci := 5) hF hKK hW hS hl.1 k0 (by decide) rfl (c_X5_readRise l hOK k0 hq91) (kw_X5_224 hF.2.2.2.2 ⟨Nat.le_of_ble_eq_true rfl, Nat.le_of_ble_eq_true rfl⟩) rfl rfl (Nat.le_of_ble_eq_true rfl) dX5_readCommand_159 ⟨Nat.zero_le _, Nat.zero_le _⟩) hS (fun H locs hW hS => ?_)
            refine lv_goto (tgt := 170) hx hb dX5_readCommand_162 (by decide) ?_
            have h9 := Option.some.inj hs
            rw [← h9]
            exact wr_v hF hr hlocks hW hS dX5_readCommand_170
          have hs := ite_f hs c90
          by_cases c92 : v85 = (119 : Int32)
          · have hs := ite_t hs c92
            refine lv_lookup (off := 44) (tgt := 140) hx hb dX5_readCommand_96 (by decide) (by rw [c92]; decide) (by decide) ?_
            refine lv_aload_n hx hb dX5_readCommand_140 rfl (lv_at hl 0 rfl) ?_
            refine lv_bipush (v := (61 : Int32)) hx hb dX5_readCommand_141 (by decide) ?_
            obtain ⟨q93, hq93, hs⟩ := obind_e hs
            refine end_v (run_V (q := (RX5, TX5, 21)) (ci := 5) hF hKK hW hS hl.1 k0 (by decide) rfl (c_X5_readBehind l hOK k0 hq93) (kw_X5_221 hF.2.2.2.2 ⟨Nat.le_of_ble_eq_true rfl, Nat.le_of_ble_eq_true rfl⟩) rfl rfl (Nat.le_of_ble_eq_true rfl) dX5_readCommand_143 ⟨Nat.zero_le _, Nat.zero_le _⟩) hS (fun H locs hW hS => ?_)
            refine lv_goto (tgt := 170) hx hb dX5_readCommand_146 (by decide) ?_
            have h9 := Option.some.inj hs
            rw [← h9]
            exact wr_v hF hr hlocks hW hS dX5_readCommand_170
          have hs := ite_f hs c92
          refine lv_lookup (off := 69) (tgt := 165) hx hb dX5_readCommand_96 (by decide) ((lv_osw c86 (by decide)).trans ((lv_osw c88 (by decide)).trans ((lv_osw c90 (by decide)).trans ((lv_osw c92 (by decide)).trans rfl)))) (by decide) ?_
          refine lv_aload_n hx hb dX5_readCommand_165 rfl (lv_at hl 0 rfl) ?_
          refine lv_iconst (v := (0 : Int32)) hx hb dX5_readCommand_166 (by decide) ?_
          obtain ⟨μ94, eμ94, hs⟩ := bnd_e hs
          refine pf_5_18 hOK hF hKK hW hS hA k0 eμ94 dX5_readCommand_167 (fun H locs hW hS => ?_)
          have h9 := Option.some.inj hs
          rw [← h9]
          exact wr_v hF hr hlocks hW hS dX5_readCommand_170
      · have hs := ite_f hs c66
        refine lv_iconst (v := (1 : Int32)) hx hb dX5_readCommand_54 (by decide) ?_
        refine lv_goto (tgt := 59) hx hb dX5_readCommand_55 (by decide) ?_
        refine lv_ior hx hb dX5_readCommand_59 ?_
        obtain ⟨g124, hs⟩ := gd_some hs
        obtain ⟨μ96, eμ96, hs⟩ := bnd_e hs
        refine pf_5_20 g124 hOK hF hKK hW hS hA k0 eμ96 dX5_readCommand_60 (fun H locs hW hS => ?_)
        refine lv_aload_n hx hb dX5_readCommand_63 rfl (lv_at hl 0 rfl) ?_
        refine lv_dup hx hb dX5_readCommand_64 rfl ?_
        refine gf_5_16 hF hKK hW k0 dX5_readCommand_65 ?_
        refine lv_aload_n hx hb dX5_readCommand_68 rfl (lv_at hl 0 rfl) ?_
        refine gf_5_20 hF hKK hW k0 dX5_readCommand_69 ?_
        refine lv_if_eq (tgt := 79) hx hb dX5_readCommand_72 (by decide) (fun c97 => ?_) (fun c97 => ?_)
        · have hs := ite_t hs c97
          refine lv_iconst (v := (1 : Int32)) hx hb dX5_readCommand_79 (by decide) ?_
          refine lv_iadd hx hb dX5_readCommand_80 ?_
          obtain ⟨μ98, eμ98, hs⟩ := bnd_e hs
          refine pf_5_16 hOK hF hKK hW hS hA k0 eμ98 dX5_readCommand_81 (fun H locs hW hS => ?_)
          refine lv_aload_n hx hb dX5_readCommand_84 rfl (lv_at hl 0 rfl) ?_
          refine lv_aload_n hx hb dX5_readCommand_85 rfl (lv_at hl 0 rfl) ?_
          obtain ⟨q99, hq99, hs⟩ := obind_e hs
          refine end_i (run_V (q := (RX5, TX5, 21)) (ci := 5) hF hKK hW hS hl.1 k0 (by decide) rfl (c_X5_readNumber l hOK k0 hq99) (kw_X5_202 hF.2.2.2.2 ⟨Nat.le_of_ble_eq_true rfl, Nat.le_of_ble_eq_true rfl⟩) rfl rfl (Nat.le_of_ble_eq_true rfl) dX5_readCommand_86 ⟨Nat.zero_le _, Nat.zero_le _⟩) hS (fun H locs hW hS => ?_)
          obtain ⟨μ100, eμ100, hs⟩ := bnd_e hs
          refine pf_5_17 hOK hF hKK hW hS hA k0 eμ100 dX5_readCommand_89 (fun H locs hW hS => ?_)
          refine lv_aload_n hx hb dX5_readCommand_92 rfl (lv_at hl 0 rfl) ?_
          refine gf_5_19 hF hKK hW k0 dX5_readCommand_93 ?_
          obtain ⟨v101, ev101, hs⟩ := bnd_e hs
          refine top_i ev101 ?_
          by_cases c102 : v101 = (99 : Int32)
          · have hs := ite_t hs c102
            refine lv_lookup (off := 53) (tgt := 149) hx hb dX5_readCommand_96 (by decide) (by rw [c102]; decide) (by decide) ?_
            refine lv_aload_n hx hb dX5_readCommand_149 rfl (lv_at hl 0 rfl) ?_
            refine lv_bipush (v := (126 : Int32)) hx hb dX5_readCommand_150 (by decide) ?_
            obtain ⟨q103, hq103, hs⟩ := obind_e hs
            refine end_v (run_V (q := (RX5, TX5, 21)) (ci := 5) hF hKK hW hS hl.1 k0 (by decide) rfl (c_X5_readBehind l hOK k0 hq103) (kw_X5_221 hF.2.2.2.2 ⟨Nat.le_of_ble_eq_true rfl, Nat.le_of_ble_eq_true rfl⟩) rfl rfl (Nat.le_of_ble_eq_true rfl) dX5_readCommand_152 ⟨Nat.zero_le _, Nat.zero_le _⟩) hS (fun H locs hW hS => ?_)
            refine lv_goto (tgt := 170) hx hb dX5_readCommand_155 (by decide) ?_
            have h9 := Option.some.inj hs
            rw [← h9]
            exact wr_v hF hr hlocks hW hS dX5_readCommand_170
          have hs := ite_f hs c102
          by_cases c104 : v101 = (106 : Int32)
          · have hs := ite_t hs c104
            refine lv_lookup (off := 53) (tgt := 149) hx hb dX5_readCommand_96 (by decide) (by rw [c104]; decide) (by decide) ?_
            refine lv_aload_n hx hb dX5_readCommand_149 rfl (lv_at hl 0 rfl) ?_
            refine lv_bipush (v := (126 : Int32)) hx hb dX5_readCommand_150 (by decide) ?_
            obtain ⟨q105, hq105, hs⟩ := obind_e hs
            refine end_v (run_V (q := (RX5, TX5, 21)) (ci := 5) hF hKK hW hS hl.1 k0 (by decide) rfl (c_X5_readBehind l hOK k0 hq105) (kw_X5_221 hF.2.2.2.2 ⟨Nat.le_of_ble_eq_true rfl, Nat.le_of_ble_eq_true rfl⟩) rfl rfl (Nat.le_of_ble_eq_true rfl) dX5_readCommand_152 ⟨Nat.zero_le _, Nat.zero_le _⟩) hS (fun H locs hW hS => ?_)
            refine lv_goto (tgt := 170) hx hb dX5_readCommand_155 (by decide) ?_
            have h9 := Option.some.inj hs
            rw [← h9]
            exact wr_v hF hr hlocks hW hS dX5_readCommand_170
          have hs := ite_f hs c104
          by_cases c106 : v101 = (117 : Int32)
          · have hs := ite_t hs c106
            refine lv_lookup (off := 62) (tgt := 158) hx hb dX5_readCommand_96 (by decide) (by rw [c106]; decide) (by decide) ?_
            refine lv_aload_n hx hb dX5_readCommand_158 rfl (lv_at hl 0 rfl) ?_
            obtain ⟨q107, hq107, hs⟩ := obind_e hs
            refine end_v (run_V (q := (RX5, TX5, 21)) (ci := 5) hF hKK hW hS hl.1 k0 (by decide) rfl (c_X5_readRise l hOK k0 hq107) (kw_X5_224 hF.2.2.2.2 ⟨Nat.le_of_ble_eq_true rfl, Nat.le_of_ble_eq_true rfl⟩) rfl rfl (Nat.le_of_ble_eq_true rfl) dX5_readCommand_159 ⟨Nat.zero_le _, Nat.zero_le _⟩) hS (fun H locs hW hS => ?_)
            refine lv_goto (tgt := 170) hx hb dX5_readCommand_162 (by decide) ?_
            have h9 := Option.some.inj hs
            rw [← h9]
            exact wr_v hF hr hlocks hW hS dX5_readCommand_170
          have hs := ite_f hs c106
          by_cases c108 : v101 = (119 : Int32)
          · have hs := ite_t hs c108
            refine lv_lookup (off := 44) (tgt := 140) hx hb dX5_readCommand_96 (by decide) (by rw [c108]; decide) (by decide) ?_
            refine lv_aload_n hx hb dX5_readCommand_140 rfl (lv_at hl 0 rfl) ?_
            refine lv_bipush (v := (61 : Int32)) hx hb dX5_readCommand_141 (by decide) ?_
            obtain ⟨q109, hq109, hs⟩ := obind_e hs
            refine end_v (run_V (q := (RX5, TX5, 21)) (ci := 5) hF hKK hW hS hl.1 k0 (by decide) rfl (c_X5_readBehind l hOK k0 hq109) (kw_X5_221 hF.2.2.2.2 ⟨Nat.le_of_ble_eq_true rfl, Nat.le_of_ble_eq_true rfl⟩) rfl rfl (Nat.le_of_ble_eq_true rfl) dX5_readCommand_143 ⟨Nat.zero_le _, Nat.zero_le _⟩) hS (fun H locs hW hS => ?_)
            refine lv_goto (tgt := 170) hx hb dX5_readCommand_146 (by decide) ?_
            have h9 := Option.some.inj hs
            rw [← h9]
            exact wr_v hF hr hlocks hW hS dX5_readCommand_170
          have hs := ite_f hs c108
          refine lv_lookup (off := 69) (tgt := 165) hx hb dX5_readCommand_96 (by decide) ((lv_osw c102 (by decide)).trans ((lv_osw c104 (by decide)).trans ((lv_osw c106 (by decide)).trans ((lv_osw c108 (by decide)).trans rfl)))) (by decide) ?_
          refine lv_aload_n hx hb dX5_readCommand_165 rfl (lv_at hl 0 rfl) ?_
          refine lv_iconst (v := (0 : Int32)) hx hb dX5_readCommand_166 (by decide) ?_
          obtain ⟨μ110, eμ110, hs⟩ := bnd_e hs
          refine pf_5_18 hOK hF hKK hW hS hA k0 eμ110 dX5_readCommand_167 (fun H locs hW hS => ?_)
          have h9 := Option.some.inj hs
          rw [← h9]
          exact wr_v hF hr hlocks hW hS dX5_readCommand_170
        · have hs := ite_f hs c97
          refine lv_iconst (v := (0 : Int32)) hx hb dX5_readCommand_75 (by decide) ?_
          refine lv_goto (tgt := 80) hx hb dX5_readCommand_76 (by decide) ?_
          refine lv_iadd hx hb dX5_readCommand_80 ?_
          obtain ⟨μ111, eμ111, hs⟩ := bnd_e hs
          refine pf_5_16 hOK hF hKK hW hS hA k0 eμ111 dX5_readCommand_81 (fun H locs hW hS => ?_)
          refine lv_aload_n hx hb dX5_readCommand_84 rfl (lv_at hl 0 rfl) ?_
          refine lv_aload_n hx hb dX5_readCommand_85 rfl (lv_at hl 0 rfl) ?_
          obtain ⟨q112, hq112, hs⟩ := obind_e hs
          refine end_i (run_V (q := (RX5, TX5, 21)) (ci := 5) hF hKK hW hS hl.1 k0 (by decide) rfl (c_X5_readNumber l hOK k0 hq112) (kw_X5_202 hF.2.2.2.2 ⟨Nat.le_of_ble_eq_true rfl, Nat.le_of_ble_eq_true rfl⟩) rfl rfl (Nat.le_of_ble_eq_true rfl) dX5_readCommand_86 ⟨Nat.zero_le _, Nat.zero_le _⟩) hS (fun H locs hW hS => ?_)
          obtain ⟨μ113, eμ113, hs⟩ := bnd_e hs
          refine pf_5_17 hOK hF hKK hW hS hA k0 eμ113 dX5_readCommand_89 (fun H locs hW hS => ?_)
          refine lv_aload_n hx hb dX5_readCommand_92 rfl (lv_at hl 0 rfl) ?_
          refine gf_5_19 hF hKK hW k0 dX5_readCommand_93 ?_
          obtain ⟨v114, ev114, hs⟩ := bnd_e hs
          refine top_i ev114 ?_
          by_cases c115 : v114 = (99 : Int32)
          · have hs := ite_t hs c115
            refine lv_lookup (off := 53) (tgt := 149) hx hb dX5_readCommand_96 (by decide) (by rw [c115]; decide) (by decide) ?_
            refine lv_aload_n hx hb dX5_readCommand_149 rfl (lv_at hl 0 rfl) ?_
            refine lv_bipush (v := (126 : Int32)) hx hb dX5_readCommand_150 (by decide) ?_
            obtain ⟨q116, hq116, hs⟩ := obind_e hs
            refine end_v (run_V (q := (RX5, TX5, 21)) (ci := 5) hF hKK hW hS hl.1 k0 (by decide) rfl (c_X5_readBehind l hOK k0 hq116) (kw_X5_221 hF.2.2.2.2 ⟨Nat.le_of_ble_eq_true rfl, Nat.le_of_ble_eq_true rfl⟩) rfl rfl (Nat.le_of_ble_eq_true rfl) dX5_readCommand_152 ⟨Nat.zero_le _, Nat.zero_le _⟩) hS (fun H locs hW hS => ?_)
            refine lv_goto (tgt := 170) hx hb dX5_readCommand_155 (by decide) ?_
            have h9 := Option.some.inj hs
            rw [← h9]
            exact wr_v hF hr hlocks hW hS dX5_readCommand_170
          have hs := ite_f hs c115
          by_cases c117 : v114 = (106 : Int32)
          · have hs := ite_t hs c117
            refine lv_lookup (off := 53) (tgt := 149) hx hb dX5_readCommand_96 (by decide) (by rw [c117]; decide) (by decide) ?_
            refine lv_aload_n hx hb dX5_readCommand_149 rfl (lv_at hl 0 rfl) ?_
            refine lv_bipush (v := (126 : Int32)) hx hb dX5_readCommand_150 (by decide) ?_
            obtain ⟨q118, hq118, hs⟩ := obind_e hs
            refine end_v (run_V (q := (RX5, TX5, 21)) (ci := 5) hF hKK hW hS hl.1 k0 (by decide) rfl (c_X5_readBehind l hOK k0 hq118) (kw_X5_221 hF.2.2.2.2 ⟨Nat.le_of_ble_eq_true rfl, Nat.le_of_ble_eq_true rfl⟩) rfl rfl (Nat.le_of_ble_eq_true rfl) dX5_readCommand_152 ⟨Nat.zero_le _, Nat.zero_le _⟩) hS (fun H locs hW hS => ?_)
            refine lv_goto (tgt := 170) hx hb dX5_readCommand_155 (by decide) ?_
            have h9 := Option.some.inj hs
            rw [← h9]
            exact wr_v hF hr hlocks hW hS dX5_readCommand_170
          have hs := ite_f hs c117
          by_cases c119 : v114 = (117 : Int32)
          · have hs := ite_t hs c119
            refine lv_lookup (off := 62) (tgt := 158) hx hb dX5_readCommand_96 (by decide) (by rw [c119]; decide) (by decide) ?_
            refine lv_aload_n hx hb dX5_readCommand_158 rfl (lv_at hl 0 rfl) ?_
            obtain ⟨q120, hq120, hs⟩ := obind_e hs
            refine end_v (run_V (q := (RX5, TX5, 21)) (ci := 5) hF hKK hW hS hl.1 k0 (by decide) rfl (c_X5_readRise l hOK k0 hq120) (kw_X5_224 hF.2.2.2.2 ⟨Nat.le_of_ble_eq_true rfl, Nat.le_of_ble_eq_true rfl⟩) rfl rfl (Nat.le_of_ble_eq_true rfl) dX5_readCommand_159 ⟨Nat.zero_le _, Nat.zero_le _⟩) hS (fun H locs hW hS => ?_)
            refine lv_goto (tgt := 170) hx hb dX5_readCommand_162 (by decide) ?_
            have h9 := Option.some.inj hs
            rw [← h9]
            exact wr_v hF hr hlocks hW hS dX5_readCommand_170
          have hs := ite_f hs c119
          by_cases c121 : v114 = (119 : Int32)
          · have hs := ite_t hs c121
            refine lv_lookup (off := 44) (tgt := 140) hx hb dX5_readCommand_96 (by decide) (by rw [c121]; decide) (by decide) ?_
            refine lv_aload_n hx hb dX5_readCommand_140 rfl (lv_at hl 0 rfl) ?_
            refine lv_bipush (v := (61 : Int32)) hx hb dX5_readCommand_141 (by decide) ?_
            obtain ⟨q122, hq122, hs⟩ := obind_e hs
            refine end_v (run_V (q := (RX5, TX5, 21)) (ci := 5) hF hKK hW hS hl.1 k0 (by decide) rfl (c_X5_readBehind l hOK k0 hq122) (kw_X5_221 hF.2.2.2.2 ⟨Nat.le_of_ble_eq_true rfl, Nat.le_of_ble_eq_true rfl⟩) rfl rfl (Nat.le_of_ble_eq_true rfl) dX5_readCommand_143 ⟨Nat.zero_le _, Nat.zero_le _⟩) hS (fun H locs hW hS => ?_)
            refine lv_goto (tgt := 170) hx hb dX5_readCommand_146 (by decide) ?_
            have h9 := Option.some.inj hs
            rw [← h9]
            exact wr_v hF hr hlocks hW hS dX5_readCommand_170
          have hs := ite_f hs c121
          refine lv_lookup (off := 69) (tgt := 165) hx hb dX5_readCommand_96 (by decide) ((lv_osw c115 (by decide)).trans ((lv_osw c117 (by decide)).trans ((lv_osw c119 (by decide)).trans ((lv_osw c121 (by decide)).trans rfl)))) (by decide) ?_
          refine lv_aload_n hx hb dX5_readCommand_165 rfl (lv_at hl 0 rfl) ?_
          refine lv_iconst (v := (0 : Int32)) hx hb dX5_readCommand_166 (by decide) ?_
          obtain ⟨μ123, eμ123, hs⟩ := bnd_e hs
          refine pf_5_18 hOK hF hKK hW hS hA k0 eμ123 dX5_readCommand_167 (fun H locs hW hS => ?_)
          have h9 := Option.some.inj hs
          rw [← h9]
          exact wr_v hF hr hlocks hW hS dX5_readCommand_170
    · have hs := ite_f hs c63
      refine lv_aload_n hx hb dX5_readCommand_19 rfl (lv_at hl 0 rfl) ?_
      refine gf_5_14 hF hKK hW k0 dX5_readCommand_20 ?_
      refine lv_aload_n hx hb dX5_readCommand_23 rfl (lv_at hl 0 rfl) ?_
      refine gf_5_16 hF hKK hW k0 dX5_readCommand_24 ?_
      obtain ⟨g125, hs⟩ := gd_some hs
      refine ga_ld hF hKK hW (lk_5_14 hOK k0) g125 dX5_readCommand_27 ?_
      refine lv_goto (tgt := 33) hx hb dX5_readCommand_28 (by decide) ?_
      obtain ⟨μ126, eμ126, hs⟩ := bnd_e hs
      refine pf_5_19 hOK hF hKK hW hS hA k0 eμ126 dX5_readCommand_33 (fun H locs hW hS => ?_)
      refine lv_aload_n hx hb dX5_readCommand_36 rfl (lv_at hl 0 rfl) ?_
      refine lv_dup hx hb dX5_readCommand_37 rfl ?_
      refine gf_5_20 hF hKK hW k0 dX5_readCommand_38 ?_
      refine row_ldcS hF hKK dX5_readCommand_41 (fun qs127 hqs127 => ?_)
      refine lv_aload_n hx hb dX5_readCommand_43 rfl (lv_at hl 0 rfl) ?_
      refine gf_5_19 hF hKK hW k0 dX5_readCommand_44 ?_
      refine lv_i2c (v := (jchar (mI μ126 a0 19))) hx hb dX5_readCommand_47 rfl ?_
      refine row_indexOf hF hKK hW hS hqs127 hl.1 (Nat.le_of_ble_eq_true rfl) ⟨Nat.le_of_ble_eq_true rfl, Nat.le_of_ble_eq_true rfl⟩ ⟨Nat.zero_le _, Nat.zero_le _⟩ dX5_readCommand_48 (fun H locs hW hS => ?_)
      refine lv_if_ge (tgt := 58) hx hb dX5_readCommand_51 (by decide) (fun c128 => ?_) (fun c128 => ?_)
      · have hs := ite_t hs c128
        refine lv_iconst (v := (0 : Int32)) hx hb dX5_readCommand_58 (by decide) ?_
        refine lv_ior hx hb dX5_readCommand_59 ?_
        obtain ⟨g157, hs⟩ := gd_some hs
        obtain ⟨μ129, eμ129, hs⟩ := bnd_e hs
        refine pf_5_20 g157 hOK hF hKK hW hS hA k0 eμ129 dX5_readCommand_60 (fun H locs hW hS => ?_)
        refine lv_aload_n hx hb dX5_readCommand_63 rfl (lv_at hl 0 rfl) ?_
        refine lv_dup hx hb dX5_readCommand_64 rfl ?_
        refine gf_5_16 hF hKK hW k0 dX5_readCommand_65 ?_
        refine lv_aload_n hx hb dX5_readCommand_68 rfl (lv_at hl 0 rfl) ?_
        refine gf_5_20 hF hKK hW k0 dX5_readCommand_69 ?_
        refine lv_if_eq (tgt := 79) hx hb dX5_readCommand_72 (by decide) (fun c130 => ?_) (fun c130 => ?_)
        · have hs := ite_t hs c130
          refine lv_iconst (v := (1 : Int32)) hx hb dX5_readCommand_79 (by decide) ?_
          refine lv_iadd hx hb dX5_readCommand_80 ?_
          obtain ⟨μ131, eμ131, hs⟩ := bnd_e hs
          refine pf_5_16 hOK hF hKK hW hS hA k0 eμ131 dX5_readCommand_81 (fun H locs hW hS => ?_)
          refine lv_aload_n hx hb dX5_readCommand_84 rfl (lv_at hl 0 rfl) ?_
          refine lv_aload_n hx hb dX5_readCommand_85 rfl (lv_at hl 0 rfl) ?_
          obtain ⟨q132, hq132, hs⟩ := obind_e hs
          refine end_i (run_V (q := (RX5, TX5, 21)) (ci := 5) hF hKK hW hS hl.1 k0 (by decide) rfl (c_X5_readNumber l hOK k0 hq132) (kw_X5_202 hF.2.2.2.2 ⟨Nat.le_of_ble_eq_true rfl, Nat.le_of_ble_eq_true rfl⟩) rfl rfl (Nat.le_of_ble_eq_true rfl) dX5_readCommand_86 ⟨Nat.zero_le _, Nat.zero_le _⟩) hS (fun H locs hW hS => ?_)
          obtain ⟨μ133, eμ133, hs⟩ := bnd_e hs
          refine pf_5_17 hOK hF hKK hW hS hA k0 eμ133 dX5_readCommand_89 (fun H locs hW hS => ?_)
          refine lv_aload_n hx hb dX5_readCommand_92 rfl (lv_at hl 0 rfl) ?_
          refine gf_5_19 hF hKK hW k0 dX5_readCommand_93 ?_
          obtain ⟨v134, ev134, hs⟩ := bnd_e hs
          refine top_i ev134 ?_
          by_cases c135 : v134 = (99 : Int32)
          · have hs := ite_t hs c135
            refine lv_lookup (off := 53) (tgt := 149) hx hb dX5_readCommand_96 (by decide) (by rw [c135]; decide) (by decide) ?_
            refine lv_aload_n hx hb dX5_readCommand_149 rfl (lv_at hl 0 rfl) ?_
            refine lv_bipush (v := (126 : Int32)) hx hb dX5_readCommand_150 (by decide) ?_
            obtain ⟨q136, hq136, hs⟩ := obind_e hs
            refine end_v (run_V (q := (RX5, TX5, 21)) (ci := 5) hF hKK hW hS hl.1 k0 (by decide) rfl (c_X5_readBehind l hOK k0 hq136) (kw_X5_221 hF.2.2.2.2 ⟨Nat.le_of_ble_eq_true rfl, Nat.le_of_ble_eq_true rfl⟩) rfl rfl (Nat.le_of_ble_eq_true rfl) dX5_readCommand_152 ⟨Nat.zero_le _, Nat.zero_le _⟩) hS (fun H locs hW hS => ?_)
            refine lv_goto (tgt := 170) hx hb dX5_readCommand_155 (by decide) ?_
            have h9 := Option.some.inj hs
            rw [← h9]
            exact wr_v hF hr hlocks hW hS dX5_readCommand_170
          have hs := ite_f hs c135
          by_cases c137 : v134 = (106 : Int32)
          · have hs := ite_t hs c137
            refine lv_lookup (off := 53) (tgt := 149) hx hb dX5_readCommand_96 (by decide) (by rw [c137]; decide) (by decide) ?_
            refine lv_aload_n hx hb dX5_readCommand_149 rfl (lv_at hl 0 rfl) ?_
            refine lv_bipush (v := (126 : Int32)) hx hb dX5_readCommand_150 (by decide) ?_
            obtain ⟨q138, hq138, hs⟩ := obind_e hs
            refine end_v (run_V (q := (RX5, TX5, 21)) (ci := 5) hF hKK hW hS hl.1 k0 (by decide) rfl (c_X5_readBehind l hOK k0 hq138) (kw_X5_221 hF.2.2.2.2 ⟨Nat.le_of_ble_eq_true rfl, Nat.le_of_ble_eq_true rfl⟩) rfl rfl (Nat.le_of_ble_eq_true rfl) dX5_readCommand_152 ⟨Nat.zero_le _, Nat.zero_le _⟩) hS (fun H locs hW hS => ?_)
            refine lv_goto (tgt := 170) hx hb dX5_readCommand_155 (by decide) ?_
            have h9 := Option.some.inj hs
            rw [← h9]
            exact wr_v hF hr hlocks hW hS dX5_readCommand_170
          have hs := ite_f hs c137
          by_cases c139 : v134 = (117 : Int32)
          · have hs := ite_t hs c139
            refine lv_lookup (off := 62) (tgt := 158) hx hb dX5_readCommand_96 (by decide) (by rw [c139]; decide) (by decide) ?_
            refine lv_aload_n hx hb dX5_readCommand_158 rfl (lv_at hl 0 rfl) ?_
            obtain ⟨q140, hq140, hs⟩ := obind_e hs
            refine end_v (run_V (q := (RX5, TX5, 21)) (ci := 5) hF hKK hW hS hl.1 k0 (by decide) rfl (c_X5_readRise l hOK k0 hq140) (kw_X5_224 hF.2.2.2.2 ⟨Nat.le_of_ble_eq_true rfl, Nat.le_of_ble_eq_true rfl⟩) rfl rfl (Nat.le_of_ble_eq_true rfl) dX5_readCommand_159 ⟨Nat.zero_le _, Nat.zero_le _⟩) hS (fun H locs hW hS => ?_)
            refine lv_goto (tgt := 170) hx hb dX5_readCommand_162 (by decide) ?_
            have h9 := Option.some.inj hs
            rw [← h9]
            exact wr_v hF hr hlocks hW hS dX5_readCommand_170
          have hs := ite_f hs c139
          by_cases c141 : v134 = (119 : Int32)
          · have hs := ite_t hs c141
            refine lv_lookup (off := 44) (tgt := 140) hx hb dX5_readCommand_96 (by decide) (by rw [c141]; decide) (by decide) ?_
            refine lv_aload_n hx hb dX5_readCommand_140 rfl (lv_at hl 0 rfl) ?_
            refine lv_bipush (v := (61 : Int32)) hx hb dX5_readCommand_141 (by decide) ?_
            obtain ⟨q142, hq142, hs⟩ := obind_e hs
            refine end_v (run_V (q := (RX5, TX5, 21)) (ci := 5) hF hKK hW hS hl.1 k0 (by decide) rfl (c_X5_readBehind l hOK k0 hq142) (kw_X5_221 hF.2.2.2.2 ⟨Nat.le_of_ble_eq_true rfl, Nat.le_of_ble_eq_true rfl⟩) rfl rfl (Nat.le_of_ble_eq_true rfl) dX5_readCommand_143 ⟨Nat.zero_le _, Nat.zero_le _⟩) hS (fun H locs hW hS => ?_)
            refine lv_goto (tgt := 170) hx hb dX5_readCommand_146 (by decide) ?_
            have h9 := Option.some.inj hs
            rw [← h9]
            exact wr_v hF hr hlocks hW hS dX5_readCommand_170
          have hs := ite_f hs c141
          refine lv_lookup (off := 69) (tgt := 165) hx hb dX5_readCommand_96 (by decide) ((lv_osw c135 (by decide)).trans ((lv_osw c137 (by decide)).trans ((lv_osw c139 (by decide)).trans ((lv_osw c141 (by decide)).trans rfl)))) (by decide) ?_
          refine lv_aload_n hx hb dX5_readCommand_165 rfl (lv_at hl 0 rfl) ?_
          refine lv_iconst (v := (0 : Int32)) hx hb dX5_readCommand_166 (by decide) ?_
          obtain ⟨μ143, eμ143, hs⟩ := bnd_e hs
          refine pf_5_18 hOK hF hKK hW hS hA k0 eμ143 dX5_readCommand_167 (fun H locs hW hS => ?_)
          have h9 := Option.some.inj hs
          rw [← h9]
          exact wr_v hF hr hlocks hW hS dX5_readCommand_170
        · have hs := ite_f hs c130
          refine lv_iconst (v := (0 : Int32)) hx hb dX5_readCommand_75 (by decide) ?_
          refine lv_goto (tgt := 80) hx hb dX5_readCommand_76 (by decide) ?_
          refine lv_iadd hx hb dX5_readCommand_80 ?_
          obtain ⟨μ144, eμ144, hs⟩ := bnd_e hs
          refine pf_5_16 hOK hF hKK hW hS hA k0 eμ144 dX5_readCommand_81 (fun H locs hW hS => ?_)
          refine lv_aload_n hx hb dX5_readCommand_84 rfl (lv_at hl 0 rfl) ?_
          refine lv_aload_n hx hb dX5_readCommand_85 rfl (lv_at hl 0 rfl) ?_
          obtain ⟨q145, hq145, hs⟩ := obind_e hs
          refine end_i (run_V (q := (RX5, TX5, 21)) (ci := 5) hF hKK hW hS hl.1 k0 (by decide) rfl (c_X5_readNumber l hOK k0 hq145) (kw_X5_202 hF.2.2.2.2 ⟨Nat.le_of_ble_eq_true rfl, Nat.le_of_ble_eq_true rfl⟩) rfl rfl (Nat.le_of_ble_eq_true rfl) dX5_readCommand_86 ⟨Nat.zero_le _, Nat.zero_le _⟩) hS (fun H locs hW hS => ?_)
          obtain ⟨μ146, eμ146, hs⟩ := bnd_e hs
          refine pf_5_17 hOK hF hKK hW hS hA k0 eμ146 dX5_readCommand_89 (fun H locs hW hS => ?_)
          refine lv_aload_n hx hb dX5_readCommand_92 rfl (lv_at hl 0 rfl) ?_
          refine gf_5_19 hF hKK hW k0 dX5_readCommand_93 ?_
          obtain ⟨v147, ev147, hs⟩ := bnd_e hs
          refine top_i ev147 ?_
          by_cases c148 : v147 = (99 : Int32)
          · have hs := ite_t hs c148
            refine lv_lookup (off := 53) (tgt := 149) hx hb dX5_readCommand_96 (by decide) (by rw [c148]; decide) (by decide) ?_
            refine lv_aload_n hx hb dX5_readCommand_149 rfl (lv_at hl 0 rfl) ?_
            refine lv_bipush (v := (126 : Int32)) hx hb dX5_readCommand_150 (by decide) ?_
            obtain ⟨q149, hq149, hs⟩ := obind_e hs
            refine end_v (run_V (q := (RX5, TX5, 21)) (ci := 5) hF hKK hW hS hl.1 k0 (by decide) rfl (c_X5_readBehind l hOK k0 hq149) (kw_X5_221 hF.2.2.2.2 ⟨Nat.le_of_ble_eq_true rfl, Nat.le_of_ble_eq_true rfl⟩) rfl rfl (Nat.le_of_ble_eq_true rfl) dX5_readCommand_152 ⟨Nat.zero_le _, Nat.zero_le _⟩) hS (fun H locs hW hS => ?_)
            refine lv_goto (tgt := 170) hx hb dX5_readCommand_155 (by decide) ?_
            have h9 := Option.some.inj hs
            rw [← h9]
            exact wr_v hF hr hlocks hW hS dX5_readCommand_170
          have hs := ite_f hs c148
          by_cases c150 : v147 = (106 : Int32)
          · have hs := ite_t hs c150
            refine lv_lookup (off := 53) (tgt := 149) hx hb dX5_readCommand_96 (by decide) (by rw [c150]; decide) (by decide) ?_
            refine lv_aload_n hx hb dX5_readCommand_149 rfl (lv_at hl 0 rfl) ?_
            refine lv_bipush (v := (126 : Int32)) hx hb dX5_readCommand_150 (by decide) ?_
            obtain ⟨q151, hq151, hs⟩ := obind_e hs
            refine end_v (run_V (q := (RX5, TX5, 21)) (ci := 5) hF hKK hW hS hl.1 k0 (by decide) rfl (c_X5_readBehind l hOK k0 hq151) (kw_X5_221 hF.2.2.2.2 ⟨Nat.le_of_ble_eq_true rfl, Nat.le_of_ble_eq_true rfl⟩) rfl rfl (Nat.le_of_ble_eq_true rfl) dX5_readCommand_152 ⟨Nat.zero_le _, Nat.zero_le _⟩) hS (fun H locs hW hS => ?_)
            refine lv_goto (tgt := 170) hx hb dX5_readCommand_155 (by decide) ?_
            have h9 := Option.some.inj hs
            rw [← h9]
            exact wr_v hF hr hlocks hW hS dX5_readCommand_170
          have hs := ite_f hs c150
          by_cases c152 : v147 = (117 : Int32)
          · have hs := ite_t hs c152
            refine lv_lookup (off := 62) (tgt := 158) hx hb dX5_readCommand_96 (by decide) (by rw [c152]; decide) (by decide) ?_
            refine lv_aload_n hx hb dX5_readCommand_158 rfl (lv_at hl 0 rfl) ?_
            obtain ⟨q153, hq153, hs⟩ := obind_e hs
            refine end_v (run_V (q := (RX5, TX5, 21)) (ci := 5) hF hKK hW hS hl.1 k0 (by decide) rfl (c_X5_readRise l hOK k0 hq153) (kw_X5_224 hF.2.2.2.2 ⟨Nat.le_of_ble_eq_true rfl, Nat.le_of_ble_eq_true rfl⟩) rfl rfl (Nat.le_of_ble_eq_true rfl) dX5_readCommand_159 ⟨Nat.zero_le _, Nat.zero_le _⟩) hS (fun H locs hW hS => ?_)
            refine lv_goto (tgt := 170) hx hb dX5_readCommand_162 (by decide) ?_
            have h9 := Option.some.inj hs
            rw [← h9]
            exact wr_v hF hr hlocks hW hS dX5_readCommand_170
          have hs := ite_f hs c152
          by_cases c154 : v147 = (119 : Int32)
          · have hs := ite_t hs c154
            refine lv_lookup (off := 44) (tgt := 140) hx hb dX5_readCommand_96 (by decide) (by rw [c154]; decide) (by decide) ?_
            refine lv_aload_n hx hb dX5_readCommand_140 rfl (lv_at hl 0 rfl) ?_
            refine lv_bipush (v := (61 : Int32)) hx hb dX5_readCommand_141 (by decide) ?_
            obtain ⟨q155, hq155, hs⟩ := obind_e hs
            refine end_v (run_V (q := (RX5, TX5, 21)) (ci := 5) hF hKK hW hS hl.1 k0 (by decide) rfl (c_X5_readBehind l hOK k0 hq155) (kw_X5_221 hF.2.2.2.2 ⟨Nat.le_of_ble_eq_true rfl, Nat.le_of_ble_eq_true rfl⟩) rfl rfl (Nat.le_of_ble_eq_true rfl) dX5_readCommand_143 ⟨Nat.zero_le _, Nat.zero_le _⟩) hS (fun H locs hW hS => ?_)
            refine lv_goto (tgt := 170) hx hb dX5_readCommand_146 (by decide) ?_
            have h9 := Option.some.inj hs
            rw [← h9]
            exact wr_v hF hr hlocks hW hS dX5_readCommand_170
          have hs := ite_f hs c154
          refine lv_lookup (off := 69) (tgt := 165) hx hb dX5_readCommand_96 (by decide) ((lv_osw c148 (by decide)).trans ((lv_osw c150 (by decide)).trans ((lv_osw c152 (by decide)).trans ((lv_osw c154 (by decide)).trans rfl)))) (by decide) ?_
          refine lv_aload_n hx hb dX5_readCommand_165 rfl (lv_at hl 0 rfl) ?_
          refine lv_iconst (v := (0 : Int32)) hx hb dX5_readCommand_166 (by decide) ?_
          obtain ⟨μ156, eμ156, hs⟩ := bnd_e hs
          refine pf_5_18 hOK hF hKK hW hS hA k0 eμ156 dX5_readCommand_167 (fun H locs hW hS => ?_)
          have h9 := Option.some.inj hs
          rw [← h9]
          exact wr_v hF hr hlocks hW hS dX5_readCommand_170
      · have hs := ite_f hs c128
        refine lv_iconst (v := (1 : Int32)) hx hb dX5_readCommand_54 (by decide) ?_
        refine lv_goto (tgt := 59) hx hb dX5_readCommand_55 (by decide) ?_
        refine lv_ior hx hb dX5_readCommand_59 ?_
        obtain ⟨g186, hs⟩ := gd_some hs
        obtain ⟨μ158, eμ158, hs⟩ := bnd_e hs
        refine pf_5_20 g186 hOK hF hKK hW hS hA k0 eμ158 dX5_readCommand_60 (fun H locs hW hS => ?_)
        refine lv_aload_n hx hb dX5_readCommand_63 rfl (lv_at hl 0 rfl) ?_
        refine lv_dup hx hb dX5_readCommand_64 rfl ?_
        refine gf_5_16 hF hKK hW k0 dX5_readCommand_65 ?_
        refine lv_aload_n hx hb dX5_readCommand_68 rfl (lv_at hl 0 rfl) ?_
        refine gf_5_20 hF hKK hW k0 dX5_readCommand_69 ?_
        refine lv_if_eq (tgt := 79) hx hb dX5_readCommand_72 (by decide) (fun c159 => ?_) (fun c159 => ?_)
        · have hs := ite_t hs c159
          refine lv_iconst (v := (1 : Int32)) hx hb dX5_readCommand_79 (by decide) ?_
          refine lv_iadd hx hb dX5_readCommand_80 ?_
          obtain ⟨μ160, eμ160, hs⟩ := bnd_e hs
          refine pf_5_16 hOK hF hKK hW hS hA k0 eμ160 dX5_readCommand_81 (fun H locs hW hS => ?_)
          refine lv_aload_n hx hb dX5_readCommand_84 rfl (lv_at hl 0 rfl) ?_
          refine lv_aload_n hx hb dX5_readCommand_85 rfl (lv_at hl 0 rfl) ?_
          obtain ⟨q161, hq161, hs⟩ := obind_e hs
          refine end_i (run_V (q := (RX5, TX5, 21)) (ci := 5) hF hKK hW hS hl.1 k0 (by decide) rfl (c_X5_readNumber l hOK k0 hq161) (kw_X5_202 hF.2.2.2.2 ⟨Nat.le_of_ble_eq_true rfl, Nat.le_of_ble_eq_true rfl⟩) rfl rfl (Nat.le_of_ble_eq_true rfl) dX5_readCommand_86 ⟨Nat.zero_le _, Nat.zero_le _⟩) hS (fun H locs hW hS => ?_)
          obtain ⟨μ162, eμ162, hs⟩ := bnd_e hs
          refine pf_5_17 hOK hF hKK hW hS hA k0 eμ162 dX5_readCommand_89 (fun H locs hW hS => ?_)
          refine lv_aload_n hx hb dX5_readCommand_92 rfl (lv_at hl 0 rfl) ?_
          refine gf_5_19 hF hKK hW k0 dX5_readCommand_93 ?_
          obtain ⟨v163, ev163, hs⟩ := bnd_e hs
          refine top_i ev163 ?_
          by_cases c164 : v163 = (99 : Int32)
          · have hs := ite_t hs c164
            refine lv_lookup (off := 53) (tgt := 149) hx hb dX5_readCommand_96 (by decide) (by rw [c164]; decide) (by decide) ?_
            refine lv_aload_n hx hb dX5_readCommand_149 rfl (lv_at hl 0 rfl) ?_
            refine lv_bipush (v := (126 : Int32)) hx hb dX5_readCommand_150 (by decide) ?_
            obtain ⟨q165, hq165, hs⟩ := obind_e hs
            refine end_v (run_V (q := (RX5, TX5, 21)) (ci := 5) hF hKK hW hS hl.1 k0 (by decide) rfl (c_X5_readBehind l hOK k0 hq165) (kw_X5_221 hF.2.2.2.2 ⟨Nat.le_of_ble_eq_true rfl, Nat.le_of_ble_eq_true rfl⟩) rfl rfl (Nat.le_of_ble_eq_true rfl) dX5_readCommand_152 ⟨Nat.zero_le _, Nat.zero_le _⟩) hS (fun H locs hW hS => ?_)
            refine lv_goto (tgt := 170) hx hb dX5_readCommand_155 (by decide) ?_
            have h9 := Option.some.inj hs
            rw [← h9]
            exact wr_v hF hr hlocks hW hS dX5_readCommand_170
          have hs := ite_f hs c164
          by_cases c166 : v163 = (106 : Int32)
          · have hs := ite_t hs c166
            refine lv_lookup (off := 53) (tgt := 149) hx hb dX5_readCommand_96 (by decide) (by rw [c166]; decide) (by decide) ?_
            refine lv_aload_n hx hb dX5_readCommand_149 rfl (lv_at hl 0 rfl) ?_
            refine lv_bipush (v := (126 : Int32)) hx hb dX5_readCommand_150 (by decide) ?_
            obtain ⟨q167, hq167, hs⟩ := obind_e hs
            refine end_v (run_V (q := (RX5, TX5, 21)) (ci := 5) hF hKK hW hS hl.1 k0 (by decide) rfl (c_X5_readBehind l hOK k0 hq167) (kw_X5_221 hF.2.2.2.2 ⟨Nat.le_of_ble_eq_true rfl, Nat.le_of_ble_eq_true rfl⟩) rfl rfl (Nat.le_of_ble_eq_true rfl) dX5_readCommand_152 ⟨Nat.zero_le _, Nat.zero_le _⟩) hS (fun H locs hW hS => ?_)
            refine lv_goto (tgt := 170) hx hb dX5_readCommand_155 (by decide) ?_
            have h9 := Option.some.inj hs
            rw [← h9]
            exact wr_v hF hr hlocks hW hS dX5_readCommand_170
          have hs := ite_f hs c166
          by_cases c168 : v163 = (117 : Int32)
          · have hs := ite_t hs c168
            refine lv_lookup (off := 62) (tgt := 158) hx hb dX5_readCommand_96 (by decide) (by rw [c168]; decide) (by decide) ?_
            refine lv_aload_n hx hb dX5_readCommand_158 rfl (lv_at hl 0 rfl) ?_
            obtain ⟨q169, hq169, hs⟩ := obind_e hs
            refine end_v (run_V (q := (RX5, TX5, 21)) (ci := 5) hF hKK hW hS hl.1 k0 (by decide) rfl (c_X5_readRise l hOK k0 hq169) (kw_X5_224 hF.2.2.2.2 ⟨Nat.le_of_ble_eq_true rfl, Nat.le_of_ble_eq_true rfl⟩) rfl rfl (Nat.le_of_ble_eq_true rfl) dX5_readCommand_159 ⟨Nat.zero_le _, Nat.zero_le _⟩) hS (fun H locs hW hS => ?_)
            refine lv_goto (tgt := 170) hx hb dX5_readCommand_162 (by decide) ?_
            have h9 := Option.some.inj hs
            rw [← h9]
            exact wr_v hF hr hlocks hW hS dX5_readCommand_170
          have hs := ite_f hs c168
          by_cases c170 : v163 = (119 : Int32)
          · have hs := ite_t hs c170
            refine lv_lookup (off := 44) (tgt := 140) hx hb dX5_readCommand_96 (by decide) (by rw [c170]; decide) (by decide) ?_
            refine lv_aload_n hx hb dX5_readCommand_140 rfl (lv_at hl 0 rfl) ?_
            refine lv_bipush (v := (61 : Int32)) hx hb dX5_readCommand_141 (by decide) ?_
            obtain ⟨q171, hq171, hs⟩ := obind_e hs
            refine end_v (run_V (q := (RX5, TX5, 21)) (ci := 5) hF hKK hW hS hl.1 k0 (by decide) rfl (c_X5_readBehind l hOK k0 hq171) (kw_X5_221 hF.2.2.2.2 ⟨Nat.le_of_ble_eq_true rfl, Nat.le_of_ble_eq_true rfl⟩) rfl rfl (Nat.le_of_ble_eq_true rfl) dX5_readCommand_143 ⟨Nat.zero_le _, Nat.zero_le _⟩) hS (fun H locs hW hS => ?_)
            refine lv_goto (tgt := 170) hx hb dX5_readCommand_146 (by decide) ?_
            have h9 := Option.some.inj hs
            rw [← h9]
            exact wr_v hF hr hlocks hW hS dX5_readCommand_170
          have hs := ite_f hs c170
          refine lv_lookup (off := 69) (tgt := 165) hx hb dX5_readCommand_96 (by decide) ((lv_osw c164 (by decide)).trans ((lv_osw c166 (by decide)).trans ((lv_osw c168 (by decide)).trans ((lv_osw c170 (by decide)).trans rfl)))) (by decide) ?_
          refine lv_aload_n hx hb dX5_readCommand_165 rfl (lv_at hl 0 rfl) ?_
          refine lv_iconst (v := (0 : Int32)) hx hb dX5_readCommand_166 (by decide) ?_
          obtain ⟨μ172, eμ172, hs⟩ := bnd_e hs
          refine pf_5_18 hOK hF hKK hW hS hA k0 eμ172 dX5_readCommand_167 (fun H locs hW hS => ?_)
          have h9 := Option.some.inj hs
          rw [← h9]
          exact wr_v hF hr hlocks hW hS dX5_readCommand_170
        · have hs := ite_f hs c159
          refine lv_iconst (v := (0 : Int32)) hx hb dX5_readCommand_75 (by decide) ?_
          refine lv_goto (tgt := 80) hx hb dX5_readCommand_76 (by decide) ?_
          refine lv_iadd hx hb dX5_readCommand_80 ?_
          obtain ⟨μ173, eμ173, hs⟩ := bnd_e hs
          refine pf_5_16 hOK hF hKK hW hS hA k0 eμ173 dX5_readCommand_81 (fun H locs hW hS => ?_)
          refine lv_aload_n hx hb dX5_readCommand_84 rfl (lv_at hl 0 rfl) ?_
          refine lv_aload_n hx hb dX5_readCommand_85 rfl (lv_at hl 0 rfl) ?_
          obtain ⟨q174, hq174, hs⟩ := obind_e hs
          refine end_i (run_V (q := (RX5, TX5, 21)) (ci := 5) hF hKK hW hS hl.1 k0 (by decide) rfl (c_X5_readNumber l hOK k0 hq174) (kw_X5_202 hF.2.2.2.2 ⟨Nat.le_of_ble_eq_true rfl, Nat.le_of_ble_eq_true rfl⟩) rfl rfl (Nat.le_of_ble_eq_true rfl) dX5_readCommand_86 ⟨Nat.zero_le _, Nat.zero_le _⟩) hS (fun H locs hW hS => ?_)
          obtain ⟨μ175, eμ175, hs⟩ := bnd_e hs
          refine pf_5_17 hOK hF hKK hW hS hA k0 eμ175 dX5_readCommand_89 (fun H locs hW hS => ?_)
          refine lv_aload_n hx hb dX5_readCommand_92 rfl (lv_at hl 0 rfl) ?_
          refine gf_5_19 hF hKK hW k0 dX5_readCommand_93 ?_
          obtain ⟨v176, ev176, hs⟩ := bnd_e hs
          refine top_i ev176 ?_
          by_cases c177 : v176 = (99 : Int32)
          · have hs := ite_t hs c177
            refine lv_lookup (off := 53) (tgt := 149) hx hb dX5_readCommand_96 (by decide) (by rw [c177]; decide) (by decide) ?_
            refine lv_aload_n hx hb dX5_readCommand_149 rfl (lv_at hl 0 rfl) ?_
            refine lv_bipush (v := (126 : Int32)) hx hb dX5_readCommand_150 (by decide) ?_
            obtain ⟨q178, hq178, hs⟩ := obind_e hs
            refine end_v (run_V (q := (RX5, TX5, 21)) (ci := 5) hF hKK hW hS hl.1 k0 (by decide) rfl (c_X5_readBehind l hOK k0 hq178) (kw_X5_221 hF.2.2.2.2 ⟨Nat.le_of_ble_eq_true rfl, Nat.le_of_ble_eq_true rfl⟩) rfl rfl (Nat.le_of_ble_eq_true rfl) dX5_readCommand_152 ⟨Nat.zero_le _, Nat.zero_le _⟩) hS (fun H locs hW hS => ?_)
            refine lv_goto (tgt := 170) hx hb dX5_readCommand_155 (by decide) ?_
            have h9 := Option.some.inj hs
            rw [← h9]
            exact wr_v hF hr hlocks hW hS dX5_readCommand_170
          have hs := ite_f hs c177
          by_cases c179 : v176 = (106 : Int32)
          · have hs := ite_t hs c179
            refine lv_lookup (off := 53) (tgt := 149) hx hb dX5_readCommand_96 (by decide) (by rw [c179]; decide) (by decide) ?_
            refine lv_aload_n hx hb dX5_readCommand_149 rfl (lv_at hl 0 rfl) ?_
            refine lv_bipush (v := (126 : Int32)) hx hb dX5_readCommand_150 (by decide) ?_
            obtain ⟨q180, hq180, hs⟩ := obind_e hs
            refine end_v (run_V (q := (RX5, TX5, 21)) (ci := 5) hF hKK hW hS hl.1 k0 (by decide) rfl (c_X5_readBehind l hOK k0 hq180) (kw_X5_221 hF.2.2.2.2 ⟨Nat.le_of_ble_eq_true rfl, Nat.le_of_ble_eq_true rfl⟩) rfl rfl (Nat.le_of_ble_eq_true rfl) dX5_readCommand_152 ⟨Nat.zero_le _, Nat.zero_le _⟩) hS (fun H locs hW hS => ?_)
            refine lv_goto (tgt := 170) hx hb dX5_readCommand_155 (by decide) ?_
            have h9 := Option.some.inj hs
            rw [← h9]
            exact wr_v hF hr hlocks hW hS dX5_readCommand_170
          have hs := ite_f hs c179
          by_cases c181 : v176 = (117 : Int32)
          · have hs := ite_t hs c181
            refine lv_lookup (off := 62) (tgt := 158) hx hb dX5_readCommand_96 (by decide) (by rw [c181]; decide) (by decide) ?_
            refine lv_aload_n hx hb dX5_readCommand_158 rfl (lv_at hl 0 rfl) ?_
            obtain ⟨q182, hq182, hs⟩ := obind_e hs
            refine end_v (run_V (q := (RX5, TX5, 21)) (ci := 5) hF hKK hW hS hl.1 k0 (by decide) rfl (c_X5_readRise l hOK k0 hq182) (kw_X5_224 hF.2.2.2.2 ⟨Nat.le_of_ble_eq_true rfl, Nat.le_of_ble_eq_true rfl⟩) rfl rfl (Nat.le_of_ble_eq_true rfl) dX5_readCommand_159 ⟨Nat.zero_le _, Nat.zero_le _⟩) hS (fun H locs hW hS => ?_)
            refine lv_goto (tgt := 170) hx hb dX5_readCommand_162 (by decide) ?_
            have h9 := Option.some.inj hs
            rw [← h9]
            exact wr_v hF hr hlocks hW hS dX5_readCommand_170
          have hs := ite_f hs c181
          by_cases c183 : v176 = (119 : Int32)
          · have hs := ite_t hs c183
            refine lv_lookup (off := 44) (tgt := 140) hx hb dX5_readCommand_96 (by decide) (by rw [c183]; decide) (by decide) ?_
            refine lv_aload_n hx hb dX5_readCommand_140 rfl (lv_at hl 0 rfl) ?_
            refine lv_bipush (v := (61 : Int32)) hx hb dX5_readCommand_141 (by decide) ?_
            obtain ⟨q184, hq184, hs⟩ := obind_e hs
            refine end_v (run_V (q := (RX5, TX5, 21)) (ci := 5) hF hKK hW hS hl.1 k0 (by decide) rfl (c_X5_readBehind l hOK k0 hq184) (kw_X5_221 hF.2.2.2.2 ⟨Nat.le_of_ble_eq_true rfl, Nat.le_of_ble_eq_true rfl⟩) rfl rfl (Nat.le_of_ble_eq_true rfl) dX5_readCommand_143 ⟨Nat.zero_le _, Nat.zero_le _⟩) hS (fun H locs hW hS => ?_)
            refine lv_goto (tgt := 170) hx hb dX5_readCommand_146 (by decide) ?_
            have h9 := Option.some.inj hs
            rw [← h9]
            exact wr_v hF hr hlocks hW hS dX5_readCommand_170
          have hs := ite_f hs c183
          refine lv_lookup (off := 69) (tgt := 165) hx hb dX5_readCommand_96 (by decide) ((lv_osw c177 (by decide)).trans ((lv_osw c179 (by decide)).trans ((lv_osw c181 (by decide)).trans ((lv_osw c183 (by decide)).trans rfl)))) (by decide) ?_
          refine lv_aload_n hx hb dX5_readCommand_165 rfl (lv_at hl 0 rfl) ?_
          refine lv_iconst (v := (0 : Int32)) hx hb dX5_readCommand_166 (by decide) ?_
          obtain ⟨μ185, eμ185, hs⟩ := bnd_e hs
          refine pf_5_18 hOK hF hKK hW hS hA k0 eμ185 dX5_readCommand_167 (fun H locs hW hS => ?_)
          have h9 := Option.some.inj hs
          rw [← h9]
          exact wr_v hF hr hlocks hW hS dX5_readCommand_170

set_option maxHeartbeats 4000000 in
set_option maxRecDepth 100000 in
theorem cl_X5_countCommands_16 {p : Program} {l : Launch} {e : Env} {s : State} {m : MethodId} {args : Array Value} {below : List Frame} {meth : Method} {c : Code} {G : va_G} {Λ : Lay} {r : (Int32 × Mem)} (hOK : LayOK Λ) (hF : CallFix p m c cX5_countCommands 2 s args tw RX5) (hKK : KK G Λ s) (hr : meth.sig.returnType = (some .int)) (hlocks : meth.locks = false) {x0 : Nat} (kx0 : inK Λ x0 5) : ∀ (n : Nat) (μ : Mem) (x1 : Int32) (H : Heap) (locs : List Loc) (ls : Array Slot), lpX5_countCommands_16 Λ x0 n μ x1 = some r → Wd G Λ μ H → va_S (inL Λ) s.heap H locs → lv_has ls 2 [(0, .ref x0), (1, .int x1)] → W p l e (rmd 5) s m args below meth c H locs 0 0 (MQ below (QI G Λ r.1 r.2) args s 0 0 (inL Λ)) (F0 m 16 ls []) := by
  have hx := hF.1
  have hb := hF.2.1
  have hA : ∀ q, inL Λ q → inL Λ q := fun _ h => h
  intro n
  induction n with
  | zero =>
    intro μ x1 H locs ls hs hW hS hl
    cases hs
  | succ n16 ih16 =>
    intro μ x1 H locs ls hs hW hS hl
    rw [lpX5_countCommands_16_s] at hs
    refine lv_aload_n hx hb dX5_countCommands_16 rfl (lv_at hl 0 rfl) ?_
    refine gf_5_20 hF hKK hW kx0 dX5_countCommands_17 ?_
    refine lv_if_ne (tgt := 50) hx hb dX5_countCommands_20 (by decide) (fun c4 => ?_) (fun c4 => ?_)
    · have hs := ite_f hs c4
      refine lv_iload_n hx hb dX5_countCommands_50 rfl (lv_at hl 1 rfl) ?_
      have h9 := Option.some.inj hs
      rw [← h9]
      exact wr_i hF hr hlocks (vp_nar_int _) hW hS dX5_countCommands_51
    · have hs := ite_t hs c4
      refine lv_aload_n hx hb dX5_countCommands_23 rfl (lv_at hl 0 rfl) ?_
      refine gf_5_16 hF hKK hW kx0 dX5_countCommands_24 ?_
      refine lv_aload_n hx hb dX5_countCommands_27 rfl (lv_at hl 0 rfl) ?_
      refine gf_5_15 hF hKK hW kx0 dX5_countCommands_28 ?_
      refine lv_icmp_ge (tgt := 50) hx hb dX5_countCommands_31 (by decide) (fun c5 => ?_) (fun c5 => ?_)
      · have hs := ite_t hs c5
        refine lv_iload_n hx hb dX5_countCommands_50 rfl (lv_at hl 1 rfl) ?_
        have h9 := Option.some.inj hs
        rw [← h9]
        exact wr_i hF hr hlocks (vp_nar_int _) hW hS dX5_countCommands_51
      · have hs := ite_f hs c5
        refine lv_aload_n hx hb dX5_countCommands_34 rfl (lv_at hl 0 rfl) ?_
        refine lv_bipush (v := (59 : Int32)) hx hb dX5_countCommands_35 (by decide) ?_
        obtain ⟨q6, hq6, hs⟩ := obind_e hs
        refine end_v (run_V (q := (RX5, TX5, 21)) (ci := 5) hF hKK hW hS hl.1 kx0 (by decide) rfl (c_X5_must l hOK kx0 hq6) (kw_X5_199 hF.2.2.2.2 ⟨Nat.le_of_ble_eq_true rfl, Nat.le_of_ble_eq_true rfl⟩) rfl rfl (Nat.le_of_ble_eq_true rfl) dX5_countCommands_37 ⟨Nat.zero_le _, Nat.zero_le _⟩) hS (fun H locs hW hS => ?_)
        refine lv_aload_n hx hb dX5_countCommands_40 rfl (lv_at hl 0 rfl) ?_
        obtain ⟨q7, hq7, hs⟩ := obind_e hs
        refine end_v (run_V (q := (RX5, TX5, 21)) (ci := 5) hF hKK hW hS hl.1 kx0 (by decide) rfl (c_X5_readCommand l hOK kx0 hq7) (kw_X5_227 hF.2.2.2.2 ⟨Nat.le_of_ble_eq_true rfl, Nat.le_of_ble_eq_true rfl⟩) rfl rfl (Nat.le_of_ble_eq_true rfl) dX5_countCommands_41 ⟨Nat.zero_le _, Nat.zero_le _⟩) hS (fun H locs hW hS => ?_)
        obtain ⟨v8, ev8, hs⟩ := bnd_e hs
        refine lv_iinc (v := v8) (lv' := [(1, .int v8), (0, .ref x0)]) hx hb dX5_countCommands_44 hl (k := 1) rfl (by rw [ev8]; rfl) (by decide) rfl (fun ls hl => ?_)
        refine lv_goto (tgt := 16) hx hb dX5_countCommands_47 (by decide) ?_
        exact ih16 q7 v8 _ _ _ hs hW hS (lv_sub hl [1, 0] rfl)

set_option maxHeartbeats 4000000 in
set_option maxRecDepth 100000 in
theorem c_X5_countCommands (l : Launch) {G : va_G} {Λ : Lay} {μ : Mem} (hOK : LayOK Λ) {a0 : Nat} (k0 : inK Λ a0 5) {r : (Int32 × Mem)} (hs : sX5_countCommands Λ μ a0 = some r) : CM l G Λ yX5_countCommands cX5_countCommands 2 (some .int) 5 μ [.ref a0] (QI G Λ r.1 r.2) := by
  refine ofM (own := RX5) (by decide +kernel) rfl (Nat.le_of_ble_eq_true rfl) (fun p e s m args below meth c ls hF hKK hW hr hlocks hl => ?_)
  have hx := hF.1
  have hb := hF.2.1
  have hA : ∀ q, inL Λ q → inL Λ q := fun _ h => h
  have hS : va_S (inL Λ) s.heap s.heap [] := va_S.rf
  have hl : lv_has ls 2 [(0, .ref a0)] := hl
  unfold sX5_countCommands at hs
  refine lv_aload_n hx hb dX5_countCommands_0 rfl (lv_at hl 0 rfl) ?_
  refine lv_iconst (v := (0 : Int32)) hx hb dX5_countCommands_1 (by decide) ?_
  obtain ⟨μ1, eμ1, hs⟩ := bnd_e hs
  refine pf_5_16 hOK hF hKK hW hS hA k0 eμ1 dX5_countCommands_2 (fun H locs hW hS => ?_)
  refine lv_aload_n hx hb dX5_countCommands_5 rfl (lv_at hl 0 rfl) ?_
  refine lv_iconst (v := (0 : Int32)) hx hb dX5_countCommands_6 (by decide) ?_
  obtain ⟨μ2, eμ2, hs⟩ := bnd_e hs
  refine pf_5_20 (by decide) hOK hF hKK hW hS hA k0 eμ2 dX5_countCommands_7 (fun H locs hW hS => ?_)
  refine lv_iconst (v := (1 : Int32)) hx hb dX5_countCommands_10 (by decide) ?_
  refine lv_istore_n (lv' := [(1, .int (1 : Int32)), (0, .ref a0)]) hx hb dX5_countCommands_11 rfl hl (by decide) rfl (fun ls hl => ?_)
  refine lv_aload_n hx hb dX5_countCommands_12 rfl (lv_at hl 1 rfl) ?_
  obtain ⟨q3, hq3, hs⟩ := obind_e hs
  refine end_v (run_V (q := (RX5, TX5, 21)) (ci := 5) hF hKK hW hS hl.1 k0 (by decide) rfl (c_X5_readCommand l hOK k0 hq3) (kw_X5_227 hF.2.2.2.2 ⟨Nat.le_of_ble_eq_true rfl, Nat.le_of_ble_eq_true rfl⟩) rfl rfl (Nat.le_of_ble_eq_true rfl) dX5_countCommands_13 ⟨Nat.zero_le _, Nat.zero_le _⟩) hS (fun H locs hW hS => ?_)
  exact cl_X5_countCommands_16 hOK hF hKK hr hlocks k0 fuel q3 (1 : Int32) _ _ _ hs hW hS (lv_sub hl [1, 0] rfl)

set_option maxHeartbeats 4000000 in
set_option maxRecDepth 100000 in
theorem cl_X5_read_50 {p : Program} {l : Launch} {e : Env} {s : State} {m : MethodId} {args : Array Value} {below : List Frame} {meth : Method} {c : Code} {G : va_G} {Λ : Lay} {r : (Int32 × Mem)} (hOK : LayOK Λ) (hF : CallFix p m c cX5_read 4 s args tw RX5) (hKK : KK G Λ s) (hr : meth.sig.returnType = (some .int)) (hlocks : meth.locks = false) {x0 : Nat} (kx0 : inK Λ x0 5) {x1 : Int32} : ∀ (n : Nat) (μ : Mem) (x2 : Int32) (x3 : Int32) (H : Heap) (locs : List Loc) (ls : Array Slot), lpX5_read_50 Λ x0 x1 n μ x2 x3 = some r → Wd G Λ μ H → va_S (inL Λ) s.heap H locs → lv_has ls 4 [(0, .ref x0), (1, .int x1), (2, .int x2), (3, .int x3)] → W p l e (rmd 7) s m args below meth c H locs 0 0 (MQ below (QI G Λ r.1 r.2) args s 0 0 (inL Λ)) (F0 m 50 ls []) := by
  have hx := hF.1
  have hb := hF.2.1
  have hA : ∀ q, inL Λ q → inL Λ q := fun _ h => h
  intro n
  induction n with
  | zero =>
    intro μ x2 x3 H locs ls hs hW hS hl
    cases hs
  | succ n50 ih50 =>
    intro μ x2 x3 H locs ls hs hW hS hl
    rw [lpX5_read_50_s] at hs
    refine lv_iload_n hx hb dX5_read_50 rfl (lv_at hl 3 rfl) ?_
    refine lv_iload_n hx hb dX5_read_51 rfl (lv_at hl 1 rfl) ?_
    refine lv_icmp_ge (tgt := 89) hx hb dX5_read_52 (by decide) (fun c7 => ?_) (fun c7 => ?_)
    · have hs := ite_t hs c7
      refine lv_aload_n hx hb dX5_read_89 rfl (lv_at hl 0 rfl) ?_
      refine lv_iconst (v := (0 : Int32)) hx hb dX5_read_90 (by decide) ?_
      obtain ⟨μ8, eμ8, hs⟩ := bnd_e hs
      refine pf_5_10 (by decide) hOK hF hKK hW hS hA kx0 eμ8 dX5_read_91 (fun H locs hW hS => ?_)
      refine lv_aload_n hx hb dX5_read_94 rfl (lv_at hl 0 rfl) ?_
      refine lv_iconst (v := (0 : Int32)) hx hb dX5_read_95 (by decide) ?_
      obtain ⟨μ9, eμ9, hs⟩ := bnd_e hs
      refine pf_5_15 hOK hF hKK hW hS hA kx0 eμ9 dX5_read_96 (fun H locs hW hS => ?_)
      refine lv_iload_n hx hb dX5_read_99 rfl (lv_at hl 2 rfl) ?_
      refine lv_if_ge (tgt := 128) hx hb dX5_read_100 (by decide) (fun c10 => ?_) (fun c10 => ?_)
      · have hs := ite_t hs c10
        refine lv_aload_n hx hb dX5_read_128 rfl (lv_at hl 0 rfl) ?_
        refine lv_aload_n hx hb dX5_read_129 rfl (lv_at hl 0 rfl) ?_
        refine gf_5_2 hF hKK hW kx0 dX5_read_130 ?_
        obtain ⟨q11, hq11, hs⟩ := obind_e hs
        refine end_v (run_V (q := (RX5, TX5, 21)) (ci := 5) hF hKK hW hS hl.1 kx0 (by decide) rfl (c_X5_remember l hOK kx0 (lk_5_2 hOK kx0) hq11) (kw_X5_58 hF.2.2.2.2 ⟨Nat.le_of_ble_eq_true rfl, Nat.le_of_ble_eq_true rfl⟩) rfl rfl (Nat.le_of_ble_eq_true rfl) dX5_read_133 ⟨Nat.zero_le _, Nat.zero_le _⟩) hS (fun H locs hW hS => ?_)
        refine lv_iload_n hx hb dX5_read_136 rfl (lv_at hl 1 rfl) ?_
        have h9 := Option.some.inj hs
        rw [← h9]
        exact wr_i hF hr hlocks (vp_nar_int _) hW hS dX5_read_137
      · have hs := ite_f hs c10
        refine lv_aload_n hx hb dX5_read_103 rfl (lv_at hl 0 rfl) ?_
        refine gf_5_2 hF hKK hW kx0 dX5_read_104 ?_
        refine lv_aload_n hx hb dX5_read_107 rfl (lv_at hl 0 rfl) ?_
        refine gf_5_0 hF hKK hW kx0 dX5_read_108 ?_
        obtain ⟨q12, hq12, hs⟩ := obind_e hs
        refine end_v (run_S hF hKK hW hS hl.1 (c_X5_copyRow l hOK (lk_5_2 hOK kx0) (lk_5_0 hOK kx0) hq12) (kw_X5_54 hF.2.2.2.2 ⟨Nat.le_of_ble_eq_true rfl, Nat.le_of_ble_eq_true rfl⟩) rfl rfl (Nat.le_of_ble_eq_true rfl) dX5_read_111 ⟨Nat.zero_le _, Nat.zero_le _⟩) hS (fun H locs hW hS => ?_)
        refine lv_iload_n hx hb dX5_read_114 rfl (lv_at hl 2 rfl) ?_
        refine lv_bipush (v := (-3 : Int32)) hx hb dX5_read_115 (by decide) ?_
        refine lv_icmp_ne (tgt := 125) hx hb dX5_read_117 (by decide) (fun c13 => ?_) (fun c13 => ?_)
        · have hs := ite_f hs c13
          refine lv_bipush (v := (-2 : Int32)) hx hb dX5_read_125 (by decide) ?_
          have h9 := Option.some.inj hs
          rw [← h9]
          exact wr_i hF hr hlocks (vp_nar_int _) hW hS dX5_read_127
        · have hs := ite_t hs c13
          refine lv_bipush (v := (-3 : Int32)) hx hb dX5_read_120 (by decide) ?_
          refine lv_goto (tgt := 127) hx hb dX5_read_122 (by decide) ?_
          have h9 := Option.some.inj hs
          rw [← h9]
          exact wr_i hF hr hlocks (vp_nar_int _) hW hS dX5_read_127
    · have hs := ite_f hs c7
      refine lv_iload_n hx hb dX5_read_55 rfl (lv_at hl 2 rfl) ?_
      refine lv_if_lt (tgt := 89) hx hb dX5_read_56 (by decide) (fun c14 => ?_) (fun c14 => ?_)
      · have hs := ite_t hs c14
        refine lv_aload_n hx hb dX5_read_89 rfl (lv_at hl 0 rfl) ?_
        refine lv_iconst (v := (0 : Int32)) hx hb dX5_read_90 (by decide) ?_
        obtain ⟨μ15, eμ15, hs⟩ := bnd_e hs
        refine pf_5_10 (by decide) hOK hF hKK hW hS hA kx0 eμ15 dX5_read_91 (fun H locs hW hS => ?_)
        refine lv_aload_n hx hb dX5_read_94 rfl (lv_at hl 0 rfl) ?_
        refine lv_iconst (v := (0 : Int32)) hx hb dX5_read_95 (by decide) ?_
        obtain ⟨μ16, eμ16, hs⟩ := bnd_e hs
        refine pf_5_15 hOK hF hKK hW hS hA kx0 eμ16 dX5_read_96 (fun H locs hW hS => ?_)
        refine lv_iload_n hx hb dX5_read_99 rfl (lv_at hl 2 rfl) ?_
        refine lv_if_ge (tgt := 128) hx hb dX5_read_100 (by decide) (fun c17 => ?_) (fun c17 => ?_)
        · have hs := ite_t hs c17
          refine lv_aload_n hx hb dX5_read_128 rfl (lv_at hl 0 rfl) ?_
          refine lv_aload_n hx hb dX5_read_129 rfl (lv_at hl 0 rfl) ?_
          refine gf_5_2 hF hKK hW kx0 dX5_read_130 ?_
          obtain ⟨q18, hq18, hs⟩ := obind_e hs
          refine end_v (run_V (q := (RX5, TX5, 21)) (ci := 5) hF hKK hW hS hl.1 kx0 (by decide) rfl (c_X5_remember l hOK kx0 (lk_5_2 hOK kx0) hq18) (kw_X5_58 hF.2.2.2.2 ⟨Nat.le_of_ble_eq_true rfl, Nat.le_of_ble_eq_true rfl⟩) rfl rfl (Nat.le_of_ble_eq_true rfl) dX5_read_133 ⟨Nat.zero_le _, Nat.zero_le _⟩) hS (fun H locs hW hS => ?_)
          refine lv_iload_n hx hb dX5_read_136 rfl (lv_at hl 1 rfl) ?_
          have h9 := Option.some.inj hs
          rw [← h9]
          exact wr_i hF hr hlocks (vp_nar_int _) hW hS dX5_read_137
        · have hs := ite_f hs c17
          refine lv_aload_n hx hb dX5_read_103 rfl (lv_at hl 0 rfl) ?_
          refine gf_5_2 hF hKK hW kx0 dX5_read_104 ?_
          refine lv_aload_n hx hb dX5_read_107 rfl (lv_at hl 0 rfl) ?_
          refine gf_5_0 hF hKK hW kx0 dX5_read_108 ?_
          obtain ⟨q19, hq19, hs⟩ := obind_e hs
          refine end_v (run_S hF hKK hW hS hl.1 (c_X5_copyRow l hOK (lk_5_2 hOK kx0) (lk_5_0 hOK kx0) hq19) (kw_X5_54 hF.2.2.2.2 ⟨Nat.le_of_ble_eq_true rfl, Nat.le_of_ble_eq_true rfl⟩) rfl rfl (Nat.le_of_ble_eq_true rfl) dX5_read_111 ⟨Nat.zero_le _, Nat.zero_le _⟩) hS (fun H locs hW hS => ?_)
          refine lv_iload_n hx hb dX5_read_114 rfl (lv_at hl 2 rfl) ?_
          refine lv_bipush (v := (-3 : Int32)) hx hb dX5_read_115 (by decide) ?_
          refine lv_icmp_ne (tgt := 125) hx hb dX5_read_117 (by decide) (fun c20 => ?_) (fun c20 => ?_)
          · have hs := ite_f hs c20
            refine lv_bipush (v := (-2 : Int32)) hx hb dX5_read_125 (by decide) ?_
            have h9 := Option.some.inj hs
            rw [← h9]
            exact wr_i hF hr hlocks (vp_nar_int _) hW hS dX5_read_127
          · have hs := ite_t hs c20
            refine lv_bipush (v := (-3 : Int32)) hx hb dX5_read_120 (by decide) ?_
            refine lv_goto (tgt := 127) hx hb dX5_read_122 (by decide) ?_
            have h9 := Option.some.inj hs
            rw [← h9]
            exact wr_i hF hr hlocks (vp_nar_int _) hW hS dX5_read_127
      · have hs := ite_f hs c14
        refine lv_aload_n hx hb dX5_read_59 rfl (lv_at hl 0 rfl) ?_
        refine lv_iload_n hx hb dX5_read_60 rfl (lv_at hl 3 rfl) ?_
        obtain ⟨μ21, eμ21, hs⟩ := bnd_e hs
        refine pf_5_8 hOK hF hKK hW hS hA kx0 eμ21 dX5_read_61 (fun H locs hW hS => ?_)
        refine lv_aload_n hx hb dX5_read_64 rfl (lv_at hl 0 rfl) ?_
        obtain ⟨q22, hq22, hs⟩ := obind_e hs
        refine end_v (run_V (q := (RX5, TX5, 21)) (ci := 5) hF hKK hW hS hl.1 kx0 (by decide) rfl (c_X5_readCommand l hOK kx0 hq22) (kw_X5_227 hF.2.2.2.2 ⟨Nat.le_of_ble_eq_true rfl, Nat.le_of_ble_eq_true rfl⟩) rfl rfl (Nat.le_of_ble_eq_true rfl) dX5_read_65 ⟨Nat.zero_le _, Nat.zero_le _⟩) hS (fun H locs hW hS => ?_)
        refine lv_aload_n hx hb dX5_read_68 rfl (lv_at hl 0 rfl) ?_
        refine lv_dup hx hb dX5_read_69 rfl ?_
        refine gf_5_16 hF hKK hW kx0 dX5_read_70 ?_
        refine lv_iconst (v := (1 : Int32)) hx hb dX5_read_73 (by decide) ?_
        refine lv_iadd hx hb dX5_read_74 ?_
        obtain ⟨μ23, eμ23, hs⟩ := bnd_e hs
        refine pf_5_16 hOK hF hKK hW hS hA kx0 eμ23 dX5_read_75 (fun H locs hW hS => ?_)
        refine lv_aload_n hx hb dX5_read_78 rfl (lv_at hl 0 rfl) ?_
        obtain ⟨q24, hq24, hs⟩ := obind_e hs
        refine end_i (run_V (q := (RX5, TX5, 21)) (ci := 5) hF hKK hW hS hl.1 kx0 (by decide) rfl (c_X5_carryOut l hOK kx0 hq24) (kw_X5_251 hF.2.2.2.2 ⟨Nat.le_of_ble_eq_true rfl, Nat.le_of_ble_eq_true rfl⟩) rfl rfl (Nat.le_of_ble_eq_true rfl) dX5_read_79 ⟨Nat.zero_le _, Nat.zero_le _⟩) hS (fun H locs hW hS => ?_)
        obtain ⟨v25, ev25, hs⟩ := bnd_e hs
        refine top_i ev25 ?_
        refine lv_istore_n (lv' := [(2, .int v25), (0, .ref x0), (1, .int x1), (3, .int x3)]) hx hb dX5_read_82 rfl hl (by decide) rfl (fun ls hl => ?_)
        obtain ⟨v26, ev26, hs⟩ := bnd_e hs
        refine lv_iinc (v := v26) (lv' := [(3, .int v26), (2, .int v25), (0, .ref x0), (1, .int x1)]) hx hb dX5_read_83 hl (k := 3) rfl (by rw [ev26]; rfl) (by decide) rfl (fun ls hl => ?_)
        refine lv_goto (tgt := 50) hx hb dX5_read_86 (by decide) ?_
        exact ih50 q24.2 v25 v26 _ _ _ hs hW hS (lv_sub hl [2, 3, 1, 0] rfl)

set_option maxHeartbeats 4000000 in
set_option maxRecDepth 100000 in
theorem c_X5_read (l : Launch) {G : va_G} {Λ : Lay} {μ : Mem} (hOK : LayOK Λ) {a0 : Nat} (k0 : inK Λ a0 5) {r : (Int32 × Mem)} (hs : sX5_read Λ μ a0 = some r) : CM l G Λ yX5_read cX5_read 4 (some .int) 7 μ [.ref a0] (QI G Λ r.1 r.2) := by
  refine ofM (own := RX5) (by decide +kernel) rfl (Nat.le_of_ble_eq_true rfl) (fun p e s m args below meth c ls hF hKK hW hr hlocks hl => ?_)
  have hx := hF.1
  have hb := hF.2.1
  have hA : ∀ q, inL Λ q → inL Λ q := fun _ h => h
  have hS : va_S (inL Λ) s.heap s.heap [] := va_S.rf
  have hl : lv_has ls 4 [(0, .ref a0)] := hl
  unfold sX5_read at hs
  refine lv_aload_n hx hb dX5_read_0 rfl (lv_at hl 0 rfl) ?_
  obtain ⟨q1, hq1, hs⟩ := obind_e hs
  refine end_i (run_V (q := (RX5, TX5, 21)) (ci := 5) hF hKK hW hS hl.1 k0 (by decide) rfl (c_X5_countCommands l hOK k0 hq1) (kw_X5_248 hF.2.2.2.2 ⟨Nat.le_of_ble_eq_true rfl, Nat.le_of_ble_eq_true rfl⟩) rfl rfl (Nat.le_of_ble_eq_true rfl) dX5_read_1 ⟨Nat.zero_le _, Nat.zero_le _⟩) hS (fun H locs hW hS => ?_)
  obtain ⟨v2, ev2, hs⟩ := bnd_e hs
  refine top_i ev2 ?_
  refine lv_istore_n (lv' := [(1, .int v2), (0, .ref a0)]) hx hb dX5_read_4 rfl hl (by decide) rfl (fun ls hl => ?_)
  refine lv_aload_n hx hb dX5_read_5 rfl (lv_at hl 1 rfl) ?_
  refine gf_5_20 hF hKK hW k0 dX5_read_6 ?_
  refine lv_if_eq (tgt := 25) hx hb dX5_read_9 (by decide) (fun c3 => ?_) (fun c3 => ?_)
  · have hs := ite_t hs c3
    refine lv_aload_n hx hb dX5_read_25 rfl (lv_at hl 1 rfl) ?_
    refine gf_5_0 hF hKK hW k0 dX5_read_26 ?_
    refine lv_aload_n hx hb dX5_read_29 rfl (lv_at hl 1 rfl) ?_
    refine gf_5_2 hF hKK hW k0 dX5_read_30 ?_
    obtain ⟨q4, hq4, hs⟩ := obind_e hs
    refine end_v (run_S hF hKK hW hS hl.1 (c_X5_copyRow l hOK (lk_5_0 hOK k0) (lk_5_2 hOK k0) hq4) (kw_X5_54 hF.2.2.2.2 ⟨Nat.le_of_ble_eq_true rfl, Nat.le_of_ble_eq_true rfl⟩) rfl rfl (Nat.le_of_ble_eq_true rfl) dX5_read_33 ⟨Nat.zero_le _, Nat.zero_le _⟩) hS (fun H locs hW hS => ?_)
    refine lv_aload_n hx hb dX5_read_36 rfl (lv_at hl 1 rfl) ?_
    refine lv_iconst (v := (1 : Int32)) hx hb dX5_read_37 (by decide) ?_
    obtain ⟨μ5, eμ5, hs⟩ := bnd_e hs
    refine pf_5_10 (by decide) hOK hF hKK hW hS hA k0 eμ5 dX5_read_38 (fun H locs hW hS => ?_)
    refine lv_iconst (v := (0 : Int32)) hx hb dX5_read_41 (by decide) ?_
    refine lv_istore_n (lv' := [(2, .int (0 : Int32)), (1, .int v2), (0, .ref a0)]) hx hb dX5_read_42 rfl hl (by decide) rfl (fun ls hl => ?_)
    refine lv_aload_n hx hb dX5_read_43 rfl (lv_at hl 2 rfl) ?_
    refine lv_iconst (v := (0 : Int32)) hx hb dX5_read_44 (by decide) ?_
    obtain ⟨μ6, eμ6, hs⟩ := bnd_e hs
    refine pf_5_16 hOK hF hKK hW hS hA k0 eμ6 dX5_read_45 (fun H locs hW hS => ?_)
    refine lv_iconst (v := (0 : Int32)) hx hb dX5_read_48 (by decide) ?_
    refine lv_istore_n (lv' := [(3, .int (0 : Int32)), (2, .int (0 : Int32)), (1, .int v2), (0, .ref a0)]) hx hb dX5_read_49 rfl hl (by decide) rfl (fun ls hl => ?_)
    exact cl_X5_read_50 hOK hF hKK hr hlocks k0 fuel μ6 (0 : Int32) (0 : Int32) _ _ _ hs hW hS (lv_sub hl [3, 2, 1, 0] rfl)
  · have hs := ite_f hs c3
    refine lv_aload_n hx hb dX5_read_12 rfl (lv_at hl 1 rfl) ?_
    refine lv_iconst (v := (0 : Int32)) hx hb dX5_read_13 (by decide) ?_
    obtain ⟨μ27, eμ27, hs⟩ := bnd_e hs
    refine pf_5_15 hOK hF hKK hW hS hA k0 eμ27 dX5_read_14 (fun H locs hW hS => ?_)
    refine lv_bipush (v := (-100 : Int32)) hx hb dX5_read_17 (by decide) ?_
    refine lv_aload_n hx hb dX5_read_19 rfl (lv_at hl 1 rfl) ?_
    refine gf_5_16 hF hKK hW k0 dX5_read_20 ?_
    refine lv_isub hx hb dX5_read_23 ?_
    have h9 := Option.some.inj hs
    rw [← h9]
    exact wr_i hF hr hlocks (vp_nar_int _) hW hS dX5_read_24
