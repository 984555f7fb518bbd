/-! WHAT IS MADE: a river, its constructor. -/
def RivL (lc : Nat → ClassId) (h0 k : Nat) (pr : Nat → Nat × va_E) : Prop :=
  pr 0 = (h0, .inr (1, [.ref (pr 1).1, .ref (pr 3).1, .ref (pr 5).1, .ref (pr 6).1, .int 0, .int 0, .int 0])) ∧ RowS lc pr 1 12 ∧ RowS lc pr 3 12 ∧ (pr 5).2 = arrQ (lc 2) 12 (fun j => if j < k then some (pr (8 + 2 * j)).1 else none) ∧ RowS lc pr 6 0 ∧ ∀ j, j < k → RowS lc pr (8 + 2 * j) 23
theorem row_cg {lc : Nat → ClassId} {pr pr' : Nat → Nat × va_E} {b N : Nat} (h0 : pr' b = pr b) (h1 : pr' (b + 1) = pr (b + 1)) (h : RowS lc pr b N) : RowS lc pr' b N := by
  unfold RowS at h ⊢
  rw [h0, h1]
  exact h
theorem rivL_s {lc : Nat → ClassId} {h0 k : Nat} {pr pr1 : Nat → Nat × va_E} (h : RivL lc h0 k pr) (hr : RowS lc pr1 0 23) : RivL lc h0 (k + 1) (rmU (mrg (8 + 2 * k) pr pr1) 5 ((pr 5).1, arrQ (lc 2) 12 (va_up (fun j => if j < k then some (pr (8 + 2 * j)).1 else none) k (some (pr1 0).1)))) := by
  obtain ⟨q1, q2, q3, q4, q5, q6⟩ := h
  generalize hP : rmU (mrg (8 + 2 * k) pr pr1) 5 ((pr 5).1, arrQ (lc 2) 12 (va_up (fun j => if j < k then some (pr (8 + 2 * j)).1 else none) k (some (pr1 0).1))) = P
  have lo : ∀ j, j < 8 + 2 * k → j ≠ 5 → P j = pr j := fun j h1 h2 => by rw [← hP, rmU_ne h2, mrg_lo h1]
  have l5 : (P 5).1 = (pr 5).1 := by rw [← hP, rmU_eq]
  have hi : ∀ j, P (8 + 2 * k + j) = pr1 j := fun j => by rw [← hP, rmU_ne (by omega), mrg_hi]
  refine ⟨?_, row_cg (lo 1 (by omega) (by omega)) (lo 2 (by omega) (by omega)) q2, row_cg (lo 3 (by omega) (by omega)) (lo 4 (by omega) (by omega)) q3, ?_, row_cg (lo 6 (by omega) (by omega)) (lo 7 (by omega) (by omega)) q5, fun j hj => ?_⟩
  · rw [lo 0 (by omega) (by omega), q1, lo 1 (by omega) (by omega), lo 3 (by omega) (by omega), l5, lo 6 (by omega) (by omega)]
  · rw [← hP, rmU_eq, hP]
    show arrQ _ _ _ = arrQ _ _ _
    congr 1
    funext j
    unfold va_up
    by_cases c : j = k
    · subst c
      rw [if_pos rfl, if_pos (by omega)]
      have := hi 0
      rw [Nat.add_zero] at this
      rw [this]
    · rw [if_neg c]
      show (if j < k then some (pr (8 + 2 * j)).1 else none) = _
      by_cases c2 : j < k
      · rw [if_pos c2, if_pos (by omega), lo (8 + 2 * j) (by omega) (by omega)]
      · rw [if_neg c2, if_neg (by omega)]
  · by_cases c : j < k
    · exact row_cg (lo _ (by omega) (by omega)) (lo _ (by omega) (by omega)) (q6 j c)
    · have : j = k := by omega
      subst this
      have h0 := hi 0
      have h1 := hi 1
      rw [Nat.add_zero] at h0
      unfold RowS at hr ⊢
      rw [h0, h1]
      exact hr
set_option maxHeartbeats 4000000 in
set_option maxRecDepth 100000 in
theorem cn_river (l : Launch) (G : va_G) (lc : Nat → ClassId) : CN l G lc yX1_init cX1_init 2 2 31 342 (.inr (1, [.null, .null, .null, .null, .int 0, .int 0, .int 0])) [] (fun pr => RivS lc pr 0) [(lc 0, .int), (lc 2, .object RX2)] 32 := by
  refine ofN (own := RX1) (by decide +kernel) rfl rfl (Nat.le_of_ble_eq_true rfl) (fun h0 p e s m args below meth c ls A hF hin hr hlocks hC hK hP hD hS hA hl => ?_)
  have hx := hF.1
  have hb := hF.2.1
  have hts := hF.2.2.2.2
  have hl : lv_has ls 2 [(0, .ref h0)] := hl
  refine lv_aload_n hx hb dX1_init_0 rfl (lv_at hl 0 rfl) ?_
  refine st_obj hF hl.1 wn_42 ⟨Nat.le_of_ble_eq_true rfl, Nat.le_of_ble_eq_true rfl⟩ (Nat.le_of_ble_eq_true rfl) dX1_init_1 ?_
  refine lv_aload_n hx hb dX1_init_4 rfl (lv_at hl 0 rfl) ?_
  refine st_newput (pc2 := 11) (C := RX2) (T := TX2) (Nf := 2) (k := 0) (S := fun pr b => RowS lc pr b 12) (tyk := .object RX2) (cn_row l G lc (N := 12) (by omega)) (row_mov lc 12) (by omega) hF hin hC hK hP hD hS hA hl.1 rfl twX2 tyX2 tyX2_ok (fun j hj => by rcases (show j = 0 ∨ j = 1 by omega) with rfl | rfl <;> rfl) wn_43 wn_44 wn_19 wn_45 wn_46 wn_47 rfl rfl (by decide +kernel) rfl ⟨Nat.le_of_ble_eq_true rfl, Nat.le_of_ble_eq_true rfl⟩ (Nat.le_of_ble_eq_true rfl) (Nat.le_of_ble_eq_true rfl) (Nat.le_of_ble_eq_true rfl) (C2 := RX1) (T2 := TX1) (N := 7) rfl twX1 tyX1 tyX1_ok nmX1 (by omega) rfl (by decide) wn_58 rfl rfl (by decide +kernel) (fun _ => rfl) (fun _ => rfl) (Nat.le_of_ble_eq_true rfl) dX1_init_5 dX1_init_8 (fun H locs k z st w => lv_bipush (v := nI 12) hx hb dX1_init_9 (by decide) w) dX1_init_11 dX1_init_14 (fun pr1 H locs e1 s1 k1 hKi hP hD hS => ?_)
  refine lv_aload_n hx hb dX1_init_17 rfl (lv_at hl 0 rfl) ?_
  refine st_newput (pc2 := 24) (C := RX2) (T := TX2) (Nf := 2) (k := 1) (S := fun pr b => RowS lc pr b 12) (tyk := .object RX2) (cn_row l G lc (N := 12) (by omega)) (row_mov lc 12) (by omega) hF hin hC hK hP hD hS hA hl.1 rfl twX2 tyX2 tyX2_ok (fun j hj => by rcases (show j = 0 ∨ j = 1 by omega) with rfl | rfl <;> rfl) wn_43 wn_44 wn_19 wn_45 wn_46 wn_47 rfl rfl (by decide +kernel) rfl ⟨Nat.le_of_ble_eq_true rfl, Nat.le_of_ble_eq_true rfl⟩ (Nat.le_of_ble_eq_true rfl) (Nat.le_of_ble_eq_true rfl) (Nat.le_of_ble_eq_true rfl) (C2 := RX1) (T2 := TX1) (N := 7) rfl twX1 tyX1 tyX1_ok nmX1 (by omega) e1 (by decide) wn_59 rfl rfl (by decide +kernel) (fun _ => rfl) (fun _ => rfl) (Nat.le_of_ble_eq_true rfl) dX1_init_18 dX1_init_21 (fun H locs k z st w => lv_bipush (v := nI 12) hx hb dX1_init_22 (by decide) w) dX1_init_24 dX1_init_27 (fun pr2 H locs e2 s2 k2 hKi hP hD hS => ?_)
  refine lv_aload_n hx hb dX1_init_30 rfl (lv_at hl 0 rfl) ?_
  refine lv_bipush (v := nI 12) hx hb dX1_init_31 (by decide) ?_
  refine va_newq (C := RX2) (N' := 12) hx hb hF.2.2.2.1 (hts _ wn_43) hC.1.1 hK hP hD hS hA (by decide) (by decide) (Nat.le_of_ble_eq_true rfl) (Nat.le_of_ble_eq_true rfl) (Nat.le_of_ble_eq_true rfl) dX1_init_33 (fun q cA H hKq hP hD hS => ?_)
  have ec : cA = lc 2 := hC.2.2.2.1 cA (hKq.2 0 _ rfl).2
  subst ec
  rw [rm_push] at hP hD
  refine st_put (ci := 1) (C := RX1) (T := TX1) (N := 7) (k := 2) (ty := .array (.object RX2)) hF hin rfl twX1 tyX1 tyX1_ok nmX1 hK hP hD hS (by omega) ((rmU_ne (by omega)).trans e2) (by decide) wn_60 rfl rfl (by decide +kernel) rfl rfl (Nat.le_of_ble_eq_true rfl) dX1_init_36 (fun H locs hP hD hS => ?_)
  refine lv_aload_n hx hb dX1_init_39 rfl (lv_at hl 0 rfl) ?_
  refine st_newput (pc2 := 45) (C := RX2) (T := TX2) (Nf := 2) (k := 3) (S := fun pr b => RowS lc pr b 0) (tyk := .object RX2) (cn_row l G lc (N := 0) (by omega)) (row_mov lc 0) (by omega) hF hin hC hK hP hD hS hA hl.1 rfl twX2 tyX2 tyX2_ok (fun j hj => by rcases (show j = 0 ∨ j = 1 by omega) with rfl | rfl <;> rfl) wn_43 wn_44 wn_19 wn_45 wn_46 wn_47 rfl rfl (by decide +kernel) rfl ⟨Nat.le_of_ble_eq_true rfl, Nat.le_of_ble_eq_true rfl⟩ (Nat.le_of_ble_eq_true rfl) (Nat.le_of_ble_eq_true rfl) (Nat.le_of_ble_eq_true rfl) (C2 := RX1) (T2 := TX1) (N := 7) rfl twX1 tyX1 tyX1_ok nmX1 (by omega) rmU_eq (by decide) wn_61 rfl rfl (by decide +kernel) (fun _ => rfl) (fun _ => rfl) (Nat.le_of_ble_eq_true rfl) dX1_init_40 dX1_init_43 (fun H locs k z st w => lv_iconst (v := nI 0) hx hb dX1_init_44 (by decide) w) dX1_init_45 dX1_init_48 (fun pr3 H locs e3 s3 k3 hKi hP hD hS => ?_)
  have f1 : pr3 1 = pr1 1 := (k3 1 (by omega) (by omega)).trans ((rmU_ne (by omega)).trans ((rmU_ne (by omega)).trans (k2 1 (by omega) (by omega))))
  have f2 : pr3 2 = pr1 2 := (k3 2 (by omega) (by omega)).trans ((rmU_ne (by omega)).trans ((rmU_ne (by omega)).trans (k2 2 (by omega) (by omega))))
  have f3 : pr3 3 = pr2 3 := (k3 3 (by omega) (by omega)).trans ((rmU_ne (by omega)).trans (rmU_ne (by omega)))
  have f4 : pr3 4 = pr2 4 := (k3 4 (by omega) (by omega)).trans ((rmU_ne (by omega)).trans (rmU_ne (by omega)))
  have f5 : pr3 5 = (q, arrQ (lc 2) 12 (fun _ => none)) := (k3 5 (by omega) (by omega)).trans ((rmU_ne (by omega)).trans rmU_eq)
  have hL : RivL lc h0 0 pr3 := by
    refine ⟨?_, row_cg f1 f2 s1, row_cg f3 f4 s2, ?_, s3, fun j hj => by omega⟩
    · rw [e3, f1, f3, f5, ← k2 1 (by omega) (by omega)]
      rw [k2 1 (by omega) (by omega)]
      rfl
    · rw [f5]
      have : (fun j => if j < 0 then some (pr3 (8 + 2 * j)).1 else none) = (fun _ => none) := by
        funext j
        rw [if_neg (by omega)]
      rw [this]
  refine lv_iconst (v := nI 0) hx hb dX1_init_51 (by decide) ?_
  refine lv_istore_n (lv' := [(1, .int (nI 0)), (0, .ref h0)]) hx hb dX1_init_52 rfl hl (by decide) rfl (fun ls hl => ?_)
  have loop : ∀ d k, k + d = 12 → ∀ (pr : Nat → Nat × va_E) (H : Heap) (locs : List Loc) (ls : Array Slot), RivL lc h0 k pr → va_P G vwCl (rm (8 + 2 * k) pr) H → va_D A (rm (8 + 2 * k) pr) → va_S A s.heap H locs → lv_has ls 2 [(1, .int (nI k)), (0, .ref h0)] → W p l e (nrm 2 31 342) s m args below meth c H locs (7 + 2 * k) (42 + 25 * k) (MQ below (va_Qv (fun pr => RivS lc pr 0 ∧ (pr 0).1 = h0) (NQ G [(lc 0, .int), (lc 2, .object RX2)] A 32) A) args s 31 342 A) (F0 m 53 ls []) := by
    intro d
    induction d with
    | zero =>
      intro k hk pr H locs ls hL hP hD hS hl
      have hk12 : k = 12 := by omega
      subst hk12
      obtain ⟨q1, q2, q3, q4, q5, q6⟩ := hL
      refine lv_iload_n hx hb dX1_init_53 rfl (lv_at hl 0 rfl) ?_
      refine lv_aload_n hx hb dX1_init_54 rfl (lv_at hl 1 rfl) ?_
      refine va_get (ci := 1) (v := .ref (pr 5).1) (C := RX1) (T := TX1) (N := 7) hx hb hts twX1 hF.2.2.2.1 hK hP 0 ((rm_get (by omega)).trans (congrArg some q1)) rfl 2 (by decide) (hts _ wn_60) (fun _ h => h) rfl dX1_init_55 ?_
      refine va_alen hx hb hKq hP 5 0 ((rm_get (by omega)).trans (congrArg some (Prod.ext rfl q4))) rfl rfl dX1_init_58 ?_
      refine lv_icmp_ge (tgt := 83) hx hb dX1_init_59 (by decide) (fun _ => ?_) (fun z => absurd (Int32.le_refl _) z)
      refine wr_n hF hr hlocks ⟨⟨by rw [q1], q2, q3, q4, q5, fun j hj => ?_⟩, by rw [q1]⟩ (hKi.app hKq) hP hD hS dX1_init_83
      rw [Nat.zero_add]
      exact q6 j hj
    | succ d ih =>
      intro k hk pr H locs ls hL hP hD hS hl
      have hL' := hL
      obtain ⟨q1, q2, q3, q4, q5, q6⟩ := hL'
      refine lv_iload_n hx hb dX1_init_53 rfl (lv_at hl 0 rfl) ?_
      refine lv_aload_n hx hb dX1_init_54 rfl (lv_at hl 1 rfl) ?_
      refine va_get (ci := 1) (v := .ref (pr 5).1) (C := RX1) (T := TX1) (N := 7) hx hb hts twX1 hF.2.2.2.1 hK hP 0 ((rm_get (by omega)).trans (congrArg some q1)) rfl 2 (by decide) (hts _ wn_60) (fun _ h => h) rfl dX1_init_55 ?_
      refine va_alen hx hb hKq hP 5 0 ((rm_get (by omega)).trans (congrArg some (Prod.ext rfl q4))) rfl rfl dX1_init_58 ?_
      refine lv_icmp_ge (tgt := 83) hx hb dX1_init_59 (by decide) (fun z => absurd z (by show ¬ nI 12 ≤ nI k; rw [nI_leI (by omega) (by omega)]; omega)) (fun _ => ?_)
      refine lv_aload_n hx hb dX1_init_62 rfl (lv_at hl 1 rfl) ?_
      refine va_get (ci := 1) (v := .ref (pr 5).1) (C := RX1) (T := TX1) (N := 7) hx hb hts twX1 hF.2.2.2.1 hK hP 0 ((rm_get (by omega)).trans (congrArg some q1)) rfl 2 (by decide) (hts _ wn_60) (fun _ h => h) rfl dX1_init_63 ?_
      refine lv_iload_n hx hb dX1_init_66 rfl (lv_at hl 0 rfl) ?_
      refine st_new (pc2 := 73) (C := RX2) (T := TX2) (Nf := 2) (cn_row l G lc (N := 23) (by omega)) hF hC hK hP hD hS hA hl.1 rfl twX2 tyX2 tyX2_ok (fun j hj => by rcases (show j = 0 ∨ j = 1 by omega) with rfl | rfl <;> rfl) wn_43 wn_44 wn_19 wn_45 wn_46 wn_47 rfl rfl (by decide +kernel) rfl ⟨Nat.le_of_ble_eq_true rfl, Nat.le_of_ble_eq_true rfl⟩ (by show 7 + 2 * k + (1 + 1) ≤ 31; omega) (by show 42 + 25 * k + (2 + 23) ≤ 342; omega) (Nat.le_of_ble_eq_true rfl) dX1_init_67 dX1_init_70 (fun H locs k z st w => lv_bipush (v := nI 23) hx hb dX1_init_71 (by decide) w) dX1_init_73 (fun pr1 H locs hp _ hP hD hS => ?_)
      have g5 : mrg (8 + 2 * k) pr pr1 5 = pr 5 := mrg_lo (by omega)
      have g8 : mrg (8 + 2 * k) pr pr1 (8 + 2 * k) = pr1 0 := mrg_hi (j := 0)
      refine va_astq (r := (RX2, TX2, 2)) (ci := 2) hx hb hKq hP hD hS 5 0 (8 + 2 * k) ((rm_get (by omega)).trans (congrArg some (g5.trans (Prod.ext rfl q4)))) rfl ((rm_get (by omega)).trans (congrArg some (g8.trans (Prod.ext rfl hp.1)))) rfl (show inb (nI k) 12 from nI_in (by omega) (by omega)) dX1_init_76 (fun H locs hP hD hS => ?_)
      rw [rm_set (by omega), nI_clamp (by omega)] at hP hD
      refine lv_iinc (v := nI (k + 1)) (lv' := [(1, .int (nI (k + 1))), (0, .ref h0)]) hx hb dX1_init_77 hl (k := 0) rfl (nI_1 k) (by decide) rfl (fun ls hl => ?_)
      refine lv_goto (tgt := 53) hx hb dX1_init_80 (by decide) ?_
      refine W.widen (k := 7 + 2 * (k + 1)) (n := 42 + 25 * (k + 1)) (by omega) (by omega) ?_
      exact ih (k + 1) (by omega) _ _ _ _ (rivL_s hL hp) (by rw [show 8 + 2 * (k + 1) = 8 + 2 * k + 2 by omega]; exact hP) (by rw [show 8 + 2 * (k + 1) = 8 + 2 * k + 2 by omega]; exact hD) hS hl
  refine W.widen (k := 7) (n := 42) (by omega) (by omega) ?_
  exact loop 12 0 rfl pr3 _ _ _ hL hP hD hS hl
