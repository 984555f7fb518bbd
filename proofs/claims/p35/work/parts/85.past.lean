/-! WHAT IS MADE: a past, a script. -/
def PastS (lc : Nat → ClassId) (pr : Nat → Nat × va_E) (b : Nat) : Prop :=
  (pr b).2 = .inr (0, [.ref (pr (b + 1)).1, .int 0, .int 0]) ∧ (pr (b + 1)).2 = arrQ (lc 3) 9 (fun j => if j < 9 then some (pr (b + 2 + 32 * j)).1 else none) ∧ ∀ j, j < 9 → RivS lc pr (b + 2 + 32 * j)
theorem past_mov (lc : Nat → ClassId) : Mov (fun pr b => PastS lc pr b) 290 := by
  intro pr pr' b b' h q
  obtain ⟨q1, q4, q6⟩ := q
  have g : ∀ j, j < 290 → pr' (b' + j) = pr (b + j) := fun j hj => (h j hj).symm
  have g0 : pr' b' = pr b := g 0 (by omega)
  refine ⟨by rw [g0, g 1 (by omega)]; exact q1, ?_, fun j hj => ?_⟩
  · rw [g 1 (by omega), q4]
    have : (fun j => if j < 9 then some (pr (b + 2 + 32 * j)).1 else none) = (fun j => if j < 9 then some (pr' (b' + 2 + 32 * j)).1 else none) := by
      funext j
      by_cases c : j < 9
      · rw [if_pos c, if_pos c, Nat.add_assoc, Nat.add_assoc, g (2 + 32 * j) (by omega)]
      · rw [if_neg c, if_neg c]
    rw [this]
  · exact riv_mov lc pr pr' _ _ (fun i hi => by rw [Nat.add_assoc, Nat.add_assoc, Nat.add_assoc, Nat.add_assoc]; exact h _ (by omega)) (q6 j hj)
def PastL (lc : Nat → ClassId) (h0 k : Nat) (pr : Nat → Nat × va_E) : Prop :=
  pr 0 = (h0, .inr (0, [.ref (pr 1).1, .int 0, .int 0])) ∧ (pr 1).2 = arrQ (lc 3) 9 (fun j => if j < k then some (pr (2 + 32 * j)).1 else none) ∧ ∀ j, j < k → RivS lc pr (2 + 32 * j)
theorem pastL_s {lc : Nat → ClassId} {h0 k : Nat} {pr pr1 : Nat → Nat × va_E} (h : PastL lc h0 k pr) (hr : RivS lc pr1 0) : PastL lc h0 (k + 1) (rmU (mrg (2 + 32 * k) pr pr1) 1 ((pr 1).1, arrQ (lc 3) 9 (va_up (fun j => if j < k then some (pr (2 + 32 * j)).1 else none) k (some (pr1 0).1)))) := by
  obtain ⟨q1, q4, q6⟩ := h
  generalize hP : rmU (mrg (2 + 32 * k) pr pr1) 1 ((pr 1).1, arrQ (lc 3) 9 (va_up (fun j => if j < k then some (pr (2 + 32 * j)).1 else none) k (some (pr1 0).1))) = P
  have lo : ∀ j, j < 2 + 32 * k → j ≠ 1 → P j = pr j := fun j h1 h2 => by rw [← hP, rmU_ne h2, mrg_lo h1]
  have l5 : (P 1).1 = (pr 1).1 := by rw [← hP, rmU_eq]
  have hi : ∀ j, P (2 + 32 * k + j) = pr1 j := fun j => by rw [← hP, rmU_ne (by omega), mrg_hi]
  refine ⟨?_, ?_, fun j hj => ?_⟩
  · rw [lo 0 (by omega) (by omega), q1, l5]
  · rw [← hP, rmU_eq, hP]
    show arrQ _ _ _ = arrQ _ _ _
    congr 1
    funext j
    unfold va_up
    by_cases c : j = k
    · subst c
      rw [if_pos rfl, if_pos (by omega)]
      have := hi 0
      rw [Nat.add_zero] at this
      rw [this]
    · rw [if_neg c]
      show (if j < k then some (pr (2 + 32 * j)).1 else none) = _
      by_cases c2 : j < k
      · rw [if_pos c2, if_pos (by omega), lo (2 + 32 * j) (by omega) (by omega)]
      · rw [if_neg c2, if_neg (by omega)]
  · by_cases c : j < k
    · exact riv_mov lc pr P _ _ (fun i hi => (lo _ (by omega) (by omega)).symm) (q6 j c)
    · have : j = k := by omega
      subst this
      exact riv_mov lc pr1 P 0 _ (fun i _ => by rw [Nat.zero_add, hi]) hr
set_option maxHeartbeats 4000000 in
set_option maxRecDepth 100000 in
theorem cn_past (l : Launch) (G : va_G) (lc : Nat → ClassId) : CN l G lc yX0_init cX0_init 2 3 289 3150 (.inr (0, [.null, .int 0, .int 0])) [] (fun pr => PastS lc pr 0) [(lc 3, .object RX1)] 290 := by
  refine ofN (own := RX0) (by decide +kernel) rfl rfl (Nat.le_of_ble_eq_true rfl) (fun h0 p e s m args below meth c ls A hF hin hr hlocks hC hK hP hD hS hA hl => ?_)
  have hx := hF.1
  have hb := hF.2.1
  have hts := hF.2.2.2.2
  have hl : lv_has ls 2 [(0, .ref h0)] := hl
  refine lv_aload_n hx hb dX0_init_0 rfl (lv_at hl 0 rfl) ?_
  refine st_obj hF hl.1 wn_85 ⟨Nat.le_of_ble_eq_true rfl, Nat.le_of_ble_eq_true rfl⟩ (Nat.le_of_ble_eq_true rfl) dX0_init_1 ?_
  refine lv_aload_n hx hb dX0_init_4 rfl (lv_at hl 0 rfl) ?_
  refine lv_bipush (v := nI 9) hx hb dX0_init_5 (by decide) ?_
  refine va_newq (C := RX1) (N' := 9) hx hb hF.2.2.2.1 (hts _ wn_86) hC.1.2.1 hK hP hD hS hA (by decide) (by decide) (Nat.le_of_ble_eq_true rfl) (Nat.le_of_ble_eq_true rfl) (Nat.le_of_ble_eq_true rfl) dX0_init_7 (fun q cA H hKq hP hD hS => ?_)
  have ec : cA = lc 3 := hC.2.2.2.2.1 cA (hKq.2 0 _ rfl).2
  subst ec
  rw [rm_push] at hP hD
  refine st_put (ci := 0) (C := RX0) (T := TX0) (N := 3) (k := 0) (ty := .array (.object RX1)) hF hin rfl twX0 tyX0 tyX0_ok nmX0 hK hP hD hS (by omega) rfl (by decide) wn_89 rfl rfl (by decide +kernel) rfl rfl (Nat.le_of_ble_eq_true rfl) dX0_init_10 (fun H locs hP hD hS => ?_)
  refine lv_iconst (v := nI 0) hx hb dX0_init_13 (by decide) ?_
  refine lv_istore_n (lv' := [(1, .int (nI 0)), (0, .ref h0)]) hx hb dX0_init_14 rfl hl (by decide) rfl (fun ls hl => ?_)
  have loop : ∀ d k, k + d = 9 → ∀ (pr : Nat → Nat × va_E) (H : Heap) (locs : List Loc) (ls : Array Slot), PastL lc h0 k pr → va_P G vwCl (rm (2 + 32 * k) pr) H → va_D A (rm (2 + 32 * k) pr) → va_S A s.heap H locs → lv_has ls 2 [(1, .int (nI k)), (0, .ref h0)] → W p l e (nrm 3 289 3150) s m args below meth c H locs (1 + 32 * k) (9 + 349 * k) (MQ below (va_Qv (fun pr => PastS lc pr 0 ∧ (pr 0).1 = h0) (NQ G [(lc 3, .object RX1)] A 290) A) args s 289 3150 A) (F0 m 15 ls []) := by
    intro d
    induction d with
    | zero =>
      intro k hk pr H locs ls hL hP hD hS hl
      have hk12 : k = 9 := by omega
      subst hk12
      obtain ⟨q1, q4, q6⟩ := hL
      refine lv_iload_n hx hb dX0_init_15 rfl (lv_at hl 0 rfl) ?_
      refine lv_aload_n hx hb dX0_init_16 rfl (lv_at hl 1 rfl) ?_
      refine va_get (ci := 0) (v := .ref (pr 1).1) (C := RX0) (T := TX0) (N := 3) hx hb hts twX0 hF.2.2.2.1 hK hP 0 ((rm_get (by omega)).trans (congrArg some q1)) rfl 0 (by decide) (hts _ wn_89) (fun _ h => h) rfl dX0_init_17 ?_
      refine va_alen hx hb hKq hP 1 0 ((rm_get (by omega)).trans (congrArg some (Prod.ext rfl q4))) rfl rfl dX0_init_20 ?_
      refine lv_icmp_ge (tgt := 43) hx hb dX0_init_21 (by decide) (fun _ => ?_) (fun z => absurd (Int32.le_refl _) z)
      refine wr_n hF hr hlocks ⟨⟨by rw [q1], by rw [Nat.zero_add]; simp only [Nat.zero_add]; exact q4, fun j hj => ?_⟩, by rw [q1]⟩ hKq hP hD hS dX0_init_43
      rw [Nat.zero_add]
      exact q6 j hj
    | succ d ih =>
      intro k hk pr H locs ls hL hP hD hS hl
      have hL' := hL
      obtain ⟨q1, q4, q6⟩ := hL'
      refine lv_iload_n hx hb dX0_init_15 rfl (lv_at hl 0 rfl) ?_
      refine lv_aload_n hx hb dX0_init_16 rfl (lv_at hl 1 rfl) ?_
      refine va_get (ci := 0) (v := .ref (pr 1).1) (C := RX0) (T := TX0) (N := 3) hx hb hts twX0 hF.2.2.2.1 hK hP 0 ((rm_get (by omega)).trans (congrArg some q1)) rfl 0 (by decide) (hts _ wn_89) (fun _ h => h) rfl dX0_init_17 ?_
      refine va_alen hx hb hKq hP 1 0 ((rm_get (by omega)).trans (congrArg some (Prod.ext rfl q4))) rfl rfl dX0_init_20 ?_
      refine lv_icmp_ge (tgt := 43) hx hb dX0_init_21 (by decide) (fun z => absurd z (by show ¬ nI 9 ≤ nI k; rw [nI_leI (by omega) (by omega)]; omega)) (fun _ => ?_)
      refine lv_aload_n hx hb dX0_init_24 rfl (lv_at hl 1 rfl) ?_
      refine va_get (ci := 0) (v := .ref (pr 1).1) (C := RX0) (T := TX0) (N := 3) hx hb hts twX0 hF.2.2.2.1 hK hP 0 ((rm_get (by omega)).trans (congrArg some q1)) rfl 0 (by decide) (hts _ wn_89) (fun _ h => h) rfl dX0_init_25 ?_
      refine lv_iload_n hx hb dX0_init_28 rfl (lv_at hl 0 rfl) ?_
      refine st_new (pc2 := 33) (C := RX1) (T := TX1) (Nf := 7) (cn_river l G lc) hF hC hK hP hD hS hA hl.1 rfl twX1 tyX1 tyX1_ok (fun j hj => by rcases (show j = 0 ∨ j = 1 ∨ j = 2 ∨ j = 3 ∨ j = 4 ∨ j = 5 ∨ j = 6 by omega) with rfl | rfl | rfl | rfl | rfl | rfl | rfl <;> rfl) wn_86 wn_38 wn_18 wn_88 wn_40 wn_41 rfl rfl (by decide +kernel) rfl ⟨Nat.le_of_ble_eq_true rfl, Nat.le_of_ble_eq_true rfl⟩ (by show 1 + 32 * k + (1 + 31) ≤ 289; omega) (by show 9 + 349 * k + (7 + 342) ≤ 3150; omega) (Nat.le_of_ble_eq_true rfl) dX0_init_29 dX0_init_32 (fun H locs k z st w => w) dX0_init_33 (fun pr1 H locs hp _ hP hD hS => ?_)
      have g5 : mrg (2 + 32 * k) pr pr1 1 = pr 1 := mrg_lo (by omega)
      have g8 : mrg (2 + 32 * k) pr pr1 (2 + 32 * k) = pr1 0 := mrg_hi (j := 0)
      refine va_astq (r := (RX1, TX1, 7)) (ci := 1) hx hb hKq hP hD hS 1 0 (2 + 32 * k) ((rm_get (by omega)).trans (congrArg some (g5.trans (Prod.ext rfl q4)))) rfl ((rm_get (by omega)).trans (congrArg some (g8.trans (Prod.ext rfl hp.1)))) rfl (show inb (nI k) 9 from nI_in (by omega) (by omega)) dX0_init_36 (fun H locs hP hD hS => ?_)
      rw [rm_set (by omega), nI_clamp (by omega)] at hP hD
      refine lv_iinc (v := nI (k + 1)) (lv' := [(1, .int (nI (k + 1))), (0, .ref h0)]) hx hb dX0_init_37 hl (k := 0) rfl (nI_1 k) (by decide) rfl (fun ls hl => ?_)
      refine lv_goto (tgt := 15) hx hb dX0_init_40 (by decide) ?_
      refine W.widen (k := 1 + 32 * (k + 1)) (n := 9 + 349 * (k + 1)) (by omega) (by omega) ?_
      exact ih (k + 1) (by omega) _ _ _ _ (pastL_s hL hp) (by rw [show 2 + 32 * (k + 1) = 2 + 32 * k + 32 by omega]; exact hP) (by rw [show 2 + 32 * (k + 1) = 2 + 32 * k + 32 by omega]; exact hD) hS hl
  refine W.widen (k := 1) (n := 9) (by omega) (by omega) ?_
  refine loop 9 0 rfl _ _ _ _ ⟨rmU_eq, ?_, fun j hj => by omega⟩ hP hD hS hl
  have : (fun j => if j < 0 then some (rmU (rmU (fun _ => (h0, .inr (0, [.null, .int 0, .int 0]))) 1 (q, .inl (lc 3, 9, .inr (.inr (.inr (.inr (fun _ => none))))))) 0 (h0, .inr (0, [Value.null, .int 0, .int 0].set 0 (.ref q))) (2 + 32 * j)).1 else none) = (fun _ => (none : Option Nat)) := by
    funext j
    rw [if_neg (by omega)]
  rw [this]
  rfl
def ScrS (lc : Nat → ClassId) (pr : Nat → Nat × va_E) (b : Nat) : Prop :=
  (pr b).2 = .inr (3, [.ref (pr (b + 1)).1, .ref (pr (b + 3)).1, .ref (pr (b + 5)).1, .int 0, .int 0]) ∧ RowS lc pr (b + 1) 70 ∧ RowS lc pr (b + 3) 70 ∧ RowS lc pr (b + 5) 70
theorem scr_mov (lc : Nat → ClassId) : Mov (fun pr b => ScrS lc pr b) 7 := by
  intro pr pr' b b' h q
  obtain ⟨q1, q2, q3, q4⟩ := q
  have g : ∀ j, j < 7 → pr' (b' + j) = pr (b + j) := fun j hj => (h j hj).symm
  have g0 : pr' b' = pr b := g 0 (by omega)
  exact ⟨by rw [g0, g 1 (by omega), g 3 (by omega), g 5 (by omega)]; exact q1, row_mov lc 70 pr pr' _ _ (fun j hj => by rw [Nat.add_assoc, Nat.add_assoc]; exact h _ (by omega)) q2, row_mov lc 70 pr pr' _ _ (fun j hj => by rw [Nat.add_assoc, Nat.add_assoc]; exact h _ (by omega)) q3, row_mov lc 70 pr pr' _ _ (fun j hj => by rw [Nat.add_assoc, Nat.add_assoc]; exact h _ (by omega)) q4⟩
set_option maxHeartbeats 4000000 in
set_option maxRecDepth 100000 in
theorem cn_script (l : Launch) (G : va_G) (lc : Nat → ClassId) : CN l G lc yX3_init cX3_init 1 2 6 216 (.inr (3, [.null, .null, .null, .int 0, .int 0])) [] (fun pr => ScrS lc pr 0) [(lc 0, .int)] 7 := by
  refine ofN (own := RX3) (by decide +kernel) rfl rfl (Nat.le_of_ble_eq_true rfl) (fun h0 p e s m args below meth c ls A hF hin hr hlocks hC hK hP hD hS hA hl => ?_)
  have hx := hF.1
  have hb := hF.2.1
  have hl : lv_has ls 1 [(0, .ref h0)] := hl
  refine lv_aload_n hx hb dX3_init_0 rfl (lv_at hl 0 rfl) ?_
  refine st_obj hF hl.1 wn_106 ⟨Nat.le_of_ble_eq_true rfl, Nat.le_of_ble_eq_true rfl⟩ (Nat.le_of_ble_eq_true rfl) dX3_init_1 ?_
  refine lv_aload_n hx hb dX3_init_4 rfl (lv_at hl 0 rfl) ?_
  refine st_newput (pc2 := 11) (C := RX2) (T := TX2) (Nf := 2) (k := 0) (S := fun pr b => RowS lc pr b 70) (tyk := .object RX2) (cn_row l G lc (N := 70) (by omega)) (row_mov lc 70) (by omega) hF hin hC hK hP hD hS hA hl.1 rfl twX2 tyX2 tyX2_ok (fun j hj => by rcases (show j = 0 ∨ j = 1 by omega) with rfl | rfl <;> rfl) wn_107 wn_44 wn_19 wn_108 wn_46 wn_47 rfl rfl (by decide +kernel) rfl ⟨Nat.le_of_ble_eq_true rfl, Nat.le_of_ble_eq_true rfl⟩ (Nat.le_of_ble_eq_true rfl) (Nat.le_of_ble_eq_true rfl) (Nat.le_of_ble_eq_true rfl) (C2 := RX3) (T2 := TX3) (N := 5) rfl twX3 tyX3 tyX3_ok nmX3 (by omega) rfl (by decide) wn_109 rfl rfl (by decide +kernel) (fun _ => rfl) (fun _ => rfl) (Nat.le_of_ble_eq_true rfl) dX3_init_5 dX3_init_8 (fun H locs k z st w => lv_bipush (v := nI 70) hx hb dX3_init_9 (by decide) w) dX3_init_11 dX3_init_14 (fun pr1 H locs e1 s1 k1 hKi hP hD hS => ?_)
  refine lv_aload_n hx hb dX3_init_17 rfl (lv_at hl 0 rfl) ?_
  refine st_newput (pc2 := 24) (C := RX2) (T := TX2) (Nf := 2) (k := 1) (S := fun pr b => RowS lc pr b 70) (tyk := .object RX2) (cn_row l G lc (N := 70) (by omega)) (row_mov lc 70) (by omega) hF hin hC hK hP hD hS hA hl.1 rfl twX2 tyX2 tyX2_ok (fun j hj => by rcases (show j = 0 ∨ j = 1 by omega) with rfl | rfl <;> rfl) wn_107 wn_44 wn_19 wn_108 wn_46 wn_47 rfl rfl (by decide +kernel) rfl ⟨Nat.le_of_ble_eq_true rfl, Nat.le_of_ble_eq_true rfl⟩ (Nat.le_of_ble_eq_true rfl) (Nat.le_of_ble_eq_true rfl) (Nat.le_of_ble_eq_true rfl) (C2 := RX3) (T2 := TX3) (N := 5) rfl twX3 tyX3 tyX3_ok nmX3 (by omega) e1 (by decide) wn_110 rfl rfl (by decide +kernel) (fun _ => rfl) (fun _ => rfl) (Nat.le_of_ble_eq_true rfl) dX3_init_18 dX3_init_21 (fun H locs k z st w => lv_bipush (v := nI 70) hx hb dX3_init_22 (by decide) w) dX3_init_24 dX3_init_27 (fun pr2 H locs e2 s2 k2 _ hP hD hS => ?_)
  refine lv_aload_n hx hb dX3_init_30 rfl (lv_at hl 0 rfl) ?_
  refine st_newput (pc2 := 37) (C := RX2) (T := TX2) (Nf := 2) (k := 2) (S := fun pr b => RowS lc pr b 70) (tyk := .object RX2) (cn_row l G lc (N := 70) (by omega)) (row_mov lc 70) (by omega) hF hin hC hK hP hD hS hA hl.1 rfl twX2 tyX2 tyX2_ok (fun j hj => by rcases (show j = 0 ∨ j = 1 by omega) with rfl | rfl <;> rfl) wn_107 wn_44 wn_19 wn_108 wn_46 wn_47 rfl rfl (by decide +kernel) rfl ⟨Nat.le_of_ble_eq_true rfl, Nat.le_of_ble_eq_true rfl⟩ (Nat.le_of_ble_eq_true rfl) (Nat.le_of_ble_eq_true rfl) (Nat.le_of_ble_eq_true rfl) (C2 := RX3) (T2 := TX3) (N := 5) rfl twX3 tyX3 tyX3_ok nmX3 (by omega) e2 (by decide) wn_111 rfl rfl (by decide +kernel) (fun _ => rfl) (fun _ => rfl) (Nat.le_of_ble_eq_true rfl) dX3_init_31 dX3_init_34 (fun H locs k z st w => lv_bipush (v := nI 70) hx hb dX3_init_35 (by decide) w) dX3_init_37 dX3_init_40 (fun pr3 H locs e3 s3 k3 _ hP hD hS => ?_)
  have f1 : pr3 1 = pr1 1 := (k3 1 (by omega) (by omega)).trans (k2 1 (by omega) (by omega))
  have f2 : pr3 2 = pr1 2 := (k3 2 (by omega) (by omega)).trans (k2 2 (by omega) (by omega))
  have f3 : pr3 3 = pr2 3 := k3 3 (by omega) (by omega)
  have f4 : pr3 4 = pr2 4 := k3 4 (by omega) (by omega)
  refine W.widen (k := 6) (n := 216) (by omega) (by omega) ?_
  refine wr_n hF hr hlocks ⟨⟨?_, row_cg f1 f2 s1, row_cg f3 f4 s2, s3⟩, by rw [e3]⟩ hKi hP hD hS dX3_init_43
  rw [e3, ← k2 1 (by omega) (by omega), ← f3, ← k3 1 (by omega) (by omega)]
  rfl
