/-! BOTH, WHOLE: going back, keeping, taking up again; the last refusal. -/
section BK
variable {Λ Λ' : Lay} {μ μ' : Mem} {a b p : Nat} {x y : Int32} {V : Pic} {h : List Pic} {sv : Option Pic} {r1 r2 r3 m3 : Int32} {ln tx : List Int32}
theorem past_back (P : FrApart Λ a) {h0 : List Pic} {U : Pic} (H : Past Λ μ a p (h0 ++ [U])) : PicOK U ∧ RvV Λ μ (frR Λ a (2 + (p + 8) % 9)) U ∧ Past Λ (stI (stI μ (lyR Λ a 2) 2 (nI h0.length)) (lyR Λ a 2) 1 (nI ((p + 8) % 9))) a ((p + 8) % 9) h0 := by
  obtain ⟨hp, e1, e2, hl, hok, hrow⟩ := H
  have hb : lyR Λ a 2 = a ∨ lyR Λ a 2 = lyR Λ a 2 ∨ lyR Λ a 2 = lyR Λ a 5 := Or.inr (Or.inl rfl)
  simp only [List.length_append, List.length_cons, List.length_nil] at hl hrow
  have hU : (h0 ++ [U]).getD h0.length picD = U := by
    rw [List.getD_eq_getElem?_getD, List.getElem?_append_right (Nat.le_refl _), Nat.sub_self]; rfl
  refine ⟨hok U (by simp), ?_, by omega, by rw [mI_self], by rw [mI_ne (by omega), mI_self], by omega, fun W hW => hok W (List.mem_append_left _ hW), fun m hm => rvv_st P (by omega) hb (rvv_st P (by omega) hb ?_)⟩
  · have := hrow h0.length (by omega)
    rw [hU, show (p + 9 - (h0.length + (0 + 1)) + h0.length) % 9 = (p + 8) % 9 by omega] at this
    exact this
  · have := hrow m (by omega)
    rw [List.getD_eq_getElem?_getD, List.getElem?_append_left hm, ← List.getD_eq_getElem?_getD, show (p + 9 - (h0.length + (0 + 1)) + m) % 9 = ((p + 8) % 9 + 9 - h0.length + m) % 9 by omega] at this
    exact this
theorem past_no (C : Past Λ μ a p []) : sX0_goBack Λ μ (lyR Λ a 2) (lyR Λ a 0) = some (0, μ) := by
  unfold sX0_goBack
  rw [C.2.2.1]
  rfl
theorem mod9 : ∀ p, p < 9 → ((nI p + 9) - 1) - ((nI p + 9) - 1) / 9 * 9 = nI ((p + 8) % 9) := by decide
theorem take_back (P : FrApart Λ a) (R : ringO Λ μ a) {q : Nat} (hq : q < 9) (e1 : mI μ (lyR Λ a 2) 1 = nI q) {U : Pic} (ok : PicOK U) (N : RvV Λ μ (frR Λ a (2 + q)) U) : ∃ μ1, sX0_takeBack Λ μ (lyR Λ a 2) (lyR Λ a 0) = some μ1 ∧ RvV Λ μ1 (lyR Λ a 0) U ∧ Chg Λ μ μ1 (rvRow Λ (lyR Λ a 0)) (rvFld (lyR Λ a 0)) := by
  have e : frR Λ a (2 + q) = lyE Λ (lyR Λ (lyR Λ a 2) 0) q := by
    unfold frR
    rw [if_neg (by omega), if_neg (by omega), Nat.add_sub_cancel_left]
  obtain ⟨μ1, q1, q2, -, q4⟩ := rvv_copy P (i := 0) (j := 2 + q) (by omega) (by omega) (by omega) R ok N
  unfold sX0_takeBack
  rw [e1, if_neg (nI_pos (by omega)), P.2.2.2.2.2.2.2.2.2.1, if_neg (by rw [nI_leI (by omega) (by omega)]; omega), gd_t (nI_in (by omega) (by omega)), nI_clamp (by omega), ← e]
  have q1' : sX1_copyFrom Λ μ (lyR Λ a 0) (frR Λ a (2 + q)) = some μ1 := q1
  rw [q1']
  exact ⟨μ1, rfl, q2, q4⟩
theorem op_undo (PC : FrApart Λ a) (PM : MdApart Λ' b) (I : Inv Λ μ a Λ' μ' b) : ∃ r μ1 μ1', sX4_undo Λ μ a = some (r, μ1) ∧ sX5_undo Λ' μ' b = some (r, μ1') ∧ Inv Λ μ1 a Λ' μ1' b := by
  obtain ⟨p, V, h, sv, r1, r2, r3, m3, ln, tx, C, M, hR⟩ := I
  rcases List.eq_nil_or_concat h with e | ⟨h0, U, e⟩
  · subst e
    refine ⟨-4, μ, μ', ?_, md_undo0 M.2.1 rfl, p, V, [], sv, r1, r2, r3, m3, ln, tx, C, M, hR⟩
    unfold sX4_undo
    rw [past_no C.2.2.2.1, Option.bind_some]
    rfl
  · rw [List.concat_eq_append] at e
    subst e
    have M' := M
    obtain ⟨m1, m2, m4, m5, m6, m7, m8, m9, m10, m11, m12, m13⟩ := M'
    have C' := C
    obtain ⟨c1, c2, c3, c4, c5, c6, c7, c8, c9, c10, c11, c12, c13⟩ := C'
    have hb : lyR Λ a 2 = a ∨ lyR Λ a 2 = lyR Λ a 2 ∨ lyR Λ a 2 = lyR Λ a 5 := Or.inr (Or.inl rfl)
    obtain ⟨k1, k2, k3⟩ := past_back PC c4
    have hp := c4.1
    have hl := c4.2.2.2.1
    simp only [List.length_append, List.length_cons, List.length_nil] at hl
    have hg := c4.2.2.1
    simp only [List.length_append, List.length_cons, List.length_nil] at hg
    have ei : ∀ k, mI (stI (stI μ (lyR Λ a 2) 2 (nI h0.length)) (lyR Λ a 2) 1 (nI ((p + 8) % 9))) a k = mI μ a k := fun k => by
      rw [mI_ne (fun q => PC.2.2.2.2.2.2.1 q.1), mI_ne (fun q => PC.2.2.2.2.2.2.1 q.1)]
    have C2 : CInv Λ (stI (stI μ (lyR Λ a 2) 2 (nI h0.length)) (lyR Λ a 2) 1 (nI ((p + 8) % 9))) a ((p + 8) % 9) (-4) V h0 sv r1 r2 r3 ln tx :=
      ⟨rvv_st PC (i := 0) (by omega) hb (rvv_st PC (i := 0) (by omega) hb c1), c2, ring_st PC hb (ring_st PC hb c3), k3, by rw [ei]; exact c5, fun U hU => ⟨(c6 U hU).1, rvv_st PC (i := 1) (by omega) hb (rvv_st PC (i := 1) (by omega) hb (c6 U hU).2)⟩, by rw [ei]; exact c7, by rw [ei]; exact c8, by rw [ei]; exact c9, by rw [ei]; exact c10, w_st PC (by omega) hb (w_st PC (by omega) hb c11), w_st PC (by omega) hb (w_st PC (by omega) hb c12), fun k h1 h2 => by
        obtain ⟨l, q⟩ := c13 k h1 h2
        exact ⟨l, w_st PC h2 hb (w_st PC h2 hb q)⟩⟩
    obtain ⟨μ1, t1, t2, t3⟩ := take_back PC C2.2.2.1 (by omega) k3.2.1 k1 (rvv_st PC (by omega) hb (rvv_st PC (by omega) hb k2))
    obtain ⟨C3, -⟩ := cinv_riv PC C2 k1 t2 t3
    obtain ⟨μ2, u1, u2, u3, u4, u5⟩ := md_undo PM m2
    refine ⟨nI h0.length, μ1, μ2, ?_, u1, _, U, h0, sv, r1, r2, r3, m3, ln, tx, C3, ⟨u3, u2, ?_, fun W hW => (m5 W hW).sm (u5 _ (now_ne PM (by omega) (by omega) (by omega))), ?_, ?_, ?_, ?_, ?_, fun i hi => ?_, ?_, fun i hi => ?_⟩, hR⟩
    · unfold sX4_undo sX0_goBack
      rw [hg, if_pos (by rw [nI_lit0, nI_ltI (by omega) (by omega)]; omega)]
      simp only [bnd]
      rw [nI_pred, mI_ne (by omega), c4.2.1, mod9 p hp, t1, Option.bind_some, Option.bind_some]
      dsimp only
      rw [if_neg (by decide)]
      unfold sX0_count
      rw [C3.2.2.2.1.2.2.1]
      rfl
    all_goals first | (rw [u4 _ _ (by omega)]; assumption) | skip
    · rw [u5 _ (md_far PM (by simp)).1]; exact m11 i hi
    · rw [u5 _ (md_far PM (by simp)).1]; exact m13 i hi
theorem op_save (PC : FrApart Λ a) (PM : MdApart Λ' b) (I : Inv Λ μ a Λ' μ' b) : ∃ r μ1 μ1', sX4_save Λ μ a = some (r, μ1) ∧ sX5_save Λ' μ' b = some (r, μ1') ∧ Inv Λ μ1 a Λ' μ1' b := by
  obtain ⟨p, V, h, sv, r1, r2, r3, m3, ln, tx, C, M, hR⟩ := I
  have M' := M
  obtain ⟨m1, m2, m4, m5, m6, m7, m8, m9, m10, m11, m12, m13⟩ := M'
  have C' := C
  obtain ⟨c1, c2, c3, c4, c5, c6, c7, c8, c9, c10, c11, c12, c13⟩ := C'
  have hp := c4.1
  obtain ⟨μ1, q1, q2, q3, q4⟩ := rvv_copy PC (i := 1) (j := 0) (by omega) (by omega) (by omega) c3 c2 c1
  have ei : ∀ k, mI μ1 a k = mI μ a k := fun k => riv_int PC (i := 1) (by omega) q4 (Or.inl rfl) k
  have C1 : CInv Λ μ1 a p (-4) V h (some V) r1 r2 r3 ln tx ∨ True := Or.inr trivial
  clear C1
  obtain ⟨μ2, u1, u2, u3, u4, u5⟩ := md_save PM c2 m1
  have es : ∀ k, k ≠ 6 → mI (stI μ1 a 6 1) a k = mI μ a k := fun k hk => by rw [mI_ne (fun q => hk q.2), ei]
  refine ⟨nI V.w.length, stI μ1 a 6 1, μ2, ?_, u1, p, V, h, some V, r1, r2, r3, m3, ln, tx, ⟨rvv_st PC (i := 0) (by omega) (Or.inl rfl) q3, c2, ring_st PC (Or.inl rfl) (ring_keep PC (i := 1) (by omega) q4 c3 q2.1), past_st PC (riv_past PC (i := 1) (by omega) (fun m hm => by omega) q4 c4), by rw [mI_self]; rfl, fun U hU => ?_, by rw [es _ (by omega)]; exact c7, by rw [es _ (by omega)]; exact c8, by rw [es _ (by omega)]; exact c9, by rw [es _ (by omega)]; exact c10, w_st PC (by omega) (Or.inl rfl) (w_riv PC (i := 1) (by omega) q4 (by omega) c11), w_st PC (by omega) (Or.inl rfl) (w_riv PC (i := 1) (by omega) q4 (by omega) c12), fun k h1 h2 => ?_⟩, ⟨m1.sm (u5 _ (now_ne PM (by omega) (by omega) (by omega))), m2.fr (u4 _ _ (by omega)) (fun i hi => u5 _ (fun q => hs_0 PM (i := 1) (k := i) (by omega) hi q.symm)), by rw [u3]; rfl, fun U hU => ?_, ?_, ?_, ?_, ?_, ?_, fun i hi => ?_, ?_, fun i hi => ?_⟩, hR⟩
  · unfold sX4_save
    have q1' : sX1_copyFrom Λ μ (lyR Λ a 1) (lyR Λ a 0) = some μ1 := q1
    rw [q1', Option.bind_some]
    simp only [bnd]
    have : RvV Λ (stI μ1 a 6 1) (lyR Λ a 0) V := rvv_st PC (i := 0) (by omega) (Or.inl rfl) q3
    rw [rv_banks this.1]
    rfl
  · have : V = U := Option.some.inj hU
    subst this
    exact ⟨c2, rvv_st PC (i := 1) (by omega) (Or.inl rfl) q2⟩
  · obtain ⟨l, q⟩ := c13 k h1 h2
    exact ⟨l, w_st PC h2 (Or.inl rfl) (w_riv PC (i := 1) (by omega) q4 h2 q)⟩
  · have : V = U := Option.some.inj hU
    subst this
    exact u2
  all_goals first | (rw [u4 _ _ (by omega)]; assumption) | skip
  · have : lyR Λ' b 12 ≠ lyR Λ' b 1 := fun q => by
      have := PM.1 12 1 (by omega) (by omega) (by unfold mdA; simpa using q)
      omega
    rw [u5 _ this]; exact m11 i hi
  · have : lyR Λ' b 14 ≠ lyR Λ' b 1 := fun q => by
      have := PM.1 13 1 (by omega) (by omega) (by unfold mdA; simpa using q)
      omega
    rw [u5 _ this]; exact m13 i hi
theorem op_restore (PC : FrApart Λ a) (PM : MdApart Λ' b) (I : Inv Λ μ a Λ' μ' b) : ∃ r μ1 μ1', sX4_restore Λ μ a = some (r, μ1) ∧ sX5_restore Λ' μ' b = some (r, μ1') ∧ Inv Λ μ1 a Λ' μ1' b := by
  obtain ⟨p, V, h, sv, r1, r2, r3, m3, ln, tx, C, M, hR⟩ := I
  have M' := M
  obtain ⟨m1, m2, m4, m5, m6, m7, m8, m9, m10, m11, m12, m13⟩ := M'
  have C' := C
  obtain ⟨c1, c2, c3, c4, c5, c6, c7, c8, c9, c10, c11, c12, c13⟩ := C'
  have hp := c4.1
  cases sv with
  | none =>
    refine ⟨-4, μ, μ', ?_, ?_, p, V, h, none, r1, r2, r3, m3, ln, tx, C, M, hR⟩
    · unfold sX4_restore
      rw [c5]
      rfl
    · unfold sX5_restore
      rw [m4]
      rfl
  | some U =>
    have hb : lyR Λ a 2 = a ∨ lyR Λ a 2 = lyR Λ a 2 ∨ lyR Λ a 2 = lyR Λ a 5 := Or.inr (Or.inl rfl)
    obtain ⟨okU, NU⟩ := c6 U rfl
    obtain ⟨μ1, q1, q2, q3, q4⟩ := rvv_copy PC (i := 0) (j := 1) (by omega) (by omega) (by omega) c3 okU NU
    obtain ⟨C1, -⟩ := cinv_riv PC C okU q2 q4
    obtain ⟨μ2, u1, u2, u3, u4, u5⟩ := md_restore PM okU (m5 U rfl) m4
    obtain ⟨d1, d2, d3, d4, d5, d6, d7, d8, d9, d10, d11, d12, d13⟩ := C1
    have ei : ∀ k, mI (stI μ1 (lyR Λ a 2) 2 0) a k = mI μ1 a k := fun k => mI_ne (fun q => PC.2.2.2.2.2.2.1 q.1)
    refine ⟨nI U.w.length, stI μ1 (lyR Λ a 2) 2 0, μ2, ?_, u1, p, U, [], some U, r1, r2, r3, m3, ln, tx, ⟨rvv_st PC (i := 0) (by omega) hb d1, d2, ring_st PC hb d3, ⟨hp, by rw [mI_ne (by omega)]; exact d4.2.1, by rw [mI_self]; rfl, by simp, by simp, by simp⟩, by rw [ei]; exact d5, fun W hW => ⟨(d6 W hW).1, rvv_st PC (i := 1) (by omega) hb (d6 W hW).2⟩, by rw [ei]; exact d7, by rw [ei]; exact d8, by rw [ei]; exact d9, by rw [ei]; exact d10, w_st PC (by omega) hb d11, w_st PC (by omega) hb d12, fun k h1 h2 => ?_⟩, ⟨u2, u3, ?_, fun W hW => (m5 W hW).sm (u5 _ (now_ne PM (by omega) (by omega) (by omega))), ?_, ?_, ?_, ?_, ?_, fun i hi => ?_, ?_, fun i hi => ?_⟩, hR⟩
    · unfold sX4_restore
      have q1' : sX1_copyFrom Λ μ (lyR Λ a 0) (lyR Λ a 1) = some μ1 := q1
      have c5' : mI μ a 6 = 1 := c5
      rw [c5', if_neg (by decide), q1', Option.bind_some]
      unfold sX0_forget
      simp only [bnd]
      have : RvV Λ (stI μ1 (lyR Λ a 2) 2 0) (lyR Λ a 0) U := rvv_st PC (i := 0) (by omega) hb d1
      rw [Option.bind_some, rv_banks this.1]
      rfl
    · obtain ⟨l, q⟩ := d13 k h1 h2
      exact ⟨l, w_st PC h2 hb q⟩
    all_goals first | (rw [u4 _ _ (by omega)]; assumption) | skip
    · rw [u5 _ (md_far PM (by simp)).1]; exact m11 i hi
    · rw [u5 _ (md_far PM (by simp)).1]; exact m13 i hi
theorem op_refusal (I : Inv Λ μ a Λ' μ' b) (x : Int32) : ∃ r, sX4_refusal Λ μ a x = some r ∧ sX5_refusal Λ' μ' b x = some r := by
  obtain ⟨p, V, h, sv, r1, r2, r3, m3, ln, tx, C, M, hR⟩ := I
  obtain ⟨m1, m2, m4, m5, m6, m7, m8, m9, m10, m11, m12, m13⟩ := M
  obtain ⟨c1, c2, c3, c4, c5, c6, c7, c8, c9, c10, c11, c12, c13⟩ := C
  have e0 : (0 : Int32).toInt = 0 := rfl
  have e2 : (2 : Int32).toInt = 2 := rfl
  unfold sX4_refusal sX5_refusal
  rw [btw_eq, e0, e2, m6, m7, m8, c7, c8, c9, Option.bind_some]
  by_cases c : 0 ≤ x.toInt ∧ x.toInt ≤ 2
  · have hx : x = 0 ∨ x = 1 ∨ x = 2 := by
      have : x.toInt = 0 ∨ x.toInt = 1 ∨ x.toInt = 2 := by omega
      rcases this with q | q | q
      · exact Or.inl (Int32.toInt_inj.mp q)
      · exact Or.inr (Or.inl (Int32.toInt_inj.mp q))
      · exact Or.inr (Or.inr (Int32.toInt_inj.mp q))
    rw [if_pos c, if_neg (by rw [Int32.lt_iff_toInt_lt, e0]; omega), if_pos (by rw [Int32.le_iff_toInt_le, e2]; omega), if_neg (show ¬ (1 : Int32) = 0 by decide)]
    by_cases z : r1 = 0
    · rw [if_pos z, if_pos z]; exact ⟨_, rfl, rfl⟩
    · rw [if_neg z, if_neg z]
      rcases hx with q | q | q
      · subst q; exact ⟨_, rfl, rfl⟩
      · subst q; exact ⟨_, rfl, rfl⟩
      · subst q
        rw [if_neg (by decide), if_neg (by decide), if_pos rfl]
        rcases hR.1 z with ⟨w1, w2⟩ | ⟨w1, w2⟩
        · have : (0 : Int32) ≤ m3 := by
            rw [Int32.lt_iff_toInt_lt] at w1
            rw [Int32.le_iff_toInt_le]
            omega
          rw [if_pos this, w2]; exact ⟨_, rfl, rfl⟩
        · have : ¬ (0 : Int32) ≤ m3 := by
            rw [Int32.lt_iff_toInt_lt] at w1
            rw [Int32.le_iff_toInt_le]
            omega
          rw [if_neg this, w2]; exact ⟨_, rfl, rfl⟩
  · rw [if_neg c, if_pos rfl]
    refine ⟨-2, ?_, rfl⟩
    by_cases c1 : x < 0
    · rw [if_pos c1]
    · rw [if_neg c1, if_neg]
      intro q
      rw [Int32.le_iff_toInt_le, e2] at q
      rw [Int32.lt_iff_toInt_lt, e0] at c1
      exact c ⟨by omega, q⟩
end BK
