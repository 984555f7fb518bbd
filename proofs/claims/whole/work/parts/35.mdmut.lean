/-! THE REFERENCE: rounds put into one another, and taken apart. -/
theorem wr_app (f : Nat → Int32) (b : Nat) (l1 l2 : List Nat) : wr (wr f (b + l1.length) l2) b l1 = wr f b (l1 ++ l2) := by
  funext x
  unfold wr
  by_cases c1 : b ≤ x ∧ x < b + l1.length
  · rw [if_pos c1, if_pos (by simp; omega)]
    congr 1
    simp only [List.getD_eq_getElem?_getD]
    rw [List.getElem?_append_left (by omega)]
  · rw [if_neg c1]
    by_cases c2 : b + l1.length ≤ x ∧ x < b + l1.length + l2.length
    · rw [if_pos c2, if_pos (by simp; omega)]
      congr 1
      simp only [List.getD_eq_getElem?_getD]
      rw [List.getElem?_append_right (by omega)]
      congr 2
      omega
    · rw [if_neg c2, if_neg (by simp; omega)]
theorem drop_cons {l : List Nat} {i : Nat} (h : i < l.length) : l.drop i = l[i] :: l.drop (i + 1) := List.drop_eq_getElem_cons h
theorem insL_lo {l G : List Nat} {b x : Nat} (hf : fi l b < l.length) (h : x < fi l b + 1) (hx : x < (insL l b G).length) (hl : x < l.length) : (insL l b G)[x] = l[x] := by
  have h2 : (insL l b G)[x]? = l[x]? := by
    unfold insL
    rw [List.getElem?_append_left (by rw [List.length_take]; omega), List.getElem?_take, if_pos h]
  rw [List.getElem?_eq_getElem hx, List.getElem?_eq_getElem hl] at h2
  exact Option.some.inj h2
theorem insL_hi {l G : List Nat} {b z : Nat} (hf : fi l b < l.length) (hx : fi l b + 1 + z < (insL l b G).length) (hz : z < (G ++ b :: l.drop (fi l b + 1)).length) : (insL l b G)[fi l b + 1 + z] = (G ++ b :: l.drop (fi l b + 1))[z] := by
  have h2 : (insL l b G)[fi l b + 1 + z]? = (G ++ b :: l.drop (fi l b + 1))[z]? := by
    unfold insL
    have ht : (l.take (fi l b + 1)).length = fi l b + 1 := by rw [List.length_take]; omega
    rw [List.getElem?_append_right (by rw [ht]; omega), ht]
    congr 1
    omega
  rw [List.getElem?_eq_getElem hx, List.getElem?_eq_getElem hz] at h2
  exact Option.some.inj h2
section MDM
variable {Λ : Lay} {μ : Mem} {a : Nat} {w : List Nat} {sl : Nat → List Nat} {j c t : Int32}
theorem md_put2 (P : MdApart Λ a) {k1 k2 at' b : Nat} (h1 : k1 < 12) (h2 : k2 < 12) (hk : k1 ≠ k2) {G : List Nat} {N : Nat} (hNG : N + G.length + 1 ≤ 23) (hat : at' < N) {f : Nat → Int32} (hG : ∀ (i : Nat) (hi : i < G.length), f (16 + 24 * k2 + 1 + i) = nI G[i]) (hsz : f (16 + 24 * k2) = nI G.length) (hs1 : f (16 + 24 * k1) = nI N) : ∀ n i (μ1 : Mem), i ≤ G.length → G.length - i < n → Mto μ μ1 (lyR Λ a 0) (wr f (16 + 24 * k1 + 1 + at' + 1) (G.take i)) → ∃ μ', lpX5_putIn_78 Λ a (nI b) (nI k1) (nI k2) (nI at') (nI (G.length + 1)) n μ1 (nI i) = some μ' ∧ Mto μ μ' (lyR Λ a 0) (upd (upd (wr f (16 + 24 * k1 + 1 + at' + 1) (G ++ [b])) (16 + 24 * k1) (nI (N + (G.length + 1)))) (16 + 24 * k2) (nI 0)) := by
  have hN : lyN Λ (lyR Λ a 0) = 304 := P.2.1 0 (by omega)
  have hkk : k1 + 1 ≤ k2 ∨ k2 + 1 ≤ k1 := by omega
  intro n
  induction n with
  | zero => intro i μ1 hi hn; omega
  | succ n ih =>
    intro i μ1 hi hn h
    have hrd : ∀ x, x < 24 → mA μ1 (lyR Λ a 0) (16 + 24 * k2 + x) = f (16 + 24 * k2 + x) := fun x hx => by
      rw [h.2.1, wr_out]
      simp only [List.length_take]
      omega
    have hz : mA μ1 (lyR Λ a 0) (16 + 24 * k2) = nI G.length := by
      have := hrd 0 (by omega)
      rw [Nat.add_zero] at this
      rw [this]; exact hsz
    rw [lpX5_putIn_78_s, raw_size hN h2, Option.bind_some, hz]
    by_cases e : i = G.length
    · subst e
      rw [List.take_length] at h
      have hM1 := h.st (16 + 24 * k1 + 1 + (at' + (G.length + 1))) (nI b)
      rw [show 16 + 24 * k1 + 1 + (at' + (G.length + 1)) = 16 + 24 * k1 + 1 + at' + 1 + G.length by omega, wr_snoc] at hM1
      rw [if_pos ((nI_leI (by omega) (by omega)).mpr (Nat.le_refl _)), nI_add, raw_setPlace hN h1 (by omega), Option.bind_some, show 16 + 24 * k1 + 1 + (at' + (G.length + 1)) = 16 + 24 * k1 + 1 + at' + 1 + G.length by omega, raw_size hN h1, Option.bind_some]
      have hsize : mA (stA μ1 (lyR Λ a 0) (16 + 24 * k1 + 1 + at' + 1 + G.length) (nI b)) (lyR Λ a 0) (16 + 24 * k1) = nI N := by
        rw [hM1.2.1, wr_out (by omega)]; exact hs1
      rw [hsize, nI_add, raw_setSize hN h1, Option.bind_some, raw_setSize hN h2, Option.bind_some]
      exact ⟨_, rfl, (hM1.st _ _).st _ _⟩
    · have hi' : i < G.length := by omega
      rw [if_neg (by rw [nI_leI (by omega) (by omega)]; omega), raw_place hN h2 (by omega), Option.bind_some]
      have : mA μ1 (lyR Λ a 0) (16 + 24 * k2 + 1 + i) = nI G[i] := by
        have := hrd (1 + i) (by omega)
        rw [show 16 + 24 * k2 + (1 + i) = 16 + 24 * k2 + 1 + i by omega] at this
        rw [this]; exact hG i hi'
      rw [this, nI_1, nI_add, raw_setPlace hN h1 (by omega), Option.bind_some]
      simp only [bnd]
      rw [nI_1]
      refine ih (i + 1) _ (by omega) (by omega) ?_
      rw [show 16 + 24 * k1 + 1 + (at' + 1 + i) = 16 + 24 * k1 + 1 + at' + 1 + i by omega, ← wr_take_s hi']
      exact h.st _ _
theorem md_put1 (P : MdApart Λ a) {k1 k2 at' b : Nat} (h1 : k1 < 12) (h2 : k2 < 12) (hk : k1 ≠ k2) {l G : List Nat} (hNG : l.length + G.length + 1 ≤ 23) (hat : at' < l.length) {f : Nat → Int32} (hl : ∀ (i : Nat) (hi : i < l.length), f (16 + 24 * k1 + 1 + i) = nI l[i]) (hG : ∀ (i : Nat) (hi : i < G.length), f (16 + 24 * k2 + 1 + i) = nI G[i]) (hsz : f (16 + 24 * k2) = nI G.length) (hs1 : f (16 + 24 * k1) = nI l.length) : ∀ n i (μ1 : Mem), at' ≤ i → i < l.length → i - at' < n → Mto μ μ1 (lyR Λ a 0) (wr f (16 + 24 * k1 + 1 + (i + 1) + (G.length + 1)) (l.drop (i + 1))) → ∃ μ', lpX5_putIn_45 Λ a (nI b) (nI k1) (nI k2) (nI at') (nI (G.length + 1)) n μ1 (nI i) = some μ' ∧ Mto μ μ' (lyR Λ a 0) (upd (upd (wr f (16 + 24 * k1 + 1 + at' + 1) (G ++ b :: l.drop (at' + 1))) (16 + 24 * k1) (nI (l.length + (G.length + 1)))) (16 + 24 * k2) (nI 0)) := by
  have hN : lyN Λ (lyR Λ a 0) = 304 := P.2.1 0 (by omega)
  have hkk : k1 + 1 ≤ k2 ∨ k2 + 1 ≤ k1 := by omega
  intro n
  induction n with
  | zero => intro i μ1 h1 h2 hn; omega
  | succ n ih =>
    intro i μ1 hi hi2 hn h
    rw [lpX5_putIn_45_s]
    by_cases e : i = at'
    · subst e
      rw [if_pos ((nI_leI (by omega) (by omega)).mpr (Nat.le_refl _)), nI_lit0]
      have hout : ∀ x, (x < 16 + 24 * k1 + 1 + (i + 1) + (G.length + 1) ∨ 16 + 24 * k1 + 1 + 23 ≤ x) → wr f (16 + 24 * k1 + 1 + (i + 1) + (G.length + 1)) (l.drop (i + 1)) x = f x := fun x hx => wr_out (by simp only [List.length_drop]; omega)
      obtain ⟨μ', q1, q2⟩ := md_put2 (μ := μ) (b := b) (N := l.length) (G := G) (f := wr f (16 + 24 * k1 + 1 + (i + 1) + (G.length + 1)) (l.drop (i + 1))) P h1 h2 hk hNG hat (fun x hx => by rw [hout _ (by omega)]; exact hG x hx) (by rw [hout _ (by omega)]; exact hsz) (by rw [hout _ (by omega)]; exact hs1) fuel 0 μ1 (by omega) (by unfold fuel; omega) (by rw [List.take_zero, wr_nil]; exact h)
      refine ⟨μ', q1, ?_⟩
      have hw : wr (wr f (16 + 24 * k1 + 1 + (i + 1) + (G.length + 1)) (l.drop (i + 1))) (16 + 24 * k1 + 1 + i + 1) (G ++ [b]) = wr f (16 + 24 * k1 + 1 + i + 1) (G ++ b :: l.drop (i + 1)) := by
        have := wr_app f (16 + 24 * k1 + 1 + i + 1) (G ++ [b]) (l.drop (i + 1))
        simp only [List.length_append, List.length_cons, List.length_nil] at this
        rw [show 16 + 24 * k1 + 1 + (i + 1) + (G.length + 1) = 16 + 24 * k1 + 1 + i + 1 + (G.length + (0 + 1)) by omega, this]
        simp
      rw [hw] at q2
      exact q2
    · have hpl : mA μ1 (lyR Λ a 0) (16 + 24 * k1 + 1 + i) = nI l[i] := by
        rw [h.2.1, wr_out (by omega)]; exact hl i hi2
      rw [if_neg (by rw [nI_leI (by omega) (by omega)]; omega), raw_place hN h1 (by omega), Option.bind_some, hpl, nI_add, raw_setPlace hN h1 (by omega), Option.bind_some]
      simp only [bnd]
      obtain ⟨i', rfl⟩ : ∃ i', i = i' + 1 := ⟨i - 1, by omega⟩
      rw [nI_subI, nI_pred]
      refine ih i' _ (by omega) (by omega) (by omega) ?_
      have := h.st (16 + 24 * k1 + 1 + (i' + 1 + (G.length + 1))) (nI l[i' + 1])
      rw [show 16 + 24 * k1 + 1 + (i' + 1 + 1) + (G.length + 1) = 16 + 24 * k1 + 1 + (i' + 1 + (G.length + 1)) + 1 by omega, wr_cons, ← drop_cons hi2] at this
      rw [show 16 + 24 * k1 + 1 + (i' + 1) + (G.length + 1) = 16 + 24 * k1 + 1 + (i' + 1 + (G.length + 1)) by omega]
      exact this
/-- what putIn does behind the turning -/
theorem md_putIn (P : MdApart Λ a) (M0 : NowIs Λ μ (lyR Λ a 0) w sl j c t) (S0 : SlOK w sl) {k1 k2 b g : Nat} (h1 : k1 < 12) (h2 : k2 < 12) (hb : b ∈ sl k1) (hg : g ∈ sl k2) (hk : k1 ≠ k2) (hlen : (sl k1).length + (sl k2).length + 1 ≤ 23) (S1 : SlOK w (slUp sl k2 (turnL (sl k2) g))) : ∃ μ', sX5_putIn Λ μ a (nI b) (nI g) = some μ' ∧ μ'.1 = μ.1 ∧ NowIs Λ μ' (lyR Λ a 0) w (slUp (slUp sl k1 (insL (sl k1) b (turnL (sl k2) g))) k2 []) j c t ∧ ∀ x, x ≠ lyR Λ a 0 → x ≠ lyR Λ a 11 → mA μ' x = mA μ x := by
  have hN : lyN Λ (lyR Λ a 0) = 304 := P.2.1 0 (by omega)
  have hkk : k1 + 1 ≤ k2 ∨ k2 + 1 ≤ k1 := by omega
  obtain ⟨μ1, q1, q2, M, q4⟩ := md_turnTo P M0 S0 h2 hg
  have hgl : (turnL (sl k2) g).length = (sl k2).length := by
    have := fi_lt hg
    unfold turnL; simp; omega
  have hgt : g ∈ turnL (sl k2) g := by
    have h0 := fi_lt hg
    have h3 := fi_get hg
    unfold turnL
    rw [drop_cons h0, h3]; simp
  have e1 : slUp sl k2 (turnL (sl k2) g) k1 = sl k1 := by unfold slUp; rw [if_neg hk]
  have e2 : slUp sl k2 (turnL (sl k2) g) k2 = turnL (sl k2) g := by unfold slUp; rw [if_pos rfl]
  have hf := fi_lt hb
  have hb31 := sl_lt31 S0 h1 b hb
  unfold sX5_putIn
  rw [q1, Option.bind_some, md_round M S1 h1 (by rw [e1]; exact hb), Option.bind_some, md_round M S1 h2 (by rw [e2]; exact hgt), Option.bind_some, md_firstIn M S1 h1 hb31, Option.bind_some, e1, if_pos hb, md_size M h2, Option.bind_some, e2]
  simp only [bnd]
  rw [nI_1, md_size M h1, Option.bind_some, e1]
  obtain ⟨m, hm⟩ : ∃ m, (sl k1).length = m + 1 := ⟨(sl k1).length - 1, by omega⟩
  have hA := (M.2.2.2.2.2.2 k1 h1)
  have hB := (M.2.2.2.2.2.2 k2 h2)
  rw [e1] at hA
  rw [e2] at hB
  rw [hm, nI_pred]
  obtain ⟨μ2, r1, r2⟩ := md_put1 (μ := μ1) (b := b) (at' := fi (sl k1) b) (l := sl k1) (G := turnL (sl k2) g) (f := mA μ1 (lyR Λ a 0)) P h1 h2 hk (by rw [hgl]; omega) hf hA.2 hB.2 hB.1 hA.1 fuel m μ1 (by omega) (by omega) (by unfold fuel; omega) (by
    rw [List.drop_eq_nil_of_le (by omega), wr_nil]; exact Mto.rf)
  refine ⟨μ2, r1, r2.1.trans q2, ?_, fun x hx1 hx2 => (r2.2.2 x hx1).trans (q4 x hx1 hx2)⟩
  have hil : (insL (sl k1) b (turnL (sl k2) g)).length = (sl k1).length + ((sl k2).length + 1) := by
    unfold insL; simp [hgl]; omega
  have hwl : (turnL (sl k2) g ++ b :: (sl k1).drop (fi (sl k1) b + 1)).length = (sl k2).length + 1 + ((sl k1).length - (fi (sl k1) b + 1)) := by
    simp [hgl]; omega
  have hF : ∀ x, mA μ2 (lyR Λ a 0) x = if x = 16 + 24 * k2 then nI 0 else if x = 16 + 24 * k1 then nI ((sl k1).length + ((turnL (sl k2) g).length + 1)) else wr (mA μ1 (lyR Λ a 0)) (16 + 24 * k1 + 1 + fi (sl k1) b + 1) (turnL (sl k2) g ++ b :: (sl k1).drop (fi (sl k1) b + 1)) x := fun x => by
    rw [r2.2.1]; rfl
  have base := now_slot (μ' := μ2) M S0.1 S1.2.2.1 h1 (insL (sl k1) b (turnL (sl k2) g)) (by rw [hil]; omega)
  -- both rounds at once: first the one, then the other
  refine ⟨hN, ?_, ?_, ?_, ?_, fun b' hb' => ?_, fun i hi => ?_⟩
  · rw [hF, if_neg (by omega), if_neg (by omega), wr_out (by omega)]; exact M.2.1
  · rw [hF, if_neg (by omega), if_neg (by omega), wr_out (by omega)]; exact M.2.2.1
  · rw [hF, if_neg (by omega), if_neg (by omega), wr_out (by omega)]; exact M.2.2.2.1
  · rw [hF, if_neg (by omega), if_neg (by omega), wr_out (by omega)]; exact M.2.2.2.2.1
  · have := S0.1
    rw [hF, if_neg (by omega), if_neg (by omega), wr_out (by omega)]; exact M.2.2.2.2.2.1 b' hb'
  · unfold slUp
    by_cases c2 : i = k2
    · subst c2
      rw [if_pos rfl, hF, if_pos rfl]
      exact ⟨rfl, fun x hx => by simp at hx⟩
    · rw [if_neg c2]
      by_cases c1 : i = k1
      · subst c1
        rw [if_pos rfl, hF, if_neg (by omega), if_pos rfl, hgl]
        refine ⟨by rw [hil], fun x hx => ?_⟩
        rw [hil] at hx
        rw [hF, if_neg (by omega), if_neg (by omega)]
        by_cases y : x < fi (sl i) b + 1
        · rw [wr_out (by omega), hA.2 x (by omega)]
          congr 1
          exact (insL_lo hf y _ _).symm
        · obtain ⟨z, rfl⟩ : ∃ z, x = fi (sl i) b + 1 + z := ⟨x - (fi (sl i) b + 1), by omega⟩
          rw [show 16 + 24 * i + 1 + (fi (sl i) b + 1 + z) = 16 + 24 * i + 1 + fi (sl i) b + 1 + z by omega, wr_in (by rw [hwl]; omega)]
          congr 1
          exact (insL_hi hf _ (by rw [hwl]; omega)).symm
      · rw [if_neg c1]
        have hi3 := S1.2.2.1 i hi
        have ei : slUp sl k2 (turnL (sl k2) g) i = sl i := by unfold slUp; rw [if_neg c2]
        have hI := M.2.2.2.2.2.2 i hi
        rw [ei] at hI hi3
        have d1 : i + 1 ≤ k1 ∨ k1 + 1 ≤ i := by omega
        have d2 : i + 1 ≤ k2 ∨ k2 + 1 ≤ i := by omega
        refine ⟨?_, fun x hx => ?_⟩
        · rw [hF, if_neg (by omega), if_neg (by omega), wr_out (by rw [hwl]; omega)]; exact hI.1
        · rw [hF, if_neg (by omega), if_neg (by omega), wr_out (by rw [hwl]; omega)]; exact hI.2 x hx
theorem md_cut2 (P : MdApart Λ a) {k e f la b : Nat} (hk : k < 12) (he : e < 12) (hke : k ≠ e) {l : List Nat} (hl23 : l.length ≤ 23) (hfl : f ≤ la) (hla : la + 1 < l.length) {g : Nat → Int32} (hl : ∀ (i : Nat) (hi : i < l.length), g (16 + 24 * k + 1 + i) = nI l[i]) (hs : g (16 + 24 * k) = nI l.length) : ∀ n i (μ1 : Mem), f ≤ i → i + (la - f + 2) ≤ l.length → l.length - (i + (la - f + 2)) < n → Mto μ μ1 (lyR Λ a 0) (wr g (16 + 24 * k + 1 + f) ((l.drop (la + 2)).take (i - f))) → ∃ μ', lpX5_cut_140 Λ a (nI b) (nI k) (nI f) (nI la) (nI e) (nI (la - f + 2)) n μ1 (nI i) = some (nI b, μ') ∧ Mto μ μ' (lyR Λ a 0) (upd (upd (upd (wr g (16 + 24 * k + 1 + f) (l.drop (la + 2))) (16 + 24 * k) (nI (l.length - (la - f + 2)))) (16 + 24 * e) (nI (la - f + 1))) 2 (g 2 + 1)) := by
  have hN : lyN Λ (lyR Λ a 0) = 304 := P.2.1 0 (by omega)
  have hkk : k + 1 ≤ e ∨ e + 1 ≤ k := by omega
  intro n
  induction n with
  | zero => intro i μ1 h1 h2 hn; omega
  | succ n ih =>
    intro i μ1 hi hi2 hn h
    have hws : ((l.drop (la + 2)).take (i - f)).length ≤ l.length - (la + 2) := by simp; omega
    rw [lpX5_cut_140_s, raw_size hN hk, Option.bind_some, nI_add]
    have hsz : mA μ1 (lyR Λ a 0) (16 + 24 * k) = nI l.length := by rw [h.2.1, wr_out (by omega)]; exact hs
    rw [hsz]
    by_cases x : i + (la - f + 2) = l.length
    · rw [if_pos ((nI_leI (by omega) (by omega)).mpr (by omega)), Option.bind_some, pk_sub (show la - f + 2 ≤ l.length by omega), raw_setSize hN hk, Option.bind_some, pk_sub hfl, nI_1, raw_setSize hN he, Option.bind_some, hN, show (2 : Int32) = nI 2 from rfl, gd_t (nI_in (by omega) (by omega)), gd_t (nI_in (by omega) (by omega)), nI_clamp (by omega)]
      simp only [bnd]
      have hfull : (l.drop (la + 2)).take (i - f) = l.drop (la + 2) := List.take_of_length_le (by simp; omega)
      rw [hfull] at h
      have h3 := (h.st (16 + 24 * k) (nI (l.length - (la - f + 2)))).st (16 + 24 * e) (nI (la - f + 1))
      have h2v : mA (stA (stA μ1 (lyR Λ a 0) (16 + 24 * k) (nI (l.length - (la - f + 2)))) (lyR Λ a 0) (16 + 24 * e) (nI (la - f + 1))) (lyR Λ a 0) 2 = g 2 := by
        rw [h3.2.1]
        unfold upd
        rw [if_neg (by omega), if_neg (by omega), wr_out (by omega)]
      rw [h2v]
      exact ⟨_, rfl, h3.st _ _⟩
    · have hlt : i + (la - f + 2) < l.length := by omega
      have hpl : mA μ1 (lyR Λ a 0) (16 + 24 * k + 1 + (i + (la - f + 2))) = nI l[i + (la - f + 2)] := by
        rw [h.2.1, wr_out (by simp only [List.length_take, List.length_drop]; omega)]; exact hl _ hlt
      rw [if_neg (by rw [nI_leI (by omega) (by omega)]; omega), raw_place hN hk (by omega), Option.bind_some, hpl, raw_setPlace hN hk (by omega), Option.bind_some]
      simp only [bnd]
      rw [nI_1]
      refine ih (i + 1) _ (by omega) (by omega) (by omega) ?_
      have hi3 : i - f < (l.drop (la + 2)).length := by simp; omega
      have hv : l[i + (la - f + 2)] = (l.drop (la + 2))[i - f] := by
        rw [List.getElem_drop]
        congr 1
        omega
      have := h.st (16 + 24 * k + 1 + f + (i - f)) (nI (l.drop (la + 2))[i - f])
      rw [wr_take_s hi3, show i - f + 1 = i + 1 - f by omega, ← hv] at this
      rw [show 16 + 24 * k + 1 + i = 16 + 24 * k + 1 + f + (i - f) by omega]
      exact this
theorem md_cut1 (P : MdApart Λ a) {k e f la b : Nat} (hk : k < 12) (he : e < 12) (hke : k ≠ e) {l : List Nat} (hl23 : l.length ≤ 23) (hfl : f ≤ la) (hla : la + 1 < l.length) {g : Nat → Int32} (hl : ∀ (i : Nat) (hi : i < l.length), g (16 + 24 * k + 1 + i) = nI l[i]) (hs : g (16 + 24 * k) = nI l.length) : ∀ n i (μ1 : Mem), f ≤ i → i ≤ la + 1 → la + 1 - i < n → Mto μ μ1 (lyR Λ a 0) (wr g (16 + 24 * e + 1) (((l.take (la + 1)).drop f).take (i - f))) → ∃ μ', lpX5_cut_95 Λ a (nI b) (nI k) (nI f) (nI la) (nI e) n μ1 (nI i) = some (nI b, μ') ∧ Mto μ μ' (lyR Λ a 0) (upd (upd (upd (wr (wr g (16 + 24 * e + 1) ((l.take (la + 1)).drop f)) (16 + 24 * k + 1 + f) (l.drop (la + 2))) (16 + 24 * k) (nI (l.length - (la - f + 2)))) (16 + 24 * e) (nI (la - f + 1))) 2 (g 2 + 1)) := by
  have hN : lyN Λ (lyR Λ a 0) = 304 := P.2.1 0 (by omega)
  have hkk : k + 1 ≤ e ∨ e + 1 ≤ k := by omega
  have hYl : ((l.take (la + 1)).drop f).length = la + 1 - f := by simp; omega
  intro n
  induction n with
  | zero => intro i μ1 h1 h2 hn; omega
  | succ n ih =>
    intro i μ1 hi hi2 hn h
    rw [lpX5_cut_95_s]
    by_cases x : i = la + 1
    · subst x
      rw [if_pos ((nI_ltI (by omega) (by omega)).mpr (by omega)), pk_sub hfl, nI_lit2, nI_add]
      simp only [bnd]
      have hfull : ((l.take (la + 1)).drop f).take (la + 1 - f) = (l.take (la + 1)).drop f := List.take_of_length_le (by omega)
      rw [hfull] at h
      have hout : ∀ x, (x < 16 + 24 * e + 1 ∨ 16 + 24 * e + 24 ≤ x) → wr g (16 + 24 * e + 1) ((l.take (la + 1)).drop f) x = g x := fun x hx => wr_out (by rw [hYl]; omega)
      obtain ⟨μ', q1, q2⟩ := md_cut2 (μ := μ) (b := b) (g := wr g (16 + 24 * e + 1) ((l.take (la + 1)).drop f)) P hk he hke hl23 hfl hla (fun i hi => by rw [hout _ (by omega)]; exact hl i hi) (by rw [hout _ (by omega)]; exact hs) fuel f μ1 (by omega) (by omega) (by unfold fuel; omega) (by rw [Nat.sub_self, List.take_zero, wr_nil]; exact h)
      rw [hout 2 (by omega)] at q2
      exact ⟨μ', q1, q2⟩
    · have hil : i < l.length := by omega
      have hpl : mA μ1 (lyR Λ a 0) (16 + 24 * k + 1 + i) = nI l[i] := by
        rw [h.2.1, wr_out (by simp only [List.length_take, List.length_drop]; omega)]; exact hl i hil
      rw [if_neg (by rw [nI_ltI (by omega) (by omega)]; omega), raw_place hN hk (by omega), Option.bind_some, hpl, pk_sub hi, raw_setPlace hN he (by omega), Option.bind_some]
      simp only [bnd]
      rw [nI_1]
      refine ih (i + 1) _ (by omega) (by omega) (by omega) ?_
      have hi3 : i - f < ((l.take (la + 1)).drop f).length := by rw [hYl]; omega
      have hv : l[i] = ((l.take (la + 1)).drop f)[i - f] := by
        rw [List.getElem_drop, List.getElem_take]
        congr 1
        omega
      have := h.st (16 + 24 * e + 1 + (i - f)) (nI ((l.take (la + 1)).drop f)[i - f])
      rw [wr_take_s hi3, show i - f + 1 = i + 1 - f by omega, ← hv] at this
      exact this
theorem md_emptyL (M : NowIs Λ μ (lyR Λ a 0) w sl j c t) (S : SlOK w sl) : ∀ n i, i ≤ 12 → 12 - i < n → (∃ k, i ≤ k ∧ k < 12 ∧ sl k = []) → ∃ k, k < 12 ∧ sl k = [] ∧ lpX5_emptyRound_2 Λ μ a n (nI i) = some (nI k) := by
  intro n
  induction n with
  | zero => intro i h1 h2; omega
  | succ n ih =>
    intro i h1 h2 h3
    obtain ⟨k, hk1, hk2, hk3⟩ := h3
    have h23 := S.2.2.1 i (by omega)
    rw [lpX5_emptyRound_2_s, md_size M (by omega), Option.bind_some]
    by_cases e : sl i = []
    · rw [if_pos (by rw [e]; decide)]
      exact ⟨i, by omega, e, rfl⟩
    · have := List.length_pos_iff.mpr e
      rw [nI_lit0, if_neg (by rw [nI_leI (by omega) (by omega)]; omega)]
      simp only [bnd]
      rw [nI_1]
      refine ih (i + 1) (by omega) (by omega) ⟨k, ?_, hk2, hk3⟩
      have : k ≠ i := fun q => e (q ▸ hk3)
      omega
theorem md_empty (M : NowIs Λ μ (lyR Λ a 0) w sl j c t) (S : SlOK w sl) (h : cntTo 12 (rooted sl) < 12) : ∃ k, k < 12 ∧ sl k = [] ∧ sX5_emptyRound Λ μ a = some (nI k) := by
  unfold sX5_emptyRound
  rw [nI_lit0]
  refine md_emptyL M S fuel 0 (by omega) (by unfold fuel; omega) ?_
  apply Classical.byContradiction
  intro q
  have h1 : cntTo 12 (rooted sl) = 12 := by
    have : cntTo 12 (rooted sl) = sumTo 12 (fun _ => 1) := sumTo_congr (fun k hk => by
      unfold rooted
      rw [if_pos]
      rw [decide_eq_true_eq]
      exact fun z => q ⟨k, by omega, hk, z⟩)
    rw [this]; rfl
  omega
end MDM
