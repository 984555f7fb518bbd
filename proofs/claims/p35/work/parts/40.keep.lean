/-! EVERY CHANGE KEEPS WHAT HOLDS: rounds. -/
theorem prs_ins (A : List Nat) (b : Nat) (B : List Nat) {G t t' : List Nat} {g : Nat} (h1 : G = g :: t) (h2 : G = t' ++ [g]) (x y : Nat) : (x, y) ∈ prs (A ++ b :: (G ++ b :: B)) ↔ (x, y) ∈ prs (A ++ b :: B) ∨ (x, y) ∈ prs G ∨ (x = b ∧ y = g) ∨ (x = g ∧ y = b) := by
  have e1 : prs (b :: (G ++ b :: B)) = (b, g) :: prs (G ++ b :: B) := by rw [h1]; rfl
  have e2 : prs (G ++ b :: B) = prs G ++ (g, b) :: prs (b :: B) := by
    rw [h2, List.append_assoc]
    show prs (t' ++ g :: (b :: B)) = _
    rw [prs_app t' g (b :: B)]
    rfl
  rw [prs_app A b (G ++ b :: B), prs_app A b B, e1, e2]
  simp only [List.mem_append, List.mem_cons, Prod.mk.injEq]
  grind
theorem prs_rot {A' B B' : List Nat} {r b : Nat} (e : b :: B = B' ++ [r]) (x y : Nat) : (x, y) ∈ prs (b :: B ++ (A' ++ [b])) ↔ (x, y) ∈ prs (r :: A' ++ b :: B) := by
  have e1 : prs (b :: B ++ (A' ++ [b])) = prs (b :: B) ++ prs (r :: (A' ++ [b])) := by
    rw [e, List.append_assoc]
    show prs (B' ++ r :: (A' ++ [b])) = _
    rw [prs_app]
  have e2 : prs (r :: A' ++ b :: B) = prs (r :: A' ++ [b]) ++ prs (b :: B) := prs_app _ _ _
  rw [e1, e2]
  simp only [List.mem_append, List.cons_append]
  exact Or.comm
theorem fi_split {l : List Nat} {b : Nat} (hb : b ∈ l) : l = l.take (fi l b) ++ b :: l.drop (fi l b + 1) := by
  have h := fi_lt hb
  have h2 : l.drop (fi l b) = b :: l.drop (fi l b + 1) := by
    rw [drop_cons h, fi_get hb]
  rw [← h2, List.take_append_drop]
theorem turn_all {l t : List Nat} {r b : Nat} (h : Tour l) (er : l = r :: t) (hb : b ∈ l) (hne : b ≠ r) : Tour (turnL l b) ∧ (∃ t, turnL l b = b :: t) ∧ (∀ x, x ∈ turnL l b ↔ x ∈ l) ∧ ∀ x y, (x, y) ∈ prs (turnL l b) ↔ (x, y) ∈ prs l := by
  have h0 : fi l b ≠ 0 := fun q => hne ((par_root er).mp q)
  have hlt := fi_lt hb
  have hsp := fi_split hb
  have hd : l.drop (fi l b) = b :: l.drop (fi l b + 1) := by rw [drop_cons hlt, fi_get hb]
  obtain ⟨m, hm⟩ : ∃ m, fi l b = m + 1 := ⟨fi l b - 1, by omega⟩
  have hA : l.take (fi l b) = r :: t.take m := by rw [hm, er, List.take_succ_cons]
  have htk : (l.take (fi l b + 1)).drop 1 = t.take m ++ [b] := by
    have : l.take (fi l b + 1) = l.take (fi l b) ++ [b] := by
      rw [List.take_succ_eq_append_getElem hlt, fi_get hb]
    rw [this, hA]
    rfl
  have hT : turnL l b = b :: l.drop (fi l b + 1) ++ (t.take m ++ [b]) := by unfold turnL; rw [hd, htk]
  obtain ⟨B', hB'⟩ : ∃ B', b :: l.drop (fi l b + 1) = B' ++ [r] := by
    obtain ⟨t', ht'⟩ := T_last (er ▸ h : Tour (r :: t))
    rw [← er] at ht'
    have hl2 : l.length = t'.length + 1 := by rw [ht']; simp
    have hfl : fi l b < t'.length := by
      apply Classical.byContradiction
      intro q
      have e1 : fi l b = t'.length := by omega
      have e2 := fi_get hb
      have : l[fi l b]? = some r := by
        rw [e1]
        conv => lhs; rw [ht']
        simp
      rw [List.getElem?_eq_getElem hlt, e2] at this
      exact hne (Option.some.inj this)
    rw [← hd]
    have hgen : ∀ f, f ≤ t'.length → l.drop f = t'.drop f ++ [r] := fun f hf => by
      rw [ht', List.drop_append_of_le_length hf]
    exact ⟨t'.drop (fi l b), hgen _ (by omega)⟩
  have hl : l = r :: t.take m ++ b :: l.drop (fi l b + 1) := by rw [← hA]; exact hsp
  have hrot := T_rot l h (r :: t.take m) b (l.drop (fi l b + 1)) hl
  refine ⟨?_, ⟨_, hT⟩, fun x => ?_, fun x y => ?_⟩
  · rw [hT]; exact hrot
  · rw [hT]
    have hr : r ∈ b :: l.drop (fi l b + 1) := by rw [hB']; simp
    have hx : x ∈ l ↔ x ∈ r :: t.take m ++ b :: l.drop (fi l b + 1) := by rw [← hl]
    rw [hx]
    simp only [List.mem_append, List.mem_cons, List.mem_singleton] at hr ⊢
    constructor
    · rintro ((q | q) | (q | q))
      · exact Or.inr (Or.inl q)
      · exact Or.inr (Or.inr q)
      · exact Or.inl (Or.inr q)
      · rcases q with q | q
        · exact Or.inr (Or.inl q)
        · cases q
    · rintro ((q | q) | (q | q))
      · subst q
        rcases hr with q | q
        · exact Or.inl (Or.inl q)
        · exact Or.inl (Or.inr q)
      · exact Or.inr (Or.inl q)
      · exact Or.inl (Or.inl q)
      · exact Or.inl (Or.inr q)
  · rw [hT, prs_rot hB' x y, ← hl]
theorem ins_all {l G t : List Nat} {b g : Nat} (h : Tour l) (hb : b ∈ l) (hG : Tour G) (e1 : G = g :: t) (hd : ∀ y ∈ G, y ∉ l) : Tour (insL l b G) ∧ (∀ r s, l = r :: s → ∃ s', insL l b G = r :: s') ∧ (∀ x, x ∈ insL l b G ↔ x ∈ l ∨ x ∈ G) ∧ ∀ x y, (x, y) ∈ prs (insL l b G) ↔ (x, y) ∈ prs l ∨ (x, y) ∈ prs G ∨ (x = b ∧ y = g) ∨ (x = g ∧ y = b) := by
  have hlt := fi_lt hb
  have hsp := fi_split hb
  have hI : insL l b G = l.take (fi l b) ++ b :: (G ++ b :: l.drop (fi l b + 1)) := by
    unfold insL
    have : l.take (fi l b + 1) = l.take (fi l b) ++ [b] := by rw [List.take_succ_eq_append_getElem hlt, fi_get hb]
    rw [this]
    simp
  obtain ⟨t'', ht''⟩ := T_last (e1 ▸ hG : Tour (g :: t))
  rw [← e1] at ht''
  refine ⟨?_, fun r s e => ?_, fun x => ?_, fun x y => ?_⟩
  · rw [hI]; exact T_ins l h _ b _ G hsp hG hd
  · unfold insL
    rw [e, List.take_succ_cons]
    exact ⟨_, rfl⟩
  · have hx : x ∈ l ↔ x ∈ l.take (fi l b) ++ b :: l.drop (fi l b + 1) := by rw [← hsp]
    rw [hI, hx]
    simp only [List.mem_append, List.mem_cons]
    grind
  · rw [hI, prs_ins _ b _ e1 ht'' x y, ← hsp]
theorem cut_all {l t : List Nat} {r b : Nat} (h : Tour l) (er : l = r :: t) (hb : b ∈ l) (hne : b ≠ r) : Tour (cutA l b) ∧ Tour (cutB l b) ∧ (∃ s, cutA l b = r :: s) ∧ (∃ s, cutB l b = b :: s) ∧ (∀ x, x ∈ l ↔ x ∈ cutA l b ∨ x ∈ cutB l b) ∧ (∀ x, x ∈ cutA l b → x ∉ cutB l b) ∧ li l b + 1 < l.length ∧ par l b ∈ cutA l b ∧ ∀ x y, (x, y) ∈ prs l ↔ (x, y) ∈ prs (cutA l b) ∨ (x, y) ∈ prs (cutB l b) ∨ (x = par l b ∧ y = b) ∨ (x = b ∧ y = par l b) := by
  have h0 : fi l b ≠ 0 := fun q => hne ((par_root er).mp q)
  obtain ⟨q, A, Y, B, ep, D, hT⟩ := par_spec h hb h0
  have D' := D
  obtain ⟨el, hY, ⟨Y', eY⟩, hdis, -⟩ := D'
  obtain ⟨p1, p2⟩ := dcp_pos D
  have hlen : l.length = A.length + 1 + Y.length + (B.length + 1) := by rw [el]; simp; omega
  rw [List.length_append, List.length_cons, List.length_nil] at p1 p2
  have hY1 : 0 < Y.length := by rw [eY]; simp
  have eA : cutA l b = A ++ q :: B := by
    unfold cutA
    have e1 : l.take (fi l b) = A ++ [q] := by
      rw [p1, el, List.append_assoc, List.take_append_of_le_length (by simp), List.take_of_length_le (by simp)]
    have e2 : l.drop (li l b + 2) = B := by
      rw [show li l b + 2 = (A ++ [q] ++ Y).length + 1 by simp; omega, el, List.drop_append]
      simp
    rw [e1, e2]; simp
  have eB : cutB l b = Y := dcp_cut D
  obtain ⟨t'', ht''⟩ := T_last (eY ▸ hY : Tour (b :: Y'))
  rw [← eY] at ht''
  have el2 : l = A ++ q :: (Y ++ q :: B) := by rw [el]; simp
  refine ⟨by rw [eA]; exact hT, by rw [eB]; exact hY, ?_, ⟨Y', by rw [eB]; exact eY⟩, fun x => ?_, fun x hx => ?_, by omega, by rw [eA, ep]; simp, fun x y => ?_⟩
  · rw [eA]
    cases A with
    | nil =>
      rw [el2] at er
      simp only [List.nil_append, List.cons.injEq] at er
      exact ⟨B, by rw [er.1]; rfl⟩
    | cons a' A' =>
      rw [el2] at er
      simp only [List.cons_append, List.cons.injEq] at er
      exact ⟨A' ++ q :: B, by rw [er.1]; rfl⟩
  · have hx : x ∈ l ↔ x ∈ A ++ q :: (Y ++ q :: B) := by rw [← el2]
    rw [eA, eB, hx]
    simp only [List.mem_append, List.mem_cons]
    grind
  · rw [eA] at hx
    rw [eB]
    intro hxy
    have := hdis x hxy
    simp only [List.mem_append, List.mem_cons, List.mem_singleton] at hx this
    grind
  · have hx : (x, y) ∈ prs l ↔ (x, y) ∈ prs (A ++ q :: (Y ++ q :: B)) := by rw [← el2]
    rw [eA, eB, hx, prs_ins A q B eY ht'' x y, ep]
