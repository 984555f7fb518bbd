/-! READING: what one command of a text is; the class's three rows. -/
abbrev isK (k : Int32) : Prop := k = 98 ∨ k = 119 ∨ k = 106 ∨ k = 99 ∨ k = 116 ∨ k = 117
abbrev fitK (k s : Int32) : Prop := if k = 117 then s = 43 ∨ s = 45 else if k = 119 then s = 61 else s = 126
/-- a command: its kind, first, second number and the place behind it; or the place of the fault -/
def cmdF (tx : List Int32) (i : Nat) : (Int32 × Int32 × Int32 × Nat) ⊕ Nat :=
  if isK (chT tx i) then
    match numV tx (i + 1) with
    | none => .inr (i + 1)
    | some (v, j) => if chT tx i = 98 ∨ chT tx i = 116 then .inl (chT tx i, v, 0, j) else
        if fitK (chT tx i) (chT tx j) then
          match numV tx (j + 1) with
          | none => .inr (j + 1)
          | some (u, m) => .inl (chT tx i, v, if chT tx j = 45 then -u else u, m)
        else .inr j
  else .inr i
def scS (Λ : Lay) (a : Nat) (z : Nat) : Prop := ∃ k, 2 ≤ k ∧ k < 5 ∧ z = frW Λ a k
def scT (Λ : Lay) (a : Nat) (z k : Nat) : Prop := z = lyR Λ a 5 ∧ (k = 3 ∨ k = 4)
abbrev SCh (Λ : Lay) (μ μ1 : Mem) (a : Nat) : Prop := Chg Λ μ μ1 (scS Λ a) (scT Λ a)
section RG
variable {Λ : Lay} {μ μ1 : Mem} {a : Nat} {A B C : List Int32}
theorem isKind_eq (k : Int32) : sX3_isKind Λ μ k = some (if isK k then 1 else 0) := by
  unfold sX3_isKind
  by_cases h1 : k = 98
  · rw [if_pos h1, if_pos (Or.inl h1)]
  rw [if_neg h1]
  by_cases h2 : k = 119
  · rw [if_pos h2, if_pos (Or.inr (Or.inl h2))]
  rw [if_neg h2]
  by_cases h3 : k = 106
  · rw [if_pos h3, if_pos (Or.inr (Or.inr (Or.inl h3)))]
  rw [if_neg h3]
  by_cases h4 : k = 99
  · rw [if_pos h4, if_pos (Or.inr (Or.inr (Or.inr (Or.inl h4))))]
  rw [if_neg h4]
  by_cases h5 : k = 116
  · rw [if_pos h5, if_pos (Or.inr (Or.inr (Or.inr (Or.inr (Or.inl h5)))))]
  rw [if_neg h5]
  by_cases h6 : k = 117
  · rw [if_pos h6, if_pos (Or.inr (Or.inr (Or.inr (Or.inr (Or.inr h6)))))]
  rw [if_neg h6, if_neg]
  rintro (q | q | q | q | q | q)
  · exact h1 q
  · exact h2 q
  · exact h3 q
  · exact h4 q
  · exact h5 q
  · exact h6 q
theorem fits_eq (k s : Int32) : sX3_fits Λ μ k s = some (if fitK k s then 1 else 0) := by
  unfold sX3_fits fitK
  by_cases h1 : k = 117
  · simp only [if_pos h1]
    by_cases h2 : s = 43
    · rw [if_pos h2, if_pos (Or.inl h2)]
    · rw [if_neg h2]
      by_cases h3 : s = 45
      · rw [if_pos h3, if_pos (Or.inr h3)]
      · rw [if_neg h3, if_neg (fun q => q.elim h2 h3)]
  · simp only [if_neg h1]
    by_cases h2 : k = 119
    · simp only [if_pos h2]
      by_cases h3 : s = 61
      · rw [if_pos h3, if_pos h3]
      · rw [if_neg h3, if_neg h3]
    · simp only [if_neg h2]
      by_cases h3 : s = 126
      · rw [if_pos h3, if_pos h3]
      · rw [if_neg h3, if_neg h3]
theorem sch_w {k : Nat} (h1 : 2 ≤ k) (h2 : k < 5) (c : Chg Λ μ μ1 (fun z => z = frW Λ a k) noT) : SCh Λ μ μ1 a := c.wk (fun _ q => ⟨k, h1, h2, q⟩) (fun _ _ q => q.elim)
theorem add3 (P : FrApart Λ a) (hA : RowIs Λ μ (frW Λ a 2) A) (hB : RowIs Λ μ (frW Λ a 3) B) (hC : RowIs Λ μ (frW Λ a 4) C) (lA : A.length < 70) (lB : B.length < 70) (lC : C.length < 70) (k v u : Int32) : ∃ μ1, ((sX2_add Λ μ (lyR Λ (lyR Λ a 5) 0) k).bind (fun q9 => (sX2_add Λ q9 (lyR Λ (lyR Λ a 5) 1) v).bind (fun q10 => (sX2_add Λ q10 (lyR Λ (lyR Λ a 5) 2) u).bind (fun q11 => some ((1 : Int32), q11))))) = some (1, μ1) ∧ RowIs Λ μ1 (frW Λ a 2) (A ++ [k]) ∧ RowIs Λ μ1 (frW Λ a 3) (B ++ [v]) ∧ RowIs Λ μ1 (frW Λ a 4) (C ++ [u]) ∧ SCh Λ μ μ1 a := by
  have cap : ∀ j, 1 ≤ j → j < 5 → lyN Λ (lyR Λ (frW Λ a j) 0) = 70 := P.2.2.2.2.2.2.2.2.2.2.2
  obtain ⟨n1, a1, b1, c1⟩ := row_add hA (by rw [cap 2 (by omega) (by omega)]; exact lA) k
  have hB1 := w_other P (k := 2) (by omega) c1 (j := 3) (by omega) (by omega) hB
  have hC1 := w_other P (k := 2) (by omega) c1 (j := 4) (by omega) (by omega) hC
  obtain ⟨n2, a2, b2, c2⟩ := row_add hB1 (by rw [cap 3 (by omega) (by omega)]; exact lB) v
  have hA2 := w_other P (k := 3) (by omega) c2 (j := 2) (by omega) (by omega) b1
  have hC2 := w_other P (k := 3) (by omega) c2 (j := 4) (by omega) (by omega) hC1
  obtain ⟨n3, a3, b3, c3⟩ := row_add hC2 (by rw [cap 4 (by omega) (by omega)]; exact lC) u
  have hA3 := w_other P (k := 4) (by omega) c3 (j := 2) (by omega) (by omega) hA2
  have hB3 := w_other P (k := 4) (by omega) c3 (j := 3) (by omega) (by omega) b2
  have a1' : sX2_add Λ μ (lyR Λ (lyR Λ a 5) 0) k = some n1 := a1
  have a2' : sX2_add Λ n1 (lyR Λ (lyR Λ a 5) 1) v = some n2 := a2
  have a3' : sX2_add Λ n2 (lyR Λ (lyR Λ a 5) 2) u = some n3 := a3
  rw [a1', Option.bind_some, a2', Option.bind_some, a3', Option.bind_some]
  exact ⟨n3, rfl, hA3, hB3, b3, ((sch_w (by omega) (by omega) c1).tr (sch_w (by omega) (by omega) c2)).tr (sch_w (by omega) (by omega) c3)⟩
end RG
