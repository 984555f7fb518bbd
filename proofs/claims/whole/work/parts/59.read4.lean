/-! READING: the class takes one command. -/
section RH
variable {Λ : Lay} {μ μ1 : Mem} {a i : Nat} {A B C tx : List Int32}
def R3 (Λ : Lay) (μ : Mem) (a : Nat) (A B C tx : List Int32) : Prop := RowIs Λ μ (frW Λ a 2) A ∧ RowIs Λ μ (frW Λ a 3) B ∧ RowIs Λ μ (frW Λ a 4) C ∧ RowIs Λ μ (frW Λ a 1) tx
theorem sfr_sch (h : SFr μ μ1 (lyR Λ a 5) k34) : SCh Λ μ μ1 a := ⟨fun z k _ h2 => h.1 z k h2, fun z _ => h.arr z⟩
theorem r3_sfr (P : FrApart Λ a) (F : SFr μ μ1 (lyR Λ a 5) k34) (H : R3 Λ μ a A B C tx) : R3 Λ μ1 a A B C tx :=
  ⟨F.row (P.2.2.2.2.2.1 2 (by omega)).2.2 H.1, F.row (P.2.2.2.2.2.1 3 (by omega)).2.2 H.2.1, F.row (P.2.2.2.2.2.1 4 (by omega)).2.2 H.2.2.1, F.row (P.2.2.2.2.2.1 1 (by omega)).2.2 H.2.2.2⟩
theorem add3R (P : FrApart Λ a) (H : R3 Λ μ a A B C tx) (lA : A.length < 70) (lB : B.length < 70) (lC : C.length < 70) (k v u : Int32) : ∃ μ1, ((sX2_add Λ μ (lyR Λ (lyR Λ a 5) 0) k).bind (fun q9 => (sX2_add Λ q9 (lyR Λ (lyR Λ a 5) 1) v).bind (fun q10 => (sX2_add Λ q10 (lyR Λ (lyR Λ a 5) 2) u).bind (fun q11 => some ((1 : Int32), q11))))) = some (1, μ1) ∧ R3 Λ μ1 a (A ++ [k]) (B ++ [v]) (C ++ [u]) tx ∧ SCh Λ μ μ1 a ∧ mI μ1 (lyR Λ a 5) 3 = mI μ (lyR Λ a 5) 3 := by
  obtain ⟨μ1, q1, q2, q3, q4, q5⟩ := add3 P H.1 H.2.1 H.2.2.1 lA lB lC k v u
  have hT : RowIs Λ μ1 (frW Λ a 1) tx := q5.row H.2.2.2 (fun ⟨j, h1, h2, e⟩ => (P.2.2.2.2.1 1 j (by omega) h2 (by omega)).1 e) (fun g ⟨j, h1, h2, e⟩ => by rw [e]; exact (P.2.2.2.2.1 1 j (by omega) h2 (by omega)).2) (fun q => (P.2.2.2.2.2.1 1 (by omega)).2.2 q.1)
  have h3 : mI μ1 (lyR Λ a 5) 3 = mI μ (lyR Λ a 5) 3 := by
    -- the rows' own numbers alone changed
    have cap : ∀ j, 1 ≤ j → j < 5 → lyN Λ (lyR Λ (frW Λ a j) 0) = 70 := P.2.2.2.2.2.2.2.2.2.2.2
    obtain ⟨n1, a1, b1, c1⟩ := row_add H.1 (by rw [cap 2 (by omega) (by omega)]; exact lA) k
    have hB1 := w_other P (k := 2) (by omega) c1 (j := 3) (by omega) (by omega) H.2.1
    have hC1 := w_other P (k := 2) (by omega) c1 (j := 4) (by omega) (by omega) H.2.2.1
    obtain ⟨n2, a2, b2, c2⟩ := row_add hB1 (by rw [cap 3 (by omega) (by omega)]; exact lB) v
    have hC2 := w_other P (k := 3) (by omega) c2 (j := 4) (by omega) (by omega) hC1
    obtain ⟨n3, a3, b3, c3⟩ := row_add hC2 (by rw [cap 4 (by omega) (by omega)]; exact lC) u
    have a1' : sX2_add Λ μ (lyR Λ (lyR Λ a 5) 0) k = some n1 := a1
    have a2' : sX2_add Λ n1 (lyR Λ (lyR Λ a 5) 1) v = some n2 := a2
    have a3' : sX2_add Λ n2 (lyR Λ (lyR Λ a 5) 2) u = some n3 := a3
    rw [a1', Option.bind_some, a2', Option.bind_some, a3', Option.bind_some] at q1
    have e : n3 = μ1 := (Prod.mk.inj (Option.some.inj q1)).2
    rw [← e, w_int P (k := 4) (by omega) c3 (Or.inr (Or.inr rfl)), w_int P (k := 3) (by omega) c2 (Or.inr (Or.inr rfl)), w_int P (k := 2) (by omega) c1 (Or.inr (Or.inr rfl))]
  exact ⟨μ1, q1, ⟨q2, q3, q4, hT⟩, q5, h3⟩
end RH
