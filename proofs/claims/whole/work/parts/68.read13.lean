/-! READING: what a text is: its commands, or the place of its fault. -/
abbrev Cmd := Int32 × Int32 × Int32
def parseF (tx : List Int32) : Nat → Nat → (List Cmd) ⊕ Nat
  | 0, i => .inr i
  | n + 1, i => match cmdF tx i with
    | .inr f => .inr f
    | .inl (k, v, u, m) => if m = tx.length then .inl [(k, v, u)] else if chT tx m = 59 then (match parseF tx n (m + 1) with | .inr f => .inr f | .inl cs => .inl ((k, v, u) :: cs)) else .inr m
section RQ
variable {Λ : Lay} {a b n i f : Nat} {tx : List Int32}
theorem parse_inr (h : parseF tx (n + 1) i = .inr f) : cmdF tx i = .inr f ∨ ∃ k v u m, cmdF tx i = .inl (k, v, u, m) ∧ m ≠ tx.length ∧ ((chT tx m ≠ 59 ∧ f = m) ∨ (chT tx m = 59 ∧ parseF tx n (m + 1) = .inr f)) := by
  unfold parseF at h
  match hc : cmdF tx i with
  | .inr g =>
    rw [hc] at h
    dsimp only at h
    exact Or.inl (congrArg Sum.inr (Sum.inr.inj h))
  | .inl (k, v, u, m) =>
    rw [hc] at h
    dsimp only at h
    refine Or.inr ⟨k, v, u, m, rfl, ?_⟩
    by_cases c1 : m = tx.length
    · rw [if_pos c1] at h; cases h
    · rw [if_neg c1] at h
      refine ⟨c1, ?_⟩
      by_cases c2 : chT tx m = 59
      · rw [if_pos c2] at h
        refine Or.inr ⟨c2, ?_⟩
        match hp : parseF tx n (m + 1) with
        | .inr g => rw [hp] at h; dsimp only at h; exact h
        | .inl cs => rw [hp] at h; dsimp only at h; cases h
      · rw [if_neg c2] at h
        exact Or.inl ⟨c2, (Sum.inr.inj h).symm⟩
theorem parse_inl {cs : List Cmd} (h : parseF tx (n + 1) i = .inl cs) : ∃ k v u m cs', cmdF tx i = .inl (k, v, u, m) ∧ cs = (k, v, u) :: cs' ∧ ((m = tx.length ∧ cs' = []) ∨ (m ≠ tx.length ∧ chT tx m = 59 ∧ parseF tx n (m + 1) = .inl cs')) := by
  unfold parseF at h
  match hc : cmdF tx i with
  | .inr g =>
    rw [hc] at h
    dsimp only at h
    cases h
  | .inl (k, v, u, m) =>
    rw [hc] at h
    dsimp only at h
    by_cases c1 : m = tx.length
    · rw [if_pos c1] at h
      exact ⟨k, v, u, m, [], rfl, (Sum.inl.inj h).symm, Or.inl ⟨c1, rfl⟩⟩
    · rw [if_neg c1] at h
      by_cases c2 : chT tx m = 59
      · rw [if_pos c2] at h
        match hp : parseF tx n (m + 1) with
        | .inr g => rw [hp] at h; dsimp only at h; cases h
        | .inl cs' =>
          rw [hp] at h
          dsimp only at h
          exact ⟨k, v, u, m, cs', rfl, (Sum.inl.inj h).symm, Or.inr ⟨c1, c2, hp⟩⟩
      · rw [if_neg c2] at h; cases h
theorem cmdF_le (h : cmdF tx i = .inr f) : f ≤ i + 5 := by
  unfold cmdF at h
  by_cases c1 : isK (chT tx i)
  · rw [if_pos c1] at h
    match hv : numV tx (i + 1) with
    | none =>
      rw [hv] at h
      dsimp only at h
      have : i + 1 = f := Sum.inr.inj h
      omega
    | some (v, j) =>
      have := num_le hv
      rw [hv] at h
      dsimp only at h
      by_cases cb : chT tx i = 98 ∨ chT tx i = 116
      · rw [if_pos cb] at h; cases h
      · rw [if_neg cb] at h
        by_cases cf : fitK (chT tx i) (chT tx j)
        · rw [if_pos cf] at h
          match hw : numV tx (j + 1) with
          | none =>
            rw [hw] at h
            dsimp only at h
            have : j + 1 = f := Sum.inr.inj h
            omega
          | some (u, m) => rw [hw] at h; dsimp only at h; cases h
        · rw [if_neg cf] at h
          have : j = f := Sum.inr.inj h
          omega
  · rw [if_neg c1] at h
    have : i = f := Sum.inr.inj h
    omega
theorem cmdF_out (h : tx.length ≤ i) : cmdF tx i = .inr i := by
  have : chT tx i = -1 := by
    unfold chT
    rw [List.getD_eq_getElem?_getD, List.getElem?_eq_none (by omega)]; rfl
  unfold cmdF
  rw [this, if_neg (by decide)]
theorem cmdF_kn {k v u : Int32} {m : Nat} (h : cmdF tx i = .inl (k, v, u, m)) : m ≤ tx.length := by
  unfold cmdF at h
  by_cases c1 : isK (chT tx i)
  · rw [if_pos c1] at h
    match hv : numV tx (i + 1) with
    | none => rw [hv] at h; dsimp only at h; cases h
    | some (v, j) =>
      have := num_le hv
      rw [hv] at h
      dsimp only at h
      by_cases cb : chT tx i = 98 ∨ chT tx i = 116
      · rw [if_pos cb] at h
        have := Sum.inl.inj h
        simp only [Prod.mk.injEq] at this
        omega
      · rw [if_neg cb] at h
        by_cases cf : fitK (chT tx i) (chT tx j)
        · rw [if_pos cf] at h
          match hw : numV tx (j + 1) with
          | none => rw [hw] at h; dsimp only at h; cases h
          | some (u, m) =>
            have := num_le hw
            rw [hw] at h
            dsimp only at h
            have := Sum.inl.inj h
            simp only [Prod.mk.injEq] at this
            omega
        · rw [if_neg cf] at h; cases h
  · rw [if_neg c1] at h; cases h
theorem cmdF_gt {k v u : Int32} {m : Nat} (h : cmdF tx i = .inl (k, v, u, m)) : i < m := by
  unfold cmdF at h
  by_cases c1 : isK (chT tx i)
  · rw [if_pos c1] at h
    match hv : numV tx (i + 1) with
    | none => rw [hv] at h; dsimp only at h; cases h
    | some (v, j) =>
      have := num_le hv
      rw [hv] at h
      dsimp only at h
      by_cases cb : chT tx i = 98 ∨ chT tx i = 116
      · rw [if_pos cb] at h
        have := Sum.inl.inj h
        simp only [Prod.mk.injEq] at this
        omega
      · rw [if_neg cb] at h
        by_cases cf : fitK (chT tx i) (chT tx j)
        · rw [if_pos cf] at h
          match hw : numV tx (j + 1) with
          | none => rw [hw] at h; dsimp only at h; cases h
          | some (u, m) =>
            have := num_le hw
            rw [hw] at h
            dsimp only at h
            have := Sum.inl.inj h
            simp only [Prod.mk.injEq] at this
            omega
        · rw [if_neg cf] at h; cases h
  · rw [if_neg c1] at h; cases h
/-- the class takes all commands -/
theorem fr_parse (P : FrApart Λ a) (hl : tx.length ≤ 70) : ∀ n q fl i (μ : Mem) (A B C : List Int32), q + n = 70 → n < fl → i ≤ tx.length + 1 → R3 Λ μ a A B C tx → A.length = q → B.length = q → C.length = q → mI μ (lyR Λ a 5) 3 = nI i → (∀ f, parseF tx n i = .inr f → f < 2 ^ 20 ∧ ∃ μ1 A' B' C', lpX3_faultIn_37 Λ (lyR Λ a 5) (lyR Λ a 4) fl μ (nI q) = some (nI f, μ1) ∧ R3 Λ μ1 a A' B' C' tx ∧ SCh Λ μ μ1 a) ∧ (∀ cs, parseF tx n i = .inl cs → ∃ μ1, lpX3_faultIn_37 Λ (lyR Λ a 5) (lyR Λ a 4) fl μ (nI q) = some (-1, μ1) ∧ R3 Λ μ1 a (A ++ cs.map (fun c => c.1)) (B ++ cs.map (fun c => c.2.1)) (C ++ cs.map (fun c => c.2.2)) tx ∧ SCh Λ μ μ1 a) := by
  intro n
  induction n with
  | zero =>
    intro q fl i μ A B C hq hf hi H lA lB lC e3
    obtain ⟨fl', rfl⟩ : ∃ k, fl = k + 1 := ⟨fl - 1, by omega⟩
    refine ⟨fun f h => ?_, fun cs h => by cases h⟩
    have : i = f := Sum.inr.inj h
    subst this
    refine ⟨by omega, μ, A, B, C, ?_, H, Chg.rf⟩
    rw [lpX3_faultIn_37_s, if_pos (by rw [show q = 70 by omega]; decide), e3]
  | succ n ih =>
    intro q fl i μ A B C hq hf hi H lA lB lC e3
    obtain ⟨fl', rfl⟩ : ∃ k, fl = k + 1 := ⟨fl - 1, by omega⟩
    obtain ⟨c1, c2⟩ := fr_cmd P H (by omega) (by omega) (by omega) e3 (by omega)
    have z1 : ¬ (1 : Int32) = 0 := by decide
    rw [lpX3_faultIn_37_s, if_neg (by rw [show (70 : Int32) = nI 70 from rfl, nI_leI (by omega) (by omega)]; omega)]
    refine ⟨fun f h => ?_, fun cs h => ?_⟩
    · rcases parse_inr h with e | ⟨k, v, u, m, e, hm, hh⟩
      · obtain ⟨μ1, r1, r2, r3, r4⟩ := c1 f e
        have := cmdF_le e
        rw [r1, Option.bind_some, if_pos rfl]
        exact ⟨by omega, μ1, A, B, C, by rw [r2], r3, r4⟩
      · obtain ⟨h1, h2, μ1, r1, r2, r3, r4⟩ := c2 k v u m e
        have hml := cmdF_kn e
        have L : sX2_length Λ μ1 (lyR Λ a 4) = some (nI tx.length) := row_len r3.2.2.2
        have g : sX2_get Λ μ1 (lyR Λ a 4) (nI m) = some (chT tx m) := get_ch r3.2.2.2 (by omega)
        rw [r1, Option.bind_some]
        dsimp only
        rw [if_neg z1, L, Option.bind_some, r2, if_neg (by rw [nI_eq (by omega) (by omega)]; exact hm), g, Option.bind_some]
        rcases hh with ⟨d1, d2⟩ | ⟨d1, d2⟩
        · rw [if_neg d1, d2]
          exact ⟨by omega, μ1, _, _, _, rfl, r3, r4⟩
        · rw [if_pos d1]
          simp only [bnd]
          rw [nI_1, nI_1]
          have F : SFr μ1 (stI μ1 (lyR Λ a 5) 3 (nI (m + 1))) (lyR Λ a 5) k34 := SFr.st (Or.inl rfl)
          obtain ⟨i1, i2⟩ := ih (q + 1) fl' (m + 1) (stI μ1 (lyR Λ a 5) 3 (nI (m + 1))) (A ++ [k]) (B ++ [v]) (C ++ [u]) (by omega) (by omega) (by omega) (r3_sfr P F r3) (by simp; omega) (by simp; omega) (by simp; omega) mI_self
          obtain ⟨hb, μ2, A', B', C', s1, s2, s3⟩ := i1 f d2
          exact ⟨hb, μ2, A', B', C', s1, s2, (r4.tr (sfr_sch F)).tr s3⟩
    · obtain ⟨k, v, u, m, cs', e, ecs, hh⟩ := parse_inl h
      obtain ⟨h1, h2, μ1, r1, r2, r3, r4⟩ := c2 k v u m e
      have hml := cmdF_kn e
      have L : sX2_length Λ μ1 (lyR Λ a 4) = some (nI tx.length) := row_len r3.2.2.2
      have g : sX2_get Λ μ1 (lyR Λ a 4) (nI m) = some (chT tx m) := get_ch r3.2.2.2 (by omega)
      rw [r1, Option.bind_some]
      dsimp only
      rw [if_neg z1, L, Option.bind_some, r2]
      subst ecs
      rcases hh with ⟨d1, d2⟩ | ⟨d1, d2, d3⟩
      · rw [if_pos (by rw [d1])]
        subst d2
        exact ⟨μ1, rfl, r3, r4⟩
      · rw [if_neg (by rw [nI_eq (by omega) (by omega)]; exact d1), g, Option.bind_some, if_pos d2]
        simp only [bnd]
        rw [nI_1, nI_1]
        have F : SFr μ1 (stI μ1 (lyR Λ a 5) 3 (nI (m + 1))) (lyR Λ a 5) k34 := SFr.st (Or.inl rfl)
        obtain ⟨i1, i2⟩ := ih (q + 1) fl' (m + 1) (stI μ1 (lyR Λ a 5) 3 (nI (m + 1))) (A ++ [k]) (B ++ [v]) (C ++ [u]) (by omega) (by omega) (by omega) (r3_sfr P F r3) (by simp; omega) (by simp; omega) (by simp; omega) mI_self
        obtain ⟨μ2, s1, s2, s3⟩ := i2 cs' d3
        refine ⟨μ2, s1, ?_, (r4.tr (sfr_sch F)).tr s3⟩
        simp only [List.append_assoc, List.singleton_append] at s2
        exact s2
end RQ
