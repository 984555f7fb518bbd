/-! READING: the class takes one command, whole. -/
section RI
variable {Λ : Lay} {μ : Mem} {a i : Nat} {A B C tx : List Int32}
theorem fr_cmd (P : FrApart Λ a) (H : R3 Λ μ a A B C tx) (lA : A.length < 70) (lB : B.length < 70) (lC : C.length < 70) (e3 : mI μ (lyR Λ a 5) 3 = nI i) (hi : i < 2 ^ 20) : (∀ f, cmdF tx i = .inr f → ∃ μ1, sX3_takeCommand Λ μ (lyR Λ a 5) (lyR Λ a 4) = some (0, μ1) ∧ mI μ1 (lyR Λ a 5) 3 = nI f ∧ R3 Λ μ1 a A B C tx ∧ SCh Λ μ μ1 a) ∧ (∀ k v u m, cmdF tx i = .inl (k, v, u, m) → i < m ∧ m ≤ i + 6 ∧ ∃ μ1, sX3_takeCommand Λ μ (lyR Λ a 5) (lyR Λ a 4) = some (1, μ1) ∧ mI μ1 (lyR Λ a 5) 3 = nI m ∧ R3 Λ μ1 a (A ++ [k]) (B ++ [v]) (C ++ [u]) tx ∧ SCh Λ μ μ1 a) := by
  have hT : lyR Λ a 4 ≠ lyR Λ a 5 := (P.2.2.2.2.2.1 1 (by omega)).2.2
  have g0 : sX2_get Λ μ (lyR Λ a 4) (nI i) = some (chT tx i) := get_ch H.2.2.2 (by omega)
  have z1 : ¬ (1 : Int32) = 0 := by decide
  unfold sX3_takeCommand cmdF
  rw [e3, g0, Option.bind_some, isKind_eq, Option.bind_some]
  by_cases c1 : isK (chT tx i)
  · rw [if_pos c1, if_pos c1, if_neg z1]
    simp only [bnd]
    rw [nI_1]
    have F1 : SFr μ (stI μ (lyR Λ a 5) 3 (nI (i + 1))) (lyR Λ a 5) k34 := SFr.st (Or.inl rfl)
    have H1 := r3_sfr P F1 H
    have s1 : mI (stI μ (lyR Λ a 5) 3 (nI (i + 1))) (lyR Λ a 5) 3 = nI (i + 1) := mI_self
    match hv : numV tx (i + 1) with
    | none =>
      have q := fr_no (s := lyR Λ a 5) (T := lyR Λ a 4) H1.2.2.2 s1 (by omega) hv
      rw [q, Option.bind_some]
      dsimp only
      rw [if_pos rfl]
      refine ⟨fun f hf => ?_, fun k v u m hf => by cases hf⟩
      have : i + 1 = f := Sum.inr.inj hf
      subst this
      exact ⟨_, rfl, s1, H1, sfr_sch F1⟩
    | some (v, j) =>
      obtain ⟨μ2, q1, q2, q3, q4, q5, q6⟩ := fr_yes (s := lyR Λ a 5) (T := lyR Λ a 4) hT H1.2.2.2 s1 (by omega) hv
      have F2 := F1.tr q4
      have H2 := r3_sfr P F2 H
      rw [q1, Option.bind_some]
      dsimp only
      rw [if_neg z1, q3]
      by_cases cb : chT tx i = 98 ∨ chT tx i = 116
      · obtain ⟨μ3, a1, a2, a3, a4⟩ := add3R P H2 lA lB lC (chT tx i) v 0
        rw [if_pos cb]
        refine ⟨(fun f hf => by cases hf), fun k v' u m hf => ?_⟩
        have hf' := Sum.inl.inj hf
        simp only [Prod.mk.injEq] at hf'
        obtain ⟨rfl, rfl, rfl, rfl⟩ := hf'
        refine ⟨by omega, by omega, μ3, ?_, a4.trans q2, a2, (sfr_sch F2).tr a3⟩
        rcases cb with e | e
        · rw [if_pos e]; exact a1
        · rw [if_neg (by rw [e]; decide), if_pos e]; exact a1
      · rw [if_neg cb, if_neg (fun q => cb (Or.inl q)), if_neg (fun q => cb (Or.inr q)), q2]
        have g2 : sX2_get Λ μ2 (lyR Λ a 4) (nI j) = some (chT tx j) := get_ch H2.2.2.2 (by omega)
        rw [g2, Option.bind_some, fits_eq, Option.bind_some]
        by_cases cf : fitK (chT tx i) (chT tx j)
        · rw [if_pos cf, if_pos cf, if_neg z1, nI_1]
          have F3 : SFr μ (stI μ2 (lyR Λ a 5) 3 (nI (j + 1))) (lyR Λ a 5) k34 := F2.tr (SFr.st (Or.inl rfl))
          have H3 := r3_sfr P F3 H
          have s3 : mI (stI μ2 (lyR Λ a 5) 3 (nI (j + 1))) (lyR Λ a 5) 3 = nI (j + 1) := mI_self
          match hw : numV tx (j + 1) with
          | none =>
            have q := fr_no (s := lyR Λ a 5) (T := lyR Λ a 4) H3.2.2.2 s3 (by omega) hw
            rw [q, Option.bind_some]
            dsimp only
            rw [if_pos rfl]
            refine ⟨fun f hf => ?_, fun k v u m hf => by cases hf⟩
            have : j + 1 = f := Sum.inr.inj hf
            subst this
            exact ⟨_, rfl, s3, H3, sfr_sch F3⟩
          | some (u, m) =>
            obtain ⟨μ4, r1, r2, r3, r4, r5, r6⟩ := fr_yes (s := lyR Λ a 5) (T := lyR Λ a 4) hT H3.2.2.2 s3 (by omega) hw
            have F4 := F3.tr r4
            have H4 := r3_sfr P F4 H
            rw [r1, Option.bind_some]
            dsimp only
            rw [if_neg z1, r3]
            refine ⟨(fun f hf => by cases hf), fun k v' u' m' hf => ?_⟩
            have hf' := Sum.inl.inj hf
            simp only [Prod.mk.injEq] at hf'
            obtain ⟨rfl, rfl, hu, rfl⟩ := hf'
            obtain ⟨μ5, a1, a2, a3, a4⟩ := add3R P H4 lA lB lC (chT tx i) v u'
            refine ⟨by omega, by omega, μ5, ?_, a4.trans r2, a2, (sfr_sch F4).tr a3⟩
            by_cases cm : chT tx j = 45
            · rw [if_pos cm] at hu ⊢
              rw [hu]; exact a1
            · rw [if_neg cm] at hu ⊢
              rw [hu]; exact a1
        · rw [if_neg cf, if_neg cf, if_pos rfl]
          refine ⟨fun f hf => ?_, fun k v u m hf => by cases hf⟩
          have : j = f := Sum.inr.inj hf
          subst this
          exact ⟨_, rfl, q2, H2, sfr_sch F2⟩
  · rw [if_neg c1, if_neg c1, if_pos rfl]
    refine ⟨fun f hf => ?_, fun k v u m hf => by cases hf⟩
    have : i = f := Sum.inr.inj hf
    subst this
    exact ⟨_, rfl, e3, H, Chg.rf⟩
end RI
