/-! READING: the reference reads a rise. -/
section RK
variable {Λ : Lay} {μ : Mem} {b j : Nat} {tx : List Int32}
theorem riseR_f (h : mI μ b 20 = 1) : ∃ μ1, sX5_readRise Λ μ b = some μ1 ∧ mI μ1 b 20 = 1 ∧ mI μ1 b 16 = mI μ b 16 ∧ SFr μ μ1 b k18 := by
  unfold sX5_readRise
  obtain ⟨μ1, q1, q2, q3, q4⟩ := must_f (Λ := Λ) 43 h
  obtain ⟨v, μ2, s1, s2, s3, s4⟩ := mdn_f (Λ := Λ) q2
  rw [sees_f _ _ (by rw [h]; decide), Option.bind_some, if_pos rfl, q1, Option.bind_some, s1, Option.bind_some]
  simp only [bnd]
  rw [if_pos trivial]
  exact ⟨_, rfl, (mI_ne (by omega)).trans s2, (mI_ne (by omega)).trans (s3.trans q3), ((q4.wk k16_18).tr (s4.wk k16_18)).tr (SFr.st (Or.inr (Or.inl rfl)))⟩
theorem riseR_no (T : TxtM Λ μ b tx) (h : mI μ b 20 = 0) (e : mI μ b 16 = nI j) (hj : j < 2 ^ 20) (h1 : chT tx j ≠ 43) (h2 : chT tx j ≠ 45) : ∃ μ1, sX5_readRise Λ μ b = some μ1 ∧ mI μ1 b 20 = 1 ∧ mI μ1 b 16 = nI j ∧ SFr μ μ1 b k18 := by
  unfold sX5_readRise
  obtain ⟨μ1, q1, q2, q3, q4⟩ := must_eq (c := 43) T h e (by omega) (by decide)
  rw [if_neg h1] at q2 q3
  obtain ⟨v, μ2, s1, s2, s3, s4⟩ := mdn_f (Λ := Λ) q2
  rw [sees_c T h e (by omega) (by decide), if_neg h2, Option.bind_some, if_pos rfl, q1, Option.bind_some, s1, Option.bind_some]
  simp only [bnd]
  rw [if_pos trivial]
  exact ⟨_, rfl, (mI_ne (by omega)).trans s2, (mI_ne (by omega)).trans (s3.trans q3), ((q4.wk k16_18).tr (s4.wk k16_18)).tr (SFr.st (Or.inr (Or.inl rfl)))⟩
theorem riseR_bad (T : TxtM Λ μ b tx) (h : mI μ b 20 = 0) (e : mI μ b 16 = nI j) (hj : j < 2 ^ 20) (hc : chT tx j = 43 ∨ chT tx j = 45) (hv : numV tx (j + 1) = none) : ∃ μ1, sX5_readRise Λ μ b = some μ1 ∧ mI μ1 b 20 = 1 ∧ mI μ1 b 16 = nI (j + 1) ∧ SFr μ μ1 b k18 := by
  unfold sX5_readRise
  have z1 : ¬ (1 : Int32) = 0 := by decide
  by_cases h2 : chT tx j = 45
  · obtain ⟨μ1, q1, q2, q3, q4⟩ := must_eq (c := 45) T h e (by omega) (by decide)
    rw [if_pos h2] at q2 q3
    obtain ⟨v, μ2, s1, s2, s3, s4⟩ := mdn_no (T.fr q4) q2 q3 (by omega) hv
    rw [sees_c T h e (by omega) (by decide), if_pos h2, Option.bind_some, if_neg z1, q1, Option.bind_some, s1, Option.bind_some]
    simp only [bnd]
    rw [if_neg z1]
    exact ⟨_, rfl, (mI_ne (by omega)).trans s2, (mI_ne (by omega)).trans s3, ((q4.wk k16_18).tr (s4.wk k16_18)).tr (SFr.st (Or.inr (Or.inl rfl)))⟩
  · have h1 : chT tx j = 43 := hc.elim id (fun q => absurd q h2)
    obtain ⟨μ1, q1, q2, q3, q4⟩ := must_eq (c := 43) T h e (by omega) (by decide)
    rw [if_pos h1] at q2 q3
    obtain ⟨v, μ2, s1, s2, s3, s4⟩ := mdn_no (T.fr q4) q2 q3 (by omega) hv
    rw [sees_c T h e (by omega) (by decide), if_neg h2, Option.bind_some, if_pos rfl, q1, Option.bind_some, s1, Option.bind_some]
    simp only [bnd]
    rw [if_pos trivial]
    exact ⟨_, rfl, (mI_ne (by omega)).trans s2, (mI_ne (by omega)).trans s3, ((q4.wk k16_18).tr (s4.wk k16_18)).tr (SFr.st (Or.inr (Or.inl rfl)))⟩
theorem riseR_yes (T : TxtM Λ μ b tx) (h : mI μ b 20 = 0) (e : mI μ b 16 = nI j) (hj : j < 2 ^ 20) (hc : chT tx j = 43 ∨ chT tx j = 45) {v : Int32} {m : Nat} (hv : numV tx (j + 1) = some (v, m)) : ∃ μ1, sX5_readRise Λ μ b = some μ1 ∧ mI μ1 b 20 = 0 ∧ mI μ1 b 16 = nI m ∧ mI μ1 b 18 = (if chT tx j = 45 then -v else v) ∧ SFr μ μ1 b k18 := by
  unfold sX5_readRise
  have hl := T.2.1
  have hin := num_in hv
  have z1 : ¬ (1 : Int32) = 0 := by decide
  by_cases h2 : chT tx j = 45
  · obtain ⟨μ1, q1, q2, q3, q4⟩ := must_eq (c := 45) T h e (by omega) (by decide)
    rw [if_pos h2] at q2 q3
    obtain ⟨μ2, s1, s2, s3, s4⟩ := mdn_yes (T.fr q4) q2 q3 (by omega) hv
    rw [sees_c T h e (by omega) (by decide), if_pos h2, Option.bind_some, if_neg z1, q1, Option.bind_some, s1, Option.bind_some]
    simp only [bnd]
    rw [if_neg z1, if_pos h2]
    exact ⟨_, rfl, (mI_ne (by omega)).trans s2, (mI_ne (by omega)).trans s3, mI_self, ((q4.wk k16_18).tr (s4.wk k16_18)).tr (SFr.st (Or.inr (Or.inl rfl)))⟩
  · have h1 : chT tx j = 43 := hc.elim id (fun q => absurd q h2)
    obtain ⟨μ1, q1, q2, q3, q4⟩ := must_eq (c := 43) T h e (by omega) (by decide)
    rw [if_pos h1] at q2 q3
    obtain ⟨μ2, s1, s2, s3, s4⟩ := mdn_yes (T.fr q4) q2 q3 (by omega) hv
    rw [sees_c T h e (by omega) (by decide), if_neg h2, Option.bind_some, if_pos rfl, q1, Option.bind_some, s1, Option.bind_some]
    simp only [bnd]
    rw [if_pos trivial, if_neg h2]
    exact ⟨_, rfl, (mI_ne (by omega)).trans s2, (mI_ne (by omega)).trans s3, mI_self, ((q4.wk k16_18).tr (s4.wk k16_18)).tr (SFr.st (Or.inr (Or.inl rfl)))⟩
end RK
