/-! READING: the reference's command against cmdF. -/
section RM
variable {Λ : Lay} {μ : Mem} {b i j : Nat} {tx : List Int32}
abbrev kAll : Nat → Prop := fun k => 16 ≤ k ∧ k ≤ 20
theorem kAll16 : ∀ k, k16 k → kAll k := fun k hk => by rcases hk with e | e <;> rw [e] <;> decide
theorem kAll18 : ∀ k, k18 k → kAll k := fun k hk => by rcases hk with e | e | e <;> rw [e] <;> decide
/-- the first number is missing -/
theorem tail_no (T : TxtM Λ μ b tx) (h : mI μ b 20 = 0) (e : mI μ b 16 = nI j) (hj : j < 2 ^ 20) (hv : numV tx j = none) : ∃ μ1, tailR Λ b μ = some μ1 ∧ mI μ1 b 20 = 1 ∧ mI μ1 b 16 = nI j ∧ SFr μ μ1 b kAll := by
  unfold tailR
  obtain ⟨v, μ1, q1, q2, q3, q4⟩ := mdn_no T h e (by omega) hv
  rw [q1, Option.bind_some]
  simp only [bnd]
  have F1 : SFr μ (stI μ1 b 17 v) b kAll := (q4.wk kAll16).tr (SFr.st (by decide))
  have h1 : mI (stI μ1 b 17 v) b 20 = 1 := (mI_ne (by omega)).trans q2
  have e1 : mI (stI μ1 b 17 v) b 16 = nI j := (mI_ne (by omega)).trans q3
  by_cases c1 : mI (stI μ1 b 17 v) b 19 = 99
  · obtain ⟨μ2, s1, s2, s3, s4⟩ := behind_f (Λ := Λ) 126 h1
    rw [if_pos c1, s1]
    exact ⟨μ2, rfl, s2, s3.trans e1, F1.tr (s4.wk kAll18)⟩
  rw [if_neg c1]
  by_cases c2 : mI (stI μ1 b 17 v) b 19 = 106
  · obtain ⟨μ2, s1, s2, s3, s4⟩ := behind_f (Λ := Λ) 126 h1
    rw [if_pos c2, s1]
    exact ⟨μ2, rfl, s2, s3.trans e1, F1.tr (s4.wk kAll18)⟩
  rw [if_neg c2]
  by_cases c3 : mI (stI μ1 b 17 v) b 19 = 117
  · obtain ⟨μ2, s1, s2, s3, s4⟩ := riseR_f (Λ := Λ) h1
    rw [if_pos c3, s1]
    exact ⟨μ2, rfl, s2, s3.trans e1, F1.tr (s4.wk kAll18)⟩
  rw [if_neg c3]
  by_cases c4 : mI (stI μ1 b 17 v) b 19 = 119
  · obtain ⟨μ2, s1, s2, s3, s4⟩ := behind_f (Λ := Λ) 61 h1
    rw [if_pos c4, s1]
    exact ⟨μ2, rfl, s2, s3.trans e1, F1.tr (s4.wk kAll18)⟩
  rw [if_neg c4]
  exact ⟨_, rfl, (mI_ne (by omega)).trans h1, (mI_ne (by omega)).trans e1, F1.tr (SFr.st (by decide))⟩
theorem tail_one (T : TxtM Λ μ b tx) (h : mI μ b 20 = 0) (e : mI μ b 16 = nI j) (hj : j < 2 ^ 20) {k v : Int32} {m : Nat} (hk : mI μ b 19 = k) (hk2 : k = 98 ∨ k = 116) (hv : numV tx j = some (v, m)) : ∃ μ1, tailR Λ b μ = some μ1 ∧ mI μ1 b 20 = 0 ∧ mI μ1 b 16 = nI m ∧ mI μ1 b 17 = v ∧ mI μ1 b 18 = 0 ∧ mI μ1 b 19 = k ∧ SFr μ μ1 b kAll := by
  unfold tailR
  have hl := T.2.1
  have hin := num_in hv
  obtain ⟨μ1, q1, q2, q3, q4⟩ := mdn_yes T h e (by omega) hv
  rw [q1, Option.bind_some]
  simp only [bnd]
  have F1 : SFr μ (stI μ1 b 17 v) b kAll := (q4.wk kAll16).tr (SFr.st (by decide))
  have h1 : mI (stI μ1 b 17 v) b 20 = 0 := (mI_ne (by omega)).trans q2
  have e1 : mI (stI μ1 b 17 v) b 16 = nI m := (mI_ne (by omega)).trans q3
  have k1 : mI (stI μ1 b 17 v) b 19 = k := (mI_ne (by omega)).trans ((q4.1 b 19 (fun q => by have := q.2; omega)).trans hk)
  rw [k1]
  have n1 : k ≠ 99 := by rcases hk2 with q | q <;> rw [q] <;> decide
  have n2 : k ≠ 106 := by rcases hk2 with q | q <;> rw [q] <;> decide
  have n3 : k ≠ 117 := by rcases hk2 with q | q <;> rw [q] <;> decide
  have n4 : k ≠ 119 := by rcases hk2 with q | q <;> rw [q] <;> decide
  rw [if_neg n1, if_neg n2, if_neg n3, if_neg n4]
  exact ⟨_, rfl, (mI_ne (by omega)).trans h1, (mI_ne (by omega)).trans e1, (mI_ne (by omega)).trans mI_self, mI_self, (mI_ne (by omega)).trans k1, F1.tr (SFr.st (by decide))⟩
end RM
