/-! READING: the reference reads what stands behind a command's first number. -/
section RJ
variable {Λ : Lay} {μ : Mem} {b j : Nat} {tx : List Int32}
abbrev k18 : Nat → Prop := fun k => k = 16 ∨ k = 18 ∨ k = 20
theorem SFr.wk {μ1 : Mem} {s : Nat} {K K' : Nat → Prop} (h : SFr μ μ1 s K) (hK : ∀ k, K k → K' k) : SFr μ μ1 s K' := ⟨fun z k q => h.1 z k (fun w => q ⟨w.1, hK k w.2⟩), h.2⟩
theorem k16_18 : ∀ k, k16 k → k18 k := fun _ h => h.elim Or.inl (fun q => Or.inr (Or.inr q))
theorem behind_f (c : Int32) (h : mI μ b 20 = 1) : ∃ μ1, sX5_readBehind Λ μ b c = some μ1 ∧ mI μ1 b 20 = 1 ∧ mI μ1 b 16 = mI μ b 16 ∧ SFr μ μ1 b k18 := by
  unfold sX5_readBehind
  obtain ⟨μ1, q1, q2, q3, q4⟩ := must_f (Λ := Λ) c h
  obtain ⟨v, μ2, s1, s2, s3, s4⟩ := mdn_f (Λ := Λ) q2
  rw [q1, Option.bind_some, s1, Option.bind_some]
  simp only [bnd]
  exact ⟨_, rfl, (mI_ne (by omega)).trans s2, (mI_ne (by omega)).trans (s3.trans q3), ((q4.wk k16_18).tr (s4.wk k16_18)).tr (SFr.st (Or.inr (Or.inl rfl)))⟩
theorem behind_no (T : TxtM Λ μ b tx) (h : mI μ b 20 = 0) (e : mI μ b 16 = nI j) (hj : j < 2 ^ 20) {c : Int32} (h0 : 0 ≤ c.toInt) (hc : chT tx j ≠ c) : ∃ μ1, sX5_readBehind Λ μ b c = some μ1 ∧ mI μ1 b 20 = 1 ∧ mI μ1 b 16 = nI j ∧ SFr μ μ1 b k18 := by
  unfold sX5_readBehind
  obtain ⟨μ1, q1, q2, q3, q4⟩ := must_eq T h e (by omega) h0
  rw [if_neg hc] at q2 q3
  obtain ⟨v, μ2, s1, s2, s3, s4⟩ := mdn_f (Λ := Λ) q2
  rw [q1, Option.bind_some, s1, Option.bind_some]
  simp only [bnd]
  exact ⟨_, rfl, (mI_ne (by omega)).trans s2, (mI_ne (by omega)).trans (s3.trans q3), ((q4.wk k16_18).tr (s4.wk k16_18)).tr (SFr.st (Or.inr (Or.inl rfl)))⟩
theorem behind_bad (T : TxtM Λ μ b tx) (h : mI μ b 20 = 0) (e : mI μ b 16 = nI j) (hj : j < 2 ^ 20) {c : Int32} (h0 : 0 ≤ c.toInt) (hc : chT tx j = c) (hv : numV tx (j + 1) = none) : ∃ μ1, sX5_readBehind Λ μ b c = some μ1 ∧ mI μ1 b 20 = 1 ∧ mI μ1 b 16 = nI (j + 1) ∧ SFr μ μ1 b k18 := by
  unfold sX5_readBehind
  obtain ⟨μ1, q1, q2, q3, q4⟩ := must_eq T h e (by omega) h0
  rw [if_pos hc] at q2 q3
  obtain ⟨v, μ2, s1, s2, s3, s4⟩ := mdn_no (T.fr q4) q2 q3 (by omega) hv
  rw [q1, Option.bind_some, s1, Option.bind_some]
  simp only [bnd]
  exact ⟨_, rfl, (mI_ne (by omega)).trans s2, (mI_ne (by omega)).trans s3, ((q4.wk k16_18).tr (s4.wk k16_18)).tr (SFr.st (Or.inr (Or.inl rfl)))⟩
theorem num_in {i : Nat} {v : Int32} {m : Nat} (h : numV tx i = some (v, m)) : i < tx.length := by
  apply Classical.byContradiction
  intro z
  have : chT tx i = -1 := by
    unfold chT
    rw [List.getD_eq_getElem?_getD, List.getElem?_eq_none (by omega)]; rfl
  unfold numV at h
  rw [this, if_neg (by decide)] at h
  cases h
theorem behind_yes (T : TxtM Λ μ b tx) (h : mI μ b 20 = 0) (e : mI μ b 16 = nI j) (hj : j < 2 ^ 20) {c : Int32} (h0 : 0 ≤ c.toInt) (hc : chT tx j = c) {v : Int32} {m : Nat} (hv : numV tx (j + 1) = some (v, m)) : ∃ μ1, sX5_readBehind Λ μ b c = some μ1 ∧ mI μ1 b 20 = 0 ∧ mI μ1 b 16 = nI m ∧ mI μ1 b 18 = v ∧ SFr μ μ1 b k18 := by
  unfold sX5_readBehind
  have hl := T.2.1
  have hin := num_in hv
  obtain ⟨μ1, q1, q2, q3, q4⟩ := must_eq T h e (by omega) h0
  rw [if_pos hc] at q2 q3
  obtain ⟨μ2, s1, s2, s3, s4⟩ := mdn_yes (T.fr q4) q2 q3 (by omega) hv
  rw [q1, Option.bind_some, s1, Option.bind_some]
  simp only [bnd]
  exact ⟨_, rfl, (mI_ne (by omega)).trans s2, (mI_ne (by omega)).trans s3, mI_self, ((q4.wk k16_18).tr (s4.wk k16_18)).tr (SFr.st (Or.inr (Or.inl rfl)))⟩
end RJ
