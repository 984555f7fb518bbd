/-! READING: the reference's command in two halves. -/
def tailR (Λ : Lay) (b : Nat) (μ : Mem) : Option Mem := (sX5_readNumber Λ μ b).bind (fun q => bnd (stI q.2 b 17 q.1) (fun m => bnd (mI m b 19) (fun v => if v = (99 : Int32) then (sX5_readBehind Λ m b 126).bind (fun q => some q) else if v = (106 : Int32) then (sX5_readBehind Λ m b 126).bind (fun q => some q) else if v = (117 : Int32) then (sX5_readRise Λ m b).bind (fun q => some q) else if v = (119 : Int32) then (sX5_readBehind Λ m b 61).bind (fun q => some q) else bnd (stI m b 18 0) (fun m => some m))))
def headE (Λ : Lay) (b : Nat) (μ : Mem) (e : Int32) : Option Mem := gd (isB ((mI μ b 20) ||| e)) (bnd (stI μ b 20 ((mI μ b 20) ||| e)) (fun m => if (mI m b 20) = 0 then bnd (stI m b 16 ((mI m b 16) + 1)) (fun m => tailR Λ b m) else bnd (stI m b 16 ((mI m b 16) + 0)) (fun m => tailR Λ b m)))
def headR (Λ : Lay) (b : Nat) (μ : Mem) : Option Mem := if (0 : Int32) ≤ bwIdx (jchar (mI μ b 19)) then headE Λ b μ 0 else headE Λ b μ 1
theorem readCommand_eq (Λ : Lay) (μ : Mem) (b : Nat) : sX5_readCommand Λ μ b = if (mI μ b 20) = 0 then (if (mI μ b 15) ≤ (mI μ b 16) then headR Λ b (stI μ b 19 32) else gd (inb (mI μ b 16) (lyN Λ (lyR Λ b 14))) (headR Λ b (stI μ b 19 (mA μ (lyR Λ b 14) (mI μ b 16).toNatClampNeg)))) else headR Λ b (stI μ b 19 32) := rfl
section RL
variable {Λ : Lay} {μ : Mem} {b i j : Nat} {tx : List Int32}
theorem kind_ok : ∀ n, n < 127 → (0 ≤ bwIdx (jchar (nI n)) ↔ isK (nI n)) := by decide +kernel
/-- a command in fault leaves the place of the fault -/
theorem tail_f (h : mI μ b 20 = 1) : ∃ μ1, tailR Λ b μ = some μ1 ∧ mI μ1 b 20 = 1 ∧ mI μ1 b 16 = mI μ b 16 ∧ SFr μ μ1 b (fun k => 16 ≤ k ∧ k ≤ 20) := by
  unfold tailR
  obtain ⟨v, μ1, q1, q2, q3, q4⟩ := mdn_f (Λ := Λ) h
  rw [q1, Option.bind_some]
  simp only [bnd]
  have F1 : SFr μ (stI μ1 b 17 v) b (fun k => 16 ≤ k ∧ k ≤ 20) := (q4.wk (fun k hk => by rcases hk with e | e <;> rw [e] <;> decide)).tr (SFr.st (by decide))
  have h1 : mI (stI μ1 b 17 v) b 20 = 1 := (mI_ne (by omega)).trans q2
  have e1 : mI (stI μ1 b 17 v) b 16 = mI μ b 16 := (mI_ne (by omega)).trans q3
  have w18 : ∀ k, k18 k → 16 ≤ k ∧ k ≤ 20 := fun k hk => by rcases hk with e | e | e <;> rw [e] <;> decide
  by_cases c1 : mI (stI μ1 b 17 v) b 19 = 99
  · obtain ⟨μ2, s1, s2, s3, s4⟩ := behind_f (Λ := Λ) 126 h1
    rw [if_pos c1, s1]
    exact ⟨μ2, rfl, s2, s3.trans e1, F1.tr (s4.wk w18)⟩
  rw [if_neg c1]
  by_cases c2 : mI (stI μ1 b 17 v) b 19 = 106
  · obtain ⟨μ2, s1, s2, s3, s4⟩ := behind_f (Λ := Λ) 126 h1
    rw [if_pos c2, s1]
    exact ⟨μ2, rfl, s2, s3.trans e1, F1.tr (s4.wk w18)⟩
  rw [if_neg c2]
  by_cases c3 : mI (stI μ1 b 17 v) b 19 = 117
  · obtain ⟨μ2, s1, s2, s3, s4⟩ := riseR_f (Λ := Λ) h1
    rw [if_pos c3, s1]
    exact ⟨μ2, rfl, s2, s3.trans e1, F1.tr (s4.wk w18)⟩
  rw [if_neg c3]
  by_cases c4 : mI (stI μ1 b 17 v) b 19 = 119
  · obtain ⟨μ2, s1, s2, s3, s4⟩ := behind_f (Λ := Λ) 61 h1
    rw [if_pos c4, s1]
    exact ⟨μ2, rfl, s2, s3.trans e1, F1.tr (s4.wk w18)⟩
  rw [if_neg c4]
  exact ⟨_, rfl, (mI_ne (by omega)).trans h1, (mI_ne (by omega)).trans e1, F1.tr (SFr.st (by decide))⟩
end RL
