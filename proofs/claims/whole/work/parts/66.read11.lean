/-! READING: the reference's command whose second half is at fault. -/
section RO
variable {Λ : Lay} {μ : Mem} {b i j : Nat} {tx : List Int32}
theorem second_bad (T : TxtM Λ μ b tx) (h : mI μ b 20 = 0) (e : mI μ b 16 = nI j) (hj : j < 2 ^ 20) {k : Int32} (hk2 : isK k) (hk3 : k ≠ 98) (hk4 : k ≠ 116) (hf : fitK k (chT tx j)) (hw : numV tx (j + 1) = none) : ∃ μ1, (if k = (99 : Int32) then (sX5_readBehind Λ μ b 126).bind (fun q => some q) else if k = (106 : Int32) then (sX5_readBehind Λ μ b 126).bind (fun q => some q) else if k = (117 : Int32) then (sX5_readRise Λ μ b).bind (fun q => some q) else if k = (119 : Int32) then (sX5_readBehind Λ μ b 61).bind (fun q => some q) else bnd (stI μ b 18 0) (fun m => some m)) = some μ1 ∧ mI μ1 b 20 = 1 ∧ mI μ1 b 16 = nI (j + 1) ∧ SFr μ μ1 b k18 := by
  rcases hk2 with q | q | q | q | q | q
  · exact absurd q hk3
  · subst q
    have hc : chT tx j = 61 := by unfold fitK at hf; rw [if_neg (by decide), if_pos rfl] at hf; exact hf
    obtain ⟨μ1, a1, a2, a3, a5⟩ := behind_bad T h e hj (by decide) hc hw
    rw [if_neg (by decide), if_neg (by decide), if_neg (by decide), if_pos rfl, a1]
    exact ⟨μ1, rfl, a2, a3, a5⟩
  · subst q
    have hc : chT tx j = 126 := by unfold fitK at hf; rw [if_neg (by decide), if_neg (by decide)] at hf; exact hf
    obtain ⟨μ1, a1, a2, a3, a5⟩ := behind_bad T h e hj (by decide) hc hw
    rw [if_neg (by decide), if_pos rfl, a1]
    exact ⟨μ1, rfl, a2, a3, a5⟩
  · subst q
    have hc : chT tx j = 126 := by unfold fitK at hf; rw [if_neg (by decide), if_neg (by decide)] at hf; exact hf
    obtain ⟨μ1, a1, a2, a3, a5⟩ := behind_bad T h e hj (by decide) hc hw
    rw [if_pos rfl, a1]
    exact ⟨μ1, rfl, a2, a3, a5⟩
  · exact absurd q hk4
  · subst q
    have hc : chT tx j = 43 ∨ chT tx j = 45 := by unfold fitK at hf; rw [if_pos rfl] at hf; exact hf
    obtain ⟨μ1, a1, a2, a3, a5⟩ := riseR_bad T h e hj hc hw
    rw [if_neg (by decide), if_neg (by decide), if_pos rfl, a1]
    exact ⟨μ1, rfl, a2, a3, a5⟩
theorem second_no (T : TxtM Λ μ b tx) (h : mI μ b 20 = 0) (e : mI μ b 16 = nI j) (hj : j < 2 ^ 20) {k : Int32} (hk2 : isK k) (hk3 : k ≠ 98) (hk4 : k ≠ 116) (hf : ¬ fitK k (chT tx j)) : ∃ μ1, (if k = (99 : Int32) then (sX5_readBehind Λ μ b 126).bind (fun q => some q) else if k = (106 : Int32) then (sX5_readBehind Λ μ b 126).bind (fun q => some q) else if k = (117 : Int32) then (sX5_readRise Λ μ b).bind (fun q => some q) else if k = (119 : Int32) then (sX5_readBehind Λ μ b 61).bind (fun q => some q) else bnd (stI μ b 18 0) (fun m => some m)) = some μ1 ∧ mI μ1 b 20 = 1 ∧ mI μ1 b 16 = nI j ∧ SFr μ μ1 b k18 := by
  rcases hk2 with q | q | q | q | q | q
  · exact absurd q hk3
  · subst q
    have hc : chT tx j ≠ 61 := fun z => hf (by unfold fitK; rw [if_neg (by decide), if_pos rfl]; exact z)
    obtain ⟨μ1, a1, a2, a3, a5⟩ := behind_no T h e hj (by decide) hc
    rw [if_neg (by decide), if_neg (by decide), if_neg (by decide), if_pos rfl, a1]
    exact ⟨μ1, rfl, a2, a3, a5⟩
  · subst q
    have hc : chT tx j ≠ 126 := fun z => hf (by unfold fitK; rw [if_neg (by decide), if_neg (by decide)]; exact z)
    obtain ⟨μ1, a1, a2, a3, a5⟩ := behind_no T h e hj (by decide) hc
    rw [if_neg (by decide), if_pos rfl, a1]
    exact ⟨μ1, rfl, a2, a3, a5⟩
  · subst q
    have hc : chT tx j ≠ 126 := fun z => hf (by unfold fitK; rw [if_neg (by decide), if_neg (by decide)]; exact z)
    obtain ⟨μ1, a1, a2, a3, a5⟩ := behind_no T h e hj (by decide) hc
    rw [if_pos rfl, a1]
    exact ⟨μ1, rfl, a2, a3, a5⟩
  · exact absurd q hk4
  · subst q
    have hc : ¬ (chT tx j = 43 ∨ chT tx j = 45) := fun z => hf (by unfold fitK; rw [if_pos rfl]; exact z)
    obtain ⟨μ1, a1, a2, a3, a5⟩ := riseR_no T h e hj (fun z => hc (Or.inl z)) (fun z => hc (Or.inr z))
    rw [if_neg (by decide), if_neg (by decide), if_pos rfl, a1]
    exact ⟨μ1, rfl, a2, a3, a5⟩
end RO
