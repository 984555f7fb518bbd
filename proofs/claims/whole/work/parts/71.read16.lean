/-! READING: both sides carry out one command. -/
theorem bind_eta {f : Option (Int32 × Mem)} : f.bind (fun q => some (q.1, q.2)) = f := by
  cases f <;> rfl
section CY
variable {Λ Λ' : Lay} {μ μ' : Mem} {a b : Nat} {V : Pic} {h : List Pic}
theorem carry (PC : FrApart Λ a) (PM : MdApart Λ' b) (ok : PicOK V) (N : RvV Λ μ (lyR Λ a 0) V) (M : NowV Λ' μ' (lyR Λ' b 0) V) (H : Hist Λ' μ' b h) {A B C : List Int32} (hA : RowIs Λ μ (frW Λ a 2) A) (hB : RowIs Λ μ (frW Λ a 3) B) (hC : RowIs Λ μ (frW Λ a 4) C) {j : Nat} {k v u : Int32} (eA : A[j]? = some k) (eB : B[j]? = some v) (eC : C[j]? = some u) (hk : isK k) (e17 : mI μ' b 17 = v) (e18 : mI μ' b 18 = u) (e19 : mI μ' b 19 = k) : ∃ o, CMeets Λ μ a V (sX4_carryOut Λ μ a (nI j)) o ∧ MMeets Λ' μ' b h V (sX5_carryOut Λ' μ' b) o := by
  obtain ⟨lA, gA⟩ := List.getElem?_eq_some_iff.mp eA
  obtain ⟨lB, gB⟩ := List.getElem?_eq_some_iff.mp eB
  obtain ⟨lC, gC⟩ := List.getElem?_eq_some_iff.mp eC
  have s1 : sX3_firstOf Λ μ (lyR Λ a 5) (nI j) = some v := by
    unfold sX3_firstOf
    have : sX2_get Λ μ (lyR Λ (lyR Λ a 5) 1) (nI j) = some B[j] := row_get hB lB
    rw [this, gB]; rfl
  have s2 : sX3_secondOf Λ μ (lyR Λ a 5) (nI j) = some u := by
    unfold sX3_secondOf
    have : sX2_get Λ μ (lyR Λ (lyR Λ a 5) 2) (nI j) = some C[j] := row_get hC lC
    rw [this, gC]; rfl
  have s3 : sX3_kindOf Λ μ (lyR Λ a 5) (nI j) = some k := by
    unfold sX3_kindOf
    have : sX2_get Λ μ (lyR Λ (lyR Λ a 5) 0) (nI j) = some A[j] := row_get hA lA
    rw [this, gA]; rfl
  unfold sX4_carryOut sX5_carryOut
  simp only [bnd]
  rw [s1, s2, s3, e17, e18, e19, Option.bind_some, Option.bind_some, Option.bind_some]
  simp only [bind_eta]
  rcases hk with q | q | q | q | q | q
  · subst q
    rw [if_pos rfl, if_pos rfl]
    exact step_bank PC PM ok N M H v
  · subst q
    rw [if_neg (by decide), if_neg (by decide), if_neg (by decide), if_neg (by decide), if_neg (by decide), if_pos rfl, if_neg (by decide), if_neg (by decide), if_neg (by decide), if_neg (by decide), if_pos rfl]
    exact step_weigh PC PM ok N M H v u
  · subst q
    rw [if_neg (by decide), if_neg (by decide), if_pos rfl, if_neg (by decide), if_neg (by decide), if_pos rfl]
    exact step_join PC PM ok N M H v u
  · subst q
    rw [if_neg (by decide), if_pos rfl, if_neg (by decide), if_pos rfl]
    exact step_cut PC PM ok N M H v u
  · subst q
    rw [if_neg (by decide), if_neg (by decide), if_neg (by decide), if_pos rfl, if_neg (by decide), if_neg (by decide), if_neg (by decide), if_pos rfl]
    exact step_turn PC PM ok N M H v
  · subst q
    rw [if_neg (by decide), if_neg (by decide), if_neg (by decide), if_neg (by decide), if_pos rfl, if_neg (by decide), if_neg (by decide), if_neg (by decide), if_neg (by decide), if_neg (by decide)]
    exact step_rise PC PM ok N M H v u
end CY
