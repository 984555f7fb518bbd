/-! WORDS that the class and the reference have in common. -/
/-- the weights of what is below b -/
def sumB (w : List Nat) (l : List Nat) (b : Nat) : Nat := sumTo w.length (fun i => if blw l i b = true then wt w i else 0)
/-- whether b and d stand side by side -/
def nbr (l : List Nat) (b d : Nat) : Bool := decide ((b, d) ∈ prs l)
def slUp (sl : Nat → List Nat) (k : Nat) (l : List Nat) : Nat → List Nat := fun i => if i = k then l else sl i
def cutA (l : List Nat) (b : Nat) : List Nat := l.take (fi l b) ++ l.drop (li l b + 2)
def cutB (l : List Nat) (b : Nat) : List Nat := (l.take (li l b + 1)).drop (fi l b)
def lowOf (l : List Nat) (b d : Nat) : Nat := if fi l b ≤ fi l d then d else b
theorem i32_nn {x : Int32} (h : 0 ≤ x.toInt) : ∃ n, n < 2 ^ 31 ∧ x = nI n ∧ x.toInt = n := by
  have h2 := Int32.toInt_lt x
  refine ⟨x.toInt.toNat, by omega, ?_, by omega⟩
  apply Int32.toInt_inj.mp
  rw [nI_toInt (by omega)]
  omega
abbrev bIn (n : Nat) (x : Int32) : Prop := 0 ≤ x.toInt ∧ x.toInt < n
theorem bIn_nat {n : Nat} {x : Int32} (h : bIn n x) : ∃ b, b < n ∧ b < 2 ^ 31 ∧ x = nI b := by
  obtain ⟨b, h1, h2, h3⟩ := i32_nn h.1
  exact ⟨b, by have := h.2; omega, h1, h2⟩
theorem drop_cons {l : List Nat} {i : Nat} (h : i < l.length) : l.drop i = l[i] :: l.drop (i + 1) := List.drop_eq_getElem_cons h
def riseN (w l : List Nat) (d : Int) (i : Nat) : Bool := (msk l).testBit i && decide (clampW (wt w i) d ≠ wt w i)
section WW
variable {w : List Nat}
theorem rise_99 (hw : ∀ x ∈ w, x ≤ 99) (s : Nat) (d : Int) (m : Nat) : ∀ x ∈ riseK w s d m, x ≤ 99 := by
  intro x hx
  unfold riseK at hx
  obtain ⟨k, _, rfl⟩ := List.mem_map.mp hx
  by_cases e : k < m ∧ s.testBit k = true
  · rw [if_pos e]; exact clamp_le _ _
  · rw [if_neg e]; exact wt_le hw k
theorem rise_full (s : Nat) (d : Int) : riseK w s d w.length = riseW w s d := by
  unfold riseK riseW
  apply List.map_congr_left
  intro k hk
  have : k < w.length := by simpa using hk
  simp [this]
theorem wt_get {k : Nat} (hk : k < w.length) : wt w k = w[k] := by simp [wt, hk]
end WW
