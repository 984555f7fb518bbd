/-! THE WORLD out of what is made: the class's invariant at the start. -/
section LG
variable {pr : Nat → Nat × va_E} {Λ : Lay} {μ : Mem} {b : Nat}
theorem rvrow_at (F : RivF Λ μ pr b) {h : Nat} (q : rvRow Λ (pr b).1 h) : ∃ j, 1 ≤ j ∧ j + 1 < 32 ∧ (j = 1 ∨ j = 3 ∨ (8 ≤ j ∧ j % 2 = 0)) ∧ h = (pr (b + j)).1 ∧ lyR Λ h 0 = (pr (b + j + 1)).1 := by
  obtain ⟨f0, f1, f2, f3, f4, f5, f6, f7, -⟩ := F
  rcases q with q | q | ⟨k, hk, q⟩
  · exact ⟨1, by omega, by omega, Or.inl rfl, by rw [q, f0], by rw [q, f0]; exact f5.1⟩
  · exact ⟨3, by omega, by omega, Or.inr (Or.inl rfl), by rw [q, f1], by rw [q, f1]; exact f6.1⟩
  · rw [f2, f4 k hk] at q
    exact ⟨8 + 2 * k, by omega, by omega, Or.inr (Or.inr ⟨by omega, by omega⟩), by rw [q, Nat.add_assoc], by rw [q, (f7 k hk).1, Nat.add_assoc b 8]⟩
theorem rv_apart {n : Nat} (h : Inj n pr) (hb : b + 32 ≤ n) (F : RivF Λ μ pr b) : RvApart Λ (pr b).1 := by
  have ne : ∀ x y, x < 32 → y < 32 → x ≠ y → (pr (b + x)).1 ≠ (pr (b + y)).1 := fun x y hx hy hxy q => hxy (by have := h _ _ (by omega) (by omega) q; omega)
  have F' := F
  obtain ⟨f0, f1, f2, f3, f4, f5, f6, f7, -⟩ := F
  refine ⟨by rw [f0, f1]; exact ne 1 3 (by omega) (by omega) (by omega), fun k hk => ?_, fun i j hi hj q => ?_, fun x y hx hy q => ?_, fun x hx => ?_, by rw [f0, f5.1]; exact f5.2.1, by rw [f1, f6.1]; exact f6.2.1, fun k hk => by rw [f2, f4 k hk, (f7 k hk).1]; exact (f7 k hk).2.1⟩
  · rw [f2, f4 k hk, f0, f1, Nat.add_assoc]
    exact ⟨ne _ 1 (by omega) (by omega) (by omega), ne _ 3 (by omega) (by omega) (by omega)⟩
  · rw [f2, f4 i hi, f4 j hj] at q
    have := h _ _ (by omega) (by omega) q
    omega
  · obtain ⟨i, i1, i2, -, i3, i4⟩ := rvrow_at F' hx
    obtain ⟨j, j1, j2, -, j3, j4⟩ := rvrow_at F' hy
    rw [i4, j4] at q
    have := h _ _ (by omega) (by omega) q
    have e : i = j := by omega
    rw [i3, j3, e]
  · obtain ⟨i, i1, i2, -, i3, i4⟩ := rvrow_at F' hx
    rw [i3]
    intro q
    have := h _ _ (by omega) (by omega) q
    omega
theorem rv_empty (F : RivF Λ μ pr b) : RvV Λ μ (pr b).1 picD := by
  obtain ⟨f0, f1, f2, f3, f4, f5, f6, f7, g4, g5, g6⟩ := F
  refine ⟨⟨by rw [f0]; exact f5.2.2, by rw [f1]; exact f6.2.2, by rw [f2]; exact f3, fun k hk => ?_⟩, g4, g5, g6⟩
  rw [f2, f4 k hk]
  exact (f7 k hk).2.2
end LG
section LH
variable {pr : Nat → Nat × va_E} {lc : Nat → ClassId}
theorem fr_apart (h : Inj 366 pr) (F : FrS lc pr) : FrApart (layOf 366 pr frK lc) (pr 0).1 := by
  obtain ⟨-, hr, hw, R2, R5, P0, N9, -, -⟩ := fr_made h F
  generalize layOf 366 pr frK lc = Λ at *
  generalize memOf 366 pr = μ at *
  have ne : ∀ x y, x < 366 → y < 366 → x ≠ y → (pr x).1 ≠ (pr y).1 := fun x y hx hy hxy q => hxy (h x y hx hy q)
  have row : ∀ r, r < 11 → ∀ z, rvRow Λ (frR Λ (pr 0).1 r) z → ∃ i, rb r < i ∧ i + 1 < rb r + 32 ∧ z = (pr i).1 ∧ lyR Λ z 0 = (pr (i + 1)).1 := fun r hrr z hz => by
    rw [(hr r hrr).1] at hz
    obtain ⟨i, i1, i2, -, i3, i4⟩ := rvrow_at (hr r hrr).2 hz
    exact ⟨rb r + i, by omega, by omega, i3, i4⟩
  refine ⟨fun r hrr => ?_, fun r q h1 h2 h3 => ?_, fun r z h1 hz => ?_, fun r h1 => ?_, fun k l h1 h2 h3 => ?_, fun k h1 => ?_, ?_, ?_, ?_, ?_, ?_, fun k h1 h2 => ?_⟩
  · rw [(hr r hrr).1]
    have := rb_rng hrr
    exact rv_apart h (by omega) (hr r hrr).2
  · have a1 := rb_rng h1
    have a2 := rb_rng h2
    have a3 := rb_two h1 h2 h3
    refine ⟨by rw [(hr r h1).1, (hr q h2).1]; exact ne _ _ (by omega) (by omega) (by omega), fun x y hx hy => ?_, fun x hx => ?_, fun x hx => ?_⟩
    · obtain ⟨i, i1, i2, i3, i4⟩ := row r h1 x hx
      obtain ⟨j, j1, j2, j3, j4⟩ := row q h2 y hy
      rw [i4, j4, i3, j3]
      exact ⟨ne _ _ (by omega) (by omega) (by omega), ne _ _ (by omega) (by omega) (by omega)⟩
    · obtain ⟨i, i1, i2, i3, i4⟩ := row r h1 x hx
      rw [i3, (hr q h2).1]
      exact ne _ _ (by omega) (by omega) (by omega)
    · obtain ⟨i, i1, i2, i3, i4⟩ := row q h2 x hx
      rw [i3, (hr r h1).1]
      exact ne _ _ (by omega) (by omega) (by omega)
  · have a1 := rb_rng h1
    obtain ⟨i, i1, i2, i3, i4⟩ := row r h1 z hz
    refine ⟨by rw [i3]; exact ne _ _ (by omega) (by omega) (by omega), by rw [i3, R2]; exact ne _ _ (by omega) (by omega) (by omega), by rw [i3, R5]; exact ne _ _ (by omega) (by omega) (by omega), fun k hk => ?_⟩
    have a2 := wb_rng hk
    rw [i4, (hw k hk).1, (hw k hk).2.1, i3]
    exact ⟨ne _ _ (by omega) (by omega) (by omega), ne _ _ (by omega) (by omega) (by omega)⟩
  · have a1 := rb_rng h1
    rw [(hr r h1).1, R2, R5]
    refine ⟨ne _ _ (by omega) (by omega) (by omega), ne _ _ (by omega) (by omega) (by omega), ne _ _ (by omega) (by omega) (by omega), fun k hk => ?_⟩
    have a2 := wb_rng hk
    rw [(hw k hk).1]
    exact ne _ _ (by omega) (by omega) (by omega)
  · have a1 := wb_rng h1
    have a2 := wb_rng h2
    have a3 := wb_two h1 h2 h3
    rw [(hw k h1).1, (hw l h2).1, (hw k h1).2.1, (hw l h2).2.1]
    exact ⟨ne _ _ (by omega) (by omega) (by omega), ne _ _ (by omega) (by omega) (by omega)⟩
  · have a1 := wb_rng h1
    rw [(hw k h1).1, R2, R5]
    exact ⟨ne _ _ (by omega) (by omega) (by omega), ne _ _ (by omega) (by omega) (by omega), ne _ _ (by omega) (by omega) (by omega)⟩
  · rw [R2]; exact ne _ _ (by omega) (by omega) (by omega)
  · rw [R5]; exact ne _ _ (by omega) (by omega) (by omega)
  · rw [R2, R5]; exact ne _ _ (by omega) (by omega) (by omega)
  · rw [R2, P0]; exact N9
  · rw [(hw 0 (by omega)).1, (hw 0 (by omega)).2.1]; exact (hw 0 (by omega)).2.2.1
  · rw [(hw k h2).1, (hw k h2).2.1, (hw k h2).2.2.1, if_neg (by omega)]
theorem fr_init (h : Inj 366 pr) (F : FrS lc pr) : CInv (layOf 366 pr frK lc) (memOf 366 pr) (pr 0).1 0 (-4) picD [] none 0 0 0 [] [] := by
  obtain ⟨-, hr, hw, R2, R5, P0, N9, I0, IP⟩ := fr_made h F
  generalize layOf 366 pr frK lc = Λ at *
  generalize memOf 366 pr = μ at *
  have rv : ∀ r, r < 11 → RvV Λ μ (frR Λ (pr 0).1 r) picD := fun r hrr => by
    rw [(hr r hrr).1]
    exact rv_empty (hr r hrr).2
  refine ⟨rv 0 (by omega), picD_ok, fun r hrr => ⟨_, _, _, (rv r hrr).1⟩, ⟨by omega, by rw [R2, IP]; rfl, by rw [R2, IP]; rfl, by simp, by simp, fun i hi => absurd hi (by simp)⟩, by rw [I0]; rfl, (fun U hU => by cases hU), by rw [I0]; rfl, by rw [I0]; rfl, by rw [I0]; rfl, by rw [I0]; rfl, ?_, ?_, fun k h1 h2 => ⟨[], ?_⟩⟩
  · rw [(hw 0 (by omega)).1]; exact (hw 0 (by omega)).2.2.2
  · rw [(hw 1 (by omega)).1]; exact (hw 1 (by omega)).2.2.2
  · rw [(hw k h2).1]; exact (hw k h2).2.2.2
end LH
