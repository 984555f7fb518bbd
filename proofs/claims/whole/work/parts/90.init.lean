/-! THE WORLD out of what is made: the class's invariant at the start. -/
section LG
variable {pr : Nat → Nat × va_E} {Λ : Lay} {μ : Mem} {b : Nat}
theorem rvrow_at (F : RivF Λ μ pr b) {h : Nat} (q : rvRow Λ (pr b).1 h) : ∃ j, 1 ≤ j ∧ j + 1 < 32 ∧ (j = 1 ∨ j = 3 ∨ (8 ≤ j ∧ j % 2 = 0)) ∧ h = (pr (b + j)).1 ∧ lyR Λ h 0 = (pr (b + j + 1)).1 := by
  obtain ⟨f0, f1, f2, f3, f4, f5, f6, f7, -⟩ := F
  rcases q with q | q | ⟨k, hk, q⟩
  · exact ⟨1, by omega, by omega, Or.inl rfl, by rw [q, f0], by rw [q, f0]; exact f5.1⟩
  · exact ⟨3, by omega, by omega, Or.inr (Or.inl rfl), by rw [q, f1], by rw [q, f1]; exact f6.1⟩
  · rw [f2, f4 k hk] at q
    exact ⟨8 + 2 * k, by omega, by omega, Or.inr (Or.inr ⟨by omega, by omega⟩), by rw [q, Nat.add_assoc], by rw [q, (f7 k hk).1, Nat.add_assoc b 8]⟩
theorem rv_apart {n : Nat} (h : Inj n pr) (hb : b + 32 ≤ n) (F : RivF Λ μ pr b) : RvApart Λ (pr b).1 := by
  have ne : ∀ x y, x < 32 → y < 32 → x ≠ y → (pr (b + x)).1 ≠ (pr (b + y)).1 := fun x y hx hy hxy q => hxy (by have := h _ _ (by omega) (by omega) q; omega)
  have F' := F
  obtain ⟨f0, f1, f2, f3, f4, f5, f6, f7, -⟩ := F
  refine ⟨by rw [f0, f1]; exact ne 1 3 (by omega) (by omega) (by omega), fun k hk => ?_, fun i j hi hj q => ?_, fun x y hx hy q => ?_, fun x hx => ?_, by rw [f0, f5.1]; exact f5.2.1, by rw [f1, f6.1]; exact f6.2.1, fun k hk => by rw [f2, f4 k hk, (f7 k hk).1]; exact (f7 k hk).2.1⟩
  · rw [f2, f4 k hk, f0, f1, Nat.add_assoc]
    exact ⟨ne _ 1 (by omega) (by omega) (by omega), ne _ 3 (by omega) (by omega) (by omega)⟩
  · rw [f2, f4 i hi, f4 j hj] at q
    have := h _ _ (by omega) (by omega) q
    omega
  · obtain ⟨i, i1, i2, -, i3, i4⟩ := rvrow_at F' hx
    obtain ⟨j, j1, j2, -, j3, j4⟩ := rvrow_at F' hy
    rw [i4, j4] at q
    have := h _ _ (by omega) (by omega) q
    have e : i = j := by omega
    rw [i3, j3, e]
  · obtain ⟨i, i1, i2, -, i3, i4⟩ := rvrow_at F' hx
    rw [i3]
    intro q
    have := h _ _ (by omega) (by omega) q
    omega
theorem rv_empty (F : RivF Λ μ pr b) : RvV Λ μ (pr b).1 picD := by
  obtain ⟨f0, f1, f2, f3, f4, f5, f6, f7, g4, g5, g6⟩ := F
  refine ⟨⟨by rw [f0]; exact f5.2.2, by rw [f1]; exact f6.2.2, by rw [f2]; exact f3, fun k hk => ?_⟩, g4, g5, g6⟩
  rw [f2, f4 k hk]
  exact (f7 k hk).2.2
end LG
section LH
variable {pr : Nat → Nat × va_E} {lc : Nat → ClassId}
theorem fr_apart (h : Inj 366 pr) (F : FrS lc pr) : FrApart (layOf 366 pr frK lc) (pr 0).1 := by
  obtain ⟨-, hr, hw, R2, R5, P0, N9, -, -⟩ := fr_made h F
  generalize layOf 366 pr frK lc = Λ at *
  generalize memOf 366 pr = μ at *
  have ne : ∀ x y, x < 366 → y < 366 → x ≠ y → (pr x).1 ≠ (pr y).1 := fun x y hx hy hxy q => hxy (h x y hx hy q)
  have row : ∀ r, r < 11 → ∀ z, rvRow Λ (frR Λ (pr 0).1 r) z → ∃ i, rb r < i ∧ i + 1 < rb r + 32 ∧ z = (pr i).1 ∧ lyR Λ z 0 = (pr (i + 1)).1 := fun r hrr z hz => by
    rw [(hr r hrr).1] at hz
    obtain ⟨i, i1, i2, -, i3, i4⟩ := rvrow_at (hr r hrr).2 hz
    exact ⟨rb r + i, by omega, by omega, i3, i4⟩
  refine ⟨fun r hrr => ?_, fun r q h1 h2 h3 => ?_, fun r z h1 hz => ?_, fun r h1 => ?_, fun k l h1 h2 h3 => ?_, fun k h1 => ?_, ?_, ?_, ?_, ?_, ?_, fun k h1 h2 => ?_⟩
  · rw [(hr r hrr).1]
    have := rb_rng hrr
    exact rv_apart h (by omega) (hr r hrr).2
  · have a1 := rb_rng h1
    have a2 := rb_rng h2
    have a3 := rb_two h1 h2 h3
    refine ⟨by rw [(hr r h1).1, (hr q h2).1]; exact ne _ _ (by omega) (by omega) (by omega), fun x y hx hy => ?_, fun x hx => ?_, fun x hx => ?_⟩
    · obtain ⟨i, i1, i2, i3, i4⟩ := row r h1 x hx
      obtain ⟨j, j1, j2, j3, j4⟩ := row q h2 y hy
      rw [i4, j4, i3, j3]
      exact ⟨ne _ _ (by omega) (by omega) (by omega), ne _ _ (by omega) (by omega) (by omega)⟩
    · obtain ⟨i, i1, i2, i3, i4⟩ := row r h1 x hx
      rw [i3, (hr q h2).1]
      exact ne _ _ (by omega) (by omega) (by omega)
    · obtain ⟨i, i1, i2, i3, i4⟩ := row q h2 x hx
      rw [i3, (hr r h1).1]
      exact ne _ _ (by omega) (by omega) (by omega)
  · have a1 := rb_rng h1
    obtain ⟨i, i1, i2, i3, i4⟩ := row r h1 z hz
    refine ⟨by rw [i3]; exact ne _ _ (by omega) (by omega) (by omega), by rw [i3, R2]; exact ne _ _ (by omega) (by omega) (by omega), by rw [i3, R5]; exact ne _ _ (by omega) (by omega) (by omega), fun k hk => ?_⟩
    have a2 := wb_rng hk
    rw [i4, (hw k hk).1, (hw k hk).2.1, i3]
    exact ⟨ne _ _ (by omega) (by omega) (by omega), ne _ _ (by omega) (by omega) (by omega)⟩
  · have a1 := rb_rng h1
    rw [(hr r h1).1, R2, R5]
    refine ⟨ne _ _ (by omega) (by omega) (by omega), ne _ _ (by omega) (by omega) (by omega), ne _ _ (by omega) (by omega) (by omega), fun k hk => ?_⟩
    have a2 := wb_rng hk
    rw [(hw k hk).1]
    exact ne _ _ (by omega) (by omega) (by omega)
  · have a1 := wb_rng h1
    have a2 := wb_rng h2
    have a3 := wb_two h1 h2 h3
    rw [(hw k h1).1, (hw l h2).1, (hw k h1).2.1, (hw l h2).2.1]
    exact ⟨ne _ _ (by omega) (by omega) (by omega), ne _ _ (by omega) (by omega) (by omega)⟩
  · have a1 := wb_rng h1
    rw [(hw k h1).1, R2, R5]
    exact ⟨ne _ _ (by omega) (by omega) (by omega), ne _ _ (by omega) (by omega) (by omega), ne _ _ (by omega) (by omega) (by omega)⟩
  · rw [R2]; exact ne _ _ (by omega) (by omega) (by omega)
  · rw [R5]; exact ne _ _ (by omega) (by omega) (by omega)
  · rw [R2, R5]; exact ne _ _ (by omega) (by omega) (by omega)
  · rw [R2, P0]; exact N9
  · rw [(hw 0 (by omega)).1, (hw 0 (by omega)).2.1]; exact (hw 0 (by omega)).2.2.1
  · rw [(hw k h2).1, (hw k h2).2.1, (hw k h2).2.2.1, if_neg (by omega)]
theorem fr_init (h : Inj 366 pr) (F : FrS lc pr) : CInv (layOf 366 pr frK lc) (memOf 366 pr) (pr 0).1 0 (-4) picD [] none 0 0 0 [] [] := by
  obtain ⟨-, hr, hw, R2, R5, P0, N9, I0, IP⟩ := fr_made h F
  generalize layOf 366 pr frK lc = Λ at *
  generalize memOf 366 pr = μ at *
  have rv : ∀ r, r < 11 → RvV Λ μ (frR Λ (pr 0).1 r) picD := fun r hrr => by
    rw [(hr r hrr).1]
    exact rv_empty (hr r hrr).2
  refine ⟨rv 0 (by omega), picD_ok, fun r hrr => ⟨_, _, _, (rv r hrr).1⟩, ⟨by omega, by rw [R2, IP]; rfl, by rw [R2, IP]; rfl, by simp, by simp, fun i hi => absurd hi (by simp)⟩, by rw [I0]; rfl, (fun U hU => by cases hU), by rw [I0]; rfl, by rw [I0]; rfl, by rw [I0]; rfl, by rw [I0]; rfl, ?_, ?_, fun k h1 h2 => ⟨[], ?_⟩⟩
  · rw [(hw 0 (by omega)).1]; exact (hw 0 (by omega)).2.2.2
  · rw [(hw 1 (by omega)).1]; exact (hw 1 (by omega)).2.2.2
  · rw [(hw k h2).1]; exact (hw k h2).2.2.2
end LH
/-! the reference's object -/
def mdK (i : Nat) : Nat := if i = 0 then 5 else if i = 4 then 10 else if i = 14 then 7 else 6
section LI
variable {pr : Nat → Nat × va_E} {lc : Nat → ClassId}
theorem md_made (h : Inj 16 pr) (F : MdS lc pr) : (∀ i, i < 16 → Good 16 pr mdK lc i) ∧ MdApart (layOf 16 pr mdK lc) (pr 0).1 ∧ MInv (layOf 16 pr mdK lc) (memOf 16 pr) (pr 0).1 0 picD [] none 0 0 (-1) [] [] := by
  obtain ⟨f0, f1, f2, f3, f4, f5, f13, f14, f15⟩ := F
  have ne : ∀ x y, x < 16 → y < 16 → (pr x).1 = (pr y).1 → x = y := h
  have A : ∀ i N, i < 16 → mdK i = 6 → (pr i).2 = arrI (lc 0) N → Good 16 pr mdK lc i ∧ lyN (layOf 16 pr mdK lc) (pr i).1 = N ∧ ∀ j, mA (memOf 16 pr) (pr i).1 j = 0 := fun i N hi hk e => good_arr h hi hk (Or.inl ⟨rfl, rfl⟩) e
  have g1 := A 1 304 (by omega) (by decide) f1
  have g2 := A 2 304 (by omega) (by decide) f2
  have g3 := A 3 304 (by omega) (by decide) f3
  have g5 : ∀ j, j < 8 → Good 16 pr mdK lc (5 + j) ∧ lyN (layOf 16 pr mdK lc) (pr (5 + j)).1 = 304 ∧ ∀ i, mA (memOf 16 pr) (pr (5 + j)).1 i = 0 := fun j hj => A (5 + j) 304 (by omega) (by unfold mdK; rw [if_neg (by omega), if_neg (by omega), if_neg (by omega)]) (f5 j hj)
  have g13 := A 13 46 (by omega) (by decide) f13
  have g15 := A 15 70 (by omega) (by decide) f15
  have g14 : Good 16 pr mdK lc 14 ∧ lyN (layOf 16 pr mdK lc) (pr 14).1 = 80 ∧ ∀ j, mA (memOf 16 pr) (pr 14).1 j = 0 := good_arr h (by omega) (by decide : mdK 14 = 7) (Or.inr ⟨rfl, rfl⟩) f14
  obtain ⟨q1, q2, q3⟩ := good_q (n := 16) (K := mdK) (lc := lc) (i := 4) (κ := 10) (kx := 6) (cx := 4) (N := 8) (f := fun j => (pr (5 + j)).1) h (by omega) (by decide) (Or.inr (Or.inr ⟨rfl, rfl, rfl⟩)) f4 (fun j hj => lay_in h (by omega) (by unfold mdK; rw [if_neg (by omega), if_neg (by omega), if_neg (by omega)]))
  have R : ∀ k x, rOf (pr 0).2 k = x → lyR (layOf 16 pr mdK lc) (pr 0).1 k = x := fun k x e => (lay_R h (by omega) k).trans e
  have R0 := R 0 (pr 1).1 (by rw [f0]; rfl)
  have R1 := R 1 (pr 2).1 (by rw [f0]; rfl)
  have R2 := R 2 (pr 3).1 (by rw [f0]; rfl)
  have R3 := R 3 (pr 4).1 (by rw [f0]; rfl)
  have R11 := R 11 (pr 13).1 (by rw [f0]; rfl)
  have R12 := R 12 (pr 14).1 (by rw [f0]; rfl)
  have R14 := R 14 (pr 15).1 (by rw [f0]; rfl)
  have I0 : ∀ k, k < 21 → mI (memOf 16 pr) (pr 0).1 k = if k = 7 then -1 else 0 := fun k hk => by
    rw [mem_I h (by omega), f0]
    match k, hk with
    | 0, _ => rfl
    | 1, _ => rfl
    | 2, _ => rfl
    | 3, _ => rfl
    | 4, _ => rfl
    | 5, _ => rfl
    | 6, _ => rfl
    | 7, _ => rfl
    | 8, _ => rfl
    | 9, _ => rfl
    | 10, _ => rfl
    | 11, _ => rfl
    | 12, _ => rfl
    | 13, _ => rfl
    | 14, _ => rfl
    | 15, _ => rfl
    | 16, _ => rfl
    | 17, _ => rfl
    | 18, _ => rfl
    | 19, _ => rfl
    | 20, _ => rfl
    | k + 21, hk => omega
  have g0 : Good 16 pr mdK lc 0 := by
    have kk : lyK (layOf 16 pr mdK lc) (pr 0).1 = 5 := (lay_K h (by omega)).trans (by decide)
    refine ⟨?_, ok_5 kk ⟨by rw [R0]; exact lay_in h (by omega) (by decide), by rw [R1]; exact lay_in h (by omega) (by decide), by rw [R2]; exact lay_in h (by omega) (by decide), by rw [R3]; exact lay_in h (by omega) (by decide), by rw [R11]; exact lay_in h (by omega) (by decide), by rw [R12]; exact lay_in h (by omega) (by decide), by rw [R14]; exact lay_in h (by omega) (by decide)⟩⟩
    rw [enc_5 kk, R0, R1, R2, R3, R11, R12, R14, I0 4 (by omega), I0 5 (by omega), I0 6 (by omega), I0 7 (by omega), I0 8 (by omega), I0 9 (by omega), I0 10 (by omega), I0 13 (by omega), I0 15 (by omega), I0 16 (by omega), I0 17 (by omega), I0 18 (by omega), I0 19 (by omega), I0 20 (by omega), f0]
    rfl
  have mdx : ∀ i, i < 14 → ∃ x, x < 16 ∧ 0 < x ∧ mdA (layOf 16 pr mdK lc) (pr 0).1 i = (pr x).1 ∧ ((i < 3 ∧ x = i + 1) ∨ (3 ≤ i ∧ i < 11 ∧ x = i + 2) ∨ (11 ≤ i ∧ x = i + 2)) := fun i hi => by
    unfold mdA
    by_cases c : i < 3
    · rw [if_pos c]
      have : i = 0 ∨ i = 1 ∨ i = 2 := by omega
      rcases this with e | e | e
      · subst e; exact ⟨1, by omega, by omega, R0, Or.inl ⟨by omega, rfl⟩⟩
      · subst e; exact ⟨2, by omega, by omega, R1, Or.inl ⟨by omega, rfl⟩⟩
      · subst e; exact ⟨3, by omega, by omega, R2, Or.inl ⟨by omega, rfl⟩⟩
    rw [if_neg c]
    by_cases c2 : i < 11
    · rw [if_pos c2, R3, q3 (i - 3) (by omega)]
      exact ⟨5 + (i - 3), by omega, by omega, rfl, Or.inr (Or.inl ⟨by omega, c2, by omega⟩)⟩
    rw [if_neg c2]
    by_cases c3 : i = 11
    · rw [if_pos c3]; exact ⟨13, by omega, by omega, R11, Or.inr (Or.inr ⟨by omega, by omega⟩)⟩
    rw [if_neg c3]
    by_cases c4 : i = 12
    · rw [if_pos c4]; exact ⟨14, by omega, by omega, R12, Or.inr (Or.inr ⟨by omega, by omega⟩)⟩
    rw [if_neg c4]
    exact ⟨15, by omega, by omega, R14, Or.inr (Or.inr ⟨by omega, by omega⟩)⟩
  have N304 : ∀ i, i < 11 → lyN (layOf 16 pr mdK lc) (mdA (layOf 16 pr mdK lc) (pr 0).1 i) = 304 := fun i hi => by
    obtain ⟨x, x1, x0, x2, x3⟩ := mdx i (by omega)
    rw [x2]
    have : x = 1 ∨ x = 2 ∨ x = 3 ∨ (5 ≤ x ∧ x < 13) := by omega
    rcases this with e | e | e | e
    · subst e; exact g1.2.1
    · subst e; exact g2.2.1
    · subst e; exact g3.2.1
    · have := (g5 (x - 5) (by omega)).2.1
      rw [show 5 + (x - 5) = x by omega] at this
      exact this
  refine ⟨fun i hi => ?_, ⟨fun i j hi hj q => ?_, N304, by rw [R3]; exact q2, by rw [R11]; exact g13.2.1, by rw [R12]; exact g14.2.1, by rw [R14]; exact g15.2.1⟩, ?_⟩
  · have : i = 0 ∨ i = 1 ∨ i = 2 ∨ i = 3 ∨ i = 4 ∨ (5 ≤ i ∧ i < 13) ∨ i = 13 ∨ i = 14 ∨ i = 15 := by omega
    rcases this with e | e | e | e | e | e | e | e | e
    · subst e; exact g0
    · subst e; exact g1.1
    · subst e; exact g2.1
    · subst e; exact g3.1
    · subst e; exact q1
    · have := (g5 (i - 5) (by omega)).1
      rw [show 5 + (i - 5) = i by omega] at this
      exact this
    · subst e; exact g13.1
    · subst e; exact g14.1
    · subst e; exact g15.1
  · obtain ⟨x, x1, x0, x2, x3⟩ := mdx i hi
    obtain ⟨y, y1, y0, y2, y3⟩ := mdx j hj
    rw [x2, y2] at q
    have := ne x y x1 y1 q
    omega
  · refine ⟨⟨by rw [R0]; exact g1.2.1, by rw [R0, g1.2.2]; rfl, by rw [R0, g1.2.2]; rfl, by rw [R0, g1.2.2]; rfl, by rw [R0, g1.2.2]; rfl, fun k hk => absurd hk (by simp [picD, Pic.w]), fun k hk => ⟨by rw [R0, g1.2.2]; rfl, fun i hi => absurd hi (by simp [picD, Pic.sl])⟩⟩, ⟨by rw [I0 4 (by omega)]; rfl, by simp, by simp, fun i hi => absurd hi (by simp)⟩, by rw [I0 9 (by omega)]; rfl, (fun U hU => by cases hU), by rw [I0 5 (by omega)]; rfl, by rw [I0 6 (by omega)]; rfl, by rw [I0 7 (by omega)]; rfl, by rw [I0 10 (by omega)]; rfl, by rw [I0 13 (by omega)]; rfl, fun i hi => absurd hi (by simp), by rw [I0 15 (by omega)]; rfl, fun i hi => absurd hi (by simp)⟩
end LI
