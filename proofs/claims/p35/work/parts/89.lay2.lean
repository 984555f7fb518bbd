/-! THE WORLD out of what is made: the class's object. -/
def rivK (j : Nat) : Nat := if j = 0 then 1 else if j = 5 then 8 else if j < 5 then (if j % 2 = 1 then 2 else 6) else if j % 2 = 0 then 2 else 6
def rb (r : Nat) : Nat := if r < 2 then 1 + 32 * r else 67 + 32 * (r - 2)
def wb (k : Nat) : Nat := if k = 0 then 355 else if k = 1 then 357 else 356 + 2 * k
def frK (i : Nat) : Nat := if i = 0 then 4 else if i < 65 then rivK ((i - 1) % 32) else if i = 65 then 0 else if i = 66 then 9 else if i < 355 then rivK ((i - 67) % 32) else if i = 359 then 3 else if i < 359 then (if i % 2 = 1 then 2 else 6) else if i % 2 = 0 then 2 else 6
theorem frK_riv : ∀ r, r < 11 → ∀ j, j < 32 → frK (rb r + j) = rivK j := by decide +kernel
theorem frK_w : ∀ k, k < 5 → frK (wb k) = 2 ∧ frK (wb k + 1) = 6 := by decide +kernel
theorem rb_rng {r : Nat} (h : r < 11) : (1 ≤ rb r ∧ rb r + 32 ≤ 65) ∨ (67 ≤ rb r ∧ rb r + 32 ≤ 355) := by
  unfold rb
  by_cases c : r < 2
  · rw [if_pos c]; omega
  · rw [if_neg c]; omega
theorem rb_two {r q : Nat} (h : r < 11) (h2 : q < 11) (hne : r ≠ q) : rb r + 32 ≤ rb q ∨ rb q + 32 ≤ rb r := by
  unfold rb
  by_cases c : r < 2
  · by_cases d : q < 2
    · rw [if_pos c, if_pos d]; omega
    · rw [if_pos c, if_neg d]; omega
  · by_cases d : q < 2
    · rw [if_neg c, if_pos d]; omega
    · rw [if_neg c, if_neg d]; omega
theorem wb_rng {k : Nat} (h : k < 5) : 355 ≤ wb k ∧ wb k + 2 ≤ 366 ∧ wb k ≠ 359 ∧ wb k + 1 ≠ 359 := by
  have : k = 0 ∨ k = 1 ∨ k = 2 ∨ k = 3 ∨ k = 4 := by omega
  rcases this with q | q | q | q | q <;> subst q <;> decide
theorem wb_two {k q : Nat} (h : k < 5) (h2 : q < 5) (hne : k ≠ q) : wb k + 2 ≤ wb q ∨ wb q + 2 ≤ wb k := by
  have a : k = 0 ∨ k = 1 ∨ k = 2 ∨ k = 3 ∨ k = 4 := by omega
  have b : q = 0 ∨ q = 1 ∨ q = 2 ∨ q = 3 ∨ q = 4 := by omega
  rcases a with x | x | x | x | x <;> rcases b with y | y | y | y | y <;> subst x <;> subst y <;> first | (exact absurd rfl hne) | decide
section LR
variable {n : Nat} {pr : Nat → Nat × va_E} {K : Nat → Nat} {lc : Nat → ClassId} {i b N : Nat}
/-- what the layout says of a made river -/
def RivF (Λ : Lay) (μ : Mem) (pr : Nat → Nat × va_E) (b : Nat) : Prop :=
  lyR Λ (pr b).1 0 = (pr (b + 1)).1 ∧ lyR Λ (pr b).1 1 = (pr (b + 3)).1 ∧ lyR Λ (pr b).1 2 = (pr (b + 5)).1 ∧ lyN Λ (pr (b + 5)).1 = 12 ∧ (∀ k, k < 12 → lyE Λ (pr (b + 5)).1 k = (pr (b + 8 + 2 * k)).1) ∧
  (lyR Λ (pr (b + 1)).1 0 = (pr (b + 2)).1 ∧ lyN Λ (pr (b + 2)).1 = 12 ∧ RowIs Λ μ (pr (b + 1)).1 []) ∧ (lyR Λ (pr (b + 3)).1 0 = (pr (b + 4)).1 ∧ lyN Λ (pr (b + 4)).1 = 12 ∧ RowIs Λ μ (pr (b + 3)).1 []) ∧
  (∀ k, k < 12 → lyR Λ (pr (b + 8 + 2 * k)).1 0 = (pr (b + 8 + 2 * k + 1)).1 ∧ lyN Λ (pr (b + 8 + 2 * k + 1)).1 = 23 ∧ RowIs Λ μ (pr (b + 8 + 2 * k)).1 []) ∧ mI μ (pr b).1 4 = 0 ∧ mI μ (pr b).1 5 = 0 ∧ mI μ (pr b).1 6 = 0
theorem good_riv (h : Inj n pr) (hb : b + 32 ≤ n) (hK : ∀ j, j < 32 → K (b + j) = rivK j) (r : RivS lc pr b) : (∀ j, j < 32 → Good n pr K lc (b + j)) ∧ RivF (layOf n pr K lc) (memOf n pr) pr b := by
  obtain ⟨r1, r2, r3, r4, r5, r6⟩ := r
  have k0 : K b = 1 := hK 0 (by omega)
  obtain ⟨a1, a2, a3, a4, a5⟩ := good_row (K := K) h (b := b + 1) (by omega) (hK 1 (by omega)) (hK 2 (by omega)) (by omega) r2
  obtain ⟨b1, b2, b3, b4, b5⟩ := good_row (K := K) h (b := b + 3) (by omega) (hK 3 (by omega)) (hK 4 (by omega)) (by omega) r3
  obtain ⟨c1, c2, c3, c4, c5⟩ := good_row (K := K) h (b := b + 6) (by omega) (hK 6 (by omega)) (hK 7 (by omega)) (by omega) r5
  have hrow : ∀ k, k < 12 → Good n pr K lc (b + 8 + 2 * k) ∧ Good n pr K lc (b + 8 + 2 * k + 1) ∧ lyR (layOf n pr K lc) (pr (b + 8 + 2 * k)).1 0 = (pr (b + 8 + 2 * k + 1)).1 ∧ lyN (layOf n pr K lc) (pr (b + 8 + 2 * k + 1)).1 = 23 ∧ RowIs (layOf n pr K lc) (memOf n pr) (pr (b + 8 + 2 * k)).1 [] := fun k hk => by
    refine good_row h (by omega) ?_ ?_ (by omega) (r6 k hk)
    · rw [Nat.add_assoc, hK _ (by omega)]
      unfold rivK
      rw [if_neg (by omega), if_neg (by omega), if_neg (by omega), if_pos (by omega)]
    · rw [Nat.add_assoc, Nat.add_assoc, hK _ (by omega)]
      unfold rivK
      rw [if_neg (by omega), if_neg (by omega), if_neg (by omega), if_neg (by omega)]
  obtain ⟨q1, q2, q3⟩ := good_q (n := n) (K := K) (lc := lc) (i := b + 5) (κ := 8) (kx := 2) (cx := 2) (N := 12) (f := fun j => (pr (b + 8 + 2 * j)).1) h (by omega) (hK 5 (by omega)) (Or.inl ⟨rfl, rfl, rfl⟩) r4 (fun j hj => lay_in h (by omega) (by
    rw [Nat.add_assoc, hK _ (by omega)]
    unfold rivK
    rw [if_neg (by omega), if_neg (by omega), if_neg (by omega), if_pos (by omega)]))
  have R0 : lyR (layOf n pr K lc) (pr b).1 0 = (pr (b + 1)).1 := by rw [lay_R h (by omega), r1]; rfl
  have R1 : lyR (layOf n pr K lc) (pr b).1 1 = (pr (b + 3)).1 := by rw [lay_R h (by omega), r1]; rfl
  have R2 : lyR (layOf n pr K lc) (pr b).1 2 = (pr (b + 5)).1 := by rw [lay_R h (by omega), r1]; rfl
  have R3 : lyR (layOf n pr K lc) (pr b).1 3 = (pr (b + 6)).1 := by rw [lay_R h (by omega), r1]; rfl
  have I4 : mI (memOf n pr) (pr b).1 4 = 0 := by rw [mem_I h (by omega), r1]; rfl
  have I5 : mI (memOf n pr) (pr b).1 5 = 0 := by rw [mem_I h (by omega), r1]; rfl
  have I6 : mI (memOf n pr) (pr b).1 6 = 0 := by rw [mem_I h (by omega), r1]; rfl
  have g0 : Good n pr K lc b := by
    refine ⟨?_, ok_1 ((lay_K h (by omega)).trans k0) ⟨by rw [R0]; exact lay_in h (by omega) (hK 1 (by omega)), by rw [R1]; exact lay_in h (by omega) (hK 3 (by omega)), by rw [R2]; exact lay_in h (by omega) (hK 5 (by omega)), by rw [R3]; exact lay_in h (by omega) (hK 6 (by omega))⟩⟩
    rw [enc_1 ((lay_K h (by omega)).trans k0), R0, R1, R2, R3, I4, I5, I6, r1]
  refine ⟨fun j hj => ?_, ⟨R0, R1, R2, q2, q3, ⟨a3, a4, a5⟩, ⟨b3, b4, b5⟩, fun k hk => (hrow k hk).2.2, I4, I5, I6⟩⟩
  by_cases e0 : j = 0
  · subst e0; exact g0
  by_cases e1 : j = 1
  · subst e1; exact a1
  by_cases e2 : j = 2
  · subst e2; exact a2
  by_cases e3 : j = 3
  · subst e3; exact b1
  by_cases e4 : j = 4
  · subst e4; exact b2
  by_cases e5 : j = 5
  · subst e5; exact q1
  by_cases e6 : j = 6
  · subst e6; exact c1
  by_cases e7 : j = 7
  · subst e7; exact c2
  by_cases ev : j % 2 = 0
  · have := (hrow ((j - 8) / 2) (by omega)).1
    rw [show b + 8 + 2 * ((j - 8) / 2) = b + j by omega] at this
    exact this
  · have := (hrow ((j - 8) / 2) (by omega)).2.1
    rw [show b + 8 + 2 * ((j - 8) / 2) + 1 = b + j by omega] at this
    exact this
end LR
section LF
variable {pr : Nat → Nat × va_E} {lc : Nat → ClassId}
/-- what the layout says of the made object of the class -/
theorem fr_made (h : Inj 366 pr) (F : FrS lc pr) : (∀ i, i < 366 → Good 366 pr frK lc i) ∧ (∀ r, r < 11 → frR (layOf 366 pr frK lc) (pr 0).1 r = (pr (rb r)).1 ∧ RivF (layOf 366 pr frK lc) (memOf 366 pr) pr (rb r)) ∧ (∀ k, k < 5 → frW (layOf 366 pr frK lc) (pr 0).1 k = (pr (wb k)).1 ∧ lyR (layOf 366 pr frK lc) (pr (wb k)).1 0 = (pr (wb k + 1)).1 ∧ lyN (layOf 366 pr frK lc) (pr (wb k + 1)).1 = (if k = 0 then 69 else 70) ∧ RowIs (layOf 366 pr frK lc) (memOf 366 pr) (pr (wb k)).1 []) ∧ lyR (layOf 366 pr frK lc) (pr 0).1 2 = (pr 65).1 ∧ lyR (layOf 366 pr frK lc) (pr 0).1 5 = (pr 359).1 ∧ lyR (layOf 366 pr frK lc) (pr 65).1 0 = (pr 66).1 ∧ lyN (layOf 366 pr frK lc) (pr 66).1 = 9 ∧ (∀ k, mI (memOf 366 pr) (pr 0).1 k = if k = 10 then -4 else 0) ∧ (∀ k, mI (memOf 366 pr) (pr 65).1 k = 0) := by
  obtain ⟨f0, f1, f2, f3, f4, f5, f6⟩ := F
  obtain ⟨p0, p1, p2⟩ := f3
  obtain ⟨s0, s1, s2, s3⟩ := f6
  have hriv : ∀ r, r < 11 → RivS lc pr (rb r) := fun r hr => by
    by_cases c : r = 0
    · subst c; exact f1
    by_cases c1 : r = 1
    · subst c1; exact f2
    have := p2 (r - 2) (by omega)
    have e : rb r = 65 + 2 + 32 * (r - 2) := by unfold rb; rw [if_neg (by omega)]
    rw [e]; exact this
  have gr : ∀ r, r < 11 → (∀ j, j < 32 → Good 366 pr frK lc (rb r + j)) ∧ RivF (layOf 366 pr frK lc) (memOf 366 pr) pr (rb r) := fun r hr => good_riv h (by have := rb_rng hr; omega) (frK_riv r hr) (hriv r hr)
  have hw : ∀ k, k < 5 → RowS lc pr (wb k) (if k = 0 then 69 else 70) := fun k hk => by
    have : k = 0 ∨ k = 1 ∨ k = 2 ∨ k = 3 ∨ k = 4 := by omega
    rcases this with q | q | q | q | q
    · subst q; exact f4
    · subst q; exact f5
    · subst q; exact s1
    · subst q; exact s2
    · subst q; exact s3
  have gw : ∀ k, k < 5 → Good 366 pr frK lc (wb k) ∧ Good 366 pr frK lc (wb k + 1) ∧ lyR (layOf 366 pr frK lc) (pr (wb k)).1 0 = (pr (wb k + 1)).1 ∧ lyN (layOf 366 pr frK lc) (pr (wb k + 1)).1 = (if k = 0 then 69 else 70) ∧ RowIs (layOf 366 pr frK lc) (memOf 366 pr) (pr (wb k)).1 [] := fun k hk => good_row h (by have := wb_rng hk; omega) (frK_w k hk).1 (frK_w k hk).2 (by by_cases c : k = 0 <;> simp [c]) (hw k hk)
  have R : ∀ k x, rOf (pr 0).2 k = x → lyR (layOf 366 pr frK lc) (pr 0).1 k = x := fun k x e => (lay_R h (by omega) k).trans e
  have R0 := R 0 (pr 1).1 (by rw [f0]; rfl)
  have R1 := R 1 (pr 33).1 (by rw [f0]; rfl)
  have R2 := R 2 (pr 65).1 (by rw [f0]; rfl)
  have R3 := R 3 (pr 355).1 (by rw [f0]; rfl)
  have R4 := R 4 (pr 357).1 (by rw [f0]; rfl)
  have R5 := R 5 (pr 359).1 (by rw [f0]; rfl)
  have P0 : lyR (layOf 366 pr frK lc) (pr 65).1 0 = (pr 66).1 := by rw [lay_R h (by omega), p0]; rfl
  have S : ∀ k x, rOf (pr 359).2 k = x → lyR (layOf 366 pr frK lc) (pr 359).1 k = x := fun k x e => (lay_R h (by omega) k).trans e
  have S0 := S 0 (pr 360).1 (by rw [s0]; rfl)
  have S1 := S 1 (pr 362).1 (by rw [s0]; rfl)
  have S2 := S 2 (pr 364).1 (by rw [s0]; rfl)
  obtain ⟨q1, q2, q3⟩ := good_q (n := 366) (K := frK) (lc := lc) (i := 66) (κ := 9) (kx := 1) (cx := 3) (N := 9) (f := fun j => (pr (65 + 2 + 32 * j)).1) h (by omega) (by decide) (Or.inr (Or.inl ⟨rfl, rfl, rfl⟩)) p1 (fun j hj => lay_in h (by omega) (by
    have := frK_riv (j + 2) (by omega) 0 (by omega)
    have e : rb (j + 2) + 0 = 65 + 2 + 32 * j := by unfold rb; rw [if_neg (by omega)]; omega
    rw [e] at this
    exact this))
  have I0 : ∀ k, mI (memOf 366 pr) (pr 0).1 k = if k = 10 then -4 else 0 := fun k => by
    rw [mem_I h (by omega), f0]
    match k with
    | 0 => rfl
    | 1 => rfl
    | 2 => rfl
    | 3 => rfl
    | 4 => rfl
    | 5 => rfl
    | 6 => rfl
    | 7 => rfl
    | 8 => rfl
    | 9 => rfl
    | 10 => rfl
    | k + 11 => rw [if_neg (by omega)]; rfl
  have IP : ∀ k, mI (memOf 366 pr) (pr 65).1 k = 0 := fun k => by
    rw [mem_I h (by omega), p0]
    match k with
    | 0 => rfl
    | 1 => rfl
    | 2 => rfl
    | k + 3 => rfl
  have IS : ∀ k, mI (memOf 366 pr) (pr 359).1 k = 0 := fun k => by
    rw [mem_I h (by omega), s0]
    match k with
    | 0 => rfl
    | 1 => rfl
    | 2 => rfl
    | 3 => rfl
    | 4 => rfl
    | k + 5 => rfl
  have g0 : Good 366 pr frK lc 0 := by
    have kk : lyK (layOf 366 pr frK lc) (pr 0).1 = 4 := (lay_K h (by omega)).trans (by decide)
    refine ⟨?_, ok_4 kk ⟨by rw [R0]; exact lay_in h (by omega) (by decide), by rw [R1]; exact lay_in h (by omega) (by decide), by rw [R2]; exact lay_in h (by omega) (by decide), by rw [R3]; exact lay_in h (by omega) (by decide), by rw [R4]; exact lay_in h (by omega) (by decide), by rw [R5]; exact lay_in h (by omega) (by decide)⟩⟩
    rw [enc_4 kk, R0, R1, R2, R3, R4, R5, I0, I0, I0, I0, I0, f0]
    rfl
  have g65 : Good 366 pr frK lc 65 := by
    have kk : lyK (layOf 366 pr frK lc) (pr 65).1 = 0 := (lay_K h (by omega)).trans (by decide)
    refine ⟨?_, ok_0 kk (by rw [P0]; exact lay_in h (by omega) (by decide))⟩
    rw [enc_0 kk, P0, IP, IP, p0]
  have g359 : Good 366 pr frK lc 359 := by
    have kk : lyK (layOf 366 pr frK lc) (pr 359).1 = 3 := (lay_K h (by omega)).trans (by decide)
    refine ⟨?_, ok_3 kk ⟨by rw [S0]; exact lay_in h (by omega) (by decide), by rw [S1]; exact lay_in h (by omega) (by decide), by rw [S2]; exact lay_in h (by omega) (by decide)⟩⟩
    rw [enc_3 kk, S0, S1, S2, IS, IS, s0]
  refine ⟨fun i hi => ?_, fun r hr => ⟨?_, (gr r hr).2⟩, fun k hk => ⟨?_, (gw k hk).2.2⟩, R2, R5, P0, q2, I0, IP⟩
  · by_cases c0 : i = 0
    · subst c0; exact g0
    by_cases c1 : i < 33
    · have := (gr 0 (by omega)).1 (i - 1) (by omega)
      rw [show rb 0 + (i - 1) = i by show 1 + (i - 1) = i; omega] at this
      exact this
    by_cases c2 : i < 65
    · have := (gr 1 (by omega)).1 (i - 33) (by omega)
      rw [show rb 1 + (i - 33) = i by show 33 + (i - 33) = i; omega] at this
      exact this
    by_cases c3 : i = 65
    · subst c3; exact g65
    by_cases c4 : i = 66
    · subst c4; exact q1
    by_cases c5 : i < 355
    · have := (gr ((i - 67) / 32 + 2) (by omega)).1 ((i - 67) % 32) (by omega)
      have e : rb ((i - 67) / 32 + 2) + (i - 67) % 32 = i := by unfold rb; rw [if_neg (by omega)]; omega
      rw [e] at this
      exact this
    by_cases c6 : i = 355
    · subst c6; exact (gw 0 (by omega)).1
    by_cases c7 : i = 356
    · subst c7; exact (gw 0 (by omega)).2.1
    by_cases c8 : i = 357
    · subst c8; exact (gw 1 (by omega)).1
    by_cases c9 : i = 358
    · subst c9; exact (gw 1 (by omega)).2.1
    by_cases d0 : i = 359
    · subst d0; exact g359
    by_cases d1 : i = 360
    · subst d1; exact (gw 2 (by omega)).1
    by_cases d2 : i = 361
    · subst d2; exact (gw 2 (by omega)).2.1
    by_cases d3 : i = 362
    · subst d3; exact (gw 3 (by omega)).1
    by_cases d4 : i = 363
    · subst d4; exact (gw 3 (by omega)).2.1
    by_cases d5 : i = 364
    · subst d5; exact (gw 4 (by omega)).1
    have : i = 365 := by omega
    subst this; exact (gw 4 (by omega)).2.1
  · unfold frR
    by_cases c0 : r = 0
    · subst c0; rw [if_pos rfl]; exact R0
    rw [if_neg c0]
    by_cases c1 : r = 1
    · subst c1; rw [if_pos rfl]; exact R1
    rw [if_neg c1, R2, P0, q3 (r - 2) (by omega)]
    have e : rb r = 65 + 2 + 32 * (r - 2) := by unfold rb; rw [if_neg (by omega)]
    rw [e]
  · unfold frW
    have : k = 0 ∨ k = 1 ∨ k = 2 ∨ k = 3 ∨ k = 4 := by omega
    rcases this with q | q | q | q | q
    · subst q; exact R3
    · subst q; exact R4
    · subst q
      rw [if_neg (by omega), if_neg (by omega), R5]; exact S0
    · subst q
      rw [if_neg (by omega), if_neg (by omega), R5]; exact S1
    · subst q
      rw [if_neg (by omega), if_neg (by omega), R5]; exact S2
end LF
