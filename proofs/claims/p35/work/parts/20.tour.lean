/-! TOURS: the rounds of trees as lists. -/
def tourN : Nat → List Nat → Prop
  | 0, _ => False
  | n + 1, l => (∃ r, l = [r]) ∨ ∃ r t1 t2, l = r :: (t1 ++ r :: t2) ∧ tourN n t1 ∧ tourN n (r :: t2) ∧ ∀ x ∈ t1, x ∉ r :: t2
def Tour (l : List Nat) : Prop := ∃ n, tourN n l
theorem tourN_s : ∀ (n : Nat) (l : List Nat), tourN n l → tourN (n + 1) l := by
  intro n
  induction n with
  | zero => intro l h; exact (show False from h).elim
  | succ n ih =>
    intro l h
    rcases h with ⟨r, e⟩ | ⟨r, t1, t2, e, h1, h2, h3⟩
    · exact Or.inl ⟨r, e⟩
    · exact Or.inr ⟨r, t1, t2, e, ih _ h1, ih _ h2, h3⟩
theorem tourN_le {n m : Nat} (h : n ≤ m) (l : List Nat) (hl : tourN n l) : tourN m l := by
  induction h with
  | refl => exact hl
  | step _ ih => exact tourN_s _ _ ih
theorem T_one (r : Nat) : Tour [r] := ⟨1, Or.inl ⟨r, rfl⟩⟩
theorem T_node {r : Nat} {t1 t2 : List Nat} (h1 : Tour t1) (h2 : Tour (r :: t2)) (h3 : ∀ x ∈ t1, x ∉ r :: t2) : Tour (r :: (t1 ++ r :: t2)) := by
  obtain ⟨n1, h1⟩ := h1
  obtain ⟨n2, h2⟩ := h2
  exact ⟨max n1 n2 + 1, Or.inr ⟨r, t1, t2, rfl, tourN_le (Nat.le_max_left _ _) _ h1, tourN_le (Nat.le_max_right _ _) _ h2, h3⟩⟩
theorem T_ind {P : List Nat → Prop} (h0 : ∀ r, P [r]) (h1 : ∀ r t1 t2, Tour t1 → Tour (r :: t2) → (∀ x ∈ t1, x ∉ r :: t2) → P t1 → P (r :: t2) → P (r :: (t1 ++ r :: t2))) : ∀ l, Tour l → P l := by
  rintro l ⟨n, h⟩
  induction n generalizing l with
  | zero => exact (show False from h).elim
  | succ n ih =>
    rcases h with ⟨r, rfl⟩ | ⟨r, t1, t2, rfl, a, b, c⟩
    · exact h0 r
    · exact h1 r t1 t2 ⟨n, a⟩ ⟨n, b⟩ c (ih _ a) (ih _ b)
theorem T_closed : ∀ l, Tour l → ∃ r, (∃ t, l = r :: t) ∧ ∃ t, l = t ++ [r] := by
  refine T_ind (fun r => ⟨r, ⟨[], rfl⟩, ⟨[], rfl⟩⟩) ?_
  intro r t1 t2 _ _ _ _ i2
  obtain ⟨r', ⟨t, e1⟩, t', e2⟩ := i2
  obtain ⟨rfl, rfl⟩ := List.cons.inj e1
  exact ⟨r, ⟨_, rfl⟩, r :: t1 ++ t', by rw [e2]; simp⟩
theorem T_last {r : Nat} {t : List Nat} (h : Tour (r :: t)) : ∃ t', r :: t = t' ++ [r] := by
  obtain ⟨r', ⟨t1, e1⟩, t', e2⟩ := T_closed _ h
  obtain ⟨rfl, rfl⟩ := List.cons.inj e1
  exact ⟨t', e2⟩
/-- a tour put in behind any place -/
theorem T_ins : ∀ l, Tour l → ∀ (A : List Nat) (x : Nat) (B G : List Nat), l = A ++ x :: B → Tour G → (∀ y ∈ G, y ∉ l) → Tour (A ++ x :: (G ++ x :: B)) := by
  refine T_ind ?_ ?_
  · intro r A x B G e hG hd
    cases A with
    | nil =>
      obtain ⟨rfl, rfl⟩ := List.cons.inj e
      exact T_node hG (T_one r) hd
    | cons a A => simp at e
  · intro r t1 t2 h1 h2 h3 i1 i2 A x B G e hG hd
    cases A with
    | nil =>
      obtain ⟨rfl, rfl⟩ := List.cons.inj e
      exact T_node hG (T_node h1 h2 h3) hd
    | cons a A =>
      obtain ⟨rfl, e9⟩ := List.cons.inj e
      have key : ∀ as, A = t1 ++ as → r :: t2 = as ++ x :: B → Tour (r :: (A ++ x :: (G ++ x :: B))) := by
        intro as e1 e2
        have h := i2 as x B G e2 hG (by clear i1 i2; grind)
        clear i1 i2
        cases as with
        | nil =>
          obtain ⟨rfl, rfl⟩ := List.cons.inj e2
          subst e1
          have := T_node h1 h (by grind)
          simpa using this
        | cons a as =>
          obtain ⟨rfl, e3⟩ := List.cons.inj e2
          have e3 : t2 = as ++ x :: B := e3
          subst e3
          subst e1
          have := T_node h1 h (by
            intro y hy
            have q1 := h3 y hy
            have q2 : y ∉ G := fun q => hd y q (by simp [hy])
            show ¬ y ∈ r :: (as ++ x :: (G ++ x :: B))
            simp only [List.mem_cons, List.mem_append, not_or] at q1 ⊢
            exact ⟨q1.1, q1.2.1, q1.2.2.1, q2, q1.2.2.1, q1.2.2.2⟩)
          simpa using this
      rcases List.append_eq_append_iff.mp e9 with ⟨as, e1, e2⟩ | ⟨bs, e1, e2⟩
      · exact key as e1 e2
      · cases bs with
        | nil =>
          refine key [] ?_ ?_
          · simpa using e1.symm
          · simpa using e2.symm
        | cons b bs =>
          obtain ⟨rfl, rfl⟩ := List.cons.inj e2
          have h := i1 A x bs G e1 hG (by clear i1 i2; grind)
          clear i1 i2
          have := T_node h h2 (by grind)
          simpa using this
/-- a tour turned to any of its places -/
theorem T_rot : ∀ l, Tour l → ∀ (A : List Nat) (b : Nat) (B : List Nat), l = A ++ b :: B → Tour (b :: B ++ (A ++ [b]).tail) := by
  refine T_ind ?_ ?_
  · intro r A b B e
    cases A with
    | nil => obtain ⟨rfl, rfl⟩ := List.cons.inj e; exact T_one r
    | cons a A => simp at e
  · intro r t1 t2 h1 h2 h3 i1 i2 A b B e
    cases A with
    | nil =>
      obtain ⟨rfl, rfl⟩ := List.cons.inj e
      simpa using T_node h1 h2 h3
    | cons a A =>
      obtain ⟨rfl, e9⟩ := List.cons.inj e
      show Tour (b :: B ++ (A ++ [b]))
      have key : ∀ as, A = t1 ++ as → r :: t2 = as ++ b :: B → Tour (b :: B ++ (A ++ [b])) := by
        intro as e1 e2
        cases as with
        | nil =>
          obtain ⟨rfl, rfl⟩ := List.cons.inj e2
          obtain ⟨M, eM⟩ := T_last h2
          have h := T_ins _ h2 M r [] t1 eM h1 (fun y hy => h3 y hy)
          subst e1
          rw [eM]
          simpa using h
        | cons a as =>
          obtain ⟨rfl, e3⟩ := List.cons.inj e2
          obtain ⟨M, eM⟩ := T_last h2
          have h := i2 (r :: as) b B e2
          have h : Tour (b :: B ++ (as ++ [b])) := h
          have : ∃ M', b :: B = M' ++ [r] := by
            rw [e2] at eM
            have e4 : (r :: as) ++ b :: B = M ++ [r] := eM
            rcases List.append_eq_append_iff.mp e4 with ⟨u, e5, e6⟩ | ⟨u, e5, e6⟩
            · exact ⟨u, e6⟩
            · cases u with
              | nil => exact ⟨[], by simpa using e6.symm⟩
              | cons v u => simp at e6
          obtain ⟨M', e5⟩ := this
          rw [e5] at h
          have h := T_ins _ h M' r (as ++ [b]) t1 (by simp) h1 (by
            intro y hy
            have := h3 y hy
            rw [e2] at this
            have e6 : y ∉ M' ++ [r] := by rw [← e5]; grind
            grind)
          subst e1
          rw [e5]
          simpa using h
      rcases List.append_eq_append_iff.mp e9 with ⟨as, e1, e2⟩ | ⟨bs, e1, e2⟩
      · exact key as e1 e2
      · cases bs with
        | nil =>
          refine key [] ?_ ?_
          · simpa using e1.symm
          · simpa using e2.symm
        | cons c bs =>
          obtain ⟨rfl, rfl⟩ := List.cons.inj e2
          have h := i1 A b bs e1
          cases A with
          | nil =>
            have e1 : t1 = b :: bs := e1
            subst e1
            obtain ⟨M, eM⟩ := T_last h1
            have h := T_ins _ h1 M b [] (r :: t2) eM h2 (by grind)
            have : Tour ((M ++ [b]) ++ (r :: t2 ++ [b])) := by simpa using h
            rw [← eM] at this
            simpa using this
          | cons c A =>
            have h : Tour (b :: bs ++ (A ++ [b])) := h
            have e1 : t1 = c :: (A ++ b :: bs) := e1
            subst e1
            obtain ⟨M, eM⟩ := T_last h1
            have : ∃ M', b :: bs = M' ++ [c] := by
              have e4 : (c :: A) ++ b :: bs = M ++ [c] := eM
              rcases List.append_eq_append_iff.mp e4 with ⟨u, e5, e6⟩ | ⟨u, e5, e6⟩
              · exact ⟨u, e6⟩
              · cases u with
                | nil => exact ⟨[], by simpa using e6.symm⟩
                | cons v u => simp at e6
            obtain ⟨M', e5⟩ := this
            rw [e5] at h
            have h := T_ins _ h M' c (A ++ [b]) (r :: t2) (by simp) h2 (by
              intro y hy
              have e6 : ∀ z ∈ M' ++ [c], z ∈ c :: (A ++ b :: bs) := by rw [← e5]; grind
              grind)
            have : Tour ((M' ++ [c]) ++ (r :: t2 ++ c :: (A ++ [b]))) := by simpa using h
            rw [← e5] at this
            simpa using this
/-- where a bank's own round stands in a tour: ahead of it A, behind it B; they meet at the bank above -/
def dcp (l : List Nat) (b : Nat) (A Y B : List Nat) : Prop :=
  l = A ++ Y ++ B ∧ Tour Y ∧ (∃ Y', Y = b :: Y') ∧ (∀ x ∈ Y, x ∉ A ∧ x ∉ B) ∧ ((A = [] ∧ B = []) ∨ ∃ p A' B', A = A' ++ [p] ∧ B = p :: B' ∧ Tour (A' ++ p :: B'))
theorem T_dec : ∀ l, Tour l → ∀ b ∈ l, ∃ A Y B, dcp l b A Y B := by
  refine T_ind ?_ ?_
  · intro r b hb
    obtain rfl : b = r := by simpa using hb
    exact ⟨[], [b], [], rfl, T_one b, ⟨[], rfl⟩, by simp, Or.inl ⟨rfl, rfl⟩⟩
  · intro r t1 t2 h1 h2 h3 i1 i2 b hb
    by_cases hr : b = r
    · subst hr
      exact ⟨[], _, [], by simp, T_node h1 h2 h3, ⟨_, rfl⟩, by simp, Or.inl ⟨rfl, rfl⟩⟩
    by_cases hb1 : b ∈ t1
    · obtain ⟨A, Y, B, e, hY, hY', hd, hc⟩ := i1 b hb1
      rcases hc with ⟨rfl, rfl⟩ | ⟨p, A', B', rfl, rfl, hT⟩
      · refine ⟨[r], Y, r :: t2, by rw [e]; simp, hY, hY', ?_, Or.inr ⟨r, [], t2, rfl, rfl, h2⟩⟩
        intro x hx
        have hx1 : x ∈ t1 := by rw [e]; simpa using hx
        have := h3 x hx1
        grind
      · refine ⟨r :: (A' ++ [p]), Y, p :: (B' ++ r :: t2), by rw [e]; simp, hY, hY', ?_, Or.inr ⟨p, r :: A', B' ++ r :: t2, by simp, rfl, ?_⟩⟩
        · intro x hx
          have hx1 : x ∈ t1 := by rw [e]; simp [hx]
          have := h3 x hx1
          have := hd x hx
          grind
        · have := T_node hT h2 (by
            intro x hx
            have hx1 : x ∈ t1 := by rw [e]; grind
            exact h3 x hx1)
          simpa using this
    · have hb2 : b ∈ r :: t2 := by grind
      obtain ⟨A, Y, B, e, hY, hY', hd, hc⟩ := i2 b hb2
      rcases hc with ⟨rfl, rfl⟩ | ⟨p, A', B', rfl, rfl, hT⟩
      · obtain ⟨Y', rfl⟩ := hY'
        simp at e
        exact absurd e.1.symm hr
      · have hin : ∀ x ∈ Y, x ∉ t1 := by
          intro x hx hx1
          have := h3 x hx1
          rw [e] at this
          grind
        cases A' with
        | nil =>
          have e' : r :: t2 = p :: (Y ++ p :: B') := by simpa using e
          obtain ⟨rfl, e2⟩ := List.cons.inj e'
          refine ⟨r :: (t1 ++ [r]), Y, r :: B', by rw [e2]; simp, hY, hY', ?_, Or.inr ⟨r, r :: t1, B', by simp, rfl, ?_⟩⟩
          · intro x hx
            have := hd x hx
            have := hin x hx
            grind
          · have := T_node h1 (show Tour (r :: B') from hT) (by
              intro x hx
              have := h3 x hx
              rw [e2] at this
              grind)
            simpa using this
        | cons a A' =>
          have e' : r :: t2 = a :: (A' ++ p :: (Y ++ p :: B')) := by simpa using e
          obtain ⟨rfl, e2⟩ := List.cons.inj e'
          refine ⟨r :: (t1 ++ r :: (A' ++ [p])), Y, p :: B', by rw [e2]; simp, hY, hY', ?_, Or.inr ⟨p, r :: (t1 ++ r :: A'), B', by simp, rfl, ?_⟩⟩
          · intro x hx
            have := hd x hx
            have := hin x hx
            grind
          · have := T_node h1 (show Tour (r :: (A' ++ p :: B')) from hT) (by
              intro x hx
              have := h3 x hx
              rw [e2] at this
              grind)
            simpa using this
