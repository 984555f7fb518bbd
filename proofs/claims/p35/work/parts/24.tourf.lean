/-! TOURS BY PLACES. -/
theorem prs_iff {l : List Nat} {x y : Nat} : (x, y) ∈ prs l ↔ ∃ A B, l = A ++ x :: y :: B := by
  induction l with
  | nil => simp [prs]
  | cons a l ih =>
    cases l with
    | nil =>
      simp only [prs, List.not_mem_nil, false_iff]
      rintro ⟨A, B, e⟩
      cases A with
      | nil => simp at e
      | cons c A => simp at e
    | cons b l =>
      simp only [prs, List.mem_cons, Prod.mk.injEq]
      rw [ih]
      constructor
      · rintro (⟨rfl, rfl⟩ | ⟨A, B, e⟩)
        · exact ⟨[], l, rfl⟩
        · exact ⟨a :: A, B, by rw [e]; rfl⟩
      · rintro ⟨A, B, e⟩
        cases A with
        | nil =>
          simp at e
          exact Or.inl ⟨e.1.symm, e.2.1.symm⟩
        | cons c A =>
          refine Or.inr ⟨A, B, ?_⟩
          simp at e
          exact e.2
theorem prs_app (A : List Nat) (x : Nat) (B : List Nat) : prs (A ++ x :: B) = prs (A ++ [x]) ++ prs (x :: B) := by
  induction A with
  | nil => simp [prs]
  | cons a A ih =>
    cases A with
    | nil => simp [prs]
    | cons b A =>
      show (a, b) :: prs (b :: A ++ x :: B) = (a, b) :: (prs (b :: A ++ [x]) ++ prs (x :: B))
      rw [ih]
theorem prs_mem {l : List Nat} {x y : Nat} (h : (x, y) ∈ prs l) : x ∈ l ∧ y ∈ l := by
  obtain ⟨A, B, rfl⟩ := prs_iff.mp h
  simp
/-- the pairs of a tour with one put in -/
theorem prs_node {r : Nat} {t1 t2 : List Nat} (h1 : Tour t1) : ∃ c, (∃ t, t1 = c :: t) ∧ (∃ t, t1 = t ++ [c]) ∧ prs (r :: (t1 ++ r :: t2)) = (r, c) :: (prs t1 ++ (c, r) :: prs (r :: t2)) := by
  obtain ⟨c, ⟨t, e1⟩, t', e2⟩ := T_closed _ h1
  refine ⟨c, ⟨t, e1⟩, ⟨t', e2⟩, ?_⟩
  have e3 : prs (r :: (t1 ++ r :: t2)) = (r, c) :: prs (t1 ++ r :: t2) := by rw [e1]; rfl
  rw [e3]
  congr 1
  rw [e2, List.append_assoc]
  show prs (t' ++ c :: (r :: t2)) = _
  rw [prs_app]
  rfl
theorem prs_sym : ∀ l, Tour l → ∀ x y, (x, y) ∈ prs l → (y, x) ∈ prs l ∧ x ≠ y := by
  refine T_ind ?_ ?_
  · intro r x y h; simp [prs] at h
  · intro r t1 t2 h1 h2 h3 i1 i2 x y h
    obtain ⟨c, ⟨t, e1⟩, -, e⟩ := prs_node (r := r) (t2 := t2) h1
    have hc : c ∈ t1 := by rw [e1]; simp
    have hcr : c ≠ r := fun q => h3 c hc (by simp [q])
    rw [e] at h ⊢
    simp only [List.mem_cons, List.mem_append, Prod.mk.injEq] at h ⊢
    rcases h with ⟨rfl, rfl⟩ | h | ⟨rfl, rfl⟩ | h
    · exact ⟨Or.inr (Or.inr (Or.inl ⟨rfl, rfl⟩)), hcr.symm⟩
    · exact ⟨Or.inr (Or.inl (i1 _ _ h).1), (i1 _ _ h).2⟩
    · exact ⟨Or.inl ⟨rfl, rfl⟩, hcr⟩
    · exact ⟨Or.inr (Or.inr (Or.inr (i2 _ _ h).1)), (i2 _ _ h).2⟩
theorem prs_nodup : ∀ l, Tour l → (prs l).Nodup := by
  refine T_ind ?_ ?_
  · intro r; simp [prs]
  · intro r t1 t2 h1 h2 h3 i1 i2
    obtain ⟨c, ⟨t, e1⟩, -, e⟩ := prs_node (r := r) (t2 := t2) h1
    have hc : c ∈ t1 := by rw [e1]; simp
    have hr1 : r ∉ t1 := fun q => h3 r q (by simp)
    have hc2 : c ∉ r :: t2 := h3 c hc
    rw [e, List.nodup_cons, List.nodup_append, List.nodup_cons]
    refine ⟨?_, i1, ⟨fun q => hc2 (prs_mem q).1, i2⟩, ?_⟩
    · simp only [List.mem_append, List.mem_cons, Prod.mk.injEq]
      rintro (q | ⟨q, -⟩ | q)
      · exact hr1 (prs_mem q).1
      · exact hr1 (q ▸ hc)
      · exact hc2 (prs_mem q).2
    · rintro ⟨x, y⟩ hx z hz q
      subst q
      rw [List.mem_cons] at hz
      rcases hz with q | q
      · obtain ⟨rfl, rfl⟩ := Prod.mk.inj q
        exact hr1 (prs_mem hx).2
      · exact h3 x (prs_mem hx).1 (prs_mem q).1
/-- how long a tour is -/
theorem cntTo_disj {n : Nat} {P Q : Nat → Bool} (h : ∀ k, k < n → ¬ (P k = true ∧ Q k = true)) : cntTo n (fun k => P k || Q k) = cntTo n P + cntTo n Q := by
  unfold cntTo
  rw [← sumTo_add]
  apply sumTo_congr
  intro k hk
  have := h k hk
  cases hP : P k <;> cases hQ : Q k <;> simp_all
theorem T_len (N : Nat) : ∀ l, Tour l → (∀ x ∈ l, x < N) → l.length + 1 = 2 * cntTo N (fun k => decide (k ∈ l)) := by
  refine T_ind ?_ ?_
  · intro r hN
    have : cntTo N (fun k => decide (k ∈ [r])) = 1 := by
      have e := sumTo_one (n := N) (b := r) (hN r (by simp)) 1
      unfold cntTo
      simpa using e
    rw [this]; rfl
  · intro r t1 t2 h1 h2 h3 i1 i2 hN
    have j1 := i1 (fun x hx => hN x (by simp [hx]))
    have j2 := i2 (fun x hx => hN x (by
      rcases List.mem_cons.mp hx with q | q <;> simp [q]))
    have e : cntTo N (fun k => decide (k ∈ r :: (t1 ++ r :: t2))) = cntTo N (fun k => decide (k ∈ t1)) + cntTo N (fun k => decide (k ∈ r :: t2)) := by
      rw [← cntTo_disj]
      · apply cntTo_congr
        intro k _
        rw [Bool.eq_iff_iff]
        simp only [Bool.or_eq_true, decide_eq_true_eq, List.mem_cons, List.mem_append]
        grind
      · intro k _ q
        simp only [decide_eq_true_eq] at q
        exact h3 k q.1 q.2
    rw [e]
    simp only [List.length_cons, List.length_append] at j2 ⊢
    omega
section DCP
variable {l A Y B : List Nat} {b : Nat}
theorem dcp_pos (h : dcp l b A Y B) : fi l b = A.length ∧ li l b + 1 = A.length + Y.length := by
  obtain ⟨e, hY, ⟨Y', eY⟩, hd, -⟩ := h
  have hb : b ∈ Y := by rw [eY]; simp
  have h1 := hd b hb
  constructor
  · rw [e, eY, List.append_assoc]
    exact fi_app h1.1
  · have hY2 := hY
    rw [eY] at hY2
    obtain ⟨M, eM⟩ := T_last hY2
    have e2 : l = (A ++ M) ++ b :: B := by rw [e, eY, eM]; simp
    rw [e2, li_app h1.2, eY, eM]
    simp; omega
theorem dcp_in (h : dcp l b A Y B) (k : Nat) : blw l k b = true ↔ k ∈ Y := by
  obtain ⟨p1, p2⟩ := dcp_pos h
  obtain ⟨e, hY, ⟨Y', eY⟩, hd, -⟩ := h
  have hYp : 0 < Y.length := by rw [eY]; simp
  unfold blw
  rw [decide_eq_true_eq, p1]
  constructor
  · rintro ⟨h1, h2, h3⟩
    have hA : k ∉ A := by
      intro q
      have : fi l k = fi A k := by rw [e, List.append_assoc]; exact fi_in q
      have := fi_lt q
      omega
    have hB : k ∉ B := by
      intro q
      have : (A ++ Y).length ≤ li l k := by rw [e]; exact li_ge q
      simp at this
      omega
    rw [e] at h1
    grind
  · intro hk
    have h1 := hd k hk
    refine ⟨by rw [e]; simp [hk], ?_, ?_⟩
    · rw [e, List.append_assoc]; exact fi_ge h1.1
    · have : li l k < (A ++ Y).length := by rw [e]; exact li_le (by simp [hk]) h1.2
      simp at this
      omega
theorem dcp_cut (h : dcp l b A Y B) : (l.take (li l b + 1)).drop (fi l b) = Y := by
  obtain ⟨p1, p2⟩ := dcp_pos h
  obtain ⟨e, -⟩ := h
  rw [p1, p2, e, List.take_append_of_le_length (by simp), List.take_of_length_le (by simp)]
  simp
end DCP
section TF
variable {l : List Nat} (h : Tour l)
theorem blw_mem {k b : Nat} (q : blw l k b = true) : k ∈ l ∧ b ∈ l := by
  unfold blw at q
  rw [decide_eq_true_eq] at q
  have := fi_lt q.1
  exact ⟨q.1, fi_mem (by omega)⟩
theorem blw_rf {b : Nat} (hb : b ∈ l) : blw l b b = true := by
  unfold blw
  simp [hb]
theorem blw_tr {x y z : Nat} (h1 : blw l x y = true) (h2 : blw l y z = true) : blw l x z = true := by
  unfold blw at *
  rw [decide_eq_true_eq] at *
  exact ⟨h1.1, by omega, by omega⟩
theorem fi_inj {x y : Nat} (hx : x ∈ l) (e : fi l x = fi l y) : x = y := by
  have h1 := fi_get hx
  have hy : y ∈ l := fi_mem (by rw [← e]; exact fi_lt hx)
  have h2 := fi_get hy
  simp only [e] at h1
  exact h1.symm.trans h2
theorem blw_as {x y : Nat} (h1 : blw l x y = true) (h2 : blw l y x = true) : x = y := by
  unfold blw at *
  rw [decide_eq_true_eq] at *
  exact fi_inj h1.1 (by omega)
/-- what stands between a bank's places is below it -/
theorem blw_at (h : Tour l) {b j : Nat} (hb : b ∈ l) (hj : j < l.length) (h1 : fi l b ≤ j) (h2 : j ≤ li l b) : blw l l[j] b = true := by
  obtain ⟨A, Y, B, d⟩ := T_dec l h b hb
  rw [dcp_in d]
  obtain ⟨p1, p2⟩ := dcp_pos d
  obtain ⟨e, -⟩ := d
  subst e
  rw [List.getElem_append_left (by simp; omega), List.getElem_append_right (by omega)]
  exact List.getElem_mem _
theorem blw_chain (h : Tour l) {b x y : Nat} (h1 : blw l b x = true) (h2 : blw l b y = true) : blw l x y = true ∨ blw l y x = true := by
  have m1 := blw_mem h1
  have m2 := blw_mem h2
  have g1 := fi_get m1.2
  have g2 := fi_get m2.2
  have f1 := li_ge_of _ (fi_get m1.1)
  unfold blw at h1 h2
  rw [decide_eq_true_eq] at h1 h2
  rcases Nat.le_total (fi l x) (fi l y) with c | c
  · right
    have := blw_at h m1.2 (fi_lt m2.2) c (by omega)
    rwa [g2] at this
  · left
    have := blw_at h m2.2 (fi_lt m1.2) c (by omega)
    rwa [g1] at this
/-- the bank just above -/
def par (l : List Nat) (b : Nat) : Nat := l.getD (fi l b - 1) 0
theorem par_spec (h : Tour l) {b : Nat} (hb : b ∈ l) (h0 : fi l b ≠ 0) : ∃ p A Y B, par l b = p ∧ dcp l b (A ++ [p]) Y (p :: B) ∧ Tour (A ++ p :: B) := by
  obtain ⟨A, Y, B, d⟩ := T_dec l h b hb
  obtain ⟨p1, p2⟩ := dcp_pos d
  obtain ⟨e, hY, hY', hd, hc⟩ := id d
  rcases hc with ⟨rfl, rfl⟩ | ⟨p, A', B', rfl, rfl, hT⟩
  · simp at p1; exact absurd p1 h0
  · refine ⟨p, A', Y, B', ?_, d, hT⟩
    unfold par
    rw [p1, e]
    simp
/-- it stands just ahead of the first place and just behind the last one -/
theorem par_places (h : Tour l) {b : Nat} (hb : b ∈ l) (h0 : fi l b ≠ 0) : l[fi l b - 1]? = some (par l b) ∧ l[li l b + 1]? = some (par l b) := by
  obtain ⟨p, A, Y, B, ep, d, -⟩ := par_spec h hb h0
  obtain ⟨p1, p2⟩ := dcp_pos d
  obtain ⟨e, -⟩ := d
  rw [ep, p1, p2, e]
  constructor
  · simp
  · rw [show (A ++ [p]).length + Y.length = (A ++ [p] ++ Y).length by simp; omega, List.getElem?_append_right (Nat.le_refl _)]
    simp
theorem par_facts (h : Tour l) {b : Nat} (hb : b ∈ l) (h0 : fi l b ≠ 0) : par l b ∈ l ∧ par l b ≠ b ∧ blw l b (par l b) = true ∧ blw l (par l b) b = false ∧ ∀ k, k ≠ b → blw l b k = blw l (par l b) k := by
  obtain ⟨p, A, Y, B, ep, d, -⟩ := par_spec h hb h0
  obtain ⟨g1, g2⟩ := par_places h hb h0
  rw [ep] at g1 g2 ⊢
  have hin := dcp_in d
  obtain ⟨e, hY, ⟨Y', eY⟩, hd, -⟩ := id d
  have hbY : b ∈ Y := by rw [eY]; simp
  have hpY : p ∉ Y := fun q => (hd _ q).1 (by simp)
  have hne : p ≠ b := fun q => hpY (q ▸ hbY)
  have hpl : p ∈ l := List.mem_of_getElem? g1
  obtain ⟨l1, g1⟩ := List.getElem?_eq_some_iff.mp g1
  obtain ⟨l2, g2⟩ := List.getElem?_eq_some_iff.mp g2
  have f1 := fi_le_of _ g1
  have f2 := li_ge_of _ g2
  have f3 := li_ge_of _ (fi_get hb)
  have hbp : blw l b p = true := by
    unfold blw
    rw [decide_eq_true_eq]
    exact ⟨hb, by omega, by omega⟩
  have hnp : blw l p b = false := by
    cases q : blw l p b with
    | false => rfl
    | true => exact absurd ((hin _).mp q) hpY
  refine ⟨hpl, hne, hbp, hnp, fun k hk => ?_⟩
  rw [Bool.eq_iff_iff]
  constructor
  · intro q
    have m := blw_mem q
    have hfk : fi l k ≠ fi l b := fun z => hk (fi_inj m.2 z)
    have q' := q
    unfold blw at q'
    rw [decide_eq_true_eq] at q'
    have := blw_at h m.2 (j := fi l b - 1) (by omega) (by omega) (by omega)
    rwa [g1] at this
  · exact fun q => blw_tr hbp q
theorem dep_par (h : Tour l) {b n : Nat} (hb : b ∈ l) (h0 : fi l b ≠ 0) (hn : ∀ x ∈ l, x < n) : dep l n b = dep l n (par l b) + 1 := by
  obtain ⟨f1, f2, f3, f4, f5⟩ := par_facts h hb h0
  unfold dep cntTo
  have e1 : sumTo n (fun k => if (!decide (k = b) && blw l b k) = true then 1 else 0) = sumTo n (fun k => if blw l (par l b) k = true then 1 else 0) := by
    apply sumTo_congr
    intro k _
    by_cases c : k = b
    · subst c; simp [f4]
    · simp [c, f5 k c]
  rw [e1, sumTo_pt (hn _ f1), blw_rf f1, if_pos rfl, Nat.add_comm]
  congr 1
  apply sumTo_congr
  intro k _
  by_cases c : k = par l b <;> simp [c]
theorem par_root {b r : Nat} {t : List Nat} (e : l = r :: t) : fi l b = 0 ↔ b = r := by
  subst e
  simp only [fi]
  by_cases c : r = b
  · simp [c]
  · have c' : ¬ b = r := fun q => c q.symm
    simp [c, c']
/-- neighbours: one is just above the other -/
theorem prs_par (h : Tour l) {b c : Nat} (q : (b, c) ∈ prs l) (hf : fi l b ≤ fi l c) : par l c = b ∧ fi l c ≠ 0 := by
  have hs := prs_sym l h b c q
  have hm := prs_mem q
  have hfn : fi l b ≠ fi l c := fun z => hs.2 (fi_inj hm.1 z)
  have hne : fi l c ≠ 0 := by omega
  refine ⟨?_, hne⟩
  obtain ⟨g1, g2⟩ := par_places h hm.2 hne
  obtain ⟨U, W, eU⟩ := prs_iff.mp hs.1
  have k1 : l[U.length]? = some c := by rw [eU]; simp
  have k2 : l[U.length + 1]? = some b := by rw [eU]; simp
  obtain ⟨l1, k1⟩ := List.getElem?_eq_some_iff.mp k1
  obtain ⟨l2, k3⟩ := List.getElem?_eq_some_iff.mp k2
  have f1 := fi_le_of _ k1
  have f2 := li_ge_of _ k1
  by_cases e : U.length = li l c
  · rw [← e, k2] at g2
    exact (Option.some.inj g2).symm
  · exfalso
    have := blw_at h hm.2 l2 (by omega) (by omega)
    rw [k3] at this
    unfold blw at this
    rw [decide_eq_true_eq] at this
    omega
theorem par_prs (h : Tour l) {b : Nat} (hb : b ∈ l) (h0 : fi l b ≠ 0) : (b, par l b) ∈ prs l ∧ (par l b, b) ∈ prs l := by
  obtain ⟨g1, g2⟩ := par_places h hb h0
  have h1 : (par l b, b) ∈ prs l := by
    obtain ⟨p, A, Y, B, ep, d, -⟩ := par_spec h hb h0
    obtain ⟨e, hY, ⟨Y', eY⟩, -⟩ := d
    rw [ep, prs_iff]
    exact ⟨A, Y' ++ p :: B, by rw [e, eY]; simp⟩
  exact ⟨(prs_sym l h _ _ h1).1, h1⟩
/-- a pair of neighbours: b, and the bank above it or one that it is above -/
theorem prs_cases (h : Tour l) {b c : Nat} : (b, c) ∈ prs l ↔ (b ∈ l ∧ fi l b ≠ 0 ∧ c = par l b) ∨ (c ∈ l ∧ fi l c ≠ 0 ∧ b = par l c) := by
  constructor
  · intro q
    have hm := prs_mem q
    rcases Nat.le_total (fi l b) (fi l c) with k | k
    · have := prs_par h q k
      exact Or.inr ⟨hm.2, this.2, this.1.symm⟩
    · have := prs_par h (prs_sym l h b c q).1 k
      exact Or.inl ⟨hm.1, this.2, this.1.symm⟩
  · rintro (⟨h1, h2, rfl⟩ | ⟨h1, h2, rfl⟩)
    · exact (par_prs h h1 h2).1
    · exact (par_prs h h1 h2).2
end TF
