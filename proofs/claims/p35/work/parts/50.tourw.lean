/-! TOURS: steps up, ways, neighbours; more of sums. -/
theorem bnd_b {α β : Type} (x : α) (f : α → β) : bnd x f = f x := rfl
section AW
variable {l t : List Nat} {r n : Nat}
theorem anc_in (h : Tour l) (hl : ∀ z ∈ l, z < n) : ∀ i b, b ∈ l → i ≤ dep l n b → anc l i b ∈ l ∧ dep l n (anc l i b) + i = dep l n b := by
  intro i
  induction i with
  | zero => intro b hb _; exact ⟨hb, rfl⟩
  | succ i ih =>
    intro b hb hi
    have h0 : fi l b ≠ 0 := (dep_zero h hl hb).mpr (by omega)
    have hp := par_facts h hb h0
    have hd := dep_par h hb h0 hl
    obtain ⟨k1, k2⟩ := ih (par l b) hp.1 (by omega)
    exact ⟨k1, by show dep l n (anc l i (par l b)) + (i + 1) = _; omega⟩
theorem anc_s : ∀ i b, anc l (i + 1) b = par l (anc l i b) := by
  intro i
  induction i with
  | zero => intro b; rfl
  | succ i ih => intro b; exact ih (par l b)
/-- up to a bank above -/
theorem anc_to (h : Tour l) (hl : ∀ z ∈ l, z < n) : ∀ i b m, blw l b m = true → dep l n b = dep l n m + i → anc l i b = m := by
  intro i
  induction i with
  | zero =>
    intro b m hb e
    apply Classical.byContradiction
    intro q
    have := dep_strict hl hb q
    omega
  | succ i ih =>
    intro b m hb e
    have hbl := (blw_mem hb).1
    have h0 : fi l b ≠ 0 := (dep_zero h hl hbl).mpr (by omega)
    have hp := par_facts h hbl h0
    have hd := dep_par h hbl h0 hl
    have hne : m ≠ b := fun q => by rw [q] at e; omega
    exact ih (par l b) m (by rw [← hp.2.2.2.2 m hne]; exact hb) (by omega)
theorem nbr_par (h : Tour l) (hl : ∀ z ∈ l, z < n) {b : Nat} (hb : b ∈ l) (hd : 0 < dep l n b) : nbr l b (par l b) = true ∧ nbr l (par l b) b = true := by
  have h0 : fi l b ≠ 0 := (dep_zero h hl hb).mpr hd
  obtain ⟨k1, k2⟩ := par_prs h hb h0
  exact ⟨decide_eq_true k1, decide_eq_true k2⟩
theorem meets_sym {b c m : Nat} (M : Meets l b c m) : Meets l c b m := ⟨M.2.1, M.1, fun k h1 h2 => M.2.2 k h2 h1⟩
theorem meets_uniq {b c m m' : Nat} (M : Meets l b c m) (M' : Meets l b c m') : m = m' := blw_as (M.2.2 m' M'.1 M'.2.1) (M'.2.2 m M.1 M.2.1)
variable {g d m : Nat}
theorem wyN_c : wyN l n d g m = wyN l n g d m := by unfold wyN; omega
theorem wyP_0 : wyP l n g d m 0 = g := by unfold wyP; rw [if_pos (Nat.zero_le _)]; rfl
theorem wyP_W (h : Tour l) (hl : ∀ z ∈ l, z < n) (M : Meets l g d m) : wyP l n g d m (wyN l n g d m) = d := by
  have d1 := dep_mono hl M.1
  have d2 := dep_mono hl M.2.1
  unfold wyP
  by_cases c : wyN l n g d m ≤ dep l n g - dep l n m
  · rw [if_pos c]
    have e : dep l n d = dep l n m := by unfold wyN at c; omega
    have e2 : d = m := by
      apply Classical.byContradiction
      intro q
      have := dep_strict hl M.2.1 q
      omega
    rw [show wyN l n g d m = dep l n g - dep l n m by unfold wyN; omega, anc_to h hl _ g m M.1 (by omega), e2]
  · rw [if_neg c, Nat.sub_self]; rfl
theorem wyP_in (h : Tour l) (hl : ∀ z ∈ l, z < n) (M : Meets l g d m) {i : Nat} (hi : i ≤ wyN l n g d m) : wyP l n g d m i ∈ l := by
  have d1 := dep_mono hl M.1
  have d2 := dep_mono hl M.2.1
  unfold wyP
  by_cases c : i ≤ dep l n g - dep l n m
  · rw [if_pos c]; exact (anc_in h hl i g (blw_mem M.1).1 (by omega)).1
  · rw [if_neg c]; exact (anc_in h hl _ d (blw_mem M.2.1).1 (by unfold wyN at hi ⊢; omega)).1
/-- each step of a way goes over a rope -/
theorem wyP_s (h : Tour l) (hl : ∀ z ∈ l, z < n) (M : Meets l g d m) {i : Nat} (hi : i + 1 ≤ wyN l n g d m) : nbr l (wyP l n g d m i) (wyP l n g d m (i + 1)) = true := by
  have d1 := dep_mono hl M.1
  have d2 := dep_mono hl M.2.1
  have hg := (blw_mem M.1).1
  have hd := (blw_mem M.2.1).1
  unfold wyP
  by_cases c : i + 1 ≤ dep l n g - dep l n m
  · obtain ⟨k1, k2⟩ := anc_in h hl i g hg (by omega)
    rw [if_pos (by omega), if_pos c, anc_s]
    exact (nbr_par h hl k1 (by omega)).1
  · rw [if_neg c]
    have hW : wyN l n g d m = dep l n g - dep l n m + (dep l n d - dep l n m) := rfl
    obtain ⟨j, hj⟩ : ∃ j, wyN l n g d m - (i + 1) = j := ⟨_, rfl⟩
    obtain ⟨k1, k2⟩ := anc_in h hl j d hd (by omega)
    have e : (if i ≤ dep l n g - dep l n m then anc l i g else anc l (wyN l n g d m - i) d) = par l (anc l j d) := by
      by_cases c2 : i ≤ dep l n g - dep l n m
      · rw [if_pos c2, show i = dep l n g - dep l n m by omega, anc_to h hl _ g m M.1 (by omega), ← anc_s, anc_to h hl (j + 1) d m M.2.1 (by omega)]
      · rw [if_neg c2, show wyN l n g d m - i = j + 1 by omega, anc_s]
    rw [e, hj]
    exact (nbr_par h hl k1 (by omega)).2
theorem wyP_c (h : Tour l) (hl : ∀ z ∈ l, z < n) (M : Meets l g d m) {i : Nat} (hi : i ≤ wyN l n g d m) : wyP l n g d m i = wyP l n d g m (wyN l n g d m - i) := by
  have d1 := dep_mono hl M.1
  have d2 := dep_mono hl M.2.1
  have hW : wyN l n g d m = dep l n g - dep l n m + (dep l n d - dep l n m) := rfl
  unfold wyP
  rw [wyN_c (g := g) (d := d)]
  by_cases c : i ≤ dep l n g - dep l n m
  · rw [if_pos c]
    by_cases c2 : wyN l n g d m - i ≤ dep l n d - dep l n m
    · rw [if_pos c2, show i = dep l n g - dep l n m by omega, anc_to h hl _ g m M.1 (by omega), anc_to h hl _ d m M.2.1 (by omega)]
    · rw [if_neg c2, show wyN l n g d m - (wyN l n g d m - i) = i by omega]
  · rw [if_neg c, if_pos (by omega)]
/-- which of two neighbours is the lower one -/
theorem low_blw (h : Tour l) (er : l = r :: t) (hg : g ∈ l) (hd : d ∈ l) (f : nbr l g d = true) : g ≠ d ∧ ((blw l g d = true ∧ lowOf l g d = g ∧ par l g = d) ∨ (blw l g d = false ∧ lowOf l g d = d ∧ par l d = g)) := by
  obtain ⟨f1, f2, f3, f4⟩ := low_facts h er hg hd f
  refine ⟨f1, ?_⟩
  rcases f4 with ⟨z1, z2⟩ | ⟨z1, z2⟩
  · rw [z1] at f2 f3
    have h0 : fi l g ≠ 0 := fun q => f3 ((par_root er).mp q)
    have hp := par_facts h hg h0
    rw [z2] at hp
    exact Or.inl ⟨hp.2.2.1, z1, z2⟩
  · rw [z1] at f2 f3
    have h0 : fi l d ≠ 0 := fun q => f3 ((par_root er).mp q)
    have hp := par_facts h hd h0
    rw [z2] at hp
    exact Or.inr ⟨hp.2.2.2.1, z1, z2⟩
theorem way_one (h : Tour l) (er : l = r :: t) (hl : ∀ z ∈ l, z < n) (M : Meets l g d m) : wyN l n g d m = 1 ↔ nbr l g d = true := by
  have d1 := dep_mono hl M.1
  have d2 := dep_mono hl M.2.1
  have hg := (blw_mem M.1).1
  have hd := (blw_mem M.2.1).1
  constructor
  · intro e
    have z := wyP_s h hl M (i := 0) (by omega)
    rw [wyP_0] at z
    have e2 : wyP l n g d m (0 + 1) = d := by
      rw [Nat.zero_add, ← e]
      exact wyP_W h hl M
    rw [e2] at z
    exact z
  · intro f
    obtain ⟨hne, z⟩ := low_blw h er hg hd f
    rcases z with ⟨z1, z2, z3⟩ | ⟨z1, z2, z3⟩
    · have M2 : Meets l g d d := ⟨z1, blw_rf hd, fun k _ h2 => h2⟩
      have em := meets_uniq M M2
      have h0 : fi l g ≠ 0 := fun q => by
        have := (par_root er).mp q
        exact hne (blw_as z1 (by rw [this, blw_root er h]; exact decide_eq_true hd))
      have := dep_par h hg h0 hl
      rw [z3] at this
      unfold wyN
      rw [em]
      omega
    · have h0 : fi l d ≠ 0 := fun q => by
        have e := (par_root er).mp q
        have : blw l g d = true := by rw [e, blw_root er h]; exact decide_eq_true hg
        rw [this] at z1
        cases z1
      have hp := par_facts h hd h0
      rw [z3] at hp
      have M2 : Meets l g d g := ⟨blw_rf hg, hp.2.2.1, fun k h1 _ => h1⟩
      have em := meets_uniq M M2
      have := dep_par h hd h0 hl
      rw [z3] at this
      unfold wyN
      rw [em]
      omega
end AW
theorem cnt_mono {n : Nat} {P Q : Nat → Bool} (h : ∀ k, k < n → P k = true → Q k = true) : cntTo n P ≤ cntTo n Q := sumTo_le (fun k hk => by
  by_cases c : P k = true
  · rw [if_pos c, if_pos (h k hk c)]; exact Nat.le_refl _
  · rw [if_neg c]; exact Nat.zero_le _)
/-- a greater set has more -/
theorem cnt_str {n b : Nat} {P Q : Nat → Bool} (hb : b < n) (h : ∀ k, k < n → P k = true → Q k = true) (h1 : P b = false) (h2 : Q b = true) : cntTo n P < cntTo n Q := by
  have e := cntTo_disj (n := n) (P := P) (Q := fun k => decide (k = b)) (fun k _ q => by
    have := of_decide_eq_true q.2
    subst this
    rw [h1] at q
    exact Bool.false_ne_true q.1)
  rw [cnt_one hb] at e
  have := cnt_mono (n := n) (P := fun k => P k || decide (k = b)) (Q := Q) (fun k hk q => by
    simp only [Bool.or_eq_true, decide_eq_true_eq] at q
    rcases q with q | q
    · exact h k hk q
    · rw [q]; exact h2)
  omega
theorem cnt_le1 {n : Nat} {P : Nat → Bool} (h : ∀ i j, i < n → j < n → P i = true → P j = true → i = j) : cntTo n P ≤ 1 := by
  by_cases c : ∃ b, b < n ∧ P b = true
  · obtain ⟨b, hb, hp⟩ := c
    have := cnt_mono (n := n) (P := P) (Q := fun k => decide (k = b)) (fun k hk q => decide_eq_true (h k b hk hb q hp))
    rw [cnt_one hb] at this
    exact this
  · have : cntTo n P = 0 := sumTo_zero (fun k hk => if_neg (fun q => c ⟨k, hk, q⟩))
    omega
theorem cnt_ex {n : Nat} {P : Nat → Bool} (h : 0 < cntTo n P) : ∃ b, b < n ∧ P b = true := by
  apply Classical.byContradiction
  intro c
  have : cntTo n P = 0 := sumTo_zero (fun k hk => if_neg (fun q => c ⟨k, hk, q⟩))
  omega
/-- terms of one at most, whose sum is as many as they are -/
theorem sum_full {n : Nat} {f : Nat → Nat} (h : ∀ k, k < n → f k ≤ 1) (e : sumTo n f = n) : ∀ k, k < n → f k = 1 := by
  induction n with
  | zero => intro k hk; omega
  | succ n ih =>
    have h1 := sumTo_const (n := n) (c := 1) (f := f) (fun k hk => h k (by omega))
    have h2 := h n (by omega)
    rw [sumTo] at e
    intro k hk
    rcases Nat.lt_or_ge k n with q | q
    · exact ih (fun k hk => h k (by omega)) (by omega) k q
    · rw [show k = n by omega]; omega
theorem sub_pos {x y : Nat} (hx : x < 2 ^ 30) (hy : y < 2 ^ 30) : (0 : Int32) < nI x - nI y ↔ y < x := by
  by_cases c : y ≤ x
  · rw [sub_nat c, nI_lit0, nI_ltI (by omega) (by omega)]
    omega
  · constructor
    · intro q
      exfalso
      have e : nI y = nI x + nI (y - x) := by rw [nI_add]; congr 1; omega
      have e2 : nI x - nI y = -(nI (y - x)) := by
        rw [e]
        apply Int32.toBitVec_inj.mp
        simp only [Int32.toBitVec_sub, Int32.toBitVec_add, Int32.toBitVec_neg, BitVec.sub_eq_add_neg, BitVec.neg_add]
        generalize (nI x).toBitVec = u
        generalize (nI (y - x)).toBitVec = v
        rw [← BitVec.add_assoc, BitVec.add_right_neg, BitVec.zero_add]
      have h1 : (nI (y - x)).toInt = ((y - x : Nat) : Int) := nI_toInt (by omega)
      rw [e2, Int32.lt_iff_toInt_lt, Int32.toInt_neg, h1] at q
      have : (0 : Int32).toInt = 0 := rfl
      rw [this] at q
      simp only [Int.bmod] at q
      split at q <;> omega
    · intro q; omega
theorem sub_zero {x y : Nat} (hx : x < 2 ^ 30) (hy : y < 2 ^ 30) : nI x - nI y = (0 : Int32) ↔ x = y := by
  constructor
  · intro q
    have : nI x = nI y := by
      have h2 : nI x - nI y + nI y = 0 + nI y := by rw [q]
      rw [Int32.sub_add_cancel, Int32.zero_add] at h2
      exact h2
    exact (nI_eq (by omega) (by omega)).mp this
  · intro q; rw [q]; exact Int32.sub_self _
