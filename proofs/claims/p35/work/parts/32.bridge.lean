/-! BRIDGE: what a river and the reference's rounds have in common. -/
def Rel (rd sl : Nat → List Nat) : Prop := (∀ r, r < 12 → rd r ≠ [] → ∃ k, k < 12 ∧ sl k = rd r) ∧ (∀ k, k < 12 → sl k ≠ [] → ∃ r, r < 12 ∧ sl k = rd r) ∧ ∀ k k', k < 12 → k' < 12 → sl k ≠ [] → sl k = sl k' → k = k'
section BR
variable {w p : List Nat} {rd sl : Nat → List Nat}
/-- a bank's root and its place among the reference's rounds -/
theorem rel_at (O : RvOK w p rd) (X : Rel rd sl) {b : Nat} (hb : b < w.length) : ∃ r k, r < 12 ∧ b ∈ rd r ∧ k < 12 ∧ sl k = rd r := by
  obtain ⟨r, hr, h⟩ := O.2.2.2.2.2.2.1 b hb
  obtain ⟨k, hk, e⟩ := X.1 r hr (fun q => by rw [q] at h; cases h)
  exact ⟨r, k, hr, h, hk, e⟩
theorem sumTo_comm (n m : Nat) (f : Nat → Nat → Nat) : sumTo n (fun i => sumTo m (fun j => f i j)) = sumTo m (fun j => sumTo n (fun i => f i j)) := by
  induction n with
  | zero => simp only [sumTo]; exact (sumTo_zero (fun _ _ => rfl)).symm
  | succ n ih => simp only [sumTo]; rw [ih, sumTo_add]
theorem rel_sum (O : RvOK w p rd) (X : Rel rd sl) (F : List Nat → Nat) : sumTo 12 (fun r => if rd r ≠ [] then F (rd r) else 0) = sumTo 12 (fun k => if sl k ≠ [] then F (sl k) else 0) := by
  have e1 : sumTo 12 (fun r => if rd r ≠ [] then F (rd r) else 0) = sumTo 12 (fun r => sumTo 12 (fun k => if rd r ≠ [] ∧ sl k = rd r then F (rd r) else 0)) := by
    apply sumTo_congr
    intro r hr
    by_cases h : rd r = []
    · rw [if_neg (fun q => q h)]
      exact (sumTo_zero (fun k _ => if_neg (fun q => q.1 h))).symm
    · rw [if_pos h]
      obtain ⟨k0, hk0, e0⟩ := X.1 r hr h
      refine Eq.trans (sumTo_one hk0 (F (rd r))).symm ?_
      apply sumTo_congr
      intro k hk
      by_cases q : k = k0
      · rw [if_pos q, if_pos ⟨h, by rw [q]; exact e0⟩]
      · rw [if_neg q, if_neg]
        rintro ⟨-, e⟩
        exact q (X.2.2 k k0 hk hk0 (by rw [e]; exact h) (e.trans e0.symm))
  have e2 : sumTo 12 (fun k => if sl k ≠ [] then F (sl k) else 0) = sumTo 12 (fun k => sumTo 12 (fun r => if rd r ≠ [] ∧ sl k = rd r then F (rd r) else 0)) := by
    apply sumTo_congr
    intro k hk
    by_cases h : sl k = []
    · rw [if_neg (fun q => q h)]
      exact (sumTo_zero (fun r _ => if_neg (fun q => q.1 (q.2.symm.trans h)))).symm
    · rw [if_pos h]
      obtain ⟨r0, hr0, e0⟩ := X.2.1 k hk h
      refine Eq.trans (sumTo_one hr0 (F (sl k))).symm ?_
      apply sumTo_congr
      intro r hr
      by_cases q : r = r0
      · rw [if_pos q, if_pos ⟨by rw [q, ← e0]; exact h, by rw [q]; exact e0⟩, q, e0]
      · rw [if_neg q, if_neg]
        rintro ⟨h1, e⟩
        obtain ⟨-, t, et⟩ := O.2.2.2.2.1 r hr h1
        exact q (O.2.2.2.2.2.2.2.1 r r0 r hr hr0 (by rw [et]; simp) (by rw [← e0, e, et]; simp))
  rw [e1, e2, sumTo_comm]
theorem rel_parts (O : RvOK w p rd) (X : Rel rd sl) : cntTo 12 (rooted rd) = cntTo 12 (rooted sl) := by
  have := rel_sum O X (fun _ => 1)
  unfold cntTo rooted
  simpa using this
theorem rel_places (O : RvOK w p rd) (X : Rel rd sl) : sumTo 12 (fun k => (rd k).length) = sumTo 12 (fun k => (sl k).length) := by
  have := rel_sum O X (fun l => l.length)
  have e : ∀ l : List Nat, (if l ≠ [] then l.length else 0) = l.length := fun l => by
    by_cases h : l = [] <;> simp [h]
  simpa only [e] using this
-- weights
theorem wsum_below {l : List Nat} (h : Tour l) {b : Nat} (hb : b ∈ l) : wsum w (belowM l b) = sumB w l b := by
  unfold wsum sumB
  apply sumTo_congr
  intro k _
  rw [belowM_bit h hb]
theorem blw_root {l t : List Nat} {r : Nat} (e : l = r :: t) (h : Tour l) (k : Nat) : blw l k r = decide (k ∈ l) := by
  unfold blw
  by_cases hk : k ∈ l
  · have h0 := (par_root e (b := r)).mpr rfl
    have h1 := li_lt hk
    have h2 : li l r + 1 = l.length := by
      obtain ⟨A, Y, B, d⟩ := T_dec l h r (by rw [e]; simp)
      obtain ⟨p1, p2⟩ := dcp_pos d
      obtain ⟨e', -, -, -, hc⟩ := d
      rcases hc with ⟨rfl, rfl⟩ | ⟨q, A', B', rfl, -, -⟩
      · rw [p2, e']; simp
      · rw [h0] at p1; simp at p1
    simp only [hk, decide_true, true_and, decide_eq_true_eq]
    omega
  · simp [hk]
theorem wsum_all {l t : List Nat} {r : Nat} (e : l = r :: t) (h : Tour l) : wsum w (msk l) = sumB w l r := by
  unfold wsum sumB
  apply sumTo_congr
  intro k _
  rw [msk_bit, blw_root e h]
theorem wsum_rest {l : List Nat} (h : Tour l) (hl : ∀ x ∈ l, x < 12) {b : Nat} (hb : b ∈ l) : wsum w (restM l b) + sumB w l b = wsum w (msk l) := by
  unfold wsum sumB
  rw [← sumTo_add]
  apply sumTo_congr
  intro k _
  rw [msk_bit]
  have hr := restM_bit h hl hb (k := k)
  cases z : blw l k b with
  | true =>
    have hk := (blw_mem z).1
    have : ¬ (restM l b).testBit k = true := fun q => by
      have := (hr.mp q).2
      rw [z] at this; cases this
    simp [this, hk]
  | false =>
    by_cases hk : k ∈ l
    · simp [hr.mpr ⟨hk, z⟩, hk]
    · have : ¬ (restM l b).testBit k = true := fun q => hk (hr.mp q).1
      simp [this, hk]
/-- the reference's way to the heaviest part that is left -/
def leftG (w l : List Nat) (b k : Nat) : Nat := if k ≠ b ∧ blw l k b = true ∧ par l k = b then sumB w l k else 0
theorem heavy_eq (O : RvOK w p rd) {r b : Nat} (hr : r < 12) (hb : b ∈ rd r) : heavyLeft w p (rd r) b = max (sumB w (rd r) r - sumB w (rd r) b) (maxTo w.length (leftG w (rd r) b)) := by
  obtain ⟨hT, t, e⟩ := rv_tour O hr hb
  have hl := rv_lt12 O hr
  have hall := wsum_all (w := w) e hT
  have hrest := wsum_rest (w := w) hT hl hb
  apply Nat.le_antisymm
  · apply maxTo_le.mpr
    intro k hk
    by_cases c : (p.getD b 0).testBit k = true
    · rw [if_pos c]
      have hq := (rv_adj O hr hb k).mp c
      have hkl := (prs_mem hq).2
      unfold leftV
      cases z : blw (rd r) k b with
      | true =>
        rw [if_pos rfl, wsum_below hT hkl]
        refine Nat.le_trans ?_ (Nat.le_max_right _ _)
        have hne : k ≠ b := fun q => (prs_sym _ hT _ _ hq).2 q.symm
        have hp : par (rd r) k = b := by
          rcases (prs_cases hT).mp hq with ⟨h1, h2, h3⟩ | ⟨h1, h2, h3⟩
          · have := (par_facts hT h1 h2).2.2.2.1
            rw [← h3, z] at this
            cases this
          · exact h3.symm
        have := le_maxTo (leftG w (rd r) b) hk
        unfold leftG at this
        rw [if_pos ⟨hne, z, hp⟩] at this
        exact this
      | false =>
        rw [if_neg (by simp)]
        refine Nat.le_trans ?_ (Nat.le_max_left _ _)
        omega
    · rw [if_neg c]; omega
  · apply Nat.max_le.mpr
    constructor
    · by_cases h0 : fi (rd r) b = 0
      · have : b = r := (par_root e).mp h0
        subst this
        omega
      · have hp := par_prs hT hb h0
        have hpf := par_facts hT hb h0
        have hpn := rv_ltn O hr hpf.1
        have := le_maxTo (fun k => if (p.getD b 0).testBit k then leftV w (rd r) b k else 0) hpn
        rw [if_pos ((rv_adj O hr hb _).mpr hp.1)] at this
        have hv : leftV w (rd r) b (par (rd r) b) = wsum w (restM (rd r) b) := by
          unfold leftV
          rw [hpf.2.2.2.1, if_neg (by simp)]
        rw [hv] at this
        unfold heavyLeft
        omega
    · apply maxTo_le.mpr
      intro k hk
      unfold leftG
      by_cases c : k ≠ b ∧ blw (rd r) k b = true ∧ par (rd r) k = b
      · rw [if_pos c]
        obtain ⟨c1, c2, c3⟩ := c
        have hkl := (blw_mem c2).1
        have h0 : fi (rd r) k ≠ 0 := by
          intro q
          have : k = r := (par_root e).mp q
          unfold blw at c2
          rw [decide_eq_true_eq] at c2
          exact c1 (fi_inj hkl (by omega))
        have hp := (par_prs hT hkl h0).2
        rw [c3] at hp
        have := le_maxTo (fun k => if (p.getD b 0).testBit k then leftV w (rd r) b k else 0) hk
        rw [if_pos ((rv_adj O hr hb _).mpr hp)] at this
        unfold leftV at this
        rw [if_pos c2, wsum_below hT hkl] at this
        exact this
      · rw [if_neg c]; omega
-- depth, strictly
theorem dep_strict {l : List Nat} {n x y : Nat} (hl : ∀ z ∈ l, z < n) (h : blw l x y = true) (hne : x ≠ y) : dep l n y < dep l n x := by
  have m := blw_mem h
  have hy := hl y m.2
  have hyx : blw l y x = false := by
    cases z : blw l y x with
    | false => rfl
    | true => exact absurd (blw_as h z) hne
  have : dep l n y + 1 ≤ dep l n x := by
    unfold dep cntTo
    have e := sumTo_one hy 1
    suffices key : sumTo n (fun k => if (!decide (k = y) && blw l y k) = true then 1 else 0) + sumTo n (fun k => if k = y then 1 else 0) ≤ sumTo n (fun k => if (!decide (k = x) && blw l x k) = true then 1 else 0) by
      rw [e] at key; exact key
    rw [← sumTo_add]
    apply sumTo_le
    intro k _
    by_cases c1 : k = y
    · subst c1
      have : ¬ k = x := fun q => hne q.symm
      simp [this, h]
    · by_cases c2 : blw l y k = true
      · have c3 := blw_tr h c2
        have c4 : ¬ k = x := fun q => by rw [q, hyx] at c2; cases c2
        simp [c1, c2, c3, c4]
      · simp [c1, c2]
  omega
theorem deep_spec (c : Nat → Bool) (f : Nat → Nat) : ∀ m k o, (∀ j, o = some j → c j = true ∧ ∀ i, i < k → c i = true → f i ≤ f j) → (o = none → ∀ i, i < k → c i = false) → (∀ j, itr (deepS c f) k m o = some j → c j = true ∧ ∀ i, i < k + m → c i = true → f i ≤ f j) ∧ (itr (deepS c f) k m o = none → ∀ i, i < k + m → c i = false) := by
  intro m
  induction m with
  | zero => intro k o h1 h2; exact ⟨h1, h2⟩
  | succ m ih =>
    intro k o h1 h2
    rw [itr, show k + (m + 1) = k + 1 + m by omega]
    apply ih
    · intro j hj
      unfold deepS at hj
      by_cases x : c k = true
      · rw [if_pos x] at hj
        cases o with
        | none =>
          cases hj
          refine ⟨x, fun i hi q => ?_⟩
          rcases Nat.lt_or_ge i k with z | z
          · rw [h2 rfl i z] at q; cases q
          · rw [show i = k by omega]; exact Nat.le_refl _
        | some j0 =>
          obtain ⟨g1, g2⟩ := h1 j0 rfl
          simp only at hj
          by_cases y : f j0 < f k
          · rw [if_pos y] at hj
            cases hj
            refine ⟨x, fun i hi q => ?_⟩
            rcases Nat.lt_or_ge i k with z | z
            · have := g2 i z q; omega
            · rw [show i = k by omega]; exact Nat.le_refl _
          · rw [if_neg y] at hj
            cases hj
            refine ⟨g1, fun i hi q => ?_⟩
            rcases Nat.lt_or_ge i k with z | z
            · exact g2 i z q
            · rw [show i = k by omega]; omega
      · rw [if_neg x] at hj
        obtain ⟨g1, g2⟩ := h1 j hj
        refine ⟨g1, fun i hi q => ?_⟩
        rcases Nat.lt_or_ge i k with z | z
        · exact g2 i z q
        · rw [show i = k by omega] at q; exact absurd q x
    · intro hj i hi
      unfold deepS at hj
      by_cases x : c k = true
      · rw [if_pos x] at hj
        cases o with
        | none => cases hj
        | some j0 => simp only at hj; split at hj <;> cases hj
      · rw [if_neg x] at hj
        rcases Nat.lt_or_ge i k with z | z
        · exact h2 hj i z
        · rw [show i = k by omega]; simpa using x
/-- where two meet: below all that both are below -/
def Meets (l : List Nat) (b c m : Nat) : Prop := blw l b m = true ∧ blw l c m = true ∧ ∀ k, blw l b k = true → blw l c k = true → blw l m k = true
theorem meet_deep {l : List Nat} {n b c m : Nat} (hl : ∀ z ∈ l, z < n) (hb : b ∈ l) (hc : c ∈ l) (M : Meets l b c m) : itr (deepS (fun k => (aboveM l b &&& aboveM l c).testBit k) (dep l n)) 0 n none = some m := by
  have hbit : ∀ k, (aboveM l b &&& aboveM l c).testBit k = true ↔ blw l b k = true ∧ blw l c k = true := fun k => by
    rw [Nat.testBit_and, aboveM_bit hb, aboveM_bit hc, Bool.and_eq_true]
  have hm := (hbit m).mpr ⟨M.1, M.2.1⟩
  have hmn := hl m (blw_mem M.1).2
  obtain ⟨s1, s2⟩ := deep_spec (fun k => (aboveM l b &&& aboveM l c).testBit k) (dep l n) n 0 none (fun j q => by cases q) (fun _ i hi => by omega)
  cases e : itr (deepS (fun k => (aboveM l b &&& aboveM l c).testBit k) (dep l n)) 0 n none with
  | none =>
    have := s2 e m (by omega)
    rw [hm] at this; cases this
  | some j =>
    obtain ⟨g1, g2⟩ := s1 j e
    have g3 := g2 m (by omega) hm
    have g4 := (hbit j).mp g1
    by_cases x : m = j
    · rw [x]
    · have := dep_strict hl (M.2.2 j g4.1 g4.2) x
      omega
end BR
