/-! THE LAW'S CHECK OF ALL PARTS: their order, their sums. -/
section OR
variable {w p : List Nat} {rd : Nat → List Nat}
theorem ah_lt {x y : Nat} (hx : x < 12) (r1 : rooted rd x = true) (h : aheadB w rd x y = true) : aheadN w rd x < aheadN w rd y := by
  have h1 := ahead_iff.mp h
  refine cnt_str hx (fun o _ q => ?_) ?_ ?_
  · simp only [Bool.and_eq_true, Bool.not_eq_true', decide_eq_false_iff_not] at q ⊢
    obtain ⟨q1, q2, q3⟩ := q
    have q4 := ahead_iff.mp q3
    have q5 : aheadB w rd o y = true := ahead_iff.mpr (by omega)
    exact ⟨fun e => by subst e; omega, q2, q5⟩
  · simp
  · simp only [Bool.and_eq_true, Bool.not_eq_true', decide_eq_false_iff_not]
    exact ⟨fun e => by subst e; omega, r1, h⟩
theorem ah_tot {x y : Nat} (q : x ≠ y) (c : ¬ aheadB w rd x y = true) : aheadB w rd y x = true := by
  rw [ahead_iff] at c ⊢
  omega
theorem ah_inj {x y : Nat} (hx : x < 12) (hy : y < 12) (r1 : rooted rd x = true) (r2 : rooted rd y = true) (e : aheadN w rd x = aheadN w rd y) : x = y := by
  apply Classical.byContradiction
  intro q
  by_cases c : aheadB w rd x y = true
  · have := ah_lt hx r1 c; omega
  · have c2 : aheadB w rd y x = true := ah_tot q c
    have := ah_lt hy r2 c2; omega
theorem ah_bd {x : Nat} (hx : x < 12) (r1 : rooted rd x = true) : aheadN w rd x < cntTo 12 (rooted rd) := cnt_str hx (fun o _ q => by
  simp only [Bool.and_eq_true] at q
  exact q.2.1) (by simp) r1
def rkB (w : List Nat) (rd : Nat → List Nat) (q r : Nat) : Bool := rooted rd r && decide (aheadN w rd r = q)
theorem rkB_iff {q r : Nat} : rkB w rd q r = true ↔ rooted rd r = true ∧ aheadN w rd r = q := by unfold rkB; simp
theorem rk_one (F : Nat) {r : Nat} (hr : r < 12) : sumTo (cntTo 12 (rooted rd)) (fun q => if rkB w rd q r = true then F else 0) = if rooted rd r = true then F else 0 := by
  by_cases c : rooted rd r = true
  · rw [if_pos c]
    refine Eq.trans (sumTo_congr (fun q _ => ?_)) (sumTo_one (ah_bd (w := w) hr c) F)
    by_cases e : q = aheadN w rd r
    · rw [if_pos e, if_pos (rkB_iff.mpr ⟨c, e.symm⟩)]
    · rw [if_neg e, if_neg (fun z => e (rkB_iff.mp z).2.symm)]
  · rw [if_neg c]
    exact sumTo_zero (fun q _ => if_neg (fun z => c (rkB_iff.mp z).1))
theorem rk_ex {q : Nat} (hq : q < cntTo 12 (rooted rd)) : ∃ r, r < 12 ∧ rooted rd r = true ∧ aheadN w rd r = q := by
  have e : sumTo (cntTo 12 (rooted rd)) (fun q => cntTo 12 (rkB w rd q)) = cntTo 12 (rooted rd) := by
    unfold cntTo
    rw [sumTo_comm]
    exact sumTo_congr (fun r hr => rk_one (w := w) 1 hr)
  have h1 : cntTo 12 (rkB w rd q) = 1 := sum_full (fun q _ => cnt_le1 (fun i j hi hj h1 h2 => by
    have a1 := rkB_iff.mp h1
    have a2 := rkB_iff.mp h2
    exact ah_inj hi hj a1.1 a2.1 (a1.2.trans a2.2.symm))) e q hq
  obtain ⟨r, hr, h2⟩ := cnt_ex (n := 12) (P := rkB w rd q) (by omega)
  have := rkB_iff.mp h2
  exact ⟨r, hr, this.1, this.2⟩
/-- the root at a place -/
def rkF (w : List Nat) (rd : Nat → List Nat) (q : Nat) : Nat := ((List.range 12).find? (rkB w rd q)).getD 0
theorem rkF_ok {q : Nat} (hq : q < cntTo 12 (rooted rd)) : rkF w rd q < 12 ∧ rooted rd (rkF w rd q) = true ∧ aheadN w rd (rkF w rd q) = q := by
  obtain ⟨r, hr, h1, h2⟩ := rk_ex (w := w) hq
  unfold rkF
  cases e : (List.range 12).find? (rkB w rd q) with
  | none =>
    have := List.find?_eq_none.mp e r (List.mem_range.mpr hr)
    exact absurd (rkB_iff.mpr ⟨h1, h2⟩) this
  | some x =>
    have a1 := List.mem_range.mp (List.mem_of_find?_eq_some e)
    have a2 := rkB_iff.mp (List.find?_some e)
    exact ⟨a1, a2.1, a2.2⟩
theorem rk_sum (F : Nat → Nat) : sumTo (cntTo 12 (rooted rd)) (fun q => F (rkF w rd q)) = sumTo 12 (fun r => if rooted rd r = true then F r else 0) := by
  have e : sumTo (cntTo 12 (rooted rd)) (fun q => F (rkF w rd q)) = sumTo (cntTo 12 (rooted rd)) (fun q => sumTo 12 (fun r => if rkB w rd q r = true then F r else 0)) := sumTo_congr (fun q hq => by
    obtain ⟨h1, h2, h3⟩ := rkF_ok (w := w) hq
    refine Eq.trans (sumTo_one h1 (F (rkF w rd q))).symm (sumTo_congr (fun r hr => ?_))
    by_cases c : r = rkF w rd q
    · rw [if_pos c, if_pos (by rw [c]; exact rkB_iff.mpr ⟨h2, h3⟩), c]
    · rw [if_neg c, if_neg (fun z => c (ah_inj hr h1 (rkB_iff.mp z).1 h2 ((rkB_iff.mp z).2.trans h3.symm)))])
  rw [e, sumTo_comm]
  exact sumTo_congr (fun r hr => rk_one (w := w) (F r) hr)
theorem ahN_lt (r : Nat) : aheadN w rd r ≤ 12 := cntTo_le _ _
theorem rank_get {q r : Nat} (hr : r < 12) (h1 : rooted rd r = true) (h2 : aheadN w rd r = q) : ∀ m k, k ≤ r → r < k + m → k + m ≤ 12 → rankF w rd (nI q) k m = nI r := by
  have hn : ∀ k, rd k ≠ [] ↔ rooted rd k = true := fun k => by unfold rooted; simp
  intro m
  induction m with
  | zero => intro k hk hr2; omega
  | succ m ih =>
    intro k hk hr2 h12
    rw [rankF]
    by_cases c : k = r
    · rw [if_pos ⟨(hn k).mpr (c ▸ h1), by rw [c, h2]⟩, c]
    · rw [if_neg]
      · exact ih (k + 1) (by omega) (by omega) (by omega)
      · rintro ⟨a1, a2⟩
        have b1 := ahN_lt (w := w) (rd := rd) k
        have b2 := ahN_lt (w := w) (rd := rd) r
        have := (nI_eq (by omega) (by omega)).mp a2
        exact c (ah_inj (by omega) hr ((hn k).mp a1) h1 (this.trans h2.symm))
theorem rank_none {x : Int32} (h : ∀ k, k < 12 → rooted rd k = true → nI (aheadN w rd k) ≠ x) : ∀ m k, k + m ≤ 12 → rankF w rd x k m = -1 := by
  intro m
  induction m with
  | zero => intro k _; rfl
  | succ m ih =>
    intro k hk
    rw [rankF, if_neg]
    · exact ih (k + 1) (by omega)
    · rintro ⟨a1, a2⟩
      exact h k (by omega) (by unfold rooted; simpa using a1) a2
theorem sum_if {n c : Nat} {P : Nat → Bool} : sumTo n (fun k => if P k = true then c else 0) = c * cntTo n P := by
  induction n with
  | zero => rfl
  | succ n ih =>
    show _ + (if P n = true then c else 0) = c * (cntTo n P + if P n = true then 1 else 0)
    rw [ih, Nat.mul_add]
    by_cases h : P n = true
    · rw [if_pos h, if_pos h, Nat.mul_one]
    · rw [if_neg h, if_neg h, Nat.mul_zero]
theorem sum_banks (O : RvOK w p rd) : sumTo 12 (fun r => if rooted rd r = true then popN (msk (rd r)) else 0) = w.length := by
  have hn := O.1
  have h1 : sumTo w.length (fun _ => 1) = w.length := by
    generalize w.length = n
    induction n with
    | zero => rfl
    | succ n ih => show sumTo n _ + 1 = _; rw [ih]
  have e : sumTo 12 (fun r => if rooted rd r = true then popN (msk (rd r)) else 0) = sumTo 12 (fun r => sumTo w.length (fun k => if decide (k ∈ rd r) = true then 1 else 0)) := sumTo_congr (fun r hr => by
    have e2 : popN (msk (rd r)) = cntTo w.length (fun k => decide (k ∈ rd r)) := by
      rw [pop_cnt hn (fun i hi => by rw [msk_bit] at hi; exact rv_ltn O hr (of_decide_eq_true hi))]
      exact cntTo_congr (fun k _ => msk_bit _ _)
    by_cases c : rooted rd r = true
    · rw [if_pos c, e2]; rfl
    · rw [if_neg c]
      have c2 : rd r = [] := by
        apply Classical.byContradiction
        intro q
        exact c (by unfold rooted; exact decide_eq_true q)
      refine (sumTo_zero (fun k _ => ?_)).symm
      rw [c2]; simp)
  rw [e, sumTo_comm]
  refine Eq.trans (sumTo_congr (fun k hk => Eq.trans (sumTo_congr (fun r _ => ?_)) (in_one O hk 1))) h1
  by_cases c : k ∈ rd r <;> simp [c]
theorem sum_weights (O : RvOK w p rd) : sumTo 12 (fun r => if rooted rd r = true then wsum w (msk (rd r)) else 0) = sumTo w.length (wt w) := by
  have e : sumTo 12 (fun r => if rooted rd r = true then wsum w (msk (rd r)) else 0) = sumTo 12 (fun r => sumTo w.length (fun k => if k ∈ rd r then wt w k else 0)) := sumTo_congr (fun r hr => by
    have e2 : wsum w (msk (rd r)) = sumTo w.length (fun k => if k ∈ rd r then wt w k else 0) := sumTo_congr (fun k _ => by
      rw [msk_bit]
      by_cases c : k ∈ rd r <;> simp [c])
    by_cases c : rooted rd r = true
    · rw [if_pos c, e2]
    · rw [if_neg c]
      have c2 : rd r = [] := by
        apply Classical.byContradiction
        intro q
        exact c (by unfold rooted; exact decide_eq_true q)
      refine (sumTo_zero (fun k _ => ?_)).symm
      rw [c2]; simp)
  rw [e, sumTo_comm]
  exact sumTo_congr (fun k hk => in_one O hk (wt w k))
theorem sum_len : sumTo 12 (fun r => if rooted rd r = true then (rd r).length else 0) = sumTo 12 (fun r => (rd r).length) := sumTo_congr (fun r _ => by
  by_cases c : rooted rd r = true
  · rw [if_pos c]
  · rw [if_neg c]
    have c2 : rd r = [] := by
      apply Classical.byContradiction
      intro q
      exact c (by unfold rooted; exact decide_eq_true q)
    rw [c2]; rfl)
theorem hv_fold (w : List Nat) : ∀ (l : List Nat) (h : Nat), (l.foldl (fun h x => if wt w h < wt w x then x else h) h = h ∨ l.foldl (fun h x => if wt w h < wt w x then x else h) h ∈ l) ∧ wt w h ≤ wt w (l.foldl (fun h x => if wt w h < wt w x then x else h) h) ∧ ∀ x ∈ l, wt w x ≤ wt w (l.foldl (fun h x => if wt w h < wt w x then x else h) h) := by
  intro l
  induction l with
  | nil => intro h; exact ⟨Or.inl rfl, Nat.le_refl _, fun x hx => by cases hx⟩
  | cons y l ih =>
    intro h
    rw [List.foldl_cons]
    by_cases c : wt w h < wt w y
    · rw [if_pos c]
      obtain ⟨a1, a2, a3⟩ := ih y
      refine ⟨Or.inr ?_, by omega, fun x hx => ?_⟩
      · rcases a1 with q | q
        · rw [q]; exact List.mem_cons_self
        · exact List.mem_cons_of_mem _ q
      · rcases List.mem_cons.mp hx with q | q
        · rw [q]; exact a2
        · exact a3 x q
    · rw [if_neg c]
      obtain ⟨a1, a2, a3⟩ := ih h
      refine ⟨?_, a2, fun x hx => ?_⟩
      · rcases a1 with q | q
        · exact Or.inl q
        · exact Or.inr (List.mem_cons_of_mem _ q)
      · rcases List.mem_cons.mp hx with q | q
        · rw [q]; omega
        · exact a3 x q
theorem hv_ok {l : List Nat} (h : l ≠ []) : hvy w l ∈ l ∧ ∀ x ∈ l, wt w x ≤ wt w (hvy w l) := by
  cases l with
  | nil => exact absurd rfl h
  | cons y l =>
    obtain ⟨a1, a2, a3⟩ := hv_fold w l y
    refine ⟨?_, fun x hx => ?_⟩
    · rcases a1 with q | q
      · show l.foldl _ y ∈ _
        rw [q]; exact List.mem_cons_self
      · exact List.mem_cons_of_mem _ q
    · rcases List.mem_cons.mp hx with q | q
      · rw [q]; exact a2
      · exact a3 x q
theorem hv_sum (O : RvOK w p rd) {r : Nat} (hr : r < 12) (h : rd r ≠ []) : wsum w (msk (rd r)) ≤ wt w (hvy w (rd r)) * popN (msk (rd r)) := by
  have e2 : popN (msk (rd r)) = cntTo w.length (fun k => (msk (rd r)).testBit k) := pop_cnt O.1 (fun i hi => by rw [msk_bit] at hi; exact rv_ltn O hr (of_decide_eq_true hi))
  rw [e2, ← sum_if]
  refine sumTo_le (fun k _ => ?_)
  by_cases c : (msk (rd r)).testBit k = true
  · rw [if_pos c, if_pos c]
    rw [msk_bit] at c
    exact (hv_ok h).2 k (of_decide_eq_true c)
  · rw [if_neg c, if_neg c]; exact Nat.le_refl _
end OR
section PA
variable {Λ : Lay} {μ : Mem} {a : Nat} {V : Pic}
def pS (V : Pic) (F : Nat → Nat) (q : Nat) : Nat := sumTo q (fun i => F (rkF V.w V.rd i))
theorem lw_partsL (N : RvV Λ μ (lyR Λ a 0) V) (ok : PicOK V) : ∀ m q n, q + m = cntTo 12 (rooted V.rd) → m < n → lpL_areParts_41 Λ μ a (nI (cntTo 12 (rooted V.rd))) n (nI (pS V (fun r => popN (msk (V.rd r))) q)) (nI (pS V (fun r => wsum V.w (msk (V.rd r))) q)) (nI (pS V (fun r => (V.rd r).length) q)) 1 (nI q) = some 1 := by
  have hp12 : cntTo 12 (rooted V.rd) ≤ 12 := cntTo_le _ _
  have hn := ok.1.1
  have hA := all_ropes ok.1
  intro m
  induction m with
  | zero =>
    intro q n hq hn0
    obtain ⟨n, rfl⟩ : ∃ n', n = n' + 1 := ⟨n - 1, by omega⟩
    obtain rfl : q = cntTo 12 (rooted V.rd) := by omega
    have s0 : pS V (fun r => popN (msk (V.rd r))) (cntTo 12 (rooted V.rd)) = V.w.length := (rk_sum _).trans (sum_banks ok.1)
    have s1 : pS V (fun r => wsum V.w (msk (V.rd r))) (cntTo 12 (rooted V.rd)) = sumTo V.w.length (wt V.w) := (rk_sum _).trans (sum_weights ok.1)
    have s2 : pS V (fun r => (V.rd r).length) (cntTo 12 (rooted V.rd)) = sumTo 12 (fun k => (V.rd k).length) := (rk_sum _).trans sum_len
    have hj : V.j - V.c = nI (V.w.length - cntTo 12 (rooted V.rd)) := by
      have h1 := ok.2
      unfold JC at h1
      rw [← pk_sub (by omega), ← h1, Int32.add_sub_cancel]
    rw [lpL_areParts_41_s, bnd_b, if_neg z10, if_pos (Int32.le_refl _), s0, s1, s2]
    simp only [bnd]
    rw [if_neg z10, qa0 N ok, Option.bind_some, if_pos rfl, qa3 N ok, Option.bind_some, if_pos rfl, qa4 N ok, Option.bind_some, if_pos rfl, qa1 N ok, Option.bind_some, Option.bind_some, if_pos (pk_sub (by omega)).symm, qa5 N ok, Option.bind_some, qa6 N ok, Option.bind_some, Option.bind_some, if_pos hj, gd_t (Or.inr rfl)]
  | succ m ih =>
    intro q n hq hn0
    obtain ⟨n, rfl⟩ : ∃ n', n = n' + 1 := ⟨n - 1, by omega⟩
    obtain ⟨r1, r2, r3⟩ := rkF_ok (w := V.w) (rd := V.rd) (q := q) (by omega)
    have hne : V.rd (rkF V.w V.rd q) ≠ [] := by
      have := r2
      unfold rooted at this
      exact of_decide_eq_true this
    have hrr := rd_self ok.1 r1 hne
    have e1 : sX4_ranked Λ μ a (nI q) = some (nI (rkF V.w V.rd q)) := by rw [q_ranked N ok, rank_get r1 r2 r3 12 0 (Nat.zero_le _) (by omega) (by omega)]
    obtain ⟨mm, e2, hm⟩ := q_middle N ok r1 hrr
    have e3 := qb1 N ok r1 hm
    obtain ⟨v1, v2⟩ := hv_ok (w := V.w) hne
    have e4 := qb0 N ok r1 v1
    have e5 := hv_sum ok.1 r1 hne
    have b1 := wsum_lt ok.1 (msk (V.rd (rkF V.w V.rd q)))
    have b2 := wt_le ok.1.2.2.1 (hvy V.w (V.rd (rkF V.w V.rd q)))
    have b3 := len_odd ok r1 hne
    have b4 := rv_lenK ok.1 r1
    have b5 : wt V.w (hvy V.w (V.rd (rkF V.w V.rd q))) * popN (msk (V.rd (rkF V.w V.rd q))) ≤ 99 * 12 := Nat.mul_le_mul b2 (by omega)
    have z := ih (q + 1) n (by omega) (by omega)
    have t0 : nI (pS V (fun r => popN (msk (V.rd r))) q) + nI (popN (msk (V.rd (rkF V.w V.rd q)))) = nI (pS V (fun r => popN (msk (V.rd r))) (q + 1)) := nI_add _ _
    have t1 : nI (pS V (fun r => wsum V.w (msk (V.rd r))) q) + nI (wsum V.w (msk (V.rd (rkF V.w V.rd q)))) = nI (pS V (fun r => wsum V.w (msk (V.rd r))) (q + 1)) := nI_add _ _
    have t2 : nI (pS V (fun r => (V.rd r).length) q) + nI (V.rd (rkF V.w V.rd q)).length = nI (pS V (fun r => (V.rd r).length) (q + 1)) := nI_add _ _
    rw [lpL_areParts_41_s, bnd_b, if_neg z10, if_neg (by rw [nI_leI (by omega) (by omega)]; omega), gd_t (nI_in (by omega) (by omega)), e1, Option.bind_some, qp0 N ok r1 hrr, Option.bind_some]
    simp only [bnd, z10, z01, ↓reduceIte]
    rw [qp2 N ok r1 hrr, Option.bind_some, qp1 N ok r1 hrr, Option.bind_some, qb1 N ok r1 hrr, Option.bind_some, if_pos rfl, lw_round N ok r1 hne, Option.bind_some, if_neg z10]
    have hlt : ¬ nI (wt V.w (hvy V.w (V.rd (rkF V.w V.rd q)))) * nI (popN (msk (V.rd (rkF V.w V.rd q)))) < nI (wsum V.w (msk (V.rd (rkF V.w V.rd q)))) := by
      rw [nI_mul, nI_ltI (by omega) (by omega)]; omega
    by_cases c : q = 0
    · rw [if_pos (show nI q = (0 : Int32) by rw [c]; rfl), e2, Option.bind_some, e3, Option.bind_some, if_pos rfl, qp4 N ok r1 hrr, Option.bind_some, e4, Option.bind_some, Option.bind_some, Option.bind_some, if_neg hlt, t0, t1, t2, nI_1]
      exact z
    · obtain ⟨q', rfl⟩ : ∃ q', q = q' + 1 := ⟨q - 1, by omega⟩
      obtain ⟨s1, s2, s3⟩ := rkF_ok (w := V.w) (rd := V.rd) (q := q') (by omega)
      have hne2 : V.rd (rkF V.w V.rd q') ≠ [] := by
        have := s2
        unfold rooted at this
        exact of_decide_eq_true this
      have g1 : sX4_ranked Λ μ a (nI q') = some (nI (rkF V.w V.rd q')) := by rw [q_ranked N ok, rank_get s1 s2 s3 12 0 (Nat.zero_le _) (by omega) (by omega)]
      have g2 : aheadB V.w V.rd (rkF V.w V.rd q') (rkF V.w V.rd (q' + 1)) = true := by
        apply Classical.byContradiction
        intro k
        have hd : rkF V.w V.rd q' ≠ rkF V.w V.rd (q' + 1) := fun e => by rw [e] at s3; omega
        have c2 : aheadB V.w V.rd (rkF V.w V.rd (q' + 1)) (rkF V.w V.rd q') = true := ah_tot hd k
        have := ah_lt r1 r2 c2
        omega
      rw [if_neg (show ¬ nI (q' + 1) = (0 : Int32) from fun k => by have := (nI_eq (b := 0) (by omega) (by omega)).mp k; omega), nI_pred, g1, Option.bind_some, lw_ahead N ok s1 r1 hne2 hne g2, Option.bind_some, if_neg z10, e2, Option.bind_some, e3, Option.bind_some, if_pos rfl, qp4 N ok r1 hrr, Option.bind_some, e4, Option.bind_some, Option.bind_some, Option.bind_some, if_neg hlt, t0, t1, t2, nI_1]
      exact z
theorem lw_parts (N : RvV Λ μ (lyR Λ a 0) V) (ok : PicOK V) : sL_areParts Λ μ a = some 1 := by
  have hp12 : cntTo 12 (rooted V.rd) ≤ 12 := cntTo_le _ _
  have e1 : sX4_ranked Λ μ a (nI (cntTo 12 (rooted V.rd))) = some (-1) := by
    rw [q_ranked N ok, rank_none (fun k hk h1 q => by
      have b1 := ah_bd (w := V.w) hk h1
      have := (nI_eq (by omega) (by omega)).mp q
      omega) 12 0 (by omega)]
  have e2 : sX4_ranked Λ μ a (-1 : Int32) = some (-1) := by
    rw [q_ranked N ok, rank_none (fun k hk h1 q => by
      have b1 := ahN_lt (w := V.w) (rd := V.rd) k
      have h1 := congrArg Int32.toInt q
      rw [nI_toInt (by omega)] at h1
      have : (-1 : Int32).toInt = -1 := rfl
      omega) 12 0 (by omega)]
  have z := lw_partsL N ok (cntTo 12 (rooted V.rd)) 0 fuel (by omega) (by unfold fuel; omega)
  unfold sL_areParts
  rw [qa2 N ok, Option.bind_some, e1, Option.bind_some]
  simp only [bnd, ↓reduceIte]
  rw [e2, Option.bind_some, if_pos rfl]
  exact z
end PA
