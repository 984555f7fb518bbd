/-! THE MEAN, and how many ropes there are. -/
def lay0 : Lay := ([], fun _ => 0, fun _ _ => 0, fun _ => 0, fun _ _ => 0, fun _ => 0)
def mem0 : Mem := (fun _ _ => 0, fun _ _ => 0)
theorem mean_all : ∀ s, s < 133 → ∀ n, n < 12 → ((FP.fdiv (FP.i2f (nI s)) (FP.i2f (nI (n + 1)))) &&& (0x7fffffff : UInt32) ≤ (0x7f800000 : UInt32)) ∧ sX4_bitsOf lay0 mem0 (FP.fdiv (FP.i2f (nI s)) (FP.i2f (nI (n + 1)))) = some (UInt32.toInt32 (FP.fdiv (FP.i2f (nI s)) (FP.i2f (nI (n + 1))))) ∧ sJxf58ca_floatToIntBits_5c35a lay0 mem0 (FP.fdiv (FP.i2f (nI s)) (FP.i2f (nI (n + 1)))) = some (UInt32.toInt32 (FP.fdiv (FP.i2f (nI s)) (FP.i2f (nI (n + 1))))) := by decide +kernel
theorem bits42 (Λ : Lay) (μ : Mem) : ∀ n x1 x2 x3, lpX4_bitsOf_42 Λ μ n x1 x2 x3 = lpX4_bitsOf_42 lay0 mem0 n x1 x2 x3 := by
  intro n
  induction n with
  | zero => intro x1 x2 x3; rfl
  | succ n ih =>
    intro x1 x2 x3
    rw [lpX4_bitsOf_42_s, lpX4_bitsOf_42_s]
    simp only [bnd, ih]
theorem bits15 (Λ : Lay) (μ : Mem) : ∀ n x1 x2 x3, lpX4_bitsOf_15 Λ μ n x1 x2 x3 = lpX4_bitsOf_15 lay0 mem0 n x1 x2 x3 := by
  intro n
  induction n with
  | zero => intro x1 x2 x3; rfl
  | succ n ih =>
    intro x1 x2 x3
    rw [lpX4_bitsOf_15_s, lpX4_bitsOf_15_s]
    simp only [bnd, ih, bits42 Λ μ]
theorem bits_free (Λ : Lay) (μ : Mem) (x : UInt32) : sX4_bitsOf Λ μ x = sX4_bitsOf lay0 mem0 x := by
  unfold sX4_bitsOf
  rw [bits15]
theorem cnt_one {n b : Nat} (hb : b < n) : cntTo n (fun c => decide (c = b)) = 1 := by
  refine Eq.trans ?_ (sumTo_one hb 1)
  unfold cntTo
  apply sumTo_congr
  intro k _
  by_cases q : k = b <;> simp [q]
theorem pair_count {n : Nat} : ∀ L : List (Nat × Nat), L.Nodup → (∀ q ∈ L, q.1 < n ∧ q.2 < n) → sumTo n (fun k => cntTo n (fun c => decide ((k, c) ∈ L))) = L.length := by
  intro L
  induction L with
  | nil =>
    intro _ _
    exact sumTo_zero (fun k _ => sumTo_zero (fun c _ => by simp))
  | cons q L ih =>
    intro hnd hl
    obtain ⟨h1, h2⟩ := List.nodup_cons.mp hnd
    have hq := hl q (by simp)
    have e : ∀ k, k < n → cntTo n (fun c => decide ((k, c) ∈ q :: L)) = cntTo n (fun c => decide ((k, c) ∈ L)) + (if k = q.1 then 1 else 0) := fun k _ => by
      by_cases c1 : k = q.1
      · rw [if_pos c1, ← cnt_one hq.2, ← cntTo_disj (P := fun c => decide ((k, c) ∈ L)) (Q := fun c => decide (c = q.2)) (fun c _ z => by
          have z1 := of_decide_eq_true z.1
          have z2 := of_decide_eq_true z.2
          apply h1
          rw [c1, z2] at z1
          exact z1)]
        apply cntTo_congr
        intro c _
        by_cases z : c = q.2
        · subst z
          subst c1
          simp
        · have : ((k, c) ∈ q :: L) ↔ (k, c) ∈ L := by
            rw [List.mem_cons]
            constructor
            · rintro (w | w)
              · exact absurd (by rw [← w]) z
              · exact w
            · exact Or.inr
          simp [this, z]
      · rw [if_neg c1, Nat.add_zero]
        apply cntTo_congr
        intro c _
        have : ((k, c) ∈ q :: L) ↔ (k, c) ∈ L := by
          rw [List.mem_cons]
          constructor
          · rintro (w | w)
            · exact absurd (by rw [← w]) c1
            · exact w
          · exact Or.inr
        simp [this]
    rw [sumTo_congr e, sumTo_add, sumTo_one hq.1, ih h2 (fun z hz => hl z (List.mem_cons_of_mem _ hz))]
    rfl
theorem prs_len : ∀ (t : List Nat) (x : Nat), (prs (x :: t)).length = t.length := by
  intro t
  induction t with
  | nil => intro x; rfl
  | cons y t ih =>
    intro x
    show (prs (y :: t)).length + 1 = _
    rw [ih y]
    rfl
section AU
variable {w p : List Nat} {rd : Nat → List Nat}
theorem part_ropes (O : RvOK w p rd) {r : Nat} (hr : r < 12) : sumTo w.length (fun k => if k ∈ rd r then popN (p.getD k 0) else 0) + ((if rooted rd r then 1 else 0) + (if rooted rd r then 1 else 0)) = cntTo w.length (fun k => decide (k ∈ rd r)) + cntTo w.length (fun k => decide (k ∈ rd r)) := by
  have hn := O.1
  by_cases h : rd r = []
  · have h1 : sumTo w.length (fun k => if k ∈ rd r then popN (p.getD k 0) else 0) = 0 := sumTo_zero (fun k _ => by rw [h]; simp)
    have h2 : cntTo w.length (fun k => decide (k ∈ rd r)) = 0 := sumTo_zero (fun k _ => by rw [h]; simp)
    have h3 : rooted rd r = false := by unfold rooted; rw [h]; rfl
    rw [h1, h2, h3]
    rfl
  · have h3 : rooted rd r = true := by unfold rooted; simpa using h
    obtain ⟨hT, t, ht⟩ := O.2.2.2.2.1 r hr h
    have e1 : sumTo w.length (fun k => if k ∈ rd r then popN (p.getD k 0) else 0) = sumTo w.length (fun k => cntTo w.length (fun c => decide ((k, c) ∈ prs (rd r)))) := by
      apply sumTo_congr
      intro k _
      by_cases c : k ∈ rd r
      · rw [if_pos c, pop_cnt hn (fun i hi => rv_ltn O hr (prs_mem ((rv_adj O hr c i).mp hi)).2)]
        apply cntTo_congr
        intro i _
        have := rv_adj O hr c i
        by_cases q : (k, i) ∈ prs (rd r)
        · rw [this.mpr q, decide_eq_true q]
        · rw [decide_eq_false q]
          cases z : (p.getD k 0).testBit i with
          | false => rfl
          | true => exact absurd (this.mp z) q
      · rw [if_neg c]
        exact (sumTo_zero (fun i _ => by
          rw [if_neg]
          intro z
          exact c (prs_mem (of_decide_eq_true z)).1)).symm
    have e2 := pair_count (n := w.length) (prs (rd r)) (prs_nodup _ hT) (fun q hq => ⟨rv_ltn O hr (prs_mem hq).1, rv_ltn O hr (prs_mem hq).2⟩)
    have e3 := T_len w.length (rd r) hT (fun x hx => rv_ltn O hr hx)
    have e4 : (prs (rd r)).length + 1 = (rd r).length := by rw [ht, prs_len]; rfl
    rw [e1, e2, h3]
    simp only [if_true]
    omega
theorem in_one (O : RvOK w p rd) {k : Nat} (hk : k < w.length) (v : Nat) : sumTo 12 (fun r => if k ∈ rd r then v else 0) = v := by
  obtain ⟨h1, h2⟩ := rtF_in O hk
  refine Eq.trans (sumTo_congr (fun r hr => ?_)) (sumTo_one h1 v)
  by_cases c : k ∈ rd r
  · rw [if_pos c, if_pos (rtF_of O hr c).symm]
  · rw [if_neg c, if_neg (fun q => c (by rw [q]; exact h2))]
theorem all_ropes (O : RvOK w p rd) : sumTo w.length (fun k => popN (p.getD k 0)) + (cntTo 12 (rooted rd) + cntTo 12 (rooted rd)) = w.length + w.length := by
  have e1 : sumTo w.length (fun k => popN (p.getD k 0)) = sumTo 12 (fun r => sumTo w.length (fun k => if k ∈ rd r then popN (p.getD k 0) else 0)) := by
    rw [sumTo_comm]
    apply sumTo_congr
    intro k hk
    exact (in_one O hk _).symm
  have e2 : w.length = sumTo 12 (fun r => cntTo w.length (fun k => decide (k ∈ rd r))) := by
    have h1 : sumTo w.length (fun _ => 1) = w.length := by
      generalize w.length = n
      induction n with
      | zero => rfl
      | succ n ih => show sumTo n _ + 1 = _; rw [ih]
    refine Eq.trans h1.symm ?_
    unfold cntTo
    rw [sumTo_comm]
    refine sumTo_congr (fun k hk => Eq.trans (in_one O hk 1).symm (sumTo_congr (fun r _ => ?_)))
    by_cases c : k ∈ rd r <;> simp [c]
  have e3 : sumTo 12 (fun r => sumTo w.length (fun k => if k ∈ rd r then popN (p.getD k 0) else 0) + ((if rooted rd r then 1 else 0) + (if rooted rd r then 1 else 0))) = sumTo 12 (fun r => cntTo w.length (fun k => decide (k ∈ rd r)) + cntTo w.length (fun k => decide (k ∈ rd r))) := sumTo_congr (fun r hr => part_ropes O hr)
  rw [sumTo_add, sumTo_add, sumTo_add, ← e1, ← e2] at e3
  exact e3
end AU
