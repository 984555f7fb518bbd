/-! BOTH, WHOLE: accounts. -/
theorem cnt_one {n b : Nat} (hb : b < n) : cntTo n (fun c => decide (c = b)) = 1 := by
  refine Eq.trans ?_ (sumTo_one hb 1)
  unfold cntTo
  apply sumTo_congr
  intro k _
  by_cases q : k = b <;> simp [q]
theorem pair_count {n : Nat} : ∀ L : List (Nat × Nat), L.Nodup → (∀ q ∈ L, q.1 < n ∧ q.2 < n) → sumTo n (fun k => cntTo n (fun c => decide ((k, c) ∈ L))) = L.length := by
  intro L
  induction L with
  | nil =>
    intro _ _
    exact sumTo_zero (fun k _ => sumTo_zero (fun c _ => by simp))
  | cons q L ih =>
    intro hnd hl
    obtain ⟨h1, h2⟩ := List.nodup_cons.mp hnd
    have hq := hl q (by simp)
    have e : ∀ k, k < n → cntTo n (fun c => decide ((k, c) ∈ q :: L)) = cntTo n (fun c => decide ((k, c) ∈ L)) + (if k = q.1 then 1 else 0) := fun k _ => by
      by_cases c1 : k = q.1
      · rw [if_pos c1, ← cnt_one hq.2, ← cntTo_disj (P := fun c => decide ((k, c) ∈ L)) (Q := fun c => decide (c = q.2)) (fun c _ z => by
          have z1 := of_decide_eq_true z.1
          have z2 := of_decide_eq_true z.2
          apply h1
          rw [c1, z2] at z1
          exact z1)]
        apply cntTo_congr
        intro c _
        by_cases z : c = q.2
        · subst z
          subst c1
          simp
        · have : ((k, c) ∈ q :: L) ↔ (k, c) ∈ L := by
            rw [List.mem_cons]
            constructor
            · rintro (w | w)
              · exact absurd (by rw [← w]) z
              · exact w
            · exact Or.inr
          simp [this, z]
      · rw [if_neg c1, Nat.add_zero]
        apply cntTo_congr
        intro c _
        have : ((k, c) ∈ q :: L) ↔ (k, c) ∈ L := by
          rw [List.mem_cons]
          constructor
          · rintro (w | w)
            · exact absurd (by rw [← w]) c1
            · exact w
          · exact Or.inr
        simp [this]
    rw [sumTo_congr e, sumTo_add, sumTo_one hq.1, ih h2 (fun z hz => hl z (List.mem_cons_of_mem _ hz))]
    rfl
theorem prs_len : ∀ (t : List Nat) (x : Nat), (prs (x :: t)).length = t.length := by
  intro t
  induction t with
  | nil => intro x; rfl
  | cons y t ih =>
    intro x
    show (prs (y :: t)).length + 1 = _
    rw [ih y]
    rfl
section AU
variable {w p : List Nat} {rd sl : Nat → List Nat}
theorem part_ropes (O : RvOK w p rd) {r : Nat} (hr : r < 12) : sumTo w.length (fun k => if k ∈ rd r then popN (p.getD k 0) else 0) + ((if rooted rd r then 1 else 0) + (if rooted rd r then 1 else 0)) = cntTo w.length (fun k => decide (k ∈ rd r)) + cntTo w.length (fun k => decide (k ∈ rd r)) := by
  have hn := O.1
  by_cases h : rd r = []
  · have h1 : sumTo w.length (fun k => if k ∈ rd r then popN (p.getD k 0) else 0) = 0 := sumTo_zero (fun k _ => by rw [h]; simp)
    have h2 : cntTo w.length (fun k => decide (k ∈ rd r)) = 0 := sumTo_zero (fun k _ => by rw [h]; simp)
    have h3 : rooted rd r = false := by unfold rooted; rw [h]; rfl
    rw [h1, h2, h3]
    rfl
  · have h3 : rooted rd r = true := by unfold rooted; simpa using h
    obtain ⟨hT, t, ht⟩ := O.2.2.2.2.1 r hr h
    have e1 : sumTo w.length (fun k => if k ∈ rd r then popN (p.getD k 0) else 0) = sumTo w.length (fun k => cntTo w.length (fun c => decide ((k, c) ∈ prs (rd r)))) := by
      apply sumTo_congr
      intro k _
      by_cases c : k ∈ rd r
      · rw [if_pos c, pop_cnt hn (fun i hi => rv_ltn O hr (prs_mem ((rv_adj O hr c i).mp hi)).2)]
        apply cntTo_congr
        intro i _
        have := rv_adj O hr c i
        by_cases q : (k, i) ∈ prs (rd r)
        · rw [this.mpr q, decide_eq_true q]
        · rw [decide_eq_false q]
          cases z : (p.getD k 0).testBit i with
          | false => rfl
          | true => exact absurd (this.mp z) q
      · rw [if_neg c]
        exact (sumTo_zero (fun i _ => by
          rw [if_neg]
          intro z
          exact c (prs_mem (of_decide_eq_true z)).1)).symm
    have e2 := pair_count (n := w.length) (prs (rd r)) (prs_nodup _ hT) (fun q hq => ⟨rv_ltn O hr (prs_mem hq).1, rv_ltn O hr (prs_mem hq).2⟩)
    have e3 := T_len w.length (rd r) hT (fun x hx => rv_ltn O hr hx)
    have e4 : (prs (rd r)).length + 1 = (rd r).length := by rw [ht, prs_len]; rfl
    rw [e1, e2, h3]
    simp only [if_true]
    omega
theorem in_one (O : RvOK w p rd) {k : Nat} (hk : k < w.length) (v : Nat) : sumTo 12 (fun r => if k ∈ rd r then v else 0) = v := by
  obtain ⟨h1, h2⟩ := rtF_in O hk
  refine Eq.trans (sumTo_congr (fun r hr => ?_)) (sumTo_one h1 v)
  by_cases c : k ∈ rd r
  · rw [if_pos c, if_pos (rtF_of O hr c).symm]
  · rw [if_neg c, if_neg (fun q => c (by rw [q]; exact h2))]
theorem all_ropes (O : RvOK w p rd) : sumTo w.length (fun k => popN (p.getD k 0)) + (cntTo 12 (rooted rd) + cntTo 12 (rooted rd)) = w.length + w.length := by
  have e1 : sumTo w.length (fun k => popN (p.getD k 0)) = sumTo 12 (fun r => sumTo w.length (fun k => if k ∈ rd r then popN (p.getD k 0) else 0)) := by
    rw [sumTo_comm]
    apply sumTo_congr
    intro k hk
    exact (in_one O hk _).symm
  have e2 : w.length = sumTo 12 (fun r => cntTo w.length (fun k => decide (k ∈ rd r))) := by
    have h1 : sumTo w.length (fun _ => 1) = w.length := by
      generalize w.length = n
      induction n with
      | zero => rfl
      | succ n ih => show sumTo n _ + 1 = _; rw [ih]
    refine Eq.trans h1.symm ?_
    unfold cntTo
    rw [sumTo_comm]
    refine sumTo_congr (fun k hk => Eq.trans (in_one O hk 1).symm (sumTo_congr (fun r _ => ?_)))
    by_cases c : k ∈ rd r <;> simp [c]
  have e3 : sumTo 12 (fun r => sumTo w.length (fun k => if k ∈ rd r then popN (p.getD k 0) else 0) + ((if rooted rd r then 1 else 0) + (if rooted rd r then 1 else 0))) = sumTo 12 (fun r => cntTo w.length (fun k => decide (k ∈ rd r)) + cntTo w.length (fun k => decide (k ∈ rd r))) := sumTo_congr (fun r hr => part_ropes O hr)
  rw [sumTo_add, sumTo_add, sumTo_add, ← e1, ← e2] at e3
  exact e3
theorem all_deep (O : RvOK w p rd) (X : Rel rd sl) : maxTo w.length (depA w rd) = maxTo 12 (fun k => gdp w.length (sl k)) := by
  apply Nat.le_antisymm
  · refine maxTo_le.mpr (fun k hk => ?_)
    obtain ⟨r, s, hr, hkr, hs, e⟩ := rel_at O X hk
    refine Nat.le_trans ?_ (le_maxTo (fun k => gdp w.length (sl k)) hs)
    have : depA w rd k = (fun b => if b ∈ sl s then dep (sl s) w.length b else 0) k := by
      dsimp only
      rw [e, if_pos hkr]
      unfold depA
      rw [rtF_of O hr hkr]
    rw [this]
    exact le_maxTo (fun b => if b ∈ sl s then dep (sl s) w.length b else 0) hk
  · refine maxTo_le.mpr (fun s hs => maxTo_le.mpr (fun k hk => ?_))
    by_cases c : k ∈ sl s
    · rw [if_pos c]
      obtain ⟨r, hr, e⟩ := X.2.1 s hs (fun q => by rw [q] at c; cases c)
      have hkr : k ∈ rd r := e ▸ c
      have : dep (sl s) w.length k = depA w rd k := by
        unfold depA
        rw [rtF_of O hr hkr, e]
      rw [this]
      exact le_maxTo (depA w rd) hk
    · rw [if_neg c]; exact Nat.zero_le _
end AU
section AV
variable {Λ Λ' : Lay} {μ μ' : Mem} {a b : Nat}
theorem shlAll : ∀ n, n < 13 → ((1 : Int32) <<< (nI n &&& 31)) - 1 = nI (2 ^ n - 1) := by decide +kernel
theorem as_account (PC : FrApart Λ a) (PM : MdApart Λ' b) (I : Inv Λ μ a Λ' μ' b) (y : Int32) : ∃ r, sX4_account Λ μ a y = some r ∧ sX5_account Λ' μ' b y = some r := by
  obtain ⟨pp, V, h, sv, r1, r2, r3, m3, ln, tx, C, M0, hR⟩ := I
  have N := C.1
  have ok := C.2.1
  have M := M0.1
  have hn := ok.1.1
  have hN : lyN Λ' (lyR Λ' b 0) = 304 := M.1
  unfold sX4_account sX5_account
  have q0 : sX1_banks Λ μ (lyR Λ a 0) = some (nI V.w.length) := rv_banks N.1
  have q1 : sX1_ropes Λ μ (lyR Λ a 0) = some (nI (sumTo V.w.length (fun k => popN (V.p.getD k 0)) / 2)) := rv_ropes N.1 ok.1
  have q2 : sX1_parts Λ μ (lyR Λ a 0) = some (nI (cntTo 12 (rooted V.rd))) := rv_parts N.1
  have q3 : sX1_allBanks Λ μ (lyR Λ a 0) = some (nI (2 ^ V.w.length - 1)) := by
    unfold sX1_allBanks
    rw [row_len N.1.1, Option.bind_some, List.length_map, shlAll _ (by omega)]
  have hs : 2 ^ V.w.length - 1 < 4096 := by
    have : 2 ^ V.w.length ≤ 2 ^ 12 := Nat.pow_le_pow_right (by omega) hn
    have h2 : (2 : Nat) ^ 12 = 4096 := rfl
    omega
  have hbit : ∀ k, k < V.w.length → (2 ^ V.w.length - 1).testBit k = true := fun k hk => by
    rw [Nat.testBit_two_pow_sub_one]; exact decide_eq_true hk
  have q4 : sX1_weightOfAll Λ μ (lyR Λ a 0) (nI (2 ^ V.w.length - 1)) = some (nI (sumTo V.w.length (wt V.w))) := by
    have e : wsum V.w (2 ^ V.w.length - 1) = sumTo V.w.length (wt V.w) := sumTo_congr (fun k hk => by rw [hbit k hk, if_pos rfl])
    rw [← e]
    exact rv_weights N.1 ok.1 hs
  have q5 : sX1_places Λ μ (lyR Λ a 0) = some (nI (sumTo 12 (fun k => (V.rd k).length))) := rv_places N.1
  have q6 : sX1_greatestDepth Λ μ (lyR Λ a 0) (nI (2 ^ V.w.length - 1)) = some (nI (maxTo V.w.length (depA V.w V.rd))) := by
    have e : maxTo V.w.length (fun k => if (2 ^ V.w.length - 1).testBit k then depA V.w V.rd k else 0) = maxTo V.w.length (depA V.w V.rd) := maxTo_congr (fun k hk => by rw [hbit k hk, if_pos rfl])
    rw [← e]
    exact rv_great N.1 ok.1 hs
  have q7 : sX2_length Λ μ (lyR Λ a 4) = some (nI tx.length) := row_len C.2.2.2.2.2.2.2.2.2.2.2.1
  by_cases c0 : y = 0
  · rw [if_pos c0, if_pos c0, q0, md_n M, md_n0 M]
    exact ⟨_, rfl, rfl⟩
  rw [if_neg c0, if_neg c0]
  by_cases c1 : y = 1
  · have hA := all_ropes ok.1
    have hP := rel_parts ok.1 ok.2
    rw [if_pos c1, if_pos c1, q1, md_n M, md_n0 M, md_parts M ok.sl, ← hP]
    refine ⟨_, rfl, ?_⟩
    rw [Option.bind_some, pk_sub (by omega)]
    congr 2
    omega
  rw [if_neg c1, if_neg c1]
  by_cases c2 : y = 2
  · rw [if_pos c2, if_pos c2, q2, md_parts M ok.sl, rel_parts ok.1 ok.2]
    exact ⟨_, rfl, rfl⟩
  rw [if_neg c2, if_neg c2]
  by_cases c3 : y = 3
  · rw [if_pos c3, if_pos c3, q3, Option.bind_some, q4, md_weights M hn]
    exact ⟨_, rfl, rfl⟩
  rw [if_neg c3, if_neg c3]
  by_cases c4 : y = 4
  · rw [if_pos c4, if_pos c4, q5, md_places M, rel_places ok.1 ok.2]
    exact ⟨_, rfl, rfl⟩
  rw [if_neg c4, if_neg c4]
  by_cases c5 : y = 5
  · subst c5
    have e1 : sX1_joinsSoFar Λ μ (lyR Λ a 0) = some V.j := by unfold sX1_joinsSoFar; rw [N.2.1]
    rw [if_pos rfl, if_pos rfl, e1, hN]
    refine ⟨V.j, rfl, ?_⟩
    rw [gd_t (by decide)]
    congr 1
    exact M.2.2.1
  rw [if_neg c5, if_neg c5]
  by_cases c6 : y = 6
  · subst c6
    have e1 : sX1_cutsSoFar Λ μ (lyR Λ a 0) = some V.c := by unfold sX1_cutsSoFar; rw [N.2.2.1]
    rw [if_pos rfl, if_pos rfl, e1, hN]
    refine ⟨V.c, rfl, ?_⟩
    rw [gd_t (by decide)]
    congr 1
    exact M.2.2.2.1
  rw [if_neg c6, if_neg c6]
  by_cases c7 : y = 7
  · subst c7
    have e1 : sX1_turnsSoFar Λ μ (lyR Λ a 0) = some V.t := by unfold sX1_turnsSoFar; rw [N.2.2.2]
    rw [if_pos rfl, if_pos rfl, e1, hN]
    refine ⟨V.t, rfl, ?_⟩
    rw [gd_t (by decide)]
    congr 1
    exact M.2.2.2.2.1
  rw [if_neg c7, if_neg c7]
  by_cases c8 : y = 8
  · rw [if_pos c8, if_pos c8, q3, Option.bind_some, q6, md_deep M ok.sl, all_deep ok.1 ok.2]
    exact ⟨_, rfl, rfl⟩
  rw [if_neg c8, if_neg c8]
  by_cases c9 : y = 9
  · rw [if_pos c9, if_pos c9, q7, M0.2.2.2.2.2.2.2.2.2.2.1]
    exact ⟨_, rfl, rfl⟩
  rw [if_neg c9, if_neg c9]
  by_cases c10 : y = 10
  · rw [if_pos c10, if_pos c10, M0.2.1.1]
    unfold sX0_count
    rw [C.2.2.2.1.2.2.1]
    exact ⟨_, rfl, rfl⟩
  rw [if_neg c10, if_neg c10]
  exact ⟨_, rfl, rfl⟩
end AV
