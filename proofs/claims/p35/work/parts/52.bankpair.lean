/-! THE LAW'S CHECKS of a bank and of a pair of banks hold of every picture. -/
section BP
variable {Λ : Lay} {μ : Mem} {a : Nat} {V : Pic}
theorem below_any (N : RvV Λ μ (lyR Λ a 0) V) (ok : PicOK V) {g r : Nat} (hr : r < 12) (hgr : g ∈ V.rd r) {o : Nat} (ho : o < V.w.length) : sX4_isBelow Λ μ a (nI o) (nI g) = some (if blw (V.rd r) o g = true then 1 else 0) := by
  obtain ⟨r', hr', hor⟩ := ok_at ok ho
  have hg := rv_ltn ok.1 hr hgr
  by_cases c : r' = r
  · subst c
    exact q_below N ok hr' hor hg
  · have h1 : blw (V.rd r') o g = false := by
      cases z : blw (V.rd r') o g with
      | false => rfl
      | true => exact absurd (ok.1.2.2.2.2.2.2.2.1 r' r g hr' hr (blw_mem z).2 hgr) c
    have h2 : ¬ blw (V.rd r) o g = true := fun z => c (ok.1.2.2.2.2.2.2.2.1 r' r o hr' hr hor (blw_mem z).1)
    rw [q_belowN N ok hr' hor hg h1, if_neg h2]
theorem lw_bankL (N : RvV Λ μ (lyR Λ a 0) V) (ok : PicOK V) {g r : Nat} (hr : r < 12) (hgr : g ∈ V.rd r) : ∀ m o n, o + m = V.w.length → m < n → lpL_isBank_156 Λ μ a (nI g) (nI (fi (V.rd r) g)) (nI (li (V.rd r) g)) n (nI (cntTo o (fun k => blw (V.rd r) k g))) (nI (sumTo o (fun k => if blw (V.rd r) k g = true then wt V.w k else 0))) (nI (cntTo o (nbr (V.rd r) g))) 1 (nI o) = some 1 := by
  obtain ⟨hT, t, ht⟩ := rv_tour ok.1 hr hgr
  have hg := rv_ltn ok.1 hr hgr
  have hn := ok.1.1
  intro m
  induction m with
  | zero =>
    intro o n ho hn0
    obtain ⟨n, rfl⟩ : ∃ n', n = n' + 1 := ⟨n - 1, by omega⟩
    obtain rfl : o = V.w.length := by omega
    have e7 : popN (belowM (V.rd r) g) = cntTo V.w.length (fun k => blw (V.rd r) k g) := by
      rw [pop_cnt hn (fun i hi => by
        rw [belowM_bit hT hgr] at hi
        exact rv_ltn ok.1 hr (blw_mem hi).1)]
      exact cntTo_congr (fun i _ => belowM_bit hT hgr)
    have e8 : wsum V.w (belowM (V.rd r) g) = sumTo V.w.length (fun k => if blw (V.rd r) k g = true then wt V.w k else 0) := sumTo_congr (fun k _ => by rw [belowM_bit hT hgr])
    have e5 : popN (V.p.getD g 0) = cntTo V.w.length (nbr (V.rd r) g) := by
      rw [pop_cnt hn (fun i hi => rv_ltn ok.1 hr (prs_mem ((rv_adj ok.1 hr hgr i).mp hi)).2)]
      apply cntTo_congr
      intro i _
      have := rv_adj ok.1 hr hgr i
      unfold nbr
      by_cases q : (g, i) ∈ prs (V.rd r)
      · rw [this.mpr q, decide_eq_true q]
      · rw [decide_eq_false q]
        cases z : (V.p.getD g 0).testBit i with
        | false => rfl
        | true => exact absurd (this.mp z) q
    have q7 := qb7 N ok hr hgr
    have q8 := qb8 N ok hr hgr
    have q9 := q_belowAgain N ok hr hgr
    have q5 := qb5 N ok hr hgr
    rw [e7] at q7
    rw [e8] at q8 q9
    rw [e5] at q5
    have q0 := q_belowY N ok hr hgr hg (blw_rf hgr)
    rw [lpL_isBank_156_s, bnd_b, if_neg z10, qa0 N ok, Option.bind_some, if_pos (Int32.le_refl _)]
    simp only [bnd]
    rw [if_neg z10, q7, Option.bind_some, if_pos rfl, q8, Option.bind_some, if_pos rfl, q9, Option.bind_some, if_pos rfl, q5, Option.bind_some, if_pos rfl, q0, Option.bind_some, if_pos rfl, gd_t (Or.inr rfl)]
  | succ m ih =>
    intro o n ho hn0
    obtain ⟨n, rfl⟩ : ∃ n', n = n' + 1 := ⟨n - 1, by omega⟩
    have hon : o < V.w.length := by omega
    have hq := below_any N ok hr hgr hon
    have hrope := q_rope N ok hr hgr hon
    have er : nI (cntTo o (nbr (V.rd r) g)) + (if nbr (V.rd r) g o = true then (1 : Int32) else 0) = nI (cntTo (o + 1) (nbr (V.rd r) g)) := by
      show _ = nI (cntTo o (nbr (V.rd r) g) + if nbr (V.rd r) g o = true then 1 else 0)
      by_cases c : nbr (V.rd r) g o = true
      · rw [if_pos c, if_pos c]; exact nI_1 _
      · rw [if_neg c, if_neg c]; exact nI_add _ 0
    have z := ih (o + 1) n (by omega) (by omega)
    rw [lpL_isBank_156_s, bnd_b, if_neg z10, qa0 N ok, Option.bind_some, if_neg (by rw [nI_leI (by omega) (by omega)]; omega), hq, Option.bind_some]
    by_cases c : blw (V.rd r) o g = true
    · have hol := (blw_mem c).1
      have hle : fi (V.rd r) g ≤ fi (V.rd r) o ∧ li (V.rd r) o ≤ li (V.rd r) g := by
        have := c
        unfold blw at this
        have := of_decide_eq_true this
        exact ⟨this.2.1, this.2.2⟩
      have f1 := fi_lt hgr
      have f2 := fi_lt hol
      have f3 := li_lt hgr
      have f4 := li_lt hol
      have hL := rv_lenK ok.1 hr
      have e1 : cntTo (o + 1) (fun k => blw (V.rd r) k g) = cntTo o (fun k => blw (V.rd r) k g) + 1 := by
        show cntTo o (fun k => blw (V.rd r) k g) + (if blw (V.rd r) o g = true then 1 else 0) = _
        rw [if_pos c]
      have e2 : sumTo (o + 1) (fun k => if blw (V.rd r) k g = true then wt V.w k else 0) = sumTo o (fun k => if blw (V.rd r) k g = true then wt V.w k else 0) + wt V.w o := by
        rw [sumTo, if_pos c]
      rw [e1, e2, ← er] at z
      rw [if_pos c]
      simp only [bnd, z10, z01, ↓reduceIte]
      rw [qb0 N ok hr hol, Option.bind_some, hrope, Option.bind_some, qb3 N ok hr hol, Option.bind_some, if_neg (by rw [nI_ltI (by omega) (by omega)]; omega), qb4 N ok hr hol, Option.bind_some, if_neg (by rw [nI_ltI (by omega) (by omega)]; omega), nI_1, nI_1, nI_add]
      exact z
    · have e1 : cntTo (o + 1) (fun k => blw (V.rd r) k g) = cntTo o (fun k => blw (V.rd r) k g) := by
        show cntTo o (fun k => blw (V.rd r) k g) + (if blw (V.rd r) o g = true then 1 else 0) = _
        rw [if_neg c, Nat.add_zero]
      have e2 : sumTo (o + 1) (fun k => if blw (V.rd r) k g = true then wt V.w k else 0) = sumTo o (fun k => if blw (V.rd r) k g = true then wt V.w k else 0) := by
        rw [sumTo, if_neg c, Nat.add_zero]
      rw [e1, e2, ← er] at z
      rw [if_neg c]
      simp only [bnd, z10, z01, ↓reduceIte, Int32.add_zero]
      rw [hrope, Option.bind_some, nI_1]
      exact z
theorem lw_bank (N : RvV Λ μ (lyR Λ a 0) V) (ok : PicOK V) {g r : Nat} (hr : r < 12) (hgr : g ∈ V.rd r) : sL_isBank Λ μ a (nI g) = some 1 := by
  obtain ⟨hT, t, ht⟩ := rv_tour ok.1 hr hgr
  have hg := rv_ltn ok.1 hr hgr
  have hn := ok.1.1
  have hln : ∀ z ∈ V.rd r, z < V.w.length := fun z hz => rv_ltn ok.1 hr hz
  have hL := rv_lenK ok.1 hr
  have f1 := fi_lt hgr
  have f3 := li_lt hgr
  have f5 := fi_le_li hgr
  have i1 : sX4_inRound Λ μ a (nI g) (nI (fi (V.rd r) g)) = some (nI g) := by
    have := qr_in N ok hr hgr f1
    rw [fi_get hgr] at this
    exact this
  have i2 : sX4_inRound Λ μ a (nI g) (nI (li (V.rd r) g)) = some (nI g) := by
    have := qr_in N ok hr hgr f3
    rw [li_get hgr] at this
    exact this
  have z := lw_bankL N ok hr hgr V.w.length 0 fuel (by omega) (by unfold fuel; omega)
  have z : lpL_isBank_156 Λ μ a (nI g) (nI (fi (V.rd r) g)) (nI (li (V.rd r) g)) fuel 0 0 0 1 0 = some 1 := z
  unfold sL_isBank
  rw [qb3 N ok hr hgr, Option.bind_some, qb4 N ok hr hgr, Option.bind_some, qb6 N ok hr hgr, Option.bind_some, i1, Option.bind_some, bnd_b, bnd_b, if_pos rfl, i2, Option.bind_some, if_pos rfl, if_neg (by rw [nI_ltI (by omega) (by omega)]; omega)]
  by_cases h0 : fi (V.rd r) g = 0
  · have egr : g = r := (par_root ht).mp h0
    have hd : dep (V.rd r) V.w.length g = 0 := by
      apply Classical.byContradiction
      intro q
      exact (dep_zero hT hln hgr).mpr (by omega) h0
    have q2 := qb2 N ok hr hgr
    rw [hd] at q2
    have e1 : (nI r = nI g) = True := eq_true (by rw [egr])
    have e2 : (nI 0 = (0 : Int32)) = True := eq_true rfl
    rw [if_pos h0]
    simp only [bnd, z10, z01, ↓reduceIte, qb1 N ok hr hgr, q2, Option.bind_some, e1, e2]
    exact z
  · have hp := par_facts hT hgr h0
    have hpn := hln _ hp.1
    obtain ⟨p1, p2⟩ := par_prs hT hgr h0
    have hdp := dep_par hT hgr h0 hln
    have e4 : ¬ nI (par (V.rd r) g) = (-4 : Int32) := fun q => by
      have h1 := congrArg Int32.toInt q
      rw [nI_toInt (by omega)] at h1
      have : (-4 : Int32).toInt = -4 := rfl
      omega
    have e1 : ¬ nI r = nI g := fun q => by
      have := (nI_eq (by omega) (by omega)).mp q
      exact h0 ((par_root ht).mpr this.symm)
    have e2 : (nI (dep (V.rd r) V.w.length g) = nI (dep (V.rd r) V.w.length (par (V.rd r) g)) + 1) = True := eq_true (by rw [hdp]; exact (nI_1 _).symm)
    rw [if_neg h0]
    simp only [bnd, z10, z01, ↓reduceIte, qb1 N ok hr hgr, qb2 N ok hr hgr, qb2 N ok hr hp.1, q_ropeY N ok hr hp.1 hg (decide_eq_true p2), q_belowY N ok hr hgr hpn hp.2.2.1, Option.bind_some, e1, e2, e4]
    exact z
theorem lw_pairL (N : RvV Λ μ (lyR Λ a 0) V) (ok : PicOK V) {g d r m : Nat} (hr : r < 12) (hgr : g ∈ V.rd r) (hdr : d ∈ V.rd r) (qm : sX1_meetingOf Λ μ (lyR Λ a 0) (nI g) (nI d) = some (nI m)) (qm2 : sX1_meetingOf Λ μ (lyR Λ a 0) (nI d) (nI g) = some (nI m)) (M : Meets (V.rd r) g d m) : ∀ k i n, i + k = wyN (V.rd r) V.w.length g d m + 1 → 1 ≤ i → k < n → lpL_isPair_321 Λ μ a (nI g) (nI d) (nI (wyN (V.rd r) V.w.length g d m)) n 1 (nI i) = some 1 := by
  obtain ⟨hT, t, ht⟩ := rv_tour ok.1 hr hgr
  have hn := ok.1.1
  have hln : ∀ z ∈ V.rd r, z < V.w.length := fun z hz => rv_ltn ok.1 hr hz
  have hW := wyN_lt (m := m) ok hr hgr hdr
  intro k
  induction k with
  | zero =>
    intro i n hi h1 hn0
    obtain ⟨n, rfl⟩ : ∃ n', n = n' + 1 := ⟨n - 1, by omega⟩
    rw [lpL_isPair_321_s, bnd_b, if_neg z10, if_pos (by rw [nI_ltI (by omega) (by omega)]; omega)]
    simp only [bnd, z10, ↓reduceIte]
    by_cases c : wyN (V.rd r) V.w.length g d m = 1
    · rw [if_pos (show nI (wyN (V.rd r) V.w.length g d m) = (1 : Int32) by rw [c]; rfl), lw_differ N ok hr hgr hdr ((way_one hT ht hln M).mp c), Option.bind_some, if_neg z10, gd_t (Or.inr rfl)]
    · rw [if_neg (show ¬ nI (wyN (V.rd r) V.w.length g d m) = (1 : Int32) from fun q => c ((nI_eq (b := 1) (by omega) (by omega)).mp q)), gd_t (Or.inr rfl)]
  | succ k ih =>
    intro i n hi h1 hn0
    obtain ⟨n, rfl⟩ : ∃ n', n = n' + 1 := ⟨n - 1, by omega⟩
    obtain ⟨i, rfl⟩ : ∃ i', i = i' + 1 := ⟨i - 1, by omega⟩
    have p1 := q_wayP N ok hr hgr hdr qm M (i := i) (by omega)
    have p2 := q_wayP N ok hr hgr hdr qm M (i := i + 1) (by omega)
    have in1 := wyP_in hT hln M (i := i) (by omega)
    have in2 := wyP_in hT hln M (i := i + 1) (by omega)
    have p3 := q_ropeY N ok hr in1 (hln _ in2) (wyP_s hT hln M (i := i) (by omega))
    have p4 := q_wayP N ok hr hdr hgr qm2 (meets_sym M) (i := wyN (V.rd r) V.w.length g d m - (i + 1)) (by rw [wyN_c]; omega)
    rw [← wyP_c hT hln M (by omega)] at p4
    have e1 : nI (wyN (V.rd r) V.w.length g d m) - nI (i + 1) = nI (wyN (V.rd r) V.w.length g d m - (i + 1)) := pk_sub (by omega)
    rw [lpL_isPair_321_s, bnd_b, if_neg z10, if_neg (by rw [nI_ltI (by omega) (by omega)]; omega), nI_pred, p1, Option.bind_some, p2, Option.bind_some, p3, Option.bind_some]
    simp only [bnd, ↓reduceIte]
    rw [Option.bind_some, e1, p4, Option.bind_some, if_pos rfl, nI_1]
    exact ih (i + 1 + 1) n (by omega) (by omega) (by omega)
theorem lw_pair (N : RvV Λ μ (lyR Λ a 0) V) (ok : PicOK V) {g d : Nat} (hg : g < V.w.length) (hd : d < V.w.length) : sL_isPair Λ μ a (nI g) (nI d) = some 1 := by
  obtain ⟨r, hr, hgr⟩ := ok_at ok hg
  obtain ⟨hT, t, ht⟩ := rv_tour ok.1 hr hgr
  have hn := ok.1.1
  have hln : ∀ z ∈ V.rd r, z < V.w.length := fun z hz => rv_ltn ok.1 hr hz
  by_cases f : d ∈ V.rd r
  · obtain ⟨m, qm, q3, M⟩ := q_meetY N ok hr hgr f
    obtain ⟨m', qm2, -, M2⟩ := q_meetY N ok hr f hgr
    have em := meets_uniq (meets_sym M) M2
    subst em
    have hmr := (blw_mem M.1).2
    have hW := wyN_lt (m := m) ok hr hgr f
    have d1 := dep_mono hln M.1
    have d2 := dep_mono hln M.2.1
    have d3 := dep_lt hln hgr
    have d4 := dep_lt hln f
    have q1 := q_joined N ok hr hgr hd
    have q5 := q_joinedAgain N ok hr hgr hd
    have q7 := q_would N ok hr hgr hd
    rw [if_pos f] at q1 q5 q7
    have q4 := q_way1 N ok hr hgr f qm M
    have w0 := q_wayP N ok hr hgr f qm M (i := 0) (Nat.zero_le _)
    rw [wyP_0] at w0
    have w0 : sX4_way Λ μ a (nI g) (nI d) (0 : Int32) = some (nI g) := w0
    have wW := q_wayP N ok hr hgr f qm M (Nat.le_refl _)
    rw [wyP_W hT hln M] at wW
    have wO := q_wayO N ok hr hgr f qm M
    rw [← nI_1] at wO
    have wB := q_way1 N ok hr f hgr qm2 (meets_sym M)
    rw [wyN_c] at wB
    have hx : ∀ k : Nat, k < 2 ^ 30 → ¬ nI k = (-4 : Int32) := fun k hk q => by
      have h1 := congrArg Int32.toInt q
      rw [nI_toInt (by omega)] at h1
      have : (-4 : Int32).toInt = -4 := rfl
      omega
    have e1 := hx m (by have := hln m hmr; omega)
    have e2 := hx (wyN (V.rd r) V.w.length g d m) (by omega)
    have e3 : (nI (wyN (V.rd r) V.w.length g d m) = nI (dep (V.rd r) V.w.length g) + nI (dep (V.rd r) V.w.length d) - 2 * nI (dep (V.rd r) V.w.length m)) = True := eq_true (by
      rw [show (2 : Int32) = nI 2 from rfl, nI_mul, nI_add, pk_sub (by omega)]
      congr 1
      unfold wyN
      omega)
    have z := lw_pairL N ok hr hgr f qm qm2 M (wyN (V.rd r) V.w.length g d m) 1 fuel (by omega) (Nat.le_refl _) (by unfold fuel; omega)
    have z : lpL_isPair_321 Λ μ a (nI g) (nI d) (nI (wyN (V.rd r) V.w.length g d m)) fuel 1 1 = some 1 := z
    have b1 := q_belowY N ok hr hgr (hln _ hmr) M.1
    have b2 := q_belowY N ok hr f (hln _ hmr) M.2.1
    unfold sL_isPair
    by_cases c : nbr (V.rd r) g d = true
    · have eW : (nI (wyN (V.rd r) V.w.length g d m) = (1 : Int32)) = True := eq_true (by rw [(way_one hT ht hln M).mpr c]; rfl)
      simp only [bnd, z10, z01, ↓reduceIte, q1, q3, q4, q5, q7, Option.bind_some, qb1 N ok hr hgr, qb1 N ok hr f, qb2 N ok hr hgr, qb2 N ok hr f, qb2 N ok hr hmr, b1, b2, w0, wW, wO, wB, e1, e2, e3, q_ropeY N ok hr hgr hd c, eW]
      exact z
    · have eW : ¬ nI (wyN (V.rd r) V.w.length g d m) = (1 : Int32) := fun q => c ((way_one hT ht hln M).mp ((nI_eq (b := 1) (by omega) (by omega)).mp q))
      simp only [bnd, z10, z01, ↓reduceIte, q1, q3, q4, q5, q7, Option.bind_some, qb1 N ok hr hgr, qb1 N ok hr f, qb2 N ok hr hgr, qb2 N ok hr f, qb2 N ok hr hmr, b1, b2, w0, wW, wO, wB, e1, e2, e3, q_ropeN N ok hr hgr hd c, eW]
      exact z
  · obtain ⟨r', hr', hdr⟩ := ok_at ok hd
    have hrr : r ≠ r' := fun q => f (by rw [q]; exact hdr)
    have q1 := q_joined N ok hr hgr hd
    have q5 := q_joinedAgain N ok hr hgr hd
    have q7 := q_would N ok hr hgr hd
    rw [if_neg f] at q1 q5 q7
    have q3 := q_meetN N ok hr hgr hd f
    have q4 := q_wayN N ok hr hgr hd f (-1)
    have c : ¬ nbr (V.rd r) g d = true := fun q => f (prs_mem (of_decide_eq_true q)).2
    have e1 : ¬ nI r = nI r' := fun q => hrr ((nI_eq (by omega) (by omega)).mp q)
    unfold sL_isPair
    simp only [bnd, z10, z01, ↓reduceIte, q1, q3, q4, q5, q7, Option.bind_some, qb1 N ok hr hgr, qb1 N ok hr' hdr, e1, q_ropeN N ok hr hgr hd c]
    rw [gd_t (Or.inr rfl)]
end BP
