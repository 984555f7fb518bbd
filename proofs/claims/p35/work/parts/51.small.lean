/-! THE LAW'S SMALL CHECKS hold of every picture. -/
theorem prs_idx : ∀ (l : List Nat) (i : Nat) (h : i + 1 < l.length), (prs l)[i]? = some (l[i], l[i + 1]) := by
  intro l
  induction l with
  | nil => intro i h; simp at h
  | cons x l ih =>
    intro i h
    cases l with
    | nil => simp at h
    | cons y l =>
      cases i with
      | zero => rfl
      | succ i => exact ih i (by simpa using h)
theorem prs_once {l : List Nat} (h : Tour l) {i j : Nat} (hi : i + 1 < l.length) (hj : j + 1 < l.length) (e1 : l[i] = l[j]) (e2 : l[i + 1] = l[j + 1]) : i = j := by
  have hp := prs_nodup l h
  have a1 := prs_idx l i hi
  have a2 := prs_idx l j hj
  rw [e1, e2] at a1
  obtain ⟨l1, g1⟩ := List.getElem?_eq_some_iff.mp a1
  obtain ⟨l2, g2⟩ := List.getElem?_eq_some_iff.mp a2
  rcases Nat.lt_trichotomy i j with c | c | c
  · exact absurd (g1.trans g2.symm) (List.pairwise_iff_getElem.mp hp i j l1 l2 c)
  · exact c
  · exact absurd (g2.trans g1.symm) (List.pairwise_iff_getElem.mp hp j i l2 l1 c)
theorem prs_at {l : List Nat} {i : Nat} (h : i + 1 < l.length) : (l[i], l[i + 1]) ∈ prs l := List.mem_of_getElem? (prs_idx l i h)
theorem z01 : ¬ (0 : Int32) = 1 := by decide
section SM
variable {Λ : Lay} {μ : Mem} {a : Nat} {V : Pic}
theorem q_belowY (N : RvV Λ μ (lyR Λ a 0) V) (ok : PicOK V) {g d r : Nat} (hr : r < 12) (hgr : g ∈ V.rd r) (hd : d < V.w.length) (h : blw (V.rd r) g d = true) : sX4_isBelow Λ μ a (nI g) (nI d) = some 1 := by rw [q_below N ok hr hgr hd, if_pos h]
theorem q_belowN (N : RvV Λ μ (lyR Λ a 0) V) (ok : PicOK V) {g d r : Nat} (hr : r < 12) (hgr : g ∈ V.rd r) (hd : d < V.w.length) (h : blw (V.rd r) g d = false) : sX4_isBelow Λ μ a (nI g) (nI d) = some 0 := by rw [q_below N ok hr hgr hd, if_neg (by rw [h]; decide)]
theorem q_ropeY (N : RvV Λ μ (lyR Λ a 0) V) (ok : PicOK V) {g d r : Nat} (hr : r < 12) (hgr : g ∈ V.rd r) (hd : d < V.w.length) (h : nbr (V.rd r) g d = true) : sX4_isRope Λ μ a (nI g) (nI d) = some 1 := by rw [q_rope N ok hr hgr hd, if_pos h]
theorem q_ropeN (N : RvV Λ μ (lyR Λ a 0) V) (ok : PicOK V) {g d r : Nat} (hr : r < 12) (hgr : g ∈ V.rd r) (hd : d < V.w.length) (h : ¬ nbr (V.rd r) g d = true) : sX4_isRope Λ μ a (nI g) (nI d) = some 0 := by rw [q_rope N ok hr hgr hd, if_neg h]
theorem lw_differ (N : RvV Λ μ (lyR Λ a 0) V) (ok : PicOK V) {g d r : Nat} (hr : r < 12) (hgr : g ∈ V.rd r) (hdr : d ∈ V.rd r) (f : nbr (V.rd r) g d = true) : sL_isDiffering Λ μ a (nI g) (nI d) = some 1 := by
  obtain ⟨hT, t, ht⟩ := rv_tour ok.1 hr hgr
  have hd := rv_ltn ok.1 hr hdr
  have b1 := wsum_lt ok.1 (msk (V.rd r))
  have b2 := wsum_lt ok.1 (belowM (V.rd r) (lowOf (V.rd r) g d))
  have hq := q_differ N ok hr hgr hdr f
  obtain ⟨-, z⟩ := low_blw hT ht hgr hdr f
  unfold sL_isDiffering
  rcases z with ⟨z1, z2, -⟩ | ⟨z1, z2, -⟩
  · rw [z2] at hq b2
    rw [q_belowY N ok hr hgr hd z1, Option.bind_some]
    simp only [bnd, z10, z01, ↓reduceIte]
    rw [hq, Option.bind_some, qp2 N ok hr hgr, Option.bind_some, qb8 N ok hr hgr, Option.bind_some, show (2 : Int32) = nI 2 from rfl, nI_mul, abs_nat (by omega) (by omega), if_pos rfl, gd_t (Or.inr rfl)]
  · rw [z2] at hq b2
    rw [q_belowN N ok hr hgr hd z1, Option.bind_some]
    simp only [bnd, z10, z01, ↓reduceIte]
    rw [hq, Option.bind_some, qp2 N ok hr hgr, Option.bind_some, qb8 N ok hr hdr, Option.bind_some, show (2 : Int32) = nI 2 from rfl, nI_mul, abs_nat (by omega) (by omega), if_pos rfl, gd_t (Or.inr rfl)]
theorem ahead_iff {w : List Nat} {rd : Nat → List Nat} {o r : Nat} : aheadB w rd o r = true ↔ wsum w (msk (rd r)) < wsum w (msk (rd o)) ∨ (wsum w (msk (rd o)) = wsum w (msk (rd r)) ∧ ((rd r).length < (rd o).length ∨ ((rd o).length = (rd r).length ∧ o < r))) := by
  unfold aheadB
  by_cases c1 : wsum w (msk (rd o)) = wsum w (msk (rd r))
  · rw [if_pos c1]
    by_cases c2 : (rd o).length = (rd r).length
    · rw [if_pos c2, decide_eq_true_eq]; omega
    · rw [if_neg c2, decide_eq_true_eq]; omega
  · rw [if_neg c1, decide_eq_true_eq]; omega
theorem len_odd (ok : PicOK V) {r : Nat} (hr : r < 12) (h : V.rd r ≠ []) : (V.rd r).length + 1 = 2 * popN (msk (V.rd r)) := by
  obtain ⟨hT, -⟩ := ok.1.2.2.2.2.1 r hr h
  have e := T_len 12 (V.rd r) hT (rv_lt12 ok.1 hr)
  have : popN (msk (V.rd r)) = cntTo 12 (fun k => decide (k ∈ V.rd r)) := cntTo_congr (fun k _ => msk_bit (V.rd r) k)
  omega
theorem lw_ahead (N : RvV Λ μ (lyR Λ a 0) V) (ok : PicOK V) {o r : Nat} (ho : o < 12) (hr : r < 12) (hno : V.rd o ≠ []) (hnr : V.rd r ≠ []) (A : aheadB V.w V.rd o r = true) : sL_isAhead Λ μ a (nI o) (nI r) = some 1 := by
  have hoo := rd_self ok.1 ho hno
  have hrr := rd_self ok.1 hr hnr
  have b1 := wsum_lt ok.1 (msk (V.rd o))
  have b2 := wsum_lt ok.1 (msk (V.rd r))
  have l1 := len_odd ok ho hno
  have l2 := len_odd ok hr hnr
  have k1 := rv_lenK ok.1 ho
  have k2 := rv_lenK ok.1 hr
  have s1 : (0 : Int32) < nI (wsum V.w (msk (V.rd o))) - nI (wsum V.w (msk (V.rd r))) ↔ _ := sub_pos (by omega) (by omega)
  have s2 : nI (wsum V.w (msk (V.rd o))) - nI (wsum V.w (msk (V.rd r))) = (0 : Int32) ↔ _ := sub_zero (by omega) (by omega)
  have s3 : (0 : Int32) < nI (popN (msk (V.rd o))) - nI (popN (msk (V.rd r))) ↔ _ := sub_pos (by omega) (by omega)
  have s4 : nI (popN (msk (V.rd o))) - nI (popN (msk (V.rd r))) = (0 : Int32) ↔ _ := sub_zero (by omega) (by omega)
  unfold sL_isAhead
  rw [qp2 N ok ho hoo, Option.bind_some, qp2 N ok hr hrr, Option.bind_some]
  simp only [bnd, z10, z01, ↓reduceIte]
  rw [qp0 N ok ho hoo, Option.bind_some, qp0 N ok hr hrr, Option.bind_some, gd_t (Or.inr rfl)]
  rcases ahead_iff.mp A with c | ⟨c, c2 | ⟨c2, c3⟩⟩
  · rw [if_pos (s1.mpr c)]
  · rw [if_neg (fun q => by have := s1.mp q; omega), if_pos (s2.mpr c), if_pos (s3.mpr (by omega))]
  · rw [if_neg (fun q => by have := s1.mp q; omega), if_pos (s2.mpr c), if_neg (fun q => by have := s3.mp q; omega), if_pos (s4.mpr (by omega)), if_neg (by rw [nI_leI (by omega) (by omega)]; omega)]
theorem lw_roundL (N : RvV Λ μ (lyR Λ a 0) V) (ok : PicOK V) {r : Nat} (hr : r < 12) (hne : V.rd r ≠ []) : ∀ m k n (f : Nat → Int32), k + m = (V.rd r).length → 1 ≤ k → m < n → (∀ x y, x < 12 → y < 12 → f (12 * x + y) ≠ 0 → ∃ i, ∃ h : i + 1 < (V.rd r).length, i + 1 < k ∧ (V.rd r)[i] = x ∧ (V.rd r)[i + 1] = y) → lpL_isRound_87 Λ μ a (nI r) (nI (V.rd r).length) (nI r) n 1 (nI k) f = some 1 := by
  obtain ⟨hT, -⟩ := ok.1.2.2.2.2.1 r hr hne
  have hrr := rd_self ok.1 hr hne
  have hL := rv_lenK ok.1 hr
  have hn := ok.1.1
  intro m
  induction m with
  | zero =>
    intro k n f hk h1 hn0 hf
    obtain ⟨n, rfl⟩ : ∃ n', n = n' + 1 := ⟨n - 1, by omega⟩
    rw [lpL_isRound_87_s]
    simp only [bnd, z10, z01, ↓reduceIte]
    rw [if_pos (by rw [nI_leI (by omega) (by omega)]; omega), gd_t (Or.inr rfl)]
  | succ m ih =>
    intro k n f hk h1 hn0 hf
    obtain ⟨n, rfl⟩ : ∃ n', n = n' + 1 := ⟨n - 1, by omega⟩
    obtain ⟨k, rfl⟩ : ∃ k', k = k' + 1 := ⟨k - 1, by omega⟩
    have hk1 : k + 1 < (V.rd r).length := by omega
    have hx : (V.rd r)[k] ∈ V.rd r := List.getElem_mem _
    have hy : (V.rd r)[k + 1] ∈ V.rd r := List.getElem_mem _
    have hx12 := rv_lt12 ok.1 hr _ hx
    have hy12 := rv_lt12 ok.1 hr _ hy
    have hxn := rv_ltn ok.1 hr hx
    have hyn := rv_ltn ok.1 hr hy
    have hp := prs_at hk1
    have hp2 := (prs_sym _ hT _ _ hp).1
    have q1 : sX4_inRound Λ μ a (nI r) (nI k) = some (nI (V.rd r)[k]) := qr_in N ok hr hrr (by omega)
    have q2 : sX4_inRound Λ μ a (nI r) (nI (k + 1)) = some (nI (V.rd r)[k + 1]) := qr_in N ok hr hrr hk1
    have q3 := q_ropeY N ok hr hx hyn (decide_eq_true hp)
    have q4 := q_ropeY N ok hr hy hxn (decide_eq_true hp2)
    have q5 := qb1 N ok hr hy
    have ei : (12 : Int32) * nI (V.rd r)[k] + nI (V.rd r)[k + 1] = nI (12 * (V.rd r)[k] + (V.rd r)[k + 1]) := by rw [show (12 : Int32) = nI 12 from rfl, nI_mul, nI_add]
    have hin : inb (nI (12 * (V.rd r)[k] + (V.rd r)[k + 1])) 144 := nI_in (by omega) (by omega)
    have hf0 : f (12 * (V.rd r)[k] + (V.rd r)[k + 1]) = 0 := by
      apply Classical.byContradiction
      intro q
      obtain ⟨i, hi, h2, h3, h4⟩ := hf _ _ hx12 hy12 q
      have := prs_once hT hi hk1 h3 h4
      omega
    have hf1 : f (nI (12 * (V.rd r)[k] + (V.rd r)[k + 1])).toNatClampNeg = 0 := by rw [nI_clamp (by omega)]; exact hf0
    rw [lpL_isRound_87_s]
    simp only [bnd, z10, z01, ↓reduceIte]
    rw [if_neg (by rw [nI_leI (by omega) (by omega)]; omega), nI_pred, q1, Option.bind_some, q2, Option.bind_some, q3, Option.bind_some, if_pos rfl, q4, Option.bind_some, if_pos rfl, ei, gd_t hin, if_pos hf1, q5, Option.bind_some, if_pos rfl, gd_t hin, show nI (k + 1) + (1 : Int32) = nI (k + 1 + 1) from nI_1 _]
    refine ih (k + 1 + 1) n _ (by omega) (by omega) (by omega) (fun x y hx0 hy0 h => ?_)
    rw [nI_clamp (by omega)] at h
    unfold upd at h
    by_cases c : 12 * x + y = 12 * (V.rd r)[k] + (V.rd r)[k + 1]
    · exact ⟨k, hk1, by omega, by omega, by omega⟩
    · rw [if_neg c] at h
      obtain ⟨i, hi, h2, h3, h4⟩ := hf x y hx0 hy0 h
      exact ⟨i, hi, by omega, h3, h4⟩
theorem lw_round (N : RvV Λ μ (lyR Λ a 0) V) (ok : PicOK V) {r : Nat} (hr : r < 12) (hne : V.rd r ≠ []) : sL_isRound Λ μ a (nI r) = some 1 := by
  obtain ⟨hT, t, ht⟩ := ok.1.2.2.2.2.1 r hr hne
  have hrr := rd_self ok.1 hr hne
  have hL := rv_lenK ok.1 hr
  have l1 := len_odd ok hr hne
  have hpos : 0 < (V.rd r).length := List.length_pos_iff.mpr hne
  obtain ⟨t2, e2⟩ := T_last (ht ▸ hT : Tour (r :: t))
  have e3 : V.rd r = t2 ++ [r] := ht.trans e2
  have g0 : (V.rd r)[0]'hpos = r := by simp [ht]
  have gL : (V.rd r)[(V.rd r).length - 1]'(by omega) = r := by
    have : ∀ (l : List Nat) (h : l.length - 1 < l.length), l = t2 ++ [r] → l[l.length - 1] = r := fun l h e => by subst e; simp
    exact this _ _ e3
  unfold sL_isRound
  rw [qp1 N ok hr hrr, Option.bind_some, qb1 N ok hr hrr, Option.bind_some, qp0 N ok hr hrr, Option.bind_some]
  simp only [bnd, z10, z01, ↓reduceIte]
  have i0 : sX4_inRound Λ μ a (nI r) (0 : Int32) = some (nI r) := by
    have := qr_in N ok hr hrr hpos
    rw [g0] at this
    exact this
  have i1 : sX4_inRound Λ μ a (nI r) (nI (V.rd r).length - 1) = some (nI r) := by
    have := qr_in N ok hr hrr (j := (V.rd r).length - 1) (by omega)
    rw [gL] at this
    rw [show nI (V.rd r).length - (1 : Int32) = nI ((V.rd r).length - 1) from pk_sub (b := 1) hpos]
    exact this
  have i2 : sX4_inRound Λ μ a (nI r) (nI (V.rd r).length) = some (-1) := qr_out N ok hr hrr (Or.inr (by rw [nI_toInt (by omega)]; omega))
  have i3 : sX4_inRound Λ μ a (nI r) (-1 : Int32) = some (-1) := qr_out N ok hr hrr (Or.inl (by decide))
  rw [if_pos (by rw [show (2 : Int32) = nI 2 from rfl, nI_mul, show (1 : Int32) = nI 1 from rfl, sub_nat (by omega)]; congr 1; omega), i0, Option.bind_some, if_pos rfl, i1, Option.bind_some, if_pos rfl, i2, Option.bind_some, if_pos rfl, i3, Option.bind_some, if_pos rfl]
  exact lw_roundL N ok hr hne ((V.rd r).length - 1) 1 fuel _ (by omega) (Nat.le_refl _) (by unfold fuel; omega) (fun x y _ _ h => absurd rfl h)
end SM
