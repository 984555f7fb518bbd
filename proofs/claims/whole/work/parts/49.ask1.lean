/-! BOTH, WHOLE: questions. -/
theorem dep_mono {l : List Nat} {n x y : Nat} (hl : ∀ z ∈ l, z < n) (h : blw l x y = true) : dep l n y ≤ dep l n x := by
  by_cases e : x = y
  · rw [e]; exact Nat.le_refl _
  · exact Nat.le_of_lt (dep_strict hl h e)
section AS
variable {Λ Λ' : Lay} {μ μ' : Mem} {a b : Nat}
theorem sub_len (n : Nat) (hn : n < 2 ^ 31) : (nI n - 1).toInt = (n : Int) - 1 := by
  rcases Nat.eq_zero_or_pos n with q | q
  · rw [q]; rfl
  · obtain ⟨m, hm⟩ : ∃ m, n = m + 1 := ⟨n - 1, by omega⟩
    rw [hm, nI_pred, nI_toInt (by omega)]
    omega
/-- the two pictures of one river -/
theorem inv_pic (I : Inv Λ μ a Λ' μ' b) : ∃ V, RvV Λ μ (lyR Λ a 0) V ∧ NowV Λ' μ' (lyR Λ' b 0) V ∧ PicOK V := by
  obtain ⟨p, V, h, sv, r1, r2, r3, m3, ln, tx, C, M, hR⟩ := I
  exact ⟨V, C.1, M.1, C.2.1⟩
theorem tied_nbr {V : Pic} (N : RvV Λ μ (lyR Λ a 0) V) (ok : PicOK V) {g d r : Nat} (hr : r < 12) (hgr : g ∈ V.rd r) (hd : d < V.w.length) : sX1_isTied Λ μ (lyR Λ a 0) (nI g) (nI d) = some (if nbr (V.rd r) g d then 1 else 0) := by
  have hn := ok.1.1
  rw [rv_tied N.1 ok.1 (rv_ltn ok.1 hr hgr) (by omega)]
  have : (V.p.getD g 0).testBit d = nbr (V.rd r) g d := by
    have := rv_adj ok.1 hr hgr d
    unfold nbr
    by_cases q : (g, d) ∈ prs (V.rd r)
    · rw [this.mpr q, decide_eq_true q]
    · rw [decide_eq_false q]
      cases z : (V.p.getD g 0).testBit d with
      | false => rfl
      | true => exact absurd (this.mp z) q
  rw [this]
/-- questions of two banks: the shape that they share -/
theorem two_ask (I : Inv Λ μ a Λ' μ' b) (x y : Int32) (F G : Option Int32) (hq : ∀ V, RvV Λ μ (lyR Λ a 0) V → NowV Λ' μ' (lyR Λ' b 0) V → PicOK V → ∀ g d r k, g < V.w.length → d < V.w.length → g < 2 ^ 31 → d < 2 ^ 31 → r < 12 → g ∈ V.rd r → k < 12 → V.sl k = V.rd r → x = nI g → y = nI d → ∃ s, F = some s ∧ G = some s) : ∃ s, ((sX4_areThere Λ μ a x y).bind (fun q1 => if q1 = 0 then some (-1) else F)) = some s ∧ ((sX5_isBank Λ' μ' b x).bind (fun q1 => if q1 = 0 then some (-1) else (sX5_isBank Λ' μ' b y).bind (fun q3 => if q3 = 0 then some (-1) else G))) = some s := by
  obtain ⟨V, N, M, ok⟩ := inv_pic I
  have hn := ok.1.1
  have z1 : ¬ (1 : Int32) = 0 := by decide
  by_cases cx : bIn V.w.length x
  · have h2 : sX5_isBank Λ' μ' b x = some 1 := by rw [isBank_eq M hn, if_pos cx]
    by_cases cy : bIn V.w.length y
    · have h1 : sX4_areThere Λ μ a x y = some 1 := by rw [there_eq ok N, if_pos ⟨cx, cy⟩]
      have h3 : sX5_isBank Λ' μ' b y = some 1 := by rw [isBank_eq M hn, if_pos cy]
      obtain ⟨g, hg, hg31, eg⟩ := bIn_nat cx
      obtain ⟨d, hd, hd31, ed⟩ := bIn_nat cy
      obtain ⟨r, k, hr, hgr, hk, e⟩ := rel_at ok.1 ok.2 hg
      obtain ⟨s, s1, s2⟩ := hq V N M ok g d r k hg hd hg31 hd31 hr hgr hk e eg ed
      refine ⟨s, ?_, ?_⟩
      · rw [h1, Option.bind_some, if_neg z1, s1]
      · rw [h2, Option.bind_some, if_neg z1, h3, Option.bind_some, if_neg z1, s2]
    · have h1 : sX4_areThere Λ μ a x y = some 0 := by rw [there_eq ok N, if_neg (fun q => cy q.2)]
      have h3 : sX5_isBank Λ' μ' b y = some 0 := by rw [isBank_eq M hn, if_neg cy]
      refine ⟨-1, ?_, ?_⟩
      · rw [h1, Option.bind_some, if_pos rfl]
      · rw [h2, Option.bind_some, if_neg z1, h3, Option.bind_some, if_pos rfl]
  · have h1 : sX4_areThere Λ μ a x y = some 0 := by rw [there_eq ok N, if_neg (fun q => cx q.1)]
    have h2 : sX5_isBank Λ' μ' b x = some 0 := by rw [isBank_eq M hn, if_neg cx]
    refine ⟨-1, ?_, ?_⟩
    · rw [h1, Option.bind_some, if_pos rfl]
    · rw [h2, Option.bind_some, if_pos rfl]
theorem as_joined (I : Inv Λ μ a Λ' μ' b) (x y : Int32) : ∃ r, sX4_areJoined Λ μ a x y = some r ∧ sX5_areJoined Λ' μ' b x y = some r := by
  unfold sX4_areJoined sX5_areJoined
  refine two_ask I x y _ _ ?_
  intro V N M ok g d r k hg hd hg31 hd31 hr hgr hk e eg ed
  subst eg; subst ed
  have q1 : sX1_isOnePart Λ μ (lyR Λ a 0) (nI g) (nI d) = _ := rv_one N.1 ok.1 hr hgr hd31
  rw [q1, md_one M ok.sl hk (by rw [e]; exact hgr) hd, e]
  by_cases f : d ∈ V.rd r
  · rw [if_pos f]; exact ⟨1, rfl, rfl⟩
  · rw [if_neg f]; exact ⟨0, rfl, rfl⟩
theorem one_ask (I : Inv Λ μ a Λ' μ' b) (x : Int32) (F G : Option Int32) (hq : ∀ V, RvV Λ μ (lyR Λ a 0) V → NowV Λ' μ' (lyR Λ' b 0) V → PicOK V → ∀ g r k, g < V.w.length → g < 2 ^ 31 → r < 12 → g ∈ V.rd r → k < 12 → V.sl k = V.rd r → x = nI g → ∃ s, F = some s ∧ G = some s) : ∃ s, ((sX1_has Λ μ (lyR Λ a 0) x).bind (fun q1 => if q1 = 0 then some (-1) else F)) = some s ∧ ((sX5_isBank Λ' μ' b x).bind (fun q1 => if q1 = 0 then some (-1) else G)) = some s := by
  obtain ⟨V, N, M, ok⟩ := inv_pic I
  have hn := ok.1.1
  have z1 : ¬ (1 : Int32) = 0 := by decide
  by_cases cx : bIn V.w.length x
  · have h1 : sX1_has Λ μ (lyR Λ a 0) x = some 1 := by rw [has_eq N.1 ok.1, if_pos cx]
    have h2 : sX5_isBank Λ' μ' b x = some 1 := by rw [isBank_eq M hn, if_pos cx]
    obtain ⟨g, hg, hg31, eg⟩ := bIn_nat cx
    obtain ⟨r, k, hr, hgr, hk, e⟩ := rel_at ok.1 ok.2 hg
    obtain ⟨s, s1, s2⟩ := hq V N M ok g r k hg hg31 hr hgr hk e eg
    refine ⟨s, ?_, ?_⟩
    · rw [h1, Option.bind_some, if_neg z1, s1]
    · rw [h2, Option.bind_some, if_neg z1, s2]
  · have h1 : sX1_has Λ μ (lyR Λ a 0) x = some 0 := by rw [has_eq N.1 ok.1, if_neg cx]
    have h2 : sX5_isBank Λ' μ' b x = some 0 := by rw [isBank_eq M hn, if_neg cx]
    refine ⟨-1, ?_, ?_⟩
    · rw [h1, Option.bind_some, if_pos rfl]
    · rw [h2, Option.bind_some, if_pos rfl]
theorem as_joinedAgain (I : Inv Λ μ a Λ' μ' b) (x y : Int32) : ∃ r, sX4_areJoinedAgain Λ μ a x y = some r ∧ sX5_areJoinedAgain Λ' μ' b x y = some r := by
  unfold sX4_areJoinedAgain sX5_areJoinedAgain sX5_areJoined
  have := two_ask I x y ((sX1_reached Λ μ (lyR Λ a 0) x 0).bind (fun q3 => (sX4_bit Λ μ y).bind (fun q4 => if (q3 &&& q4) = 0 then some 0 else some 1))) ((sX5_areOne Λ' μ' b x y).bind (fun q5 => if q5 = 0 then some 0 else some 1)) (by
    intro V N M ok g d r k hg hd hg31 hd31 hr hgr hk e eg ed
    subst eg; subst ed
    have hn := ok.1.1
    have q1 : sX1_reached Λ μ (lyR Λ a 0) (nI g) (nI 0) = some (nI (msk (V.rd r))) := rv_reach N.1 ok.1 (rv_lt12 ok.1 hr g hgr) (by omega) (reach_all ok.1 hr hgr)
    have hs : msk (V.rd r) < 4096 := msk_lt (rv_lt12 ok.1 hr)
    have h2 := and_pow_ne (i := d) hs
    rw [msk_bit] at h2
    rw [show sX1_reached Λ μ (lyR Λ a 0) (nI g) 0 = some (nI (msk (V.rd r))) from q1, bit_spec (by omega), md_one M ok.sl hk (by rw [e]; exact hgr) hd, e]
    simp only [Option.bind_some]
    by_cases f : d ∈ V.rd r
    · rw [if_pos f]
      refine ⟨1, ?_, rfl⟩
      rw [if_neg (fun q => of_decide_eq_false (h2.mp q) f)]
    · rw [if_neg f]
      refine ⟨0, ?_, rfl⟩
      rw [if_pos (h2.mpr (decide_eq_false f))])
  obtain ⟨s, s1, s2⟩ := this
  exact ⟨s, s1, by rw [s2]; rfl⟩
theorem as_below (I : Inv Λ μ a Λ' μ' b) (x y : Int32) : ∃ r, sX4_isBelow Λ μ a x y = some r ∧ sX5_isBelow Λ' μ' b x y = some r := by
  unfold sX4_isBelow sX5_isBelow
  refine two_ask I x y _ _ ?_
  intro V N M ok g d r k hg hd hg31 hd31 hr hgr hk e eg ed
  subst eg; subst ed
  have hn := ok.1.1
  have q1 : sX1_aboveOf Λ μ (lyR Λ a 0) (nI g) = some (nI (aboveM (V.rd r) g)) := rv_above N.1 ok.1 hr hgr
  have h2 := and_pow_ne (i := d) (aboveM_lt (rv_lt12 ok.1 hr) g)
  rw [aboveM_bit hgr] at h2
  rw [q1, bit_spec (by omega), md_below M ok.sl hk (by rw [e]; exact hgr) hd, e]
  simp only [Option.bind_some]
  by_cases f : blw (V.rd r) g d = true
  · rw [if_pos f]
    refine ⟨1, ?_, rfl⟩
    rw [if_neg (fun q => by rw [h2.mp q] at f; cases f)]
  · rw [if_neg f]
    refine ⟨0, ?_, rfl⟩
    rw [if_pos (h2.mpr (by simpa using f))]
theorem as_rope (I : Inv Λ μ a Λ' μ' b) (x y : Int32) : ∃ r, sX4_isRope Λ μ a x y = some r ∧ sX5_isRope Λ' μ' b x y = some r := by
  unfold sX4_isRope sX5_isRope
  refine two_ask I x y _ _ ?_
  intro V N M ok g d r k hg hd hg31 hd31 hr hgr hk e eg ed
  subst eg; subst ed
  rw [tied_nbr N ok hr hgr hd, md_tied M ok.sl hk (by rw [e]; exact hgr) hd31, e]
  by_cases f : nbr (V.rd r) g d = true
  · rw [if_pos f]; exact ⟨1, rfl, rfl⟩
  · rw [if_neg f]; exact ⟨0, rfl, rfl⟩
theorem as_would (I : Inv Λ μ a Λ' μ' b) (x y : Int32) : ∃ r, sX4_would Λ μ a x y = some r ∧ sX5_would Λ' μ' b x y = some r := by
  unfold sX4_would sX5_would
  refine two_ask I x y _ _ ?_
  intro V N M ok g d r k hg hd hg31 hd31 hr hgr hk e eg ed
  subst eg; subst ed
  obtain ⟨hT, t, ht⟩ := rv_tour ok.1 hr hgr
  have hgs : g ∈ V.sl k := by rw [e]; exact hgr
  have q1 : sX1_isOnePart Λ μ (lyR Λ a 0) (nI g) (nI d) = some (if d ∈ V.rd r then 1 else 0) := rv_one N.1 ok.1 hr hgr hd31
  have q2 : sX1_rootOf Λ μ (lyR Λ a 0) (nI g) = some (nI r) := rv_root N.1 ok.1 hr hgr
  rw [q1, q2, md_one M ok.sl hk hgs hd, md_root M ok.sl hk hgs (e.trans ht), e]
  by_cases f : d ∈ V.rd r
  · rw [if_pos f]; exact ⟨-4, rfl, rfl⟩
  · rw [if_neg f]; exact ⟨nI r, rfl, rfl⟩
theorem as_ranked (I : Inv Λ μ a Λ' μ' b) (x : Int32) : ∃ r, sX4_ranked Λ μ a x = some r ∧ sX5_ranked Λ' μ' b x = some r := by
  obtain ⟨V, N, M, ok⟩ := inv_pic I
  unfold sX4_ranked
  have q1 : sX1_rootRanked Λ μ (lyR Λ a 0) x = some (rankF V.w V.rd x 0 12) := rv_ranked N.1 ok.1 x
  rw [q1, md_ranked M ok.1 ok.2, Option.bind_some, rank_eq ok.1 ok.2]
  exact ⟨_, rfl, rfl⟩
theorem as_middle (I : Inv Λ μ a Λ' μ' b) (x : Int32) : ∃ r, sX4_middle Λ μ a x = some r ∧ sX5_middle Λ' μ' b x = some r := by
  unfold sX4_middle sX5_middle
  refine one_ask I x _ _ ?_
  intro V N M ok g r k hg hg31 hr hgr hk e eg
  subst eg
  have hn := ok.1.1
  have q1 : sX1_middleWith Λ μ (lyR Λ a 0) (nI g) = _ := rv_mid N.1 ok.1 hr hgr
  rw [q1, Option.bind_some]
  have q2 := md_midL M ok.1 ok.2 hr hgr hk e fuel 0 none (by omega) (by unfold fuel; omega) (fun x h => by cases h)
  rw [Nat.sub_zero] at q2
  exact ⟨_, rfl, q2⟩
theorem as_belowAgain (I : Inv Λ μ a Λ' μ' b) (x : Int32) : ∃ r, sX4_belowAgain Λ μ a x = some r ∧ sX5_belowAgain Λ' μ' b x = some r := by
  unfold sX4_belowAgain sX5_belowAgain
  refine one_ask I x _ _ ?_
  intro V N M ok g r k hg hg31 hr hgr hk e eg
  subst eg
  have q1 : sX1_reachedBelow Λ μ (lyR Λ a 0) (nI g) = some (nI (belowM (V.rd r) g)) := rv_reachedB N.1 ok.1 hr hgr
  have q2 : sX1_weightOfAll Λ μ (lyR Λ a 0) (nI (belowM (V.rd r) g)) = some (nI (wsum V.w (belowM (V.rd r) g))) := rv_weights N.1 ok.1 (belowM_lt (rv_lt12 ok.1 hr) g)
  rw [q1, Option.bind_some, q2, Option.bind_some, md_sum M ok.sl hk (by rw [e]; exact hgr), Option.bind_some, e, wsum_below (rv_tour ok.1 hr hgr).1 hgr]
  exact ⟨_, rfl, rfl⟩
theorem as_inRound (I : Inv Λ μ a Λ' μ' b) (x y : Int32) : ∃ r, sX4_inRound Λ μ a x y = some r ∧ sX5_inRound Λ' μ' b x y = some r := by
  unfold sX4_inRound sX5_inRound
  refine one_ask I x _ _ ?_
  intro V N M ok g r k hg hg31 hr hgr hk e eg
  subst eg
  have hl := rv_lenK ok.1 hr
  have e0 : (0 : Int32).toInt = 0 := rfl
  have q1 : sX1_roundOf Λ μ (lyR Λ a 0) (nI g) = some (lyE Λ (lyR Λ (lyR Λ a 0) 2) r) := rv_round N.1 ok.1 hr hgr
  have H := N.1.2.2.2 r hr
  rw [q1, Option.bind_some, md_round M ok.sl hk (by rw [e]; exact hgr), Option.bind_some, md_size M hk, Option.bind_some, btw_eq, sub_len _ (by rw [e]; omega), e0, e, Option.bind_some]
  by_cases c : 0 ≤ y.toInt ∧ y.toInt ≤ ((V.rd r).length : Int) - 1
  · obtain ⟨i, hi, rfl, hi3⟩ := i32_nn c.1
    have hil : i < (V.rd r).length := by omega
    rw [if_pos c, if_neg (by decide), md_place M ok.sl hk (by rw [e]; exact hil), row_get H (by simpa using hil), Option.bind_some, Option.bind_some]
    refine ⟨_, rfl, ?_⟩
    rw [List.getElem_map]
    congr 2
    simp only [e]
  · rw [if_neg c, if_pos rfl, row_out H (by simp only [List.length_map]; omega)]
    exact ⟨_, rfl, rfl⟩
theorem as_well (I : Inv Λ μ a Λ' μ' b) : ∃ r, sX4_isWell Λ μ a = some r ∧ sX5_isWell Λ' μ' b = some r := by
  obtain ⟨V, N, M, ok⟩ := inv_pic I
  unfold sX4_isWell sX5_isWell
  have q1 : sX1_isSound Λ μ (lyR Λ a 0) = some 1 := rv_sound N.1 ok.1
  rw [q1]
  exact ⟨1, rfl, rfl⟩
theorem as_sign (PC : FrApart Λ a) (PM : MdApart Λ' b) (I : Inv Λ μ a Λ' μ' b) (x : Int32) : ∃ r, sX4_sign Λ μ a x = some r ∧ sX5_sign Λ' μ' b x = some r := by
  obtain ⟨p, V, h, sv, r1, r2, r3, m3, ln, tx, C, M, hR⟩ := I
  obtain ⟨m1, m2, m4, m5, m6, m7, m8, m9, m10, m11, m12, m13⟩ := M
  have H := C.2.2.2.2.2.2.2.2.2.2.1
  have e0 : (0 : Int32).toInt = 0 := rfl
  have hl : ln.length < 2 ^ 31 := row_lt H
  unfold sX4_sign sX5_sign
  rw [m10, btw_eq, sub_len _ hl, e0, Option.bind_some]
  by_cases c : 0 ≤ x.toInt ∧ x.toInt ≤ (ln.length : Int) - 1
  · obtain ⟨i, hi, rfl, hi3⟩ := i32_nn c.1
    have hil : i < ln.length := by omega
    have q1 : sX2_get Λ μ (lyR Λ a 3) (nI i) = some ln[i] := row_get H hil
    have hb := H.2.1
    rw [PC.2.2.2.2.2.2.2.2.2.2.1] at hb
    rw [if_pos c, if_neg (by decide), q1, PM.2.2.2.2.1, gd_t (nI_in (by omega) (by omega)), nI_clamp hi, m11 i hil]
    exact ⟨ln[i], rfl, rfl⟩
  · have q1 : sX2_get Λ μ (lyR Λ a 3) x = some (-1) := row_out H (by omega)
    rw [if_neg c, if_pos rfl, q1]
    exact ⟨_, rfl, rfl⟩
end AS
