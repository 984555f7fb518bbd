/-! WHAT THE CLASS ANSWERS, told of its picture. -/
theorem dep_mono {l : List Nat} {n x y : Nat} (hl : ∀ z ∈ l, z < n) (h : blw l x y = true) : dep l n y ≤ dep l n x := by
  by_cases e : x = y
  · rw [e]; exact Nat.le_refl _
  · exact Nat.le_of_lt (dep_strict hl h e)
/-- two banks of a tour meet -/
theorem meet_ex {l t : List Nat} {r n b c : Nat} (h : Tour l) (er : l = r :: t) (hl : ∀ z ∈ l, z < n) (hb : b ∈ l) (hc : c ∈ l) : ∃ m, itr (deepS (fun k => (aboveM l b &&& aboveM l c).testBit k) (dep l n)) 0 n none = some m ∧ Meets l b c m := by
  have hP : ∀ k, (aboveM l b &&& aboveM l c).testBit k = true ↔ blw l b k = true ∧ blw l c k = true := fun k => by
    rw [Nat.testBit_and, aboveM_bit hb, aboveM_bit hc, Bool.and_eq_true]
  obtain ⟨d1, d2⟩ := deep_spec (fun k => (aboveM l b &&& aboveM l c).testBit k) (dep l n) n 0 none (fun j hj => by cases hj) (fun _ i hi => absurd hi (Nat.not_lt_zero _))
  rw [Nat.zero_add] at d1 d2
  have hr : r ∈ l := by rw [er]; simp
  have br : ∀ k, k ∈ l → blw l k r = true := fun k hk => by rw [blw_root er h]; exact decide_eq_true hk
  cases e : itr (deepS (fun k => (aboveM l b &&& aboveM l c).testBit k) (dep l n)) 0 n none with
  | none =>
    have := d2 e r (hl r hr)
    have h2 := (hP r).mpr ⟨br b hb, br c hc⟩
    rw [h2] at this
    cases this
  | some m =>
    obtain ⟨k1, k2⟩ := d1 m e
    obtain ⟨m1, m2⟩ := (hP m).mp k1
    refine ⟨m, rfl, m1, m2, fun k h1 h2 => ?_⟩
    rcases blw_chain h m1 h1 with q | q
    · exact q
    · by_cases ekm : k = m
      · rw [ekm]; exact blw_rf (blw_mem m1).2
      · have := dep_strict hl q ekm
        have := k2 k (hl k (blw_mem h1).2) ((hP k).mpr ⟨h1, h2⟩)
        omega
theorem sub_nat {a b : Nat} (h : b ≤ a) : nI a - nI b = nI (a - b) := pk_sub h
section AS
variable {Λ : Lay} {μ : Mem} {a : Nat} {V : Pic}
theorem bIn_n {n g : Nat} (h : g < n) (hn : n ≤ 12) : bIn n (nI g) := ⟨by rw [nI_toInt (by omega)]; omega, by rw [nI_toInt (by omega)]; omega⟩
theorem has_1 (N : RvV Λ μ (lyR Λ a 0) V) (ok : PicOK V) {g : Nat} (hg : g < V.w.length) : sX1_has Λ μ (lyR Λ a 0) (nI g) = some 1 := by rw [has_eq N.1 ok.1, if_pos (bIn_n hg ok.1.1)]
theorem there_1 (N : RvV Λ μ (lyR Λ a 0) V) (ok : PicOK V) {g d : Nat} (hg : g < V.w.length) (hd : d < V.w.length) : sX4_areThere Λ μ a (nI g) (nI d) = some 1 := by rw [there_eq ok N, if_pos ⟨bIn_n hg ok.1.1, bIn_n hd ok.1.1⟩]
theorem z10 : ¬ (1 : Int32) = 0 := by decide
theorem qb0 (N : RvV Λ μ (lyR Λ a 0) V) (ok : PicOK V) {g r : Nat} (hr : r < 12) (hgr : g ∈ V.rd r) : sX4_bankOf Λ μ a (nI g) (0 : Int32) = some (nI (wt V.w g)) := by
  have hg := rv_ltn ok.1 hr hgr
  have hn := ok.1.1
  unfold sX4_bankOf
  rw [has_1 N ok hg, Option.bind_some, if_neg z10, if_pos rfl]
  have q : sX1_weightOf Λ μ (lyR Λ a 0) (nI g) = some (nI (wt V.w g)) := rv_weight N.1 hg
  rw [q]; rfl
theorem qb1 (N : RvV Λ μ (lyR Λ a 0) V) (ok : PicOK V) {g r : Nat} (hr : r < 12) (hgr : g ∈ V.rd r) : sX4_bankOf Λ μ a (nI g) (1 : Int32) = some (nI r) := by
  have hg := rv_ltn ok.1 hr hgr
  have hn := ok.1.1
  unfold sX4_bankOf
  rw [has_1 N ok hg, Option.bind_some, if_neg z10, if_neg (by decide), if_pos rfl]
  have q : sX1_rootOf Λ μ (lyR Λ a 0) (nI g) = some (nI r) := rv_root N.1 ok.1 hr hgr
  rw [q]; rfl
theorem qb2 (N : RvV Λ μ (lyR Λ a 0) V) (ok : PicOK V) {g r : Nat} (hr : r < 12) (hgr : g ∈ V.rd r) : sX4_bankOf Λ μ a (nI g) (2 : Int32) = some (nI (dep (V.rd r) V.w.length g)) := by
  have hg := rv_ltn ok.1 hr hgr
  have hn := ok.1.1
  unfold sX4_bankOf
  rw [has_1 N ok hg, Option.bind_some, if_neg z10, if_neg (by decide), if_neg (by decide), if_pos rfl]
  have q : sX1_depthOf Λ μ (lyR Λ a 0) (nI g) = some (nI (dep (V.rd r) V.w.length g)) := rv_depth N.1 ok.1 hr hgr
  rw [q]; rfl
theorem qb3 (N : RvV Λ μ (lyR Λ a 0) V) (ok : PicOK V) {g r : Nat} (hr : r < 12) (hgr : g ∈ V.rd r) : sX4_bankOf Λ μ a (nI g) (3 : Int32) = some (nI (fi (V.rd r) g)) := by
  have hg := rv_ltn ok.1 hr hgr
  have hn := ok.1.1
  unfold sX4_bankOf
  rw [has_1 N ok hg, Option.bind_some, if_neg z10, if_neg (by decide), if_neg (by decide), if_neg (by decide), if_pos rfl]
  have q3 : sX1_roundOf Λ μ (lyR Λ a 0) (nI g) = some (lyE Λ (lyR Λ (lyR Λ a 0) 2) r) := rv_round N.1 ok.1 hr hgr
  have q4 : sX2_firstOf Λ μ (lyE Λ (lyR Λ (lyR Λ a 0) 2) r) (nI g) = some (nI (fi (V.rd r) g)) := by
    have := rv_firstK N.1 ok.1 hr (b := g) (by omega)
    rw [if_pos hgr] at this
    exact this
  rw [q3, Option.bind_some, q4]; rfl
theorem qb4 (N : RvV Λ μ (lyR Λ a 0) V) (ok : PicOK V) {g r : Nat} (hr : r < 12) (hgr : g ∈ V.rd r) : sX4_bankOf Λ μ a (nI g) (4 : Int32) = some (nI (li (V.rd r) g)) := by
  have hg := rv_ltn ok.1 hr hgr
  have hn := ok.1.1
  unfold sX4_bankOf
  rw [has_1 N ok hg, Option.bind_some, if_neg z10, if_neg (by decide), if_neg (by decide), if_neg (by decide), if_neg (by decide), if_pos rfl]
  have q3 : sX1_roundOf Λ μ (lyR Λ a 0) (nI g) = some (lyE Λ (lyR Λ (lyR Λ a 0) 2) r) := rv_round N.1 ok.1 hr hgr
  have q4 : sX2_lastOf Λ μ (lyE Λ (lyR Λ (lyR Λ a 0) 2) r) (nI g) = some (nI (li (V.rd r) g)) := by
    have := rv_lastK N.1 ok.1 hr (b := g) (by omega)
    rw [if_pos hgr] at this
    exact this
  rw [q3, Option.bind_some, q4]; rfl
theorem qb5 (N : RvV Λ μ (lyR Λ a 0) V) (ok : PicOK V) {g r : Nat} (hr : r < 12) (hgr : g ∈ V.rd r) : sX4_bankOf Λ μ a (nI g) (5 : Int32) = some (nI (popN (V.p.getD g 0))) := by
  have hg := rv_ltn ok.1 hr hgr
  have hn := ok.1.1
  unfold sX4_bankOf
  rw [has_1 N ok hg, Option.bind_some, if_neg z10, if_neg (by decide), if_neg (by decide), if_neg (by decide), if_neg (by decide), if_neg (by decide), if_pos rfl]
  have q : sX1_ropesOf Λ μ (lyR Λ a 0) (nI g) = some (nI (V.p.getD g 0)) := rv_ropesOf N.1 ok.1 hg
  rw [q, Option.bind_some, bitc_spec (pD_lt ok.1 g)]; rfl
theorem qb6 (N : RvV Λ μ (lyR Λ a 0) V) (ok : PicOK V) {g r : Nat} (hr : r < 12) (hgr : g ∈ V.rd r) : sX4_bankOf Λ μ a (nI g) (6 : Int32) = some (if fi (V.rd r) g = 0 then -4 else nI (par (V.rd r) g)) := by
  have hg := rv_ltn ok.1 hr hgr
  have hn := ok.1.1
  unfold sX4_bankOf
  rw [has_1 N ok hg, Option.bind_some, if_neg z10, if_neg (by decide), if_neg (by decide), if_neg (by decide), if_neg (by decide), if_neg (by decide), if_neg (by decide), if_pos rfl]
  have q : sX1_justAbove Λ μ (lyR Λ a 0) (nI g) = _ := rv_just N.1 ok.1 hr hgr
  rw [q]; rfl
theorem qb7 (N : RvV Λ μ (lyR Λ a 0) V) (ok : PicOK V) {g r : Nat} (hr : r < 12) (hgr : g ∈ V.rd r) : sX4_bankOf Λ μ a (nI g) (7 : Int32) = some (nI (popN (belowM (V.rd r) g))) := by
  have hg := rv_ltn ok.1 hr hgr
  have hn := ok.1.1
  unfold sX4_bankOf
  rw [has_1 N ok hg, Option.bind_some, if_neg z10, if_neg (by decide), if_neg (by decide), if_neg (by decide), if_neg (by decide), if_neg (by decide), if_neg (by decide), if_neg (by decide), if_pos rfl]
  have hbl := belowM_lt (rv_lt12 ok.1 hr) g
  have q8 : sX1_belowOf Λ μ (lyR Λ a 0) (nI g) = some (nI (belowM (V.rd r) g)) := rv_below N.1 ok.1 hr hgr
  rw [q8, Option.bind_some, bitc_spec hbl]; rfl
theorem qb8 (N : RvV Λ μ (lyR Λ a 0) V) (ok : PicOK V) {g r : Nat} (hr : r < 12) (hgr : g ∈ V.rd r) : sX4_bankOf Λ μ a (nI g) (8 : Int32) = some (nI (wsum V.w (belowM (V.rd r) g))) := by
  have hg := rv_ltn ok.1 hr hgr
  have hn := ok.1.1
  unfold sX4_bankOf
  rw [has_1 N ok hg, Option.bind_some, if_neg z10, if_neg (by decide), if_neg (by decide), if_neg (by decide), if_neg (by decide), if_neg (by decide), if_neg (by decide), if_neg (by decide), if_neg (by decide), if_pos rfl]
  have hbl := belowM_lt (rv_lt12 ok.1 hr) g
  have q8 : sX1_belowOf Λ μ (lyR Λ a 0) (nI g) = some (nI (belowM (V.rd r) g)) := rv_below N.1 ok.1 hr hgr
  have q9 : sX1_weightOfAll Λ μ (lyR Λ a 0) (nI (belowM (V.rd r) g)) = some (nI (wsum V.w (belowM (V.rd r) g))) := rv_weights N.1 ok.1 hbl
  rw [q8, Option.bind_some, q9]; rfl
theorem qp0 (N : RvV Λ μ (lyR Λ a 0) V) (ok : PicOK V) {g r : Nat} (hr : r < 12) (hgr : g ∈ V.rd r) : sX4_partOf Λ μ a (nI g) (0 : Int32) = some (nI (popN (msk (V.rd r)))) := by
  have hg := rv_ltn ok.1 hr hgr
  have hs : msk (V.rd r) < 4096 := msk_lt (rv_lt12 ok.1 hr)
  have q : sX1_banksWith Λ μ (lyR Λ a 0) (nI g) = some (nI (msk (V.rd r))) := rv_all N.1 ok.1 hr hgr
  unfold sX4_partOf
  rw [has_1 N ok hg, Option.bind_some, if_neg z10, if_pos rfl]
  rw [q, Option.bind_some, bitc_spec hs]; rfl
theorem qp1 (N : RvV Λ μ (lyR Λ a 0) V) (ok : PicOK V) {g r : Nat} (hr : r < 12) (hgr : g ∈ V.rd r) : sX4_partOf Λ μ a (nI g) (1 : Int32) = some (nI (V.rd r).length) := by
  have hg := rv_ltn ok.1 hr hgr
  have hs : msk (V.rd r) < 4096 := msk_lt (rv_lt12 ok.1 hr)
  have q : sX1_banksWith Λ μ (lyR Λ a 0) (nI g) = some (nI (msk (V.rd r))) := rv_all N.1 ok.1 hr hgr
  unfold sX4_partOf
  rw [has_1 N ok hg, Option.bind_some, if_neg z10, if_neg (by decide), if_pos rfl]
  have q3 : sX1_roundOf Λ μ (lyR Λ a 0) (nI g) = some (lyE Λ (lyR Λ (lyR Λ a 0) 2) r) := rv_round N.1 ok.1 hr hgr
  rw [q3, Option.bind_some, row_len (N.1.2.2.2 r hr), List.length_map]; rfl
theorem qp2 (N : RvV Λ μ (lyR Λ a 0) V) (ok : PicOK V) {g r : Nat} (hr : r < 12) (hgr : g ∈ V.rd r) : sX4_partOf Λ μ a (nI g) (2 : Int32) = some (nI (wsum V.w (msk (V.rd r)))) := by
  have hg := rv_ltn ok.1 hr hgr
  have hs : msk (V.rd r) < 4096 := msk_lt (rv_lt12 ok.1 hr)
  have q : sX1_banksWith Λ μ (lyR Λ a 0) (nI g) = some (nI (msk (V.rd r))) := rv_all N.1 ok.1 hr hgr
  unfold sX4_partOf
  rw [has_1 N ok hg, Option.bind_some, if_neg z10, if_neg (by decide), if_neg (by decide), if_pos rfl]
  have q9 : sX1_weightOfAll Λ μ (lyR Λ a 0) (nI (msk (V.rd r))) = some (nI (wsum V.w (msk (V.rd r)))) := rv_weights N.1 ok.1 hs
  rw [q, Option.bind_some, q9]; rfl
theorem qp4 (N : RvV Λ μ (lyR Λ a 0) V) (ok : PicOK V) {g r : Nat} (hr : r < 12) (hgr : g ∈ V.rd r) : sX4_partOf Λ μ a (nI g) (4 : Int32) = some (nI (hvy V.w (V.rd r))) := by
  have hg := rv_ltn ok.1 hr hgr
  have hs : msk (V.rd r) < 4096 := msk_lt (rv_lt12 ok.1 hr)
  have q : sX1_banksWith Λ μ (lyR Λ a 0) (nI g) = some (nI (msk (V.rd r))) := rv_all N.1 ok.1 hr hgr
  unfold sX4_partOf
  rw [has_1 N ok hg, Option.bind_some, if_neg z10, if_neg (by decide), if_neg (by decide), if_neg (by decide), if_neg (by decide), if_pos rfl]
  have q9 : sX1_heaviestWith Λ μ (lyR Λ a 0) (nI g) = some (nI (hvy V.w (V.rd r))) := rv_heavy N.1 ok.1 hr hgr
  rw [q9]; rfl
theorem qp_no (N : RvV Λ μ (lyR Λ a 0) V) (ok : PicOK V) {x y : Int32} (h : ¬ bIn V.w.length x) : sX4_partOf Λ μ a x y = some (-1) := by
  unfold sX4_partOf
  rw [has_eq N.1 ok.1, if_neg h, Option.bind_some, if_pos rfl]
theorem qb_no (N : RvV Λ μ (lyR Λ a 0) V) (ok : PicOK V) {x y : Int32} (h : ¬ bIn V.w.length x) : sX4_bankOf Λ μ a x y = some (-1) := by
  unfold sX4_bankOf
  rw [has_eq N.1 ok.1, if_neg h, Option.bind_some, if_pos rfl]
theorem qr_in (N : RvV Λ μ (lyR Λ a 0) V) (ok : PicOK V) {g r : Nat} (hr : r < 12) (hgr : g ∈ V.rd r) {j : Nat} (hj : j < (V.rd r).length) : sX4_inRound Λ μ a (nI g) (nI j) = some (nI (V.rd r)[j]) := by
  have hg := rv_ltn ok.1 hr hgr
  unfold sX4_inRound
  have q3 : sX1_roundOf Λ μ (lyR Λ a 0) (nI g) = some (lyE Λ (lyR Λ (lyR Λ a 0) 2) r) := rv_round N.1 ok.1 hr hgr
  rw [has_1 N ok hg, Option.bind_some, if_neg z10, q3, Option.bind_some, row_get (N.1.2.2.2 r hr) (by simpa using hj)]
  simp
theorem qr_out (N : RvV Λ μ (lyR Λ a 0) V) (ok : PicOK V) {g r : Nat} (hr : r < 12) (hgr : g ∈ V.rd r) {x : Int32} (hx : x.toInt < 0 ∨ ((V.rd r).length : Int) ≤ x.toInt) : sX4_inRound Λ μ a (nI g) x = some (-1) := by
  have hg := rv_ltn ok.1 hr hgr
  unfold sX4_inRound
  have q3 : sX1_roundOf Λ μ (lyR Λ a 0) (nI g) = some (lyE Λ (lyR Λ (lyR Λ a 0) 2) r) := rv_round N.1 ok.1 hr hgr
  rw [has_1 N ok hg, Option.bind_some, if_neg z10, q3, Option.bind_some, row_out (N.1.2.2.2 r hr) (by simpa using hx)]
  rfl
theorem q_rope (N : RvV Λ μ (lyR Λ a 0) V) (ok : PicOK V) {g r : Nat} (hr : r < 12) (hgr : g ∈ V.rd r) {d : Nat} (hd : d < V.w.length) : sX4_isRope Λ μ a (nI g) (nI d) = some (if nbr (V.rd r) g d then 1 else 0) := by
  have hg := rv_ltn ok.1 hr hgr
  unfold sX4_isRope
  rw [there_1 N ok hg hd, Option.bind_some, if_neg z10, tied_nbr N ok hr hgr hd, Option.bind_some]
  by_cases f : nbr (V.rd r) g d = true
  · rw [if_pos f]; rfl
  · rw [if_neg f]; rfl
theorem q_below (N : RvV Λ μ (lyR Λ a 0) V) (ok : PicOK V) {g r : Nat} (hr : r < 12) (hgr : g ∈ V.rd r) {d : Nat} (hd : d < V.w.length) : sX4_isBelow Λ μ a (nI g) (nI d) = some (if blw (V.rd r) g d then 1 else 0) := by
  have hg := rv_ltn ok.1 hr hgr
  have hn := ok.1.1
  unfold sX4_isBelow
  have q1 : sX1_aboveOf Λ μ (lyR Λ a 0) (nI g) = some (nI (aboveM (V.rd r) g)) := rv_above N.1 ok.1 hr hgr
  have h2 := and_pow_ne (i := d) (aboveM_lt (rv_lt12 ok.1 hr) g)
  rw [aboveM_bit hgr] at h2
  rw [there_1 N ok hg hd, Option.bind_some, if_neg z10, q1, bit_spec (by omega)]
  simp only [Option.bind_some]
  by_cases f : blw (V.rd r) g d = true
  · rw [if_pos f, if_neg (fun q => by rw [h2.mp q] at f; cases f)]
  · rw [if_neg f, if_pos (h2.mpr (by simpa using f))]
theorem q_joined (N : RvV Λ μ (lyR Λ a 0) V) (ok : PicOK V) {g r : Nat} (hr : r < 12) (hgr : g ∈ V.rd r) {d : Nat} (hd : d < V.w.length) : sX4_areJoined Λ μ a (nI g) (nI d) = some (if d ∈ V.rd r then 1 else 0) := by
  have hg := rv_ltn ok.1 hr hgr
  have hn := ok.1.1
  unfold sX4_areJoined
  have q1 : sX1_isOnePart Λ μ (lyR Λ a 0) (nI g) (nI d) = some (if d ∈ V.rd r then 1 else 0) := rv_one N.1 ok.1 hr hgr (by omega)
  rw [there_1 N ok hg hd, Option.bind_some, if_neg z10, q1, Option.bind_some]
  by_cases f : d ∈ V.rd r
  · rw [if_pos f, if_neg z10]
  · rw [if_neg f, if_pos rfl]
theorem q_joinedAgain (N : RvV Λ μ (lyR Λ a 0) V) (ok : PicOK V) {g r : Nat} (hr : r < 12) (hgr : g ∈ V.rd r) {d : Nat} (hd : d < V.w.length) : sX4_areJoinedAgain Λ μ a (nI g) (nI d) = some (if d ∈ V.rd r then 1 else 0) := by
  have hg := rv_ltn ok.1 hr hgr
  have hn := ok.1.1
  unfold sX4_areJoinedAgain
  have q1 : sX1_reached Λ μ (lyR Λ a 0) (nI g) (nI 0) = some (nI (msk (V.rd r))) := rv_reach N.1 ok.1 (rv_lt12 ok.1 hr g hgr) (by omega) (reach_all ok.1 hr hgr)
  have hs : msk (V.rd r) < 4096 := msk_lt (rv_lt12 ok.1 hr)
  have h2 := and_pow_ne (i := d) hs
  rw [msk_bit] at h2
  rw [there_1 N ok hg hd, Option.bind_some, if_neg z10, show sX1_reached Λ μ (lyR Λ a 0) (nI g) 0 = some (nI (msk (V.rd r))) from q1, bit_spec (by omega)]
  simp only [Option.bind_some]
  by_cases f : d ∈ V.rd r
  · rw [if_pos f, if_neg (fun q => of_decide_eq_false (h2.mp q) f)]
  · rw [if_neg f, if_pos (h2.mpr (decide_eq_false f))]
theorem q_would (N : RvV Λ μ (lyR Λ a 0) V) (ok : PicOK V) {g r : Nat} (hr : r < 12) (hgr : g ∈ V.rd r) {d : Nat} (hd : d < V.w.length) : sX4_would Λ μ a (nI g) (nI d) = some (if d ∈ V.rd r then -4 else nI r) := by
  have hg := rv_ltn ok.1 hr hgr
  have hn := ok.1.1
  unfold sX4_would
  have q1 : sX1_isOnePart Λ μ (lyR Λ a 0) (nI g) (nI d) = some (if d ∈ V.rd r then 1 else 0) := rv_one N.1 ok.1 hr hgr (by omega)
  have q2 : sX1_rootOf Λ μ (lyR Λ a 0) (nI g) = some (nI r) := rv_root N.1 ok.1 hr hgr
  rw [there_1 N ok hg hd, Option.bind_some, if_neg z10, q1, q2, Option.bind_some]
  by_cases f : d ∈ V.rd r
  · rw [if_pos f, if_pos f]; rfl
  · rw [if_neg f, if_neg f]; rfl
theorem q_middle (N : RvV Λ μ (lyR Λ a 0) V) (ok : PicOK V) {g r : Nat} (hr : r < 12) (hgr : g ∈ V.rd r) : ∃ m, sX4_middle Λ μ a (nI g) = some (nI m) ∧ m ∈ V.rd r := by
  have hg := rv_ltn ok.1 hr hgr
  unfold sX4_middle
  have q1 : sX1_middleWith Λ μ (lyR Λ a 0) (nI g) = _ := rv_mid N.1 ok.1 hr hgr
  rw [has_1 N ok hg, Option.bind_some, if_neg z10, q1, Option.bind_some]
  have key : ∀ n k (m : Option Nat), (∀ j, m = some j → j ∈ V.rd r) → (m ≠ none ∨ (k ≤ g ∧ g < k + n)) → ∃ j, itr (midS (V.rd r) (heavyLeft V.w V.p (V.rd r))) k n m = some j ∧ j ∈ V.rd r := by
    intro n
    induction n with
    | zero =>
      intro k m h1 h2
      rcases h2 with h2 | h2
      · cases m with
        | none => exact absurd rfl h2
        | some j => exact ⟨j, rfl, h1 j rfl⟩
      · omega
    | succ n ih =>
      intro k m h1 h2
      rw [itr]
      refine ih (k + 1) _ (fun j hj => ?_) ?_
      · unfold midS at hj
        by_cases c : k ∈ V.rd r
        · rw [if_pos c] at hj
          cases m with
          | none =>
            cases hj
            exact c
          | some i =>
            dsimp only at hj
            by_cases c2 : heavyLeft V.w V.p (V.rd r) k < heavyLeft V.w V.p (V.rd r) i
            · rw [if_pos c2] at hj
              cases hj
              exact c
            · rw [if_neg c2] at hj
              exact h1 j hj
        · rw [if_neg c] at hj
          exact h1 j hj
      · by_cases c : k ∈ V.rd r
        · refine Or.inl (fun q => ?_)
          unfold midS at q
          rw [if_pos c] at q
          cases m with
          | none => cases q
          | some i =>
            dsimp only at q
            by_cases c2 : heavyLeft V.w V.p (V.rd r) k < heavyLeft V.w V.p (V.rd r) i
            · rw [if_pos c2] at q; cases q
            · rw [if_neg c2] at q; cases q
        · rcases h2 with h2 | h2
          · refine Or.inl ?_
            unfold midS
            rw [if_neg c]
            exact h2
          · have : k ≠ g := fun q => c (q ▸ hgr)
            exact Or.inr (by omega)
  obtain ⟨j, e, hj⟩ := key V.w.length 0 none (fun j hj => by cases hj) (Or.inr ⟨Nat.zero_le _, by omega⟩)
  refine ⟨j, ?_, hj⟩
  rw [e]
  rfl
theorem q_belowAgain (N : RvV Λ μ (lyR Λ a 0) V) (ok : PicOK V) {g r : Nat} (hr : r < 12) (hgr : g ∈ V.rd r) : sX4_belowAgain Λ μ a (nI g) = some (nI (wsum V.w (belowM (V.rd r) g))) := by
  have hg := rv_ltn ok.1 hr hgr
  unfold sX4_belowAgain
  have q1 : sX1_reachedBelow Λ μ (lyR Λ a 0) (nI g) = some (nI (belowM (V.rd r) g)) := rv_reachedB N.1 ok.1 hr hgr
  have q2 : sX1_weightOfAll Λ μ (lyR Λ a 0) (nI (belowM (V.rd r) g)) = some (nI (wsum V.w (belowM (V.rd r) g))) := rv_weights N.1 ok.1 (belowM_lt (rv_lt12 ok.1 hr) g)
  rw [has_1 N ok hg, Option.bind_some, if_neg z10, q1, Option.bind_some, q2]; rfl
theorem q_ranked (N : RvV Λ μ (lyR Λ a 0) V) (ok : PicOK V) (x : Int32) : sX4_ranked Λ μ a x = some (rankF V.w V.rd x 0 12) := by
  unfold sX4_ranked
  have q1 : sX1_rootRanked Λ μ (lyR Λ a 0) x = some (rankF V.w V.rd x 0 12) := rv_ranked N.1 ok.1 x
  rw [q1]; rfl
theorem q_well (N : RvV Λ μ (lyR Λ a 0) V) (ok : PicOK V) : sX4_isWell Λ μ a = some 1 := by
  unfold sX4_isWell
  have q1 : sX1_isSound Λ μ (lyR Λ a 0) = some 1 := rv_sound N.1 ok.1
  rw [q1]; rfl
/-- two banks of one part: where they meet -/
theorem q_meetY (N : RvV Λ μ (lyR Λ a 0) V) (ok : PicOK V) {g r : Nat} (hr : r < 12) (hgr : g ∈ V.rd r) {d : Nat} (hdr : d ∈ V.rd r) : ∃ m, sX1_meetingOf Λ μ (lyR Λ a 0) (nI g) (nI d) = some (nI m) ∧ sX4_meet Λ μ a (nI g) (nI d) = some (nI m) ∧ Meets (V.rd r) g d m := by
  have hg := rv_ltn ok.1 hr hgr
  have hd := rv_ltn ok.1 hr hdr
  have hn := ok.1.1
  obtain ⟨hT, t, ht⟩ := rv_tour ok.1 hr hgr
  obtain ⟨m, e, M⟩ := meet_ex hT ht (fun z hz => rv_ltn ok.1 hr hz) hgr hdr
  have q2 : sX1_meetingOf Λ μ (lyR Λ a 0) (nI g) (nI d) = some (nI m) := by
    have := rv_meet N.1 ok.1 hr hgr hdr
    rw [e] at this
    exact this
  refine ⟨m, q2, ?_, M⟩
  unfold sX4_meet
  have q1 : sX1_isOnePart Λ μ (lyR Λ a 0) (nI g) (nI d) = some (if d ∈ V.rd r then 1 else 0) := rv_one N.1 ok.1 hr hgr (by omega)
  rw [there_1 N ok hg hd, Option.bind_some, if_neg z10, q1, if_pos hdr, Option.bind_some, if_neg z10, q2]; rfl
theorem q_meetN (N : RvV Λ μ (lyR Λ a 0) V) (ok : PicOK V) {g r : Nat} (hr : r < 12) (hgr : g ∈ V.rd r) {d : Nat} (hd : d < V.w.length) (hdr : d ∉ V.rd r) : sX4_meet Λ μ a (nI g) (nI d) = some (-4) := by
  have hg := rv_ltn ok.1 hr hgr
  have hn := ok.1.1
  unfold sX4_meet
  have q1 : sX1_isOnePart Λ μ (lyR Λ a 0) (nI g) (nI d) = some (if d ∈ V.rd r then 1 else 0) := rv_one N.1 ok.1 hr hgr (by omega)
  rw [there_1 N ok hg hd, Option.bind_some, if_neg z10, q1, if_neg hdr, Option.bind_some, if_pos rfl]
theorem q_wayN (N : RvV Λ μ (lyR Λ a 0) V) (ok : PicOK V) {g r : Nat} (hr : r < 12) (hgr : g ∈ V.rd r) {d : Nat} (hd : d < V.w.length) (hdr : d ∉ V.rd r) (z : Int32) : sX4_way Λ μ a (nI g) (nI d) z = some (-4) := by
  have hg := rv_ltn ok.1 hr hgr
  have hn := ok.1.1
  unfold sX4_way
  have q1 : sX1_isOnePart Λ μ (lyR Λ a 0) (nI g) (nI d) = some (if d ∈ V.rd r then 1 else 0) := rv_one N.1 ok.1 hr hgr (by omega)
  rw [there_1 N ok hg hd, Option.bind_some, if_neg z10, q1, if_neg hdr, Option.bind_some, if_pos rfl]
/-- the ropes of a way, and its places -/
def wyN (l : List Nat) (n g d m : Nat) : Nat := dep l n g - dep l n m + (dep l n d - dep l n m)
def wyP (l : List Nat) (n g d m i : Nat) : Nat := if i ≤ dep l n g - dep l n m then anc l i g else anc l (wyN l n g d m - i) d
theorem way_eq (N : RvV Λ μ (lyR Λ a 0) V) (ok : PicOK V) {g r : Nat} (hr : r < 12) (hgr : g ∈ V.rd r) {d m : Nat} (hdr : d ∈ V.rd r) (q2 : sX1_meetingOf Λ μ (lyR Λ a 0) (nI g) (nI d) = some (nI m)) (M : Meets (V.rd r) g d m) (z : Int32) : sX4_way Λ μ a (nI g) (nI d) z = (if z = -1 then some (nI (wyN (V.rd r) V.w.length g d m)) else if z < 0 then some (-1) else if z ≤ nI (wyN (V.rd r) V.w.length g d m) then (if nI (dep (V.rd r) V.w.length g - dep (V.rd r) V.w.length m) < z then (sX1_stepsAbove Λ μ (lyR Λ a 0) (nI d) (nI (wyN (V.rd r) V.w.length g d m) - z)).bind (fun q15 => some q15) else (sX1_stepsAbove Λ μ (lyR Λ a 0) (nI g) z).bind (fun q16 => some q16)) else some (-1)) := by
  have hg := rv_ltn ok.1 hr hgr
  have hd := rv_ltn ok.1 hr hdr
  have hn := ok.1.1
  have hln : ∀ z ∈ V.rd r, z < V.w.length := fun z hz => rv_ltn ok.1 hr hz
  have hmr : m ∈ V.rd r := (blw_mem M.1).2
  have d1 : dep (V.rd r) V.w.length m ≤ dep (V.rd r) V.w.length g := dep_mono hln M.1
  have d2 : dep (V.rd r) V.w.length m ≤ dep (V.rd r) V.w.length d := dep_mono hln M.2.1
  have p1 : sX1_depthOf Λ μ (lyR Λ a 0) (nI g) = some (nI (dep (V.rd r) V.w.length g)) := rv_depth N.1 ok.1 hr hgr
  have p2 : sX1_depthOf Λ μ (lyR Λ a 0) (nI d) = some (nI (dep (V.rd r) V.w.length d)) := rv_depth N.1 ok.1 hr hdr
  have p3 : sX1_depthOf Λ μ (lyR Λ a 0) (nI m) = some (nI (dep (V.rd r) V.w.length m)) := rv_depth N.1 ok.1 hr hmr
  have q1 : sX1_isOnePart Λ μ (lyR Λ a 0) (nI g) (nI d) = some (if d ∈ V.rd r then 1 else 0) := rv_one N.1 ok.1 hr hgr (by omega)
  unfold sX4_way
  rw [there_1 N ok hg hd, Option.bind_some, if_neg z10, q1, if_pos hdr, Option.bind_some, if_neg z10, q2, Option.bind_some, p3, p1, p2]
  simp only [Option.bind_some, bnd]
  rw [pk_sub d1, nI_add, pk_sub (by omega), show dep (V.rd r) V.w.length g - dep (V.rd r) V.w.length m + dep (V.rd r) V.w.length d - dep (V.rd r) V.w.length m = wyN (V.rd r) V.w.length g d m by unfold wyN; omega]
theorem wyN_lt (ok : PicOK V) {g r d m : Nat} (hr : r < 12) (hgr : g ∈ V.rd r) (hdr : d ∈ V.rd r) : wyN (V.rd r) V.w.length g d m < 24 := by
  have hn := ok.1.1
  have h1 := dep_lt (fun z hz => rv_ltn ok.1 hr hz) hgr
  have h2 := dep_lt (fun z hz => rv_ltn ok.1 hr hz) hdr
  unfold wyN
  omega
theorem q_way1 (N : RvV Λ μ (lyR Λ a 0) V) (ok : PicOK V) {g r : Nat} (hr : r < 12) (hgr : g ∈ V.rd r) {d m : Nat} (hdr : d ∈ V.rd r) (q2 : sX1_meetingOf Λ μ (lyR Λ a 0) (nI g) (nI d) = some (nI m)) (M : Meets (V.rd r) g d m) : sX4_way Λ μ a (nI g) (nI d) (-1 : Int32) = some (nI (wyN (V.rd r) V.w.length g d m)) := by
  rw [way_eq N ok hr hgr hdr q2 M, if_pos rfl]
theorem q_wayP (N : RvV Λ μ (lyR Λ a 0) V) (ok : PicOK V) {g r : Nat} (hr : r < 12) (hgr : g ∈ V.rd r) {d m : Nat} (hdr : d ∈ V.rd r) (q2 : sX1_meetingOf Λ μ (lyR Λ a 0) (nI g) (nI d) = some (nI m)) (M : Meets (V.rd r) g d m) {i : Nat} (hi : i ≤ wyN (V.rd r) V.w.length g d m) : sX4_way Λ μ a (nI g) (nI d) (nI i) = some (nI (wyP (V.rd r) V.w.length g d m i)) := by
  have hw := wyN_lt (m := m) ok hr hgr hdr
  have hln : ∀ z ∈ V.rd r, z < V.w.length := fun z hz => rv_ltn ok.1 hr hz
  have d1 : dep (V.rd r) V.w.length m ≤ dep (V.rd r) V.w.length g := dep_mono hln M.1
  have d2 : dep (V.rd r) V.w.length m ≤ dep (V.rd r) V.w.length d := dep_mono hln M.2.1
  have e1 : ¬ nI i = (-1 : Int32) := fun q => by
    have h1 := congrArg Int32.toInt q
    rw [nI_toInt (by omega)] at h1
    have : (-1 : Int32).toInt = -1 := rfl
    omega
  rw [way_eq N ok hr hgr hdr q2 M, if_neg e1, if_neg (nI_pos (by omega)), if_pos ((nI_leI (by omega) (by omega)).mpr hi)]
  unfold wyP
  by_cases c : i ≤ dep (V.rd r) V.w.length g - dep (V.rd r) V.w.length m
  · rw [if_neg (by rw [nI_ltI (by unfold wyN at hw; omega) (by omega)]; omega), if_pos c]
    have s1 : sX1_stepsAbove Λ μ (lyR Λ a 0) (nI g) (nI i) = some (nI (anc (V.rd r) i g)) := rv_steps N.1 ok.1 hr hgr (by omega)
    rw [s1]; rfl
  · rw [if_pos ((nI_ltI (by unfold wyN at hw; omega) (by omega)).mpr (by omega)), if_neg c, pk_sub hi]
    have s1 : sX1_stepsAbove Λ μ (lyR Λ a 0) (nI d) (nI (wyN (V.rd r) V.w.length g d m - i)) = some (nI (anc (V.rd r) (wyN (V.rd r) V.w.length g d m - i) d)) := rv_steps N.1 ok.1 hr hdr (by unfold wyN; omega)
    rw [s1]; rfl
theorem q_wayO (N : RvV Λ μ (lyR Λ a 0) V) (ok : PicOK V) {g r : Nat} (hr : r < 12) (hgr : g ∈ V.rd r) {d m : Nat} (hdr : d ∈ V.rd r) (q2 : sX1_meetingOf Λ μ (lyR Λ a 0) (nI g) (nI d) = some (nI m)) (M : Meets (V.rd r) g d m) : sX4_way Λ μ a (nI g) (nI d) (nI (wyN (V.rd r) V.w.length g d m + 1)) = some (-1) := by
  have hw := wyN_lt (m := m) ok hr hgr hdr
  have e1 : ¬ nI (wyN (V.rd r) V.w.length g d m + 1) = (-1 : Int32) := fun q => by
    have h1 := congrArg Int32.toInt q
    rw [nI_toInt (by omega)] at h1
    have : (-1 : Int32).toInt = -1 := rfl
    omega
  rw [way_eq N ok hr hgr hdr q2 M, if_neg e1, if_neg (nI_pos (by omega)), if_neg (by rw [nI_leI (by omega) (by omega)]; omega)]
theorem nI_mul (x y : Nat) : nI x * nI y = nI (x * y) := by
  apply Int32.toBitVec_inj.mp
  show BitVec.ofNat 32 x * BitVec.ofNat 32 y = BitVec.ofNat 32 (x * y)
  apply BitVec.eq_of_toNat_eq
  simp [Nat.mul_mod]
/-- without sign -/
def absD (x y : Nat) : Nat := if y ≤ x then x - y else y - x
theorem abs_nat {x y : Nat} (hx : x < 2 ^ 30) (hy : y < 2 ^ 30) : (if 0 ≤ nI x - nI y then nI x - nI y else 0 - (nI x - nI y)) = nI (absD x y) := by
  unfold absD
  by_cases c : y ≤ x
  · rw [pk_sub c, if_pos (nI_pos' (by omega)), if_pos c]
  · have e : nI x - nI y = -(nI (y - x)) := by
      have : nI y = nI x + nI (y - x) := by rw [nI_add]; congr 1; omega
      rw [this]
      apply Int32.toBitVec_inj.mp
      simp only [Int32.toBitVec_sub, Int32.toBitVec_add, Int32.toBitVec_neg, BitVec.sub_eq_add_neg, BitVec.neg_add]
      generalize (nI x).toBitVec = u
      generalize (nI (y - x)).toBitVec = v
      rw [← BitVec.add_assoc, BitVec.add_right_neg, BitVec.zero_add]
    have hneg : ¬ (0 : Int32) ≤ -(nI (y - x)) := by
      have h1 : (nI (y - x)).toInt = ((y - x : Nat) : Int) := nI_toInt (by omega)
      rw [Int32.le_iff_toInt_le, Int32.toInt_neg, h1]
      have : (0 : Int32).toInt = 0 := rfl
      rw [this]
      simp only [Int.bmod]
      split <;> omega
    rw [e, if_neg hneg, if_neg c]
    apply Int32.toBitVec_inj.mp
    simp
theorem q_differ (N : RvV Λ μ (lyR Λ a 0) V) (ok : PicOK V) {g r : Nat} (hr : r < 12) (hgr : g ∈ V.rd r) {d : Nat} (hdr : d ∈ V.rd r) (f : nbr (V.rd r) g d = true) : sX4_wouldDiffer Λ μ a (nI g) (nI d) = some (nI (absD (wsum V.w (msk (V.rd r))) (2 * wsum V.w (belowM (V.rd r) (lowOf (V.rd r) g d))))) := by
  have hg := rv_ltn ok.1 hr hgr
  have hd := rv_ltn ok.1 hr hdr
  have hn := ok.1.1
  have hs : msk (V.rd r) < 4096 := msk_lt (rv_lt12 ok.1 hr)
  have hlo : sX1_lowerOf Λ μ (lyR Λ a 0) (nI g) (nI d) = some (nI (lowOf (V.rd r) g d)) := by
    have := rv_lower N.1 ok.1 hr hgr hdr
    rw [this]
    unfold lowOf
    by_cases q : fi (V.rd r) g ≤ fi (V.rd r) d
    · rw [if_pos q, if_pos q]
    · rw [if_neg q, if_neg q]
  have hlr : lowOf (V.rd r) g d ∈ V.rd r := by
    unfold lowOf
    by_cases q : fi (V.rd r) g ≤ fi (V.rd r) d
    · rw [if_pos q]; exact hdr
    · rw [if_neg q]; exact hgr
  have q0 : sX1_banksWith Λ μ (lyR Λ a 0) (nI g) = some (nI (msk (V.rd r))) := rv_all N.1 ok.1 hr hgr
  have q1 : sX1_weightOfAll Λ μ (lyR Λ a 0) (nI (msk (V.rd r))) = some (nI (wsum V.w (msk (V.rd r)))) := rv_weights N.1 ok.1 hs
  have q8 : sX1_belowOf Λ μ (lyR Λ a 0) (nI (lowOf (V.rd r) g d)) = some (nI (belowM (V.rd r) (lowOf (V.rd r) g d))) := rv_below N.1 ok.1 hr hlr
  have q9 : sX1_weightOfAll Λ μ (lyR Λ a 0) (nI (belowM (V.rd r) (lowOf (V.rd r) g d))) = some (nI (wsum V.w (belowM (V.rd r) (lowOf (V.rd r) g d)))) := rv_weights N.1 ok.1 (belowM_lt (rv_lt12 ok.1 hr) _)
  have b1 := wsum_lt ok.1 (msk (V.rd r))
  have b2 := wsum_lt ok.1 (belowM (V.rd r) (lowOf (V.rd r) g d))
  unfold sX4_wouldDiffer
  rw [there_1 N ok hg hd, Option.bind_some, if_neg z10, tied_nbr N ok hr hgr hd, if_pos f, Option.bind_some, if_neg z10, q0, Option.bind_some, q1, Option.bind_some, hlo, Option.bind_some, q8, Option.bind_some, q9, Option.bind_some, show (2 : Int32) = nI 2 from rfl, nI_mul, abs_nat (by omega) (by omega)]
theorem shlAll : ∀ n, n < 13 → ((1 : Int32) <<< (nI n &&& 31)) - 1 = nI (2 ^ n - 1) := by decide +kernel
theorem all_b (N : RvV Λ μ (lyR Λ a 0) V) (ok : PicOK V) : sX1_allBanks Λ μ (lyR Λ a 0) = some (nI (2 ^ V.w.length - 1)) ∧ 2 ^ V.w.length - 1 < 4096 ∧ ∀ k, k < V.w.length → (2 ^ V.w.length - 1).testBit k = true := by
  have hn := ok.1.1
  refine ⟨?_, ?_, fun k hk => by rw [Nat.testBit_two_pow_sub_one]; exact decide_eq_true hk⟩
  · unfold sX1_allBanks
    rw [row_len N.1.1, Option.bind_some, List.length_map, shlAll _ (by omega)]
  · have : 2 ^ V.w.length ≤ 2 ^ 12 := Nat.pow_le_pow_right (by omega) hn
    have h2 : (2 : Nat) ^ 12 = 4096 := rfl
    omega
theorem qa0 (N : RvV Λ μ (lyR Λ a 0) V) (ok : PicOK V) : sX4_account Λ μ a (0 : Int32) = some (nI V.w.length) := by
  unfold sX4_account
  rw [if_pos rfl]
  have q0 : sX1_banks Λ μ (lyR Λ a 0) = some (nI V.w.length) := rv_banks N.1
  rw [q0]; rfl
theorem qa1 (N : RvV Λ μ (lyR Λ a 0) V) (ok : PicOK V) : sX4_account Λ μ a (1 : Int32) = some (nI (V.w.length - cntTo 12 (rooted V.rd))) := by
  unfold sX4_account
  rw [if_neg (by decide), if_pos rfl]
  have q1 : sX1_ropes Λ μ (lyR Λ a 0) = some (nI (sumTo V.w.length (fun k => popN (V.p.getD k 0)) / 2)) := rv_ropes N.1 ok.1
  have hA := all_ropes ok.1
  rw [q1, show sumTo V.w.length (fun k => popN (V.p.getD k 0)) / 2 = V.w.length - cntTo 12 (rooted V.rd) by omega]; rfl
theorem qa2 (N : RvV Λ μ (lyR Λ a 0) V) (ok : PicOK V) : sX4_account Λ μ a (2 : Int32) = some (nI (cntTo 12 (rooted V.rd))) := by
  unfold sX4_account
  rw [if_neg (by decide), if_neg (by decide), if_pos rfl]
  have q2 : sX1_parts Λ μ (lyR Λ a 0) = some (nI (cntTo 12 (rooted V.rd))) := rv_parts N.1
  rw [q2]; rfl
theorem qa3 (N : RvV Λ μ (lyR Λ a 0) V) (ok : PicOK V) : sX4_account Λ μ a (3 : Int32) = some (nI (sumTo V.w.length (wt V.w))) := by
  unfold sX4_account
  rw [if_neg (by decide), if_neg (by decide), if_neg (by decide), if_pos rfl]
  obtain ⟨q3, hs, hbit⟩ := all_b N ok
  have q4 : sX1_weightOfAll Λ μ (lyR Λ a 0) (nI (2 ^ V.w.length - 1)) = some (nI (sumTo V.w.length (wt V.w))) := by
    have e : wsum V.w (2 ^ V.w.length - 1) = sumTo V.w.length (wt V.w) := sumTo_congr (fun k hk => by rw [hbit k hk, if_pos rfl])
    rw [← e]
    exact rv_weights N.1 ok.1 hs
  rw [q3, Option.bind_some, q4]; rfl
theorem qa4 (N : RvV Λ μ (lyR Λ a 0) V) (ok : PicOK V) : sX4_account Λ μ a (4 : Int32) = some (nI (sumTo 12 (fun k => (V.rd k).length))) := by
  unfold sX4_account
  rw [if_neg (by decide), if_neg (by decide), if_neg (by decide), if_neg (by decide), if_pos rfl]
  have q5 : sX1_places Λ μ (lyR Λ a 0) = some (nI (sumTo 12 (fun k => (V.rd k).length))) := rv_places N.1
  rw [q5]; rfl
theorem qa5 (N : RvV Λ μ (lyR Λ a 0) V) (ok : PicOK V) : sX4_account Λ μ a (5 : Int32) = some (V.j) := by
  unfold sX4_account
  rw [if_neg (by decide), if_neg (by decide), if_neg (by decide), if_neg (by decide), if_neg (by decide), if_pos rfl]
  have e1 : sX1_joinsSoFar Λ μ (lyR Λ a 0) = some V.j := by unfold sX1_joinsSoFar; rw [N.2.1]
  rw [e1]; rfl
theorem qa6 (N : RvV Λ μ (lyR Λ a 0) V) (ok : PicOK V) : sX4_account Λ μ a (6 : Int32) = some (V.c) := by
  unfold sX4_account
  rw [if_neg (by decide), if_neg (by decide), if_neg (by decide), if_neg (by decide), if_neg (by decide), if_neg (by decide), if_pos rfl]
  have e1 : sX1_cutsSoFar Λ μ (lyR Λ a 0) = some V.c := by unfold sX1_cutsSoFar; rw [N.2.2.1]
  rw [e1]; rfl
theorem qa7 (N : RvV Λ μ (lyR Λ a 0) V) (ok : PicOK V) : sX4_account Λ μ a (7 : Int32) = some (V.t) := by
  unfold sX4_account
  rw [if_neg (by decide), if_neg (by decide), if_neg (by decide), if_neg (by decide), if_neg (by decide), if_neg (by decide), if_neg (by decide), if_pos rfl]
  have e1 : sX1_turnsSoFar Λ μ (lyR Λ a 0) = some V.t := by unfold sX1_turnsSoFar; rw [N.2.2.2]
  rw [e1]; rfl
theorem qa8 (N : RvV Λ μ (lyR Λ a 0) V) (ok : PicOK V) : sX4_account Λ μ a (8 : Int32) = some (nI (maxTo V.w.length (depA V.w V.rd))) := by
  unfold sX4_account
  rw [if_neg (by decide), if_neg (by decide), if_neg (by decide), if_neg (by decide), if_neg (by decide), if_neg (by decide), if_neg (by decide), if_neg (by decide), if_pos rfl]
  obtain ⟨q3, hs, hbit⟩ := all_b N ok
  have q6 : sX1_greatestDepth Λ μ (lyR Λ a 0) (nI (2 ^ V.w.length - 1)) = some (nI (maxTo V.w.length (depA V.w V.rd))) := by
    have e : maxTo V.w.length (fun k => if (2 ^ V.w.length - 1).testBit k then depA V.w V.rd k else 0) = maxTo V.w.length (depA V.w V.rd) := maxTo_congr (fun k hk => by rw [hbit k hk, if_pos rfl])
    rw [← e]
    exact rv_great N.1 ok.1 hs
  rw [q3, Option.bind_some, q6]; rfl
/-- the bits of the mean -/
def meanV (V : Pic) : Int32 := if V.w.length = 0 then -4 else UInt32.toInt32 (FP.fdiv (FP.i2f (nI (sumTo V.w.length (depA V.w V.rd)))) (FP.i2f (nI V.w.length)))
theorem q_mean (N : RvV Λ μ (lyR Λ a 0) V) (ok : PicOK V) : sX4_mean Λ μ a = some (meanV V) := by
  have hn := ok.1.1
  unfold sX4_mean meanV
  have q0 : sX1_banks Λ μ (lyR Λ a 0) = some (nI V.w.length) := rv_banks N.1
  have q1 : sX1_sumOfDepths Λ μ (lyR Λ a 0) = some (nI (sumTo V.w.length (depA V.w V.rd))) := rv_sumD N.1 ok.1
  rw [q0, Option.bind_some]
  by_cases c : 0 < V.w.length
  · obtain ⟨m, hm⟩ : ∃ m, V.w.length = m + 1 := ⟨V.w.length - 1, by omega⟩
    have hs : sumTo V.w.length (depA V.w V.rd) ≤ V.w.length * 11 := sumTo_const (fun k hk => by have := depA_lt ok.1 hk; omega)
    obtain ⟨g1, g2, g3⟩ := mean_all (sumTo V.w.length (depA V.w V.rd)) (by omega) m (by omega)
    rw [← hm] at g1 g2 g3
    have g2' : sX4_bitsOf Λ μ (FP.fdiv (FP.i2f (nI (sumTo V.w.length (depA V.w V.rd)))) (FP.i2f (nI V.w.length))) = _ := (bits_free Λ μ _).trans g2
    rw [if_pos (by rw [nI_lit0, nI_ltI (by omega) (by omega)]; exact c), q1, Option.bind_some, gd_t g1, g2', if_neg (by omega)]; rfl
  · have e0 : V.w.length = 0 := by omega
    rw [if_neg (by rw [e0]; decide), if_pos e0]
end AS
