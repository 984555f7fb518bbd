/-! BOTH, WHOLE: questions of ways, of banks, of parts. -/
section AT
variable {Λ Λ' : Lay} {μ μ' : Mem} {a b : Nat}
theorem as_meet (I : Inv Λ μ a Λ' μ' b) (x y : Int32) : ∃ r, sX4_meet Λ μ a x y = some r ∧ sX5_meet Λ' μ' b x y = some r := by
  unfold sX4_meet sX5_meet
  refine two_ask I x y _ _ ?_
  intro V N M ok g d r k hg hd hg31 hd31 hr hgr hk e eg ed
  subst eg; subst ed
  obtain ⟨hT, t, ht⟩ := rv_tour ok.1 hr hgr
  have hgs : g ∈ V.sl k := by rw [e]; exact hgr
  have q1 : sX1_isOnePart Λ μ (lyR Λ a 0) (nI g) (nI d) = some (if d ∈ V.rd r then 1 else 0) := rv_one N.1 ok.1 hr hgr hd31
  rw [q1, md_one M ok.sl hk hgs hd, e]
  by_cases f : d ∈ V.rd r
  · rw [if_pos f]
    obtain ⟨m, k1, k2⟩ := md_meet M ok.sl hk (by rw [e]; exact hT) (e.trans ht) hgs (by rw [e]; exact f)
    rw [e] at k2
    have q2 : sX1_meetingOf Λ μ (lyR Λ a 0) (nI g) (nI d) = some (nI m) := by
      have := rv_meet N.1 ok.1 hr hgr f
      rw [meet_deep (fun z hz => rv_ltn ok.1 hr hz) hgr f k2] at this
      exact this
    rw [q2, k1]
    exact ⟨nI m, rfl, rfl⟩
  · rw [if_neg f]; exact ⟨-4, rfl, rfl⟩
theorem as_way (I : Inv Λ μ a Λ' μ' b) (x y z : Int32) : ∃ r, sX4_way Λ μ a x y z = some r ∧ sX5_way Λ' μ' b x y z = some r := by
  unfold sX4_way sX5_way
  refine two_ask I x y _ _ ?_
  intro V N M ok g d r k hg hd hg31 hd31 hr hgr hk e eg ed
  subst eg; subst ed
  have hn := ok.1.1
  obtain ⟨hT, t, ht⟩ := rv_tour ok.1 hr hgr
  have hgs : g ∈ V.sl k := by rw [e]; exact hgr
  have q1 : sX1_isOnePart Λ μ (lyR Λ a 0) (nI g) (nI d) = some (if d ∈ V.rd r then 1 else 0) := rv_one N.1 ok.1 hr hgr hd31
  rw [q1, md_one M ok.sl hk hgs hd, e]
  by_cases f : d ∈ V.rd r
  · rw [if_pos f]
    have hds : d ∈ V.sl k := by rw [e]; exact f
    obtain ⟨m, k1, k2⟩ := md_meet M ok.sl hk (by rw [e]; exact hT) (e.trans ht) hgs hds
    rw [e] at k2
    have hln : ∀ z ∈ V.rd r, z < V.w.length := fun z hz => rv_ltn ok.1 hr hz
    have q2 : sX1_meetingOf Λ μ (lyR Λ a 0) (nI g) (nI d) = some (nI m) := by
      have := rv_meet N.1 ok.1 hr hgr f
      rw [meet_deep hln hgr f k2] at this
      exact this
    have hmr : m ∈ V.rd r := (blw_mem k2.1).2
    have hms : m ∈ V.sl k := by rw [e]; exact hmr
    have d1 : dep (V.rd r) V.w.length m ≤ dep (V.rd r) V.w.length g := dep_mono hln k2.1
    have d2 : dep (V.rd r) V.w.length m ≤ dep (V.rd r) V.w.length d := dep_mono hln k2.2.1
    have d3 := dep_lt hln hgr
    have d4 := dep_lt hln f
    have p1 : sX1_depthOf Λ μ (lyR Λ a 0) (nI g) = some (nI (dep (V.rd r) V.w.length g)) := rv_depth N.1 ok.1 hr hgr
    have p2 : sX1_depthOf Λ μ (lyR Λ a 0) (nI d) = some (nI (dep (V.rd r) V.w.length d)) := rv_depth N.1 ok.1 hr f
    have p3 : sX1_depthOf Λ μ (lyR Λ a 0) (nI m) = some (nI (dep (V.rd r) V.w.length m)) := rv_depth N.1 ok.1 hr hmr
    have z1 : ¬ (1 : Int32) = 0 := by decide
    simp only [Option.bind_some]
    rw [if_neg z1, if_neg z1, q2, k1]
    simp only [Option.bind_some]
    rw [p1, p2, p3, md_depth M ok.sl hk hgs, md_depth M ok.sl hk hds, md_depth M ok.sl hk hms, e]
    simp only [Option.bind_some, bnd]
    rw [pk_sub d1, nI_add, pk_sub (by omega)]
    generalize hu : dep (V.rd r) V.w.length g - dep (V.rd r) V.w.length m = u
    generalize hv : u + dep (V.rd r) V.w.length d - dep (V.rd r) V.w.length m = v
    by_cases c1 : z = -1
    · rw [if_pos c1, if_pos c1]; exact ⟨_, rfl, rfl⟩
    · rw [if_neg c1, if_neg c1, btw_eq, Option.bind_some]
      have e0 : (0 : Int32).toInt = 0 := rfl
      have ev : (nI v).toInt = v := nI_toInt (by omega)
      by_cases c2 : 0 ≤ z.toInt ∧ z.toInt ≤ v
      · obtain ⟨i, hi, rfl, hi3⟩ := i32_nn c2.1
        have hiv : i ≤ v := by omega
        rw [if_neg (nI_pos hi), if_pos ((nI_leI hi (by omega)).mpr hiv), e0, ev, if_pos c2, if_neg z1]
        by_cases c3 : u < i
        · rw [if_pos ((nI_ltI (by omega) hi).mpr c3), if_pos ((nI_ltI (by omega) hi).mpr c3), pk_sub hiv]
          have s1 : sX1_stepsAbove Λ μ (lyR Λ a 0) (nI d) (nI (v - i)) = some (nI (anc (V.rd r) (v - i) d)) := rv_steps N.1 ok.1 hr f (by omega)
          rw [s1, md_climb M ok.sl hk (by rw [e]; exact hT) hds (by rw [e]; omega), e]
          exact ⟨_, rfl, rfl⟩
        · rw [if_neg (by rw [nI_ltI (by omega) hi]; exact c3), if_neg (by rw [nI_ltI (by omega) hi]; exact c3)]
          have s1 : sX1_stepsAbove Λ μ (lyR Λ a 0) (nI g) (nI i) = some (nI (anc (V.rd r) i g)) := rv_steps N.1 ok.1 hr hgr (by omega)
          rw [s1, md_climb M ok.sl hk (by rw [e]; exact hT) hgs (by rw [e]; omega), e]
          exact ⟨_, rfl, rfl⟩
      · rw [e0, ev, if_neg c2, if_pos rfl]
        refine ⟨-1, ?_, rfl⟩
        by_cases c3 : z < 0
        · rw [if_pos c3]
        · rw [if_neg c3, if_neg]
          intro q
          rw [Int32.le_iff_toInt_le, ev] at q
          rw [Int32.lt_iff_toInt_lt, e0] at c3
          exact c2 ⟨by omega, q⟩
  · rw [if_neg f]; exact ⟨-4, rfl, rfl⟩
theorem as_differ (I : Inv Λ μ a Λ' μ' b) (x y : Int32) : ∃ r, sX4_wouldDiffer Λ μ a x y = some r ∧ sX5_wouldDiffer Λ' μ' b x y = some r := by
  unfold sX4_wouldDiffer sX5_wouldDiffer
  refine two_ask I x y _ _ ?_
  intro V N M ok g d r k hg hd hg31 hd31 hr hgr hk e eg ed
  subst eg; subst ed
  have hn := ok.1.1
  obtain ⟨hT, t, ht⟩ := rv_tour ok.1 hr hgr
  have hgs : g ∈ V.sl k := by rw [e]; exact hgr
  rw [tied_nbr N ok hr hgr hd, md_tied M ok.sl hk hgs hd31, e]
  by_cases f : nbr (V.rd r) g d = true
  · have hdr : d ∈ V.rd r := (prs_mem (of_decide_eq_true f)).2
    have hds : d ∈ V.sl k := by rw [e]; exact hdr
    obtain ⟨f1, f2, f3, f4⟩ := low_facts hT ht hgr hdr f
    have f2s : lowOf (V.rd r) g d ∈ V.sl k := by rw [e]; exact f2
    have hrr := rv_root_mem ok.1 hr hgr
    have hrs : r ∈ V.sl k := by rw [e]; exact hrr
    have hlo : sX1_lowerOf Λ μ (lyR Λ a 0) (nI g) (nI d) = some (nI (lowOf (V.rd r) g d)) := by
      have := rv_lower N.1 ok.1 hr hgr hdr
      rw [this]
      unfold lowOf
      by_cases q : fi (V.rd r) g ≤ fi (V.rd r) d
      · rw [if_pos q, if_pos q]
      · rw [if_neg q, if_neg q]
    have hlm : sX5_lower Λ' μ' b (nI g) (nI d) = some (nI (lowOf (V.rd r) g d)) := by
      rw [md_lower M ok.sl hk hgs hds, e]
      unfold lowOf
      by_cases q : fi (V.rd r) g ≤ fi (V.rd r) d
      · rw [if_pos q, if_pos q]
      · rw [if_neg q, if_neg q]
    have q1 : sX1_banksWith Λ μ (lyR Λ a 0) (nI g) = some (nI (msk (V.rd r))) := rv_all N.1 ok.1 hr hgr
    have q2 : sX1_weightOfAll Λ μ (lyR Λ a 0) (nI (msk (V.rd r))) = some (nI (wsum V.w (msk (V.rd r)))) := rv_weights N.1 ok.1 (msk_lt (rv_lt12 ok.1 hr))
    have q3 : sX1_belowOf Λ μ (lyR Λ a 0) (nI (lowOf (V.rd r) g d)) = some (nI (belowM (V.rd r) (lowOf (V.rd r) g d))) := rv_below N.1 ok.1 hr f2
    have q4 : sX1_weightOfAll Λ μ (lyR Λ a 0) (nI (belowM (V.rd r) (lowOf (V.rd r) g d))) = some (nI (wsum V.w (belowM (V.rd r) (lowOf (V.rd r) g d)))) := rv_weights N.1 ok.1 (belowM_lt (rv_lt12 ok.1 hr) _)
    have z1 : ¬ (1 : Int32) = 0 := by decide
    rw [if_pos f]
    simp only [Option.bind_some]
    rw [if_neg z1, if_neg z1, q1, md_root M ok.sl hk hgs (e.trans ht)]
    simp only [Option.bind_some]
    rw [q2, md_sum M ok.sl hk hrs, hlo, hlm]
    simp only [Option.bind_some]
    rw [q3, md_sum M ok.sl hk f2s]
    simp only [Option.bind_some]
    rw [q4, e, wsum_all ht hT, wsum_below hT f2]
    simp only [Option.bind_some, bnd]
    by_cases c : (0 : Int32) ≤ nI (sumB V.w (V.rd r) r) - 2 * nI (sumB V.w (V.rd r) (lowOf (V.rd r) g d))
    · rw [if_pos c, if_pos c]; exact ⟨_, rfl, rfl⟩
    · rw [if_neg c, if_neg c]
      refine ⟨_, rfl, ?_⟩
      congr 1
  · rw [if_neg f]; exact ⟨-4, rfl, rfl⟩
theorem as_partOf (I : Inv Λ μ a Λ' μ' b) (x y : Int32) : ∃ r, sX4_partOf Λ μ a x y = some r ∧ sX5_partOf Λ' μ' b x y = some r := by
  unfold sX4_partOf sX5_partOf
  refine one_ask I x _ _ ?_
  intro V N M ok g r k hg hg31 hr hgr hk e eg
  subst eg
  have hn := ok.1.1
  obtain ⟨hT, t, ht⟩ := rv_tour ok.1 hr hgr
  have hgs : g ∈ V.sl k := by rw [e]; exact hgr
  have hrs : r ∈ V.sl k := by rw [e]; exact rv_root_mem ok.1 hr hgr
  have hs : msk (V.rd r) < 4096 := msk_lt (rv_lt12 ok.1 hr)
  have q1 : sX1_banksWith Λ μ (lyR Λ a 0) (nI g) = some (nI (msk (V.rd r))) := rv_all N.1 ok.1 hr hgr
  have q2 : sX1_roundOf Λ μ (lyR Λ a 0) (nI g) = some (lyE Λ (lyR Λ (lyR Λ a 0) 2) r) := rv_round N.1 ok.1 hr hgr
  have q3 : sX2_length Λ μ (lyE Λ (lyR Λ (lyR Λ a 0) 2) r) = some (nI (V.rd r).length) := by
    have := row_len (N.1.2.2.2 r hr)
    rw [List.length_map] at this
    exact this
  have q4 : sX1_weightOfAll Λ μ (lyR Λ a 0) (nI (msk (V.rd r))) = some (nI (wsum V.w (msk (V.rd r)))) := rv_weights N.1 ok.1 hs
  have q5 : sX1_greatestDepth Λ μ (lyR Λ a 0) (nI (msk (V.rd r))) = some (nI (gdp V.w.length (V.rd r))) := by
    have := rv_great N.1 ok.1 hs
    rw [this]
    congr 2
    unfold gdp
    apply maxTo_congr
    intro i _
    by_cases c : i ∈ V.rd r
    · rw [if_pos (by rw [msk_bit]; exact decide_eq_true c), if_pos c]
      unfold depA
      rw [rtF_of ok.1 hr c]
    · rw [if_neg (by rw [msk_bit]; simpa using c), if_neg c]
  have q6 : sX1_heaviestWith Λ μ (lyR Λ a 0) (nI g) = some (nI (hvy V.w (V.rd r))) := rv_heavy N.1 ok.1 hr hgr
  rw [md_round M ok.sl hk hgs, Option.bind_some]
  by_cases c0 : y = 0
  · rw [if_pos c0, if_pos c0, q1, Option.bind_some, bitc_spec hs, md_banksOf M ok.sl hk, pop_tour hT (rv_lt12 ok.1 hr), e]
    exact ⟨_, rfl, rfl⟩
  rw [if_neg c0, if_neg c0]
  by_cases c1 : y = 1
  · rw [if_pos c1, if_pos c1, q2, Option.bind_some, q3, md_size M hk, e]
    exact ⟨_, rfl, rfl⟩
  rw [if_neg c1, if_neg c1]
  by_cases c2 : y = 2
  · rw [if_pos c2, if_pos c2, q1, Option.bind_some, q4, md_root M ok.sl hk hgs (e.trans ht), Option.bind_some, Option.bind_some, md_sum M ok.sl hk hrs, e, wsum_all ht hT]
    exact ⟨_, rfl, rfl⟩
  rw [if_neg c2, if_neg c2]
  by_cases c3 : y = 3
  · rw [if_pos c3, if_pos c3, q1, Option.bind_some, q5, md_great M ok.sl hk, e]
    exact ⟨_, rfl, rfl⟩
  rw [if_neg c3, if_neg c3]
  by_cases c4 : y = 4
  · rw [if_pos c4, if_pos c4, q6, md_heavy M ok.sl hk (e.trans ht), e]
    exact ⟨_, rfl, rfl⟩
  rw [if_neg c4, if_neg c4]
  exact ⟨_, rfl, rfl⟩
theorem as_bankOf (I : Inv Λ μ a Λ' μ' b) (x y : Int32) : ∃ r, sX4_bankOf Λ μ a x y = some r ∧ sX5_bankOf Λ' μ' b x y = some r := by
  unfold sX4_bankOf sX5_bankOf
  refine one_ask I x _ _ ?_
  intro V N M ok g r k hg hg31 hr hgr hk e eg
  subst eg
  have hn := ok.1.1
  obtain ⟨hT, t, ht⟩ := rv_tour ok.1 hr hgr
  have hgs : g ∈ V.sl k := by rw [e]; exact hgr
  have hbl := belowM_lt (rv_lt12 ok.1 hr) g
  have q0 : sX1_weightOf Λ μ (lyR Λ a 0) (nI g) = some (nI (wt V.w g)) := rv_weight N.1 hg
  have q1 : sX1_rootOf Λ μ (lyR Λ a 0) (nI g) = some (nI r) := rv_root N.1 ok.1 hr hgr
  have q2 : sX1_depthOf Λ μ (lyR Λ a 0) (nI g) = some (nI (dep (V.rd r) V.w.length g)) := rv_depth N.1 ok.1 hr hgr
  have q3 : sX1_roundOf Λ μ (lyR Λ a 0) (nI g) = some (lyE Λ (lyR Λ (lyR Λ a 0) 2) r) := rv_round N.1 ok.1 hr hgr
  have q4 : sX2_firstOf Λ μ (lyE Λ (lyR Λ (lyR Λ a 0) 2) r) (nI g) = some (nI (fi (V.rd r) g)) := by
    have := rv_firstK N.1 ok.1 hr hg31
    rw [if_pos hgr] at this
    exact this
  have q5 : sX2_lastOf Λ μ (lyE Λ (lyR Λ (lyR Λ a 0) 2) r) (nI g) = some (nI (li (V.rd r) g)) := by
    have := rv_lastK N.1 ok.1 hr hg31
    rw [if_pos hgr] at this
    exact this
  have q6 : sX1_ropesOf Λ μ (lyR Λ a 0) (nI g) = some (nI (V.p.getD g 0)) := rv_ropesOf N.1 ok.1 hg
  have q7 : sX1_justAbove Λ μ (lyR Λ a 0) (nI g) = _ := rv_just N.1 ok.1 hr hgr
  have q8 : sX1_belowOf Λ μ (lyR Λ a 0) (nI g) = some (nI (belowM (V.rd r) g)) := rv_below N.1 ok.1 hr hgr
  have q9 : sX1_weightOfAll Λ μ (lyR Λ a 0) (nI (belowM (V.rd r) g)) = some (nI (wsum V.w (belowM (V.rd r) g))) := rv_weights N.1 ok.1 hbl
  by_cases c0 : y = 0
  · rw [if_pos c0, if_pos c0, q0, md_weight M hn hg]
    exact ⟨_, rfl, rfl⟩
  rw [if_neg c0, if_neg c0]
  by_cases c1 : y = 1
  · rw [if_pos c1, if_pos c1, q1, md_root M ok.sl hk hgs (e.trans ht)]
    exact ⟨_, rfl, rfl⟩
  rw [if_neg c1, if_neg c1]
  by_cases c2 : y = 2
  · rw [if_pos c2, if_pos c2, q2, md_depth M ok.sl hk hgs, e]
    exact ⟨_, rfl, rfl⟩
  rw [if_neg c2, if_neg c2]
  by_cases c3 : y = 3
  · rw [if_pos c3, if_pos c3, q3, Option.bind_some, q4, md_first M ok.sl hk hgs, e]
    exact ⟨_, rfl, rfl⟩
  rw [if_neg c3, if_neg c3]
  by_cases c4 : y = 4
  · rw [if_pos c4, if_pos c4, q3, Option.bind_some, q5, md_last M ok.sl hk hgs, e]
    exact ⟨_, rfl, rfl⟩
  rw [if_neg c4, if_neg c4]
  by_cases c5 : y = 5
  · have hpc : popN (V.p.getD g 0) = cntTo V.w.length (nbr (V.rd r) g) := by
      rw [pop_cnt hn (fun i hi => rv_ltn ok.1 hr (prs_mem ((rv_adj ok.1 hr hgr i).mp hi)).2)]
      apply cntTo_congr
      intro i _
      have := rv_adj ok.1 hr hgr i
      unfold nbr
      by_cases q : (g, i) ∈ prs (V.rd r)
      · rw [this.mpr q, decide_eq_true q]
      · rw [decide_eq_false q]
        cases z : (V.p.getD g 0).testBit i with
        | false => rfl
        | true => exact absurd (this.mp z) q
    rw [if_pos c5, if_pos c5, q6, Option.bind_some, bitc_spec (pD_lt ok.1 g), md_ropes M ok.sl hk hgs, e, hpc]
    exact ⟨_, rfl, rfl⟩
  rw [if_neg c5, if_neg c5]
  by_cases c6 : y = 6
  · rw [if_pos c6, if_pos c6, q7, md_above M ok.sl hk hgs, e]
    exact ⟨_, rfl, rfl⟩
  rw [if_neg c6, if_neg c6]
  by_cases c7 : y = 7
  · have hpc : popN (belowM (V.rd r) g) = cntTo V.w.length (fun i => blw (V.rd r) i g) := by
      rw [pop_cnt hn (fun i hi => by
        rw [belowM_bit hT hgr] at hi
        exact rv_ltn ok.1 hr (blw_mem hi).1)]
      apply cntTo_congr
      intro i _
      exact belowM_bit hT hgr
    rw [if_pos c7, if_pos c7, q8, Option.bind_some, bitc_spec hbl, md_cnt M ok.sl hk hgs, e, hpc]
    exact ⟨_, rfl, rfl⟩
  rw [if_neg c7, if_neg c7]
  by_cases c8 : y = 8
  · rw [if_pos c8, if_pos c8, q8, Option.bind_some, q9, md_sum M ok.sl hk hgs, e, wsum_below hT hgr]
    exact ⟨_, rfl, rfl⟩
  rw [if_neg c8, if_neg c8]
  exact ⟨_, rfl, rfl⟩
end AT
