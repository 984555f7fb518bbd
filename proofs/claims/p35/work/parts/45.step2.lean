/-! ONE CHANGE OF THE CLASS: cutting and joining. -/
theorem low_facts {l t : List Nat} {r b d : Nat} (h : Tour l) (er : l = r :: t) (hb : b ∈ l) (hd : d ∈ l) (hnb : nbr l b d = true) : b ≠ d ∧ lowOf l b d ∈ l ∧ lowOf l b d ≠ r ∧ ((lowOf l b d = b ∧ par l b = d) ∨ (lowOf l b d = d ∧ par l d = b)) := by
  have hp : (b, d) ∈ prs l := of_decide_eq_true hnb
  obtain ⟨hs, hne⟩ := prs_sym l h b d hp
  unfold lowOf
  by_cases c : fi l b ≤ fi l d
  · obtain ⟨p1, p2⟩ := prs_par h hp c
    rw [if_pos c]
    exact ⟨hne, hd, fun q => p2 ((par_root er).mpr q), Or.inr ⟨rfl, p1⟩⟩
  · obtain ⟨p1, p2⟩ := prs_par h hs (by omega)
    rw [if_neg c]
    exact ⟨hne, hb, fun q => p2 ((par_root er).mpr q), Or.inl ⟨rfl, p1⟩⟩
theorem turnL_0 {l : List Nat} {b : Nat} (h : fi l b = 0) : turnL l b = l := by
  unfold turnL
  rw [h]
  cases l with
  | nil => rfl
  | cons x l => simp
section SU
variable {Λ : Lay} {μ : Mem} {a : Nat} {V : Pic}
theorem there_eq (ok : PicOK V) (N : RvV Λ μ (lyR Λ a 0) V) (x y : Int32) : sX4_areThere Λ μ a x y = some (if bIn V.w.length x ∧ bIn V.w.length y then 1 else 0) := by
  unfold sX4_areThere
  rw [has_eq N.1 ok.1, Option.bind_some]
  by_cases c : bIn V.w.length x
  · rw [if_pos c, if_neg (by decide), has_eq N.1 ok.1, Option.bind_some]
    by_cases c2 : bIn V.w.length y
    · rw [if_pos c2, if_neg (by decide), if_pos ⟨c, c2⟩]
    · rw [if_neg c2, if_pos rfl, if_neg (fun q => c2 q.2)]
  · rw [if_neg c, if_pos rfl, if_neg (fun q => c q.1)]
theorem tied_nbr (N : RvV Λ μ (lyR Λ a 0) V) (ok : PicOK V) {g d r : Nat} (hr : r < 12) (hgr : g ∈ V.rd r) (hd : d < V.w.length) : sX1_isTied Λ μ (lyR Λ a 0) (nI g) (nI d) = some (if nbr (V.rd r) g d then 1 else 0) := by
  have hn := ok.1.1
  rw [rv_tied N.1 ok.1 (rv_ltn ok.1 hr hgr) (by omega)]
  have : (V.p.getD g 0).testBit d = nbr (V.rd r) g d := by
    have := rv_adj ok.1 hr hgr d
    unfold nbr
    by_cases q : (g, d) ∈ prs (V.rd r)
    · rw [this.mpr q, decide_eq_true q]
    · rw [decide_eq_false q]
      cases z : (V.p.getD g 0).testBit d with
      | false => rfl
      | true => exact absurd (this.mp z) q
  rw [this]
/-- the picture with the rope above b cut, b in the part of r -/
def cutP (V : Pic) (r b : Nat) : Pic := mkP V.w ((V.p.set b (V.p.getD b 0 &&& (4095 ^^^ 2 ^ par (V.rd r) b))).set (par (V.rd r) b) (V.p.getD (par (V.rd r) b) 0 &&& (4095 ^^^ 2 ^ b))) (rdUp (rdUp V.rd b (cutB (V.rd r) b)) r (cutA (V.rd r) b)) V.sl V.j (V.c + 1) V.t
theorem cut_ok (ok : PicOK V) {r b : Nat} (hr : r < 12) (hb : b ∈ V.rd r) (hne : b ≠ r) : PicOK (cutP V r b) := by
  obtain ⟨hT, t, ht⟩ := rv_tour ok.1 hr hb
  have h0 := rd_none ok.1 hr hb hne
  have hb12 := rv_lt12 ok.1 hr b hb
  obtain ⟨k1, -⟩ := keep_untie ok.1 (rel_rf ok.1) hr hb hne hr hb12 rfl h0
  obtain ⟨-, -, ⟨s1, z1⟩, ⟨s2, z2⟩, -⟩ := cut_all hT ht hb hne
  refine ⟨k1, ?_⟩
  have hc := cnt_up (rd := V.rd) hb12 (cutB (V.rd r) b)
  rw [if_neg (fun q => q h0), if_pos (by rw [z2]; simp)] at hc
  have hc2 := cnt_up (rd := rdUp V.rd b (cutB (V.rd r) b)) hr (cutA (V.rd r) b)
  have e : rdUp V.rd b (cutB (V.rd r) b) r = V.rd r := by unfold rdUp; rw [if_neg (fun q => hne q.symm)]
  rw [e, if_pos (by rw [ht]; simp), if_pos (by rw [z1]; simp)] at hc2
  show V.j - (V.c + 1) + nI (cntTo 12 (rooted (rdUp (rdUp V.rd b (cutB (V.rd r) b)) r (cutA (V.rd r) b)))) = nI V.w.length
  rw [show cntTo 12 (rooted (rdUp (rdUp V.rd b (cutB (V.rd r) b)) r (cutA (V.rd r) b))) = cntTo 12 (rooted V.rd) + 1 by omega]
  exact jc_cut ok.2
/-- a rope cut: which picture comes -/
theorem cs_cutY (PC : FrApart Λ a) (ok : PicOK V) (N : RvV Λ μ (lyR Λ a 0) V) {g d r : Nat} (hr : r < 12) (hgr : g ∈ V.rd r) (hdr : d ∈ V.rd r) (f : nbr (V.rd r) g d = true) : ∃ μ1, sX4_cutRope Λ μ a (nI g) (nI d) = some (nI (lowOf (V.rd r) g d), μ1) ∧ RvV Λ μ1 (lyR Λ a 0) (cutP V r (lowOf (V.rd r) g d)) ∧ Chg Λ μ μ1 (rvRow Λ (lyR Λ a 0)) (rvFld (lyR Λ a 0)) := by
  have hn := ok.1.1
  have hg := rv_ltn ok.1 hr hgr
  have hd := rv_ltn ok.1 hr hdr
  have cx : bIn V.w.length (nI g) := ⟨by rw [nI_toInt (by omega)]; omega, by rw [nI_toInt (by omega)]; omega⟩
  have cy : bIn V.w.length (nI d) := ⟨by rw [nI_toInt (by omega)]; omega, by rw [nI_toInt (by omega)]; omega⟩
  obtain ⟨hT, t, ht⟩ := rv_tour ok.1 hr hgr
  have ht2 := tied_nbr N ok hr hgr hd
  obtain ⟨f1, f2, f3, f4⟩ := low_facts hT ht hgr hdr f
  have hlow12 := rv_lt12 ok.1 hr _ f2
  obtain ⟨-, -, -, -, -, -, hla, hpa, -⟩ := cut_all hT ht f2 f3
  have hpl : par (V.rd r) (lowOf (V.rd r) g d) < V.w.length := by
    rcases f4 with z | z
    · rw [z.1, z.2]; exact hd
    · rw [z.1, z.2]; exact hg
  have hpne : par (V.rd r) (lowOf (V.rd r) g d) ≠ lowOf (V.rd r) g d := by
    rcases f4 with z | z
    · rw [z.1, z.2]; exact f1.symm
    · rw [z.1, z.2]; exact f1
  obtain ⟨μ1, r1, r2, r3⟩ := rv_untie (PC.1 0 (by omega)) N ok.1 hr f2 (fun q => f3 ((par_root ht).mp q)) hpl hpne hla
  have hlo : sX1_lowerOf Λ μ (lyR Λ a 0) (nI g) (nI d) = some (nI (lowOf (V.rd r) g d)) := by
    have := rv_lower N.1 ok.1 hr hgr hdr
    rw [this]
    unfold lowOf
    by_cases q : fi (V.rd r) g ≤ fi (V.rd r) d
    · rw [if_pos q, if_pos q]
    · rw [if_neg q, if_neg q]
  refine ⟨μ1, ?_, r2, r3⟩
  unfold sX4_cutRope
  rw [there_eq ok N, if_pos ⟨cx, cy⟩, Option.bind_some, if_neg (by decide), ht2, if_pos f, Option.bind_some, if_neg (by decide), hlo, Option.bind_some]
  have hlt31 : lowOf (V.rd r) g d < 2 ^ 31 := by omega
  rcases f4 with z | z
  · rw [z.1] at r1 ⊢
    rw [z.2] at r1
    have r1' : sX1_untie Λ μ (lyR Λ a 0) (nI g) (nI d) = some μ1 := r1
    rw [if_pos rfl, r1']
    rfl
  · rw [z.1] at r1 ⊢
    rw [z.2] at r1
    have r1' : sX1_untie Λ μ (lyR Λ a 0) (nI d) (nI g) = some μ1 := r1
    rw [if_neg (by rw [nI_eq (by omega) (by omega)]; exact f1.symm), r1']
    rfl
/-- which answer a cut gives -/
theorem cs_cutN (ok : PicOK V) (N : RvV Λ μ (lyR Λ a 0) V) {g d r : Nat} (hr : r < 12) (hgr : g ∈ V.rd r) (hd : d < V.w.length) (f : ¬ nbr (V.rd r) g d = true) : sX4_cutRope Λ μ a (nI g) (nI d) = some (-3, refC μ a 4 (nI g)) := by
  have hn := ok.1.1
  have hg := rv_ltn ok.1 hr hgr
  have cx : bIn V.w.length (nI g) := ⟨by rw [nI_toInt (by omega)]; omega, by rw [nI_toInt (by omega)]; omega⟩
  have cy : bIn V.w.length (nI d) := ⟨by rw [nI_toInt (by omega)]; omega, by rw [nI_toInt (by omega)]; omega⟩
  unfold sX4_cutRope
  rw [there_eq ok N, if_pos ⟨cx, cy⟩, Option.bind_some, if_neg (by decide), tied_nbr N ok hr hgr hd, if_neg f, Option.bind_some, if_pos rfl, refuse_eq]
  rfl
theorem cs_cut0 (ok : PicOK V) (N : RvV Λ μ (lyR Λ a 0) V) {x y : Int32} (h : ¬ (bIn V.w.length x ∧ bIn V.w.length y)) : sX4_cutRope Λ μ a x y = some (-1, μ) := by
  unfold sX4_cutRope
  rw [there_eq ok N, if_neg h, Option.bind_some, if_pos rfl]
theorem cs_cut (PC : FrApart Λ a) (ok : PicOK V) (N : RvV Λ μ (lyR Λ a 0) V) (x y : Int32) : ∃ o, CMeets Λ μ a V (sX4_cutRope Λ μ a x y) o := by
  have hn := ok.1.1
  by_cases c : bIn V.w.length x ∧ bIn V.w.length y
  · obtain ⟨g, hg, hg31, rfl⟩ := bIn_nat c.1
    obtain ⟨d, hd, hd31, rfl⟩ := bIn_nat c.2
    obtain ⟨r, hr, hgr⟩ := ok_at ok hg
    obtain ⟨hT, t, ht⟩ := rv_tour ok.1 hr hgr
    by_cases f : nbr (V.rd r) g d = true
    · have hdr : d ∈ V.rd r := (prs_mem (of_decide_eq_true f)).2
      obtain ⟨f1, f2, f3, f4⟩ := low_facts hT ht hgr hdr f
      obtain ⟨μ1, q1, q2, q3⟩ := cs_cutY PC ok N hr hgr hdr f
      have hlow12 := rv_lt12 ok.1 hr _ f2
      exact ⟨.inr (.inr (lowOf (V.rd r) g d, cutP V r (lowOf (V.rd r) g d))), μ1, q1, by omega, cut_ok ok hr f2 f3, q2, q3⟩
    · exact ⟨.inr (.inl (4, nI g)), μ, cs_cutN ok N hr hgr hd f, by decide, N, Chg.rf⟩
  · exact ⟨.inl (-1), cs_cut0 ok N c, Or.inl rfl⟩
/-- two parts joined: which picture comes -/
theorem cs_joinY (PC : FrApart Λ a) (ok : PicOK V) (N : RvV Λ μ (lyR Λ a 0) V) {r r2 d g : Nat} (hr : r < 12) (hdr : d ∈ V.rd r) (hr2 : r2 < 12) (hg2 : g ∈ V.rd r2) (hrr : r ≠ r2) : ∃ μ1 V', sX4_joinBanks Λ μ a (nI d) (nI g) = some (nI (((V.rd r).length + (V.rd r2).length + 2) / 2), μ1) ∧ PicOK V' ∧ RvV Λ μ1 (lyR Λ a 0) V' ∧ Chg Λ μ μ1 (rvRow Λ (lyR Λ a 0)) (rvFld (lyR Λ a 0)) ∧ V'.w = V.w ∧ (d, g) ∈ prs (V'.rd r) := by
  have hn := ok.1.1
  have hd := rv_ltn ok.1 hr hdr
  have hg := rv_ltn ok.1 hr2 hg2
  have cx : bIn V.w.length (nI d) := ⟨by rw [nI_toInt (by omega)]; omega, by rw [nI_toInt (by omega)]; omega⟩
  have cy : bIn V.w.length (nI g) := ⟨by rw [nI_toInt (by omega)]; omega, by rw [nI_toInt (by omega)]; omega⟩
  obtain ⟨hT, t, ht⟩ := rv_tour ok.1 hr hdr
  obtain ⟨hT2, t2, ht2⟩ := rv_tour ok.1 hr2 hg2
  have hg12 := rv_lt12 ok.1 hr2 g hg2
  have hgr : g ≠ r := fun q => hrr (ok.1.2.2.2.2.2.2.2.1 r r2 g hr hr2 (by rw [q]; exact rv_root_mem ok.1 hr hdr) hg2)
  have f : d ≠ g := fun q => hrr (ok.1.2.2.2.2.2.2.2.1 r r2 d hr hr2 hdr (by rw [q]; exact hg2))
  have f2 : g ∉ V.rd r := fun q => hrr (ok.1.2.2.2.2.2.2.2.1 r r2 g hr hr2 q hg2)
  have hone : sX1_isOnePart Λ μ (lyR Λ a 0) (nI d) (nI g) = some (if g ∈ V.rd r then 1 else 0) := rv_one N.1 ok.1 hr hdr (by omega)
  obtain ⟨μ1, rd1, q1, q2, q3, q4, qj, q6, q7, q8⟩ : ∃ μ1 rd1, sX1_turnTo Λ μ (lyR Λ a 0) (nI g) = some μ1 ∧ RvS Λ μ1 (lyR Λ a 0) V.w V.p rd1 V.j V.c V.t ∧ Chg Λ μ μ1 (rvRow Λ (lyR Λ a 0)) (rvFld (lyR Λ a 0)) ∧ RvOK V.w V.p rd1 ∧ JC V.w rd1 V.j V.c ∧ rd1 r = V.rd r ∧ rd1 g = turnL (V.rd r2) g ∧ rd1 g ≠ [] := by
    by_cases z : g = r2
    · have h0 : fi (V.rd r2) g = 0 := (par_root ht2).mpr z
      refine ⟨μ, V.rd, rv_turn0 N.1 ok.1 hr2 hg2 h0, N, Chg.rf, ok.1, ok.2, rfl, ?_, ?_⟩
      · rw [turnL_0 h0, z]
      · rw [z, ht2]; simp
    · have h0 : fi (V.rd r2) g ≠ 0 := fun q => z ((par_root ht2).mp q)
      obtain ⟨μ1, r1, r2', r3⟩ := rv_turn (PC.1 0 (by omega)) N ok.1 hr2 hg2 h0
      obtain ⟨k1, k2⟩ := turn_ok ok hr2 hg2 z V.j V.c ok.2
      obtain ⟨-, ⟨t3, t4⟩, -⟩ := turn_all hT2 ht2 hg2 z
      have hgg : rdUp (rdUp V.rd g (turnL (V.rd r2) g)) r2 [] g = turnL (V.rd r2) g := by
        unfold rdUp
        rw [if_neg z, if_pos rfl]
      refine ⟨μ1, _, r1, r2', r3, k1, k2, ?_, hgg, ?_⟩
      · unfold rdUp
        rw [if_neg hrr, if_neg (fun q => hgr q.symm)]
      · rw [hgg, t4]; simp
  have hd1 : d ∈ rd1 r := by rw [q6]; exact hdr
  obtain ⟨k0, k1, -⟩ := keep_tie q4 (rel_rf q4) hr hd1 hg12 q8 hgr hr hg12 rfl rfl
  obtain ⟨μ3, r1, r2', r3⟩ := rv_tie (PC.1 0 (by omega)) q2 q4 hr hd1 hg12 q8 hgr k0
  have hI : rdUp (rdUp rd1 r (insL (rd1 r) d (rd1 g))) g [] r = insL (rd1 r) d (rd1 g) := by
    unfold rdUp
    rw [if_neg (fun q => hgr q.symm), if_pos rfl]
  have hdI : d ∈ rdUp (rdUp rd1 r (insL (rd1 r) d (rd1 g))) g [] r := by
    rw [hI]; unfold insL; simp
  have hTI := (rv_tour k1 hr hdI).1
  have hl12 := rv_lt12 k1 hr
  rw [hI] at hTI hl12
  have hbw : sX1_banksWith Λ μ3 (lyR Λ a 0) (nI d) = some (nI (msk (insL (rd1 r) d (rd1 g)))) := by
    have := rv_all r2'.1 k1 hr hdI
    rw [hI] at this
    exact this
  have hlT : (rd1 g).length = (V.rd r2).length := by
    rw [q7]
    have := fi_lt hg2
    unfold turnL; simp; omega
  have hlI : (insL (rd1 r) d (rd1 g)).length = (V.rd r).length + (V.rd r2).length + 1 := by
    have := fi_lt hd1
    unfold insL
    simp only [List.length_append, List.length_take, List.length_cons, List.length_drop, hlT]
    rw [q6] at this ⊢
    omega
  have hpop := pop_tour hTI hl12
  rw [hlI] at hpop
  have hgT := rd_self q4 hg12 q8
  obtain ⟨tg, htg⟩ := (q4.2.2.2.2.1 g hg12 q8).2
  have hTg := (q4.2.2.2.2.1 g hg12 q8).1
  have hT1 := (rv_tour q4 hr hd1).1
  obtain ⟨-, -, -, i4⟩ := ins_all hT1 hd1 hTg htg (fun y h1 h2 => hgr (q4.2.2.2.2.2.2.2.1 g r y hg12 hr h1 h2))
  have hc := cnt_up (rd := rd1) hr (insL (rd1 r) d (rd1 g))
  rw [if_pos (fun q => by rw [q] at hd1; cases hd1), if_pos (fun q => by rw [← hI] at q; rw [q] at hdI; cases hdI)] at hc
  have hc2 := cnt_up (rd := rdUp rd1 r (insL (rd1 r) d (rd1 g))) hg12 []
  have e : rdUp rd1 r (insL (rd1 r) d (rd1 g)) g = rd1 g := by unfold rdUp; rw [if_neg hgr]
  rw [e, if_pos q8, if_neg (by simp)] at hc2
  have hj : JC V.w (rdUp (rdUp rd1 r (insL (rd1 r) d (rd1 g))) g []) (V.j + 1) V.c := by
    unfold JC
    refine jc_tie ?_
    have := qj
    unfold JC at this
    rw [show cntTo 12 (rooted (rdUp (rdUp rd1 r (insL (rd1 r) d (rd1 g))) g [])) + 1 = cntTo 12 (rooted rd1) by omega]
    exact this
  refine ⟨μ3, mkP V.w _ (rdUp (rdUp rd1 r (insL (rd1 r) d (rd1 g))) g []) V.sl (V.j + 1) V.c V.t, ?_, ⟨k1, hj⟩, r2', q3.tr r3, rfl, ?_⟩
  · have r1' : sX1_tie Λ μ1 (lyR Λ a 0) (nI d) (nI g) = some μ3 := r1
    unfold sX4_joinBanks
    rw [there_eq ok N, if_pos ⟨cx, cy⟩, Option.bind_some, if_neg (by decide), if_neg (by rw [nI_eq (by omega) (by omega)]; exact f), hone, if_neg f2, Option.bind_some, if_pos rfl, q1, Option.bind_some, r1', Option.bind_some, hbw, Option.bind_some, bitc_spec (msk_lt hl12), Option.bind_some, hpop]
  · show (d, g) ∈ prs (rdUp (rdUp rd1 r (insL (rd1 r) d (rd1 g))) g [] r)
    rw [hI]
    exact (i4 d g).mpr (Or.inr (Or.inr (Or.inl ⟨rfl, rfl⟩)))
theorem cs_join (PC : FrApart Λ a) (ok : PicOK V) (N : RvV Λ μ (lyR Λ a 0) V) (x y : Int32) : ∃ o, CMeets Λ μ a V (sX4_joinBanks Λ μ a x y) o := by
  have hn := ok.1.1
  by_cases c : bIn V.w.length x ∧ bIn V.w.length y
  · obtain ⟨d, hd, hd31, rfl⟩ := bIn_nat c.1
    obtain ⟨g, hg, hg31, rfl⟩ := bIn_nat c.2
    obtain ⟨r, hr, hdr⟩ := ok_at ok hd
    have hrt : sX1_rootOf Λ μ (lyR Λ a 0) (nI d) = some (nI r) := rv_root N.1 ok.1 hr hdr
    by_cases f : d = g
    · refine ⟨.inr (.inl (2, nI d)), μ, ?_, by decide, N, Chg.rf⟩
      unfold sX4_joinBanks
      rw [there_eq ok N, if_pos c, Option.bind_some, if_neg (by decide), if_pos (by rw [f]), refuse_eq]
      rfl
    · have hone : sX1_isOnePart Λ μ (lyR Λ a 0) (nI d) (nI g) = some (if g ∈ V.rd r then 1 else 0) := rv_one N.1 ok.1 hr hdr hg31
      by_cases f2 : g ∈ V.rd r
      · refine ⟨.inr (.inl (3, nI r)), μ, ?_, by decide, N, Chg.rf⟩
        unfold sX4_joinBanks
        rw [there_eq ok N, if_pos c, Option.bind_some, if_neg (by decide), if_neg (by rw [nI_eq (by omega) (by omega)]; exact f), hone, if_pos f2, Option.bind_some, if_neg (by decide), hrt, Option.bind_some, refuse_eq]
        rfl
      · obtain ⟨r2, hr2, hg2⟩ := ok_at ok hg
        have hrr : r ≠ r2 := fun q => f2 (by rw [q]; exact hg2)
        obtain ⟨μ1, V', j1, j2, j3, j4, -, -⟩ := cs_joinY PC ok N hr hdr hr2 hg2 hrr
        have l1 := rv_lenK ok.1 hr
        have l2 := rv_lenK ok.1 hr2
        exact ⟨.inr (.inr (_, V')), μ1, j1, by omega, j2, j3, j4⟩
  · refine ⟨.inl (-1), ?_, Or.inl rfl⟩
    unfold sX4_joinBanks
    rw [there_eq ok N, if_neg c, Option.bind_some, if_pos rfl]
end SU
