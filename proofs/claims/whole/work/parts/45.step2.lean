/-! BOTH SIDES OF ONE CHANGE: cutting and joining. -/
theorem low_facts {l t : List Nat} {r b d : Nat} (h : Tour l) (er : l = r :: t) (hb : b ∈ l) (hd : d ∈ l) (hnb : nbr l b d = true) : b ≠ d ∧ lowOf l b d ∈ l ∧ lowOf l b d ≠ r ∧ ((lowOf l b d = b ∧ par l b = d) ∨ (lowOf l b d = d ∧ par l d = b)) := by
  have hp : (b, d) ∈ prs l := of_decide_eq_true hnb
  obtain ⟨hs, hne⟩ := prs_sym l h b d hp
  unfold lowOf
  by_cases c : fi l b ≤ fi l d
  · obtain ⟨p1, p2⟩ := prs_par h hp c
    rw [if_pos c]
    exact ⟨hne, hd, fun q => p2 ((par_root er).mpr q), Or.inr ⟨rfl, p1⟩⟩
  · obtain ⟨p1, p2⟩ := prs_par h hs (by omega)
    rw [if_neg c]
    exact ⟨hne, hb, fun q => p2 ((par_root er).mpr q), Or.inl ⟨rfl, p1⟩⟩
theorem turnL_0 {l : List Nat} {b : Nat} (h : fi l b = 0) : turnL l b = l := by
  unfold turnL
  rw [h]
  cases l with
  | nil => rfl
  | cons x l => simp
theorem slUp_self (sl : Nat → List Nat) (k : Nat) : slUp sl k (sl k) = sl := by
  funext i
  unfold slUp
  by_cases e : i = k
  · rw [if_pos e, e]
  · rw [if_neg e]
section SU
variable {Λ Λ' : Lay} {μ μ' : Mem} {a b : Nat} {V : Pic} {h : List Pic}
theorem there_eq (ok : PicOK V) (N : RvV Λ μ (lyR Λ a 0) V) (x y : Int32) : sX4_areThere Λ μ a x y = some (if bIn V.w.length x ∧ bIn V.w.length y then 1 else 0) := by
  unfold sX4_areThere
  rw [has_eq N.1 ok.1, Option.bind_some]
  by_cases c : bIn V.w.length x
  · rw [if_pos c, if_neg (by decide), has_eq N.1 ok.1, Option.bind_some]
    by_cases c2 : bIn V.w.length y
    · rw [if_pos c2, if_neg (by decide), if_pos ⟨c, c2⟩]
    · rw [if_neg c2, if_pos rfl, if_neg (fun q => c2 q.2)]
  · rw [if_neg c, if_pos rfl, if_neg (fun q => c q.1)]
theorem step_cut (PC : FrApart Λ a) (PM : MdApart Λ' b) (ok : PicOK V) (N : RvV Λ μ (lyR Λ a 0) V) (M : NowV Λ' μ' (lyR Λ' b 0) V) (H : Hist Λ' μ' b h) (x y : Int32) : ∃ o, CMeets Λ μ a V (sX4_cutRope Λ μ a x y) o ∧ MMeets Λ' μ' b h V (sX5_cut Λ' μ' b x y) o := by
  have hn := ok.1.1
  by_cases cx : bIn V.w.length x
  · by_cases cy : bIn V.w.length y
    · obtain ⟨g, hg, hg31, rfl⟩ := bIn_nat cx
      obtain ⟨d, hd, hd31, rfl⟩ := bIn_nat cy
      obtain ⟨r, k, hr, hgr, hk, e⟩ := rel_at ok.1 ok.2 hg
      obtain ⟨hT, t, ht⟩ := rv_tour ok.1 hr hgr
      have hgs : g ∈ V.sl k := by rw [e]; exact hgr
      have ht2 : sX1_isTied Λ μ (lyR Λ a 0) (nI g) (nI d) = some (if nbr (V.rd r) g d then 1 else 0) := by
        rw [rv_tied N.1 ok.1 hg (by omega)]
        have : (V.p.getD g 0).testBit d = nbr (V.rd r) g d := by
          have := rv_adj ok.1 hr hgr d
          unfold nbr
          by_cases q : (g, d) ∈ prs (V.rd r)
          · rw [this.mpr q, decide_eq_true q]
          · rw [decide_eq_false q]
            cases z : (V.p.getD g 0).testBit d with
            | false => rfl
            | true => exact absurd (this.mp z) q
        rw [this]
      by_cases f : nbr (V.rd r) g d = true
      · have hdr : d ∈ V.rd r := (prs_mem (of_decide_eq_true f)).2
        have hds : d ∈ V.sl k := by rw [e]; exact hdr
        obtain ⟨f1, f2, f3, f4⟩ := low_facts hT ht hgr hdr f
        have hlow12 := rv_lt12 ok.1 hr _ f2
        have h0 := rd_none ok.1 hr f2 f3
        obtain ⟨-, -, -, -, -, -, hla, hpa, -⟩ := cut_all hT ht f2 f3
        obtain ⟨s, μ2, hs, hse, q1, q2⟩ := md_cut PM H M ok hk hgs hds (by rw [e]; exact f) (by rw [e]; exact hla) (he_at ok.1 ok.2 hlow12 h0)
        obtain ⟨k1, k2⟩ := keep_untie ok.1 ok.2 hr f2 f3 hk hs e hse
        have hpl : par (V.rd r) (lowOf (V.rd r) g d) < V.w.length := by
          rcases f4 with z | z
          · rw [z.1, z.2]; exact hd
          · rw [z.1, z.2]; exact hg
        have hpne : par (V.rd r) (lowOf (V.rd r) g d) ≠ lowOf (V.rd r) g d := by
          rcases f4 with z | z
          · rw [z.1, z.2]; exact f1.symm
          · rw [z.1, z.2]; exact f1
        obtain ⟨μ1, r1, r2, r3⟩ := rv_untie (PC.1 0 (by omega)) N ok.1 hr f2 (fun q => f3 ((par_root ht).mp q)) hpl hpne hla
        have hlo : sX1_lowerOf Λ μ (lyR Λ a 0) (nI g) (nI d) = some (nI (lowOf (V.rd r) g d)) := by
          have := rv_lower N.1 ok.1 hr hgr hdr
          rw [this]
          unfold lowOf
          by_cases q : fi (V.rd r) g ≤ fi (V.rd r) d
          · rw [if_pos q, if_pos q]
          · rw [if_neg q, if_neg q]
        rw [e] at q1 q2
        refine ⟨.inr (.inr (lowOf (V.rd r) g d, mkP V.w ((V.p.set (lowOf (V.rd r) g d) (V.p.getD (lowOf (V.rd r) g d) 0 &&& (4095 ^^^ 2 ^ par (V.rd r) (lowOf (V.rd r) g d)))).set (par (V.rd r) (lowOf (V.rd r) g d)) (V.p.getD (par (V.rd r) (lowOf (V.rd r) g d)) 0 &&& (4095 ^^^ 2 ^ lowOf (V.rd r) g d))) (rdUp (rdUp V.rd (lowOf (V.rd r) g d) (cutB (V.rd r) (lowOf (V.rd r) g d))) r (cutA (V.rd r) (lowOf (V.rd r) g d))) (slUp (slUp V.sl k (cutA (V.rd r) (lowOf (V.rd r) g d))) s (cutB (V.rd r) (lowOf (V.rd r) g d))) V.j (V.c + 1) V.t)), ⟨μ1, ?_, by omega, ⟨k1, by rw [e] at k2; exact k2⟩, r2, r3⟩, ⟨μ2, q1, q2⟩⟩
        unfold sX4_cutRope
        rw [there_eq ok N, if_pos ⟨cx, cy⟩, Option.bind_some, if_neg (by decide), ht2, if_pos f, Option.bind_some, if_neg (by decide), hlo, Option.bind_some]
        have hlt31 : lowOf (V.rd r) g d < 2 ^ 31 := by omega
        rcases f4 with z | z
        · rw [z.1] at r1 ⊢
          rw [z.2] at r1
          have r1' : sX1_untie Λ μ (lyR Λ a 0) (nI g) (nI d) = some μ1 := r1
          rw [if_pos rfl, r1']
          rfl
        · rw [z.1] at r1 ⊢
          rw [z.2] at r1
          have r1' : sX1_untie Λ μ (lyR Λ a 0) (nI d) (nI g) = some μ1 := r1
          rw [if_neg (by rw [nI_eq (by omega) (by omega)]; exact f1.symm), r1']
          rfl
      · refine ⟨.inr (.inl (4, nI g)), ⟨μ, ?_, by decide, N, Chg.rf⟩, ?_⟩
        · unfold sX4_cutRope
          rw [there_eq ok N, if_pos ⟨cx, cy⟩, Option.bind_some, if_neg (by decide), ht2, if_neg f, Option.bind_some, if_pos rfl, refuse_eq]
          rfl
        · show sX5_cut Λ' μ' b (nI g) (nI d) = _
          unfold sX5_cut
          rw [isBank_1 M hn hg, Option.bind_some, if_neg (by decide), isBank_1 M hn hd, Option.bind_some, if_neg (by decide), md_one M ok.sl hk hgs hd, Option.bind_some]
          by_cases q : d ∈ V.sl k
          · rw [if_pos q, if_neg (by decide), md_tied M ok.sl hk hgs hd31, e, if_neg f, Option.bind_some, if_pos rfl, md_refuse, Option.bind_some]
            dsimp only
            rw [if_neg (by decide)]
          · rw [if_neg q, if_pos rfl, md_refuse, Option.bind_some]
            dsimp only
            rw [if_neg (by decide)]
    · refine ⟨.inl (-1), ⟨?_, Or.inl rfl⟩, ?_⟩
      · unfold sX4_cutRope
        rw [there_eq ok N, if_neg (fun q => cy q.2), Option.bind_some, if_pos rfl]
      · show sX5_cut Λ' μ' b x y = _
        unfold sX5_cut
        rw [isBank_eq M hn, if_pos cx, Option.bind_some, if_neg (by decide), isBank_eq M hn, if_neg cy, Option.bind_some, if_pos rfl]
  · refine ⟨.inl (-1), ⟨?_, Or.inl rfl⟩, ?_⟩
    · unfold sX4_cutRope
      rw [there_eq ok N, if_neg (fun q => cx q.1), Option.bind_some, if_pos rfl]
    · show sX5_cut Λ' μ' b x y = _
      unfold sX5_cut
      rw [isBank_eq M hn, if_neg cx, Option.bind_some, if_pos rfl]
/-- the other part is told from the bank that the rope goes to -/
theorem turn_for (PC : FrApart Λ a) (ok : PicOK V) (N : RvV Λ μ (lyR Λ a 0) V) {r r2 k k2 x g : Nat} (hr : r < 12) (hx : x ∈ V.rd r) (hk : k < 12) (e : V.sl k = V.rd r) (hr2 : r2 < 12) (hg : g ∈ V.rd r2) (hk2 : k2 < 12) (e2 : V.sl k2 = V.rd r2) (hrr : r ≠ r2) (hkk : k ≠ k2) : ∃ μ1 rd1, sX1_turnTo Λ μ (lyR Λ a 0) (nI g) = some μ1 ∧ RvS Λ μ1 (lyR Λ a 0) V.w V.p rd1 V.j V.c V.t ∧ Chg Λ μ μ1 (rvRow Λ (lyR Λ a 0)) (rvFld (lyR Λ a 0)) ∧ RvOK V.w V.p rd1 ∧ Rel rd1 (slUp V.sl k2 (turnL (V.sl k2) g)) ∧ rd1 r = V.rd r ∧ rd1 g = turnL (V.sl k2) g ∧ rd1 g ≠ [] ∧ g ≠ r ∧ g < 12 := by
  obtain ⟨hT2, t2, ht2⟩ := rv_tour ok.1 hr2 hg
  have hg12 := rv_lt12 ok.1 hr2 g hg
  have hgr : g ≠ r := fun q => hrr (ok.1.2.2.2.2.2.2.2.1 r r2 g hr hr2 (by rw [q]; exact rv_root_mem ok.1 hr hx) hg)
  by_cases f : g = r2
  · have h0 : fi (V.rd r2) g = 0 := (par_root ht2).mpr f
    refine ⟨μ, V.rd, rv_turn0 N.1 ok.1 hr2 hg h0, N, Chg.rf, ok.1, ?_, rfl, ?_, ?_, hgr, hg12⟩
    · rw [turnL_0 (by rw [e2]; exact h0), slUp_self]; exact ok.2
    · rw [turnL_0 (by rw [e2]; exact h0), e2, f]
    · rw [f, ht2]; simp
  · have h0 : fi (V.rd r2) g ≠ 0 := fun q => f ((par_root ht2).mp q)
    obtain ⟨μ1, r1, r2', r3⟩ := rv_turn (PC.1 0 (by omega)) N ok.1 hr2 hg h0
    obtain ⟨k1, k2'⟩ := keep_turn ok.1 ok.2 hr2 hg f hk2 e2
    obtain ⟨-, ⟨t3, t4⟩, -⟩ := turn_all hT2 ht2 hg f
    have hgg : rdUp (rdUp V.rd g (turnL (V.rd r2) g)) r2 [] g = turnL (V.rd r2) g := by
      unfold rdUp
      rw [if_neg f, if_pos rfl]
    refine ⟨μ1, _, r1, r2', r3, k1, k2', ?_, ?_, ?_, hgr, hg12⟩
    · unfold rdUp
      rw [if_neg hrr, if_neg (fun q => hgr q.symm)]
    · rw [hgg, e2]
    · rw [hgg, t4]; simp
theorem step_join (PC : FrApart Λ a) (PM : MdApart Λ' b) (ok : PicOK V) (N : RvV Λ μ (lyR Λ a 0) V) (M : NowV Λ' μ' (lyR Λ' b 0) V) (H : Hist Λ' μ' b h) (x y : Int32) : ∃ o, CMeets Λ μ a V (sX4_joinBanks Λ μ a x y) o ∧ MMeets Λ' μ' b h V (sX5_join Λ' μ' b x y) o := by
  have hn := ok.1.1
  by_cases cx : bIn V.w.length x
  · by_cases cy : bIn V.w.length y
    · obtain ⟨d, hd, hd31, rfl⟩ := bIn_nat cx
      obtain ⟨g, hg, hg31, rfl⟩ := bIn_nat cy
      obtain ⟨r, k, hr, hdr, hk, e⟩ := rel_at ok.1 ok.2 hd
      obtain ⟨hT, t, ht⟩ := rv_tour ok.1 hr hdr
      have hds : d ∈ V.sl k := by rw [e]; exact hdr
      have hrt : sX1_rootOf Λ μ (lyR Λ a 0) (nI d) = some (nI r) := rv_root N.1 ok.1 hr hdr
      have hrw := rv_ltn ok.1 hr (rv_root_mem ok.1 hr hdr)
      by_cases f : d = g
      · refine ⟨.inr (.inl (2, nI d)), ⟨μ, ?_, by decide, N, Chg.rf⟩, ?_⟩
        · unfold sX4_joinBanks
          rw [there_eq ok N, if_pos ⟨cx, cy⟩, Option.bind_some, if_neg (by decide), if_pos (by rw [f]), refuse_eq]
          rfl
        · show sX5_join Λ' μ' b (nI d) (nI g) = _
          unfold sX5_join
          rw [isBank_1 M hn hd, Option.bind_some, if_neg (by decide), isBank_1 M hn hg, Option.bind_some, if_neg (by decide), if_pos (by rw [f]), md_refuse, Option.bind_some]
          dsimp only
          rw [if_neg (by decide)]
      · have hone : sX1_isOnePart Λ μ (lyR Λ a 0) (nI d) (nI g) = some (if g ∈ V.rd r then 1 else 0) := rv_one N.1 ok.1 hr hdr hg31
        by_cases f2 : g ∈ V.rd r
        · refine ⟨.inr (.inl (3, nI r)), ⟨μ, ?_, by decide, N, Chg.rf⟩, ?_⟩
          · unfold sX4_joinBanks
            rw [there_eq ok N, if_pos ⟨cx, cy⟩, Option.bind_some, if_neg (by decide), if_neg (by rw [nI_eq (by omega) (by omega)]; exact f), hone, if_pos f2, Option.bind_some, if_neg (by decide), hrt, Option.bind_some, refuse_eq]
            rfl
          · show sX5_join Λ' μ' b (nI d) (nI g) = _
            unfold sX5_join
            rw [isBank_1 M hn hd, Option.bind_some, if_neg (by decide), isBank_1 M hn hg, Option.bind_some, if_neg (by decide), if_neg (by rw [nI_eq (by omega) (by omega)]; exact f), md_refuse0, Option.bind_some]
            dsimp only
            rw [if_pos rfl, md_one M ok.sl hk hds hg, if_pos (by rw [e]; exact f2), Option.bind_some, md_root M ok.sl hk hds (e.trans ht), Option.bind_some, md_refuse, Option.bind_some]
            dsimp only
            rw [if_neg (by decide)]
        · obtain ⟨r2, k2, hr2, hgr2, hk2, e2⟩ := rel_at ok.1 ok.2 hg
          have hgs : g ∈ V.sl k2 := by rw [e2]; exact hgr2
          have hrr : r ≠ r2 := fun q => f2 (by rw [q]; exact hgr2)
          have hkk : k ≠ k2 := fun q => f2 (by rw [← e, q]; exact hgs)
          obtain ⟨μ1, rd1, q1, q2, q3, q4, q5, q6, q7, q8, q9, q10⟩ := turn_for PC ok N hr hdr hk e hr2 hgr2 hk2 e2 hrr hkk
          have hd1 : d ∈ rd1 r := by rw [q6]; exact hdr
          have s1 : slUp V.sl k2 (turnL (V.sl k2) g) k = rd1 r := by
            unfold slUp
            rw [if_neg hkk, q6, e]
          have s2 : slUp V.sl k2 (turnL (V.sl k2) g) k2 = rd1 g := by
            unfold slUp
            rw [if_pos rfl, q7]
          obtain ⟨k0, k1, k3⟩ := keep_tie q4 q5 hr hd1 q10 q8 q9 hk hk2 s1 s2
          have hlT : (turnL (V.sl k2) g).length = (V.sl k2).length := by
            have := fi_lt hgs
            unfold turnL; simp; omega
          have esl : slUp (slUp (slUp V.sl k2 (turnL (V.sl k2) g)) k (insL (slUp V.sl k2 (turnL (V.sl k2) g) k) d (slUp V.sl k2 (turnL (V.sl k2) g) k2))) k2 [] = slUp (slUp V.sl k (insL (V.sl k) d (turnL (V.sl k2) g))) k2 [] := by
            rw [s1, s2, q7, q6, e]
            funext i
            unfold slUp
            by_cases z1 : i = k2
            · rw [if_pos z1, if_pos z1]
            · rw [if_neg z1, if_neg z1]
              by_cases z2 : i = k
              · rw [if_pos z2, if_neg z1]
              · rw [if_neg z2, if_neg z1]
          rw [esl] at k3
          obtain ⟨μ2, m1, m2⟩ := md_join PM H M ok hk hk2 hds hgs hkk (e.trans ht) (by rw [e, ← hlT, ← q7, ← q6]; exact k0) (rel_ok q4 q5) (rel_ok k1 k3)
          obtain ⟨μ3, r1, r2', r3⟩ := rv_tie (PC.1 0 (by omega)) q2 q4 hr hd1 q10 q8 q9 k0
          have hI : rdUp (rdUp rd1 r (insL (rd1 r) d (rd1 g))) g [] r = insL (V.sl k) d (turnL (V.sl k2) g) := by
            unfold rdUp
            rw [if_neg (fun q => q9 q.symm), if_pos rfl, q6, q7, e]
          have hdI : d ∈ rdUp (rdUp rd1 r (insL (rd1 r) d (rd1 g))) g [] r := by
            rw [hI]; unfold insL; simp
          have hTI := (rv_tour k1 hr hdI).1
          have hl12 := rv_lt12 k1 hr
          rw [hI] at hTI hl12
          have hbw : sX1_banksWith Λ μ3 (lyR Λ a 0) (nI d) = some (nI (msk (insL (V.sl k) d (turnL (V.sl k2) g)))) := by
            have := rv_all r2'.1 k1 hr hdI
            rw [hI] at this
            exact this
          have hpop := pop_tour hTI hl12
          have hlen23 := rv_lenK k1 hr
          rw [hI] at hlen23
          refine ⟨.inr (.inr (((insL (V.sl k) d (turnL (V.sl k2) g)).length + 1) / 2, mkP V.w _ _ (slUp (slUp V.sl k (insL (V.sl k) d (turnL (V.sl k2) g))) k2 []) (V.j + 1) V.c V.t)), ⟨μ3, ?_, by omega, ⟨k1, k3⟩, r2', q3.tr r3⟩, ⟨μ2, m1, m2⟩⟩
          have r1' : sX1_tie Λ μ1 (lyR Λ a 0) (nI d) (nI g) = some μ3 := r1
          unfold sX4_joinBanks
          rw [there_eq ok N, if_pos ⟨cx, cy⟩, Option.bind_some, if_neg (by decide), if_neg (by rw [nI_eq (by omega) (by omega)]; exact f), hone, if_neg f2, Option.bind_some, if_pos rfl, q1, Option.bind_some, r1', Option.bind_some, hbw, Option.bind_some, bitc_spec (msk_lt hl12), Option.bind_some, hpop]
    · refine ⟨.inl (-1), ⟨?_, Or.inl rfl⟩, ?_⟩
      · unfold sX4_joinBanks
        rw [there_eq ok N, if_neg (fun q => cy q.2), Option.bind_some, if_pos rfl]
      · show sX5_join Λ' μ' b x y = _
        unfold sX5_join
        rw [isBank_eq M hn, if_pos cx, Option.bind_some, if_neg (by decide), isBank_eq M hn, if_neg cy, Option.bind_some, if_pos rfl]
  · refine ⟨.inl (-1), ⟨?_, Or.inl rfl⟩, ?_⟩
    · unfold sX4_joinBanks
      rw [there_eq ok N, if_neg (fun q => cx q.1), Option.bind_some, if_pos rfl]
    · show sX5_join Λ' μ' b x y = _
      unfold sX5_join
      rw [isBank_eq M hn, if_neg cx, Option.bind_some, if_pos rfl]
end SU
