/-! ONE CHANGE OF THE CLASS: adding, weighing, turning, rising. -/
/-- an answer below zero; a refusal with its number and value; or an answer and a new picture -/
abbrev Out := Int32 ⊕ (Int32 × Int32) ⊕ (Nat × Pic)
def refC (μ : Mem) (a : Nat) (r v : Int32) : Mem := stI (stI (stI μ a 7 r) a 8 v) a 9 (mI μ a 10)
def CMeets (Λ : Lay) (μ : Mem) (a : Nat) (V : Pic) (f : Option (Int32 × Mem)) : Out → Prop
  | .inl c => f = some (c, μ) ∧ (c = -1 ∨ c = -2)
  | .inr (.inl (r, v)) => ∃ μ1, f = some (-3, refC μ1 a r v) ∧ r ≠ 0 ∧ RvV Λ μ1 (lyR Λ a 0) V ∧ Chg Λ μ μ1 (rvRow Λ (lyR Λ a 0)) (rvFld (lyR Λ a 0))
  | .inr (.inr (n, V')) => ∃ μ1, f = some (nI n, μ1) ∧ n < 2 ^ 31 ∧ PicOK V' ∧ RvV Λ μ1 (lyR Λ a 0) V' ∧ Chg Λ μ μ1 (rvRow Λ (lyR Λ a 0)) (rvFld (lyR Λ a 0))
theorem refuse_eq (Λ : Lay) (μ : Mem) (a : Nat) (r v : Int32) : sX4_refuse Λ μ a r v = some (-3, refC μ a r v) := by
  unfold sX4_refuse refC
  simp only [bnd]
  rw [mI_ne (by omega), mI_ne (by omega)]
theorem has_eq {Λ : Lay} {μ : Mem} {a : Nat} {w p : List Nat} {rd : Nat → List Nat} (V : Riv Λ μ a w p rd) (O : RvOK w p rd) (x : Int32) : sX1_has Λ μ a x = some (if bIn w.length x then 1 else 0) := rv_has V O x
theorem pop_tour {l : List Nat} (h : Tour l) (hl : ∀ x ∈ l, x < 12) : popN (msk l) = (l.length + 1) / 2 := by
  have e := T_len 12 l h hl
  have : popN (msk l) = cntTo 12 (fun k => decide (k ∈ l)) := cntTo_congr (fun k _ => msk_bit l k)
  omega
theorem cnt_zero {n : Nat} {P : Nat → Bool} (h : cntTo n P = 0) : ∀ k, k < n → P k = false := fun k hk => by
  have := sumTo_pt hk (fun k => if P k then 1 else 0)
  unfold cntTo at h
  rw [h] at this
  cases e : P k with
  | false => rfl
  | true =>
    simp [e] at this
    omega
theorem riseW_get {w : List Nat} {s : Nat} {d : Int} {k : Nat} (hk : k < w.length) : (riseW w s d)[k]'(by unfold riseW; simp; exact hk) = if s.testBit k then clampW (wt w k) d else wt w k := by unfold riseW; simp
theorem rise_none {w : List Nat} {s : Nat} {d : Int} (h : cntTo w.length (fun k => s.testBit k && decide (clampW (wt w k) d ≠ wt w k)) = 0) : riseW w s d = w := by
  have z := cnt_zero h
  apply List.ext_getElem
  · unfold riseW; simp
  · intro k h1 h2
    have zk := z k h2
    rw [riseW_get h2]
    cases b1 : s.testBit k with
    | false => rw [if_neg (by simp), wt_get h2]
    | true =>
      rw [b1] at zk
      have : clampW (wt w k) d = wt w k := by simpa using zk
      rw [if_pos rfl, this, wt_get h2]
section ST
variable {Λ : Lay} {μ : Mem} {a : Nat} {V : Pic}
theorem ok_at (ok : PicOK V) {b : Nat} (hb : b < V.w.length) : ∃ r, r < 12 ∧ b ∈ V.rd r := ok.1.2.2.2.2.2.2.1 b hb
theorem cs_bank (PC : FrApart Λ a) (ok : PicOK V) (N : RvV Λ μ (lyR Λ a 0) V) (x : Int32) : ∃ o, CMeets Λ μ a V (sX4_addBank Λ μ a x) o := by
  have e0 : (0 : Int32).toInt = 0 := rfl
  have e99 : (99 : Int32).toInt = 99 := rfl
  have hn := ok.1.1
  by_cases c : 0 ≤ x.toInt ∧ x.toInt ≤ 99
  · obtain ⟨n, hn1, rfl, hn3⟩ := i32_nn c.1
    have hn99 : n ≤ 99 := by omega
    have c1 : sX4_addBank Λ μ a (nI n) = if nI V.w.length < 12 then (sX1_addBankOf Λ μ (lyR Λ a 0) (nI n)).bind (fun q5 => some (q5.1, q5.2)) else some (-3, refC μ a 1 12) := by
      unfold sX4_addBank
      rw [if_neg (nI_pos (by omega)), if_pos (by rw [Int32.le_iff_toInt_le, e99]; exact c.2), rv_banks N.1, Option.bind_some, refuse_eq]
      rfl
    by_cases f : V.w.length < 12
    · have h0 := rd_free ok.1 f
      obtain ⟨μ1, r1, r2, r3⟩ := rv_addBank (PC.1 0 (by omega)) N f ok.1.2.1 h0 n
      obtain ⟨-, k1, -⟩ := keep_bank ok.1 (rel_rf ok.1) f hn99 f h0
      have hc := cnt_up (rd := V.rd) f [V.w.length]
      rw [if_neg (fun q => q h0), if_pos (by simp)] at hc
      have hj : JC (V.w ++ [n]) (rdUp V.rd V.w.length [V.w.length]) V.j V.c := by
        unfold JC
        rw [show cntTo 12 (rooted (rdUp V.rd V.w.length [V.w.length])) = cntTo 12 (rooted V.rd) + 1 from hc, show (V.w ++ [n]).length = V.w.length + 1 by simp]
        exact jc_add ok.2 1
      refine ⟨.inr (.inr (V.w.length, mkP (V.w ++ [n]) (V.p ++ [0]) (rdUp V.rd V.w.length [V.w.length]) V.sl V.j V.c V.t)), μ1, ?_, by omega, ⟨k1, hj⟩, r2, r3⟩
      have r1' : sX1_addBankOf Λ μ (lyR Λ a 0) (nI n) = some (nI V.w.length, μ1) := r1
      rw [c1, if_pos (by rw [nI_lit12, nI_ltI (by omega) (by omega)]; exact f), r1']
      rfl
    · refine ⟨.inr (.inl (1, 12)), μ, ?_, by decide, N, Chg.rf⟩
      rw [c1, if_neg (by rw [nI_lit12, nI_ltI (by omega) (by omega)]; exact f)]
  · refine ⟨.inl (-2), ?_, Or.inr rfl⟩
    unfold sX4_addBank
    by_cases c1 : x < 0
    · rw [if_pos c1]
    · rw [if_neg c1, if_neg]
      intro q
      rw [Int32.le_iff_toInt_le, e99] at q
      rw [Int32.lt_iff_toInt_lt, e0] at c1
      exact c ⟨by omega, q⟩
theorem cs_weigh (PC : FrApart Λ a) (ok : PicOK V) (N : RvV Λ μ (lyR Λ a 0) V) (x y : Int32) : ∃ o, CMeets Λ μ a V (sX4_setWeight Λ μ a x y) o := by
  have e0 : (0 : Int32).toInt = 0 := rfl
  have e99 : (99 : Int32).toInt = 99 := rfl
  have hn := ok.1.1
  by_cases cx : bIn V.w.length x
  · obtain ⟨g, hg, hg31, rfl⟩ := bIn_nat cx
    have hw99 := wt_le ok.1.2.2.1 g
    by_cases c : 0 ≤ y.toInt ∧ y.toInt ≤ 99
    · obtain ⟨n, hn1, rfl, hn3⟩ := i32_nn c.1
      have hn99 : n ≤ 99 := by omega
      have c1 : sX4_setWeight Λ μ a (nI g) (nI n) = if nI (wt V.w g) = nI n then some (-3, refC μ a 5 (nI n)) else (sX1_putWeight Λ μ (lyR Λ a 0) (nI g) (nI n)).bind (fun q7 => some (nI (wt V.w g), q7)) := by
        unfold sX4_setWeight
        rw [has_eq N.1 ok.1, if_pos cx, Option.bind_some, if_neg (by decide), if_neg (nI_pos (by omega)), if_pos (by rw [Int32.le_iff_toInt_le, e99]; exact c.2), rv_weight N.1 hg, Option.bind_some, refuse_eq]
        rfl
      by_cases f : wt V.w g = n
      · refine ⟨.inr (.inl (5, nI n)), μ, ?_, by decide, N, Chg.rf⟩
        rw [c1, if_pos (by rw [f])]
      · obtain ⟨μ1, r1, r2, r3⟩ := rv_putW (PC.1 0 (by omega)) N hg n
        have k1 : RvOK (V.w.set g n) V.p V.rd := keep_w ok.1 (by simp) (fun z hz => by
          rcases List.mem_or_eq_of_mem_set hz with q | q
          · exact ok.1.2.2.1 z q
          · rw [q]; exact hn99)
        have hj : JC (V.w.set g n) V.rd V.j V.c := by
          unfold JC
          rw [List.length_set]
          exact ok.2
        refine ⟨.inr (.inr (wt V.w g, mkP (V.w.set g n) V.p V.rd V.sl V.j V.c V.t)), μ1, ?_, by omega, ⟨k1, hj⟩, r2, r3⟩
        have r1' : sX1_putWeight Λ μ (lyR Λ a 0) (nI g) (nI n) = some μ1 := r1
        rw [c1, if_neg (by rw [nI_eq (by omega) (by omega)]; exact f), r1']
        rfl
    · refine ⟨.inl (-2), ?_, Or.inr rfl⟩
      unfold sX4_setWeight
      rw [has_eq N.1 ok.1, if_pos cx, Option.bind_some, if_neg (by decide)]
      by_cases c1 : y < 0
      · rw [if_pos c1]
      · rw [if_neg c1, if_neg]
        intro q
        rw [Int32.le_iff_toInt_le, e99] at q
        rw [Int32.lt_iff_toInt_lt, e0] at c1
        exact c ⟨by omega, q⟩
  · refine ⟨.inl (-1), ?_, Or.inl rfl⟩
    unfold sX4_setWeight
    rw [has_eq N.1 ok.1, if_neg cx, Option.bind_some, if_pos rfl]
/-- the picture turned to g -/
theorem turn_ok (ok : PicOK V) {r g : Nat} (hr : r < 12) (hgr : g ∈ V.rd r) (hne : g ≠ r) (j c : Int32) (hj : JC V.w V.rd j c) : RvOK V.w V.p (rdUp (rdUp V.rd g (turnL (V.rd r) g)) r []) ∧ JC V.w (rdUp (rdUp V.rd g (turnL (V.rd r) g)) r []) j c := by
  obtain ⟨hT, t, ht⟩ := rv_tour ok.1 hr hgr
  obtain ⟨k1, -⟩ := keep_turn ok.1 (rel_rf ok.1) hr hgr hne hr rfl
  obtain ⟨-, ⟨t2, t3⟩, -⟩ := turn_all hT ht hgr hne
  have h0 := rd_none ok.1 hr hgr hne
  have hg12 := rv_lt12 ok.1 hr g hgr
  have hc := cnt_up (rd := V.rd) hg12 (turnL (V.rd r) g)
  rw [if_neg (fun q => q h0), if_pos (by rw [t3]; simp)] at hc
  have hc2 := cnt_up (rd := rdUp V.rd g (turnL (V.rd r) g)) hr []
  have e : rdUp V.rd g (turnL (V.rd r) g) r = V.rd r := by unfold rdUp; rw [if_neg (fun q => hne q.symm)]
  rw [e, if_pos (by rw [ht]; simp), if_neg (by simp)] at hc2
  refine ⟨k1, ?_⟩
  unfold JC
  rw [show cntTo 12 (rooted (rdUp (rdUp V.rd g (turnL (V.rd r) g)) r [])) = cntTo 12 (rooted V.rd) by omega]
  exact hj
theorem cs_turn (PC : FrApart Λ a) (ok : PicOK V) (N : RvV Λ μ (lyR Λ a 0) V) (x : Int32) : ∃ o, CMeets Λ μ a V (sX4_turnRound Λ μ a x) o := by
  have hn := ok.1.1
  by_cases cx : bIn V.w.length x
  · obtain ⟨g, hg, hg31, rfl⟩ := bIn_nat cx
    obtain ⟨r, hr, hgr⟩ := ok_at ok hg
    obtain ⟨hT, t, ht⟩ := rv_tour ok.1 hr hgr
    have c1 : sX4_turnRound Λ μ a (nI g) = if nI r = nI g then some (-3, refC μ a 7 (nI g)) else (sX1_turnTo Λ μ (lyR Λ a 0) (nI g)).bind (fun q5 => (sX1_countTurn Λ q5 (lyR Λ a 0)).bind (fun q6 => some (nI r, q6))) := by
      unfold sX4_turnRound
      rw [has_eq N.1 ok.1, if_pos cx, Option.bind_some, if_neg (by decide), rv_root N.1 ok.1 hr hgr, Option.bind_some, refuse_eq]
      rfl
    by_cases f : r = g
    · refine ⟨.inr (.inl (7, nI g)), μ, ?_, by decide, N, Chg.rf⟩
      rw [c1, if_pos (by rw [f])]
    · have hfi : fi (V.rd r) g ≠ 0 := fun q => f ((par_root ht).mp q).symm
      obtain ⟨μ1, r1, r2, r3⟩ := rv_turn (PC.1 0 (by omega)) N ok.1 hr hgr hfi
      obtain ⟨μ3, s1, s2, s3⟩ := rv_countTurn (PC.1 0 (by omega)) r2
      obtain ⟨k1, k2⟩ := turn_ok ok hr hgr (fun q => f q.symm) V.j V.c ok.2
      refine ⟨.inr (.inr (r, mkP V.w V.p (rdUp (rdUp V.rd g (turnL (V.rd r) g)) r []) V.sl V.j V.c (V.t + 1))), μ3, ?_, by omega, ⟨k1, k2⟩, s2, r3.tr s3⟩
      have r1' : sX1_turnTo Λ μ (lyR Λ a 0) (nI g) = some μ1 := r1
      have s1' : sX1_countTurn Λ μ1 (lyR Λ a 0) = some μ3 := s1
      rw [c1, if_neg (by rw [nI_eq (by omega) (by omega)]; exact f), r1', Option.bind_some, s1']
      rfl
  · refine ⟨.inl (-1), ?_, Or.inl rfl⟩
    unfold sX4_turnRound
    rw [has_eq N.1 ok.1, if_neg cx, Option.bind_some, if_pos rfl]
theorem cs_rise (PC : FrApart Λ a) (ok : PicOK V) (N : RvV Λ μ (lyR Λ a 0) V) (x d : Int32) : ∃ o, CMeets Λ μ a V (sX4_raisePart Λ μ a x d) o := by
  have e9 : (-99 : Int32).toInt = -99 := rfl
  have e99 : (99 : Int32).toInt = 99 := rfl
  have hn := ok.1.1
  by_cases cx : bIn V.w.length x
  · obtain ⟨g, hg, hg31, rfl⟩ := bIn_nat cx
    obtain ⟨r, hr, hgr⟩ := ok_at ok hg
    obtain ⟨hT, t, ht⟩ := rv_tour ok.1 hr hgr
    by_cases c : -99 ≤ d.toInt ∧ d.toInt ≤ 99
    · have hs : msk (V.rd r) < 4096 := msk_lt (rv_lt12 ok.1 hr)
      obtain ⟨μ1, r1, r2, r3⟩ := rv_raise (PC.1 0 (by omega)) hn ok.1.2.2.1 hs c.1 c.2 N
      have r1' : sX1_raiseAll Λ μ (lyR Λ a 0) (nI (msk (V.rd r))) d = some (nI (cntTo V.w.length (riseN V.w (V.rd r) d.toInt)), μ1) := r1
      have c1 : sX4_raisePart Λ μ a (nI g) d = if nI (cntTo V.w.length (riseN V.w (V.rd r) d.toInt)) ≤ 0 then some (-3, refC μ1 a 6 (nI (popN (msk (V.rd r))))) else some (nI (cntTo V.w.length (riseN V.w (V.rd r) d.toInt)), μ1) := by
        unfold sX4_raisePart
        rw [has_eq N.1 ok.1, if_pos cx, Option.bind_some, if_neg (by decide), if_neg (by rw [Int32.lt_iff_toInt_lt, e9]; omega), if_pos (by rw [Int32.le_iff_toInt_le, e99]; exact c.2)]
        have q : sX1_banksWith Λ μ (lyR Λ a 0) (nI g) = some (nI (msk (V.rd r))) := rv_all N.1 ok.1 hr hgr
        rw [q, Option.bind_some, r1', Option.bind_some]
        simp only [bnd]
        rw [bitc_spec hs, Option.bind_some, refuse_eq]
        rfl
      have hm12 : cntTo V.w.length (riseN V.w (V.rd r) d.toInt) ≤ V.w.length := cntTo_le _ _
      by_cases f : cntTo V.w.length (riseN V.w (V.rd r) d.toInt) = 0
      · refine ⟨.inr (.inl (6, nI (popN (msk (V.rd r))))), μ1, ?_, by decide, ?_, r3⟩
        · rw [c1, f, if_pos (by decide)]
        · have := rise_none (w := V.w) (s := msk (V.rd r)) (d := d.toInt) f
          rw [this] at r2
          exact r2
      · have k1 : RvOK (riseW V.w (msk (V.rd r)) d.toInt) V.p V.rd := keep_w ok.1 (by unfold riseW; simp) (by rw [← rise_full]; exact rise_99 ok.1.2.2.1 _ _ _)
        have hj : JC (riseW V.w (msk (V.rd r)) d.toInt) V.rd V.j V.c := by
          unfold JC
          rw [show (riseW V.w (msk (V.rd r)) d.toInt).length = V.w.length by unfold riseW; simp]
          exact ok.2
        refine ⟨.inr (.inr (cntTo V.w.length (riseN V.w (V.rd r) d.toInt), mkP (riseW V.w (msk (V.rd r)) d.toInt) V.p V.rd V.sl V.j V.c V.t)), μ1, ?_, by omega, ⟨k1, hj⟩, r2, r3⟩
        rw [c1, if_neg (by rw [nI_lit0, nI_leI (by omega) (by omega)]; omega)]
    · refine ⟨.inl (-2), ?_, Or.inr rfl⟩
      unfold sX4_raisePart
      rw [has_eq N.1 ok.1, if_pos cx, Option.bind_some, if_neg (by decide)]
      by_cases c1 : d < -99
      · rw [if_pos c1]
      · rw [if_neg c1, if_neg]
        intro q
        rw [Int32.le_iff_toInt_le, e99] at q
        rw [Int32.lt_iff_toInt_lt, e9] at c1
        exact c ⟨by omega, q⟩
  · refine ⟨.inl (-1), ?_, Or.inl rfl⟩
    unfold sX4_raisePart
    rw [has_eq N.1 ok.1, if_neg cx, Option.bind_some, if_pos rfl]
end ST
