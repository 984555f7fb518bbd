/-! A ROPE CUT AND TIED AGAIN; one of the law's acts. -/
theorem lg_same (x : Int64) : lg_cmp x x = 0 := by simp [lg_cmp]
theorem push_end (h : List Pic) (V : Pic) : ∃ h0, push h V = h0 ++ [V] := ⟨_, rfl⟩
theorem push_two (h : List Pic) (V U : Pic) : ∃ h0, push (push h V) U = (h0 ++ [V]) ++ [U] := by
  obtain ⟨h0, e⟩ := push_end h V
  unfold push
  by_cases c : (push h V).length = 8
  · have c' := c
    unfold push at c'
    rw [if_pos c']
    have e' := e
    unfold push at e'
    rw [e', List.length_append] at c'
    simp only [List.length_cons, List.length_nil] at c'
    obtain ⟨x, t, ht⟩ : ∃ x t, h0 = x :: t := by
      cases h0 with
      | nil => simp at c'
      | cons x t => exact ⟨x, t, rfl⟩
    rw [e', ht]
    exact ⟨t, rfl⟩
  · have c' := c
    unfold push at c'
    rw [if_neg c']
    have e' := e
    unfold push at e'
    rw [e']
    exact ⟨h0, rfl⟩
theorem wsum_split {w : List Nat} {l A B : List Nat} (h1 : ∀ x, x ∈ l ↔ x ∈ A ∨ x ∈ B) (h2 : ∀ x, x ∈ A → x ∉ B) : wsum w (msk l) = wsum w (msk A) + wsum w (msk B) := by
  unfold wsum
  rw [← sumTo_add]
  refine sumTo_congr (fun k _ => ?_)
  simp only [msk_bit, decide_eq_true_eq]
  by_cases cA : k ∈ A
  · rw [if_pos ((h1 k).mpr (Or.inl cA)), if_pos cA, if_neg (h2 k cA), Nat.add_zero]
  · by_cases cB : k ∈ B
    · rw [if_pos ((h1 k).mpr (Or.inr cB)), if_neg cA, if_pos cB, Nat.zero_add]
    · rw [if_neg (fun q => ((h1 k).mp q).elim cA cB), if_neg cA, if_neg cB]
section TD
variable {Λ : Lay} {μ : Mem} {a : Nat} {V : Pic} {h : List Pic} {sv : Option Pic} {r0 : Int32}
theorem qd_no (N : RvV Λ μ (lyR Λ a 0) V) (ok : PicOK V) {x y : Int32} (c : ¬ (bIn V.w.length x ∧ bIn V.w.length y)) : sX4_wouldDiffer Λ μ a x y = some (-1) := by
  unfold sX4_wouldDiffer
  rw [there_eq ok N, if_neg c, Option.bind_some, if_pos rfl]
theorem qd_nr (N : RvV Λ μ (lyR Λ a 0) V) (ok : PicOK V) {g d r : Nat} (hr : r < 12) (hgr : g ∈ V.rd r) (hd : d < V.w.length) (f : ¬ nbr (V.rd r) g d = true) : sX4_wouldDiffer Λ μ a (nI g) (nI d) = some (-4) := by
  unfold sX4_wouldDiffer
  rw [there_1 N ok (rv_ltn ok.1 hr hgr) hd, Option.bind_some, if_neg z10, tied_nbr N ok hr hgr hd, if_neg f, Option.bind_some, if_pos rfl]
theorem qp0_some (N : RvV Λ μ (lyR Λ a 0) V) (ok : PicOK V) (x : Int32) : ∃ z, sX4_partOf Λ μ a x (0 : Int32) = some z := by
  by_cases c : bIn V.w.length x
  · obtain ⟨g, hg, -, rfl⟩ := bIn_nat c
    obtain ⟨r, hr, hgr⟩ := ok_at ok hg
    exact ⟨_, qp0 N ok hr hgr⟩
  · exact ⟨_, qp_no N ok c⟩
theorem qb6_some (N : RvV Λ μ (lyR Λ a 0) V) (ok : PicOK V) (x : Int32) : ∃ z, sX4_bankOf Λ μ a x (6 : Int32) = some z := by
  by_cases c : bIn V.w.length x
  · obtain ⟨g, hg, -, rfl⟩ := bIn_nat c
    obtain ⟨r, hr, hgr⟩ := ok_at ok hg
    exact ⟨_, qb6 N ok hr hgr⟩
  · exact ⟨_, qb_no N ok c⟩
theorem zm1 : ¬ (0 : Int32) ≤ -1 := by decide
theorem zm3 : ¬ (0 : Int32) ≤ -3 := by decide
theorem zm31 : ¬ (-3 : Int32) = -1 := by decide
theorem lw_tied (PC : FrApart Λ a) (S : St Λ μ a V h sv r0 []) (g d : Nat) : ∃ μ1 h1 r1, sL_isTiedAgain Λ μ a (nI g) (nI d) = some (1, μ1) ∧ St Λ μ1 a V h1 sv r1 [] := by
  have ok := S.ok
  have N := S.now
  have hn := ok.1.1
  obtain ⟨q3, e3⟩ := qp0_some N ok (nI g)
  by_cases c : bIn V.w.length (nI g) ∧ bIn V.w.length (nI d)
  · have hg : g < V.w.length ∨ True := Or.inr trivial
    obtain ⟨g', hg, -, eg⟩ := bIn_nat c.1
    obtain ⟨d', hd, -, ed⟩ := bIn_nat c.2
    rw [eg] at e3 ⊢
    rw [ed]
    clear eg ed c
    obtain ⟨r, hr, hgr⟩ := ok_at ok hg
    obtain ⟨hT, t, ht⟩ := rv_tour ok.1 hr hgr
    by_cases f : nbr (V.rd r) g' d' = true
    · have hdr : d' ∈ V.rd r := (prs_mem (of_decide_eq_true f)).2
      obtain ⟨μ1, c1, S1⟩ := op_cutY PC S hr hgr hdr f
      obtain ⟨hne, low⟩ := low_blw hT ht hgr hdr f
      obtain ⟨-, f2, f3, f4⟩ := low_facts hT ht hgr hdr f
      have ok1 := S1.ok
      have N1 := S1.now
      have e4 := q_differ N ok hr hgr hdr f
      have b1 := wsum_lt ok.1 (msk (V.rd r))
      have e3' := (qp0 N ok hr hgr).symm.trans e3
      have e3'' := Option.some.inj e3'
      subst e3''
      have hlo := len_odd ok hr (fun q => by rw [q] at hgr; cases hgr)
      generalize hb : lowOf (V.rd r) g' d' = b at c1 S1 ok1 N1 e4 f2 f3 f4 low
      have hb12 := rv_lt12 ok.1 hr b f2
      have hbn := rv_ltn ok.1 hr f2
      obtain ⟨-, -, -, ⟨s2, k4⟩, k5, k6, k7, k8, -⟩ := cut_all hT ht f2 f3
      have hrb : (cutP V r b).rd b = cutB (V.rd r) b := by
        show rdUp (rdUp V.rd b (cutB (V.rd r) b)) r (cutA (V.rd r) b) b = _
        unfold rdUp
        rw [if_neg f3, if_pos rfl]
      have hrr : (cutP V r b).rd r = cutA (V.rd r) b := by
        show rdUp (rdUp V.rd b (cutB (V.rd r) b)) r (cutA (V.rd r) b) r = _
        unfold rdUp
        rw [if_pos rfl]
      have hw : (cutP V r b).w = V.w := rfl
      have hbB : b ∈ (cutP V r b).rd b := by rw [hrb, k4]; simp
      have huA : par (V.rd r) b ∈ (cutP V r b).rd r := by rw [hrr]; exact k8
      have eB : wsum V.w (belowM (V.rd r) b) = wsum V.w (msk ((cutP V r b).rd b)) := by rw [hrb]; rfl
      have eT : wsum V.w (msk (V.rd r)) = wsum V.w (msk ((cutP V r b).rd r)) + wsum V.w (msk ((cutP V r b).rd b)) := by rw [hrr, hrb]; exact wsum_split k5 k6
      have eL : ((cutP V r b).rd r).length + ((cutP V r b).rd b).length + 1 = (V.rd r).length := by
        have h1 := fi_le_li f2
        rw [hrr, hrb]
        unfold cutA cutB
        simp only [List.length_append, List.length_take, List.length_drop]
        omega
      have q1 : sX4_bankOf Λ μ1 a (nI b) (1 : Int32) = some (nI b) := qb1 N1 ok1 hb12 hbB
      rw [eB, eT] at e4
      -- the two ends, each in its own part
      have key : ∃ rg rd', rg < 12 ∧ rd' < 12 ∧ rg ≠ rd' ∧ g' ∈ (cutP V r b).rd rg ∧ d' ∈ (cutP V r b).rd rd' ∧ (nI b = nI g' ∨ (¬ nI b = nI g' ∧ nI b = nI d')) ∧ absD (wsum V.w (msk ((cutP V r b).rd rg))) (wsum V.w (msk ((cutP V r b).rd rd'))) = absD (wsum V.w (msk ((cutP V r b).rd r)) + wsum V.w (msk ((cutP V r b).rd b))) (2 * wsum V.w (msk ((cutP V r b).rd b))) ∧ ((cutP V r b).rd rg).length + ((cutP V r b).rd rd').length + 1 = (V.rd r).length := by
        rcases f4 with ⟨z1, z2⟩ | ⟨z1, z2⟩
        · refine ⟨b, r, hb12, hr, f3, z1 ▸ hbB, ?_, Or.inl (by rw [z1]), ?_, by omega⟩
          · rw [← z2, ← z1]; exact huA
          · unfold absD
            by_cases z : 2 * wsum V.w (msk ((cutP V r b).rd b)) ≤ wsum V.w (msk ((cutP V r b).rd r)) + wsum V.w (msk ((cutP V r b).rd b))
            · rw [if_pos z]
              by_cases z' : wsum V.w (msk ((cutP V r b).rd r)) ≤ wsum V.w (msk ((cutP V r b).rd b))
              · rw [if_pos z']; omega
              · rw [if_neg z']; omega
            · rw [if_neg z]
              by_cases z' : wsum V.w (msk ((cutP V r b).rd r)) ≤ wsum V.w (msk ((cutP V r b).rd b))
              · rw [if_pos z']; omega
              · rw [if_neg z']; omega
        · refine ⟨r, b, hr, hb12, fun q => f3 q.symm, ?_, z1 ▸ hbB, Or.inr ⟨fun q => ?_, by rw [z1]⟩, ?_, by omega⟩
          · rw [← z2, ← z1]; exact huA
          · have := (nI_eq (by omega) (by omega)).mp q
            exact hne (this.symm.trans z1)
          · unfold absD
            by_cases z : 2 * wsum V.w (msk ((cutP V r b).rd b)) ≤ wsum V.w (msk ((cutP V r b).rd r)) + wsum V.w (msk ((cutP V r b).rd b))
            · rw [if_pos z]
              by_cases z' : wsum V.w (msk ((cutP V r b).rd b)) ≤ wsum V.w (msk ((cutP V r b).rd r))
              · rw [if_pos z']; omega
              · rw [if_neg z']; omega
            · rw [if_neg z]
              by_cases z' : wsum V.w (msk ((cutP V r b).rd b)) ≤ wsum V.w (msk ((cutP V r b).rd r))
              · rw [if_pos z']; omega
              · rw [if_neg z']; omega
      obtain ⟨rg, rd', hrg, hrd, hgd, mg, md, hlow, hab, hlen⟩ := key
      have b2 := wsum_lt ok1.1 (msk ((cutP V r b).rd rg))
      have b3 := wsum_lt ok1.1 (msk ((cutP V r b).rd rd'))
      rw [hw] at b2 b3
      have j0 : sX4_areJoined Λ μ1 a (nI g') (nI d') = some 0 := by
        rw [q_joined N1 ok1 hrg mg (rv_ltn ok1.1 hrd md), if_neg (fun q => hgd (ok1.1.2.2.2.2.2.2.2.1 rg rd' d' hrg hrd q md))]
      have p1 : sX4_partOf Λ μ1 a (nI g') (2 : Int32) = some (nI (wsum V.w (msk ((cutP V r b).rd rg)))) := qp2 N1 ok1 hrg mg
      have p2 : sX4_partOf Λ μ1 a (nI d') (2 : Int32) = some (nI (wsum V.w (msk ((cutP V r b).rd rd')))) := qp2 N1 ok1 hrd md
      obtain ⟨μ2, V2, j1, S2, w2, m2⟩ := op_joinY PC S1 hrg mg hrd md hgd
      have ok2 := S2.ok
      have N2 := S2.now
      have e5 : nI ((((cutP V r b).rd rg).length + ((cutP V r b).rd rd').length + 2) / 2) = nI (popN (msk (V.rd r))) := by congr 1; omega
      have r2 := q_ropeY N2 ok2 hrg (prs_mem m2).1 (d := d') (by rw [w2]; exact hd) (decide_eq_true m2)
      have a2 := lw_parts N2 ok2
      obtain ⟨hh, eh⟩ := push_two h V (cutP V r b)
      rw [eh] at S2
      obtain ⟨μ3, u1, l1, S3⟩ := op_undo PC S2
      obtain ⟨μ4, u2, l2, S4⟩ := op_undo PC S3
      have d4 := lw_digest S4.now S4.ok
      have hbp : (0 : Int32) ≤ nI b := nI_pos' (by omega)
      have np1 : ¬ nI (hh ++ [V]).length < (0 : Int32) := nI_pos l1
      have np2 : ¬ nI hh.length < (0 : Int32) := nI_pos l2
      have hab2 := (abs_nat (x := wsum V.w (msk ((cutP V r b).rd rg))) (y := wsum V.w (msk ((cutP V r b).rd rd'))) (by omega) (by omega)).trans (by rw [hab])
      refine ⟨μ4, hh, r0, ?_, S4⟩
      unfold sL_isTiedAgain
      rw [lw_digest N ok, Option.bind_some, bnd_b, e3, Option.bind_some, e4, Option.bind_some, c1, Option.bind_some, bnd_b, if_pos hbp, bnd_b, bnd_b, bnd_b]
      dsimp only
      have fin : (if nI b = nI g' then (1 : Nat) else if nI b = nI d' then 1 else 0) = 1 := by
        rcases hlow with q | ⟨q1, q2⟩
        · rw [if_pos q]
        · rw [if_neg q1, if_pos q2]
      rcases hlow with q | ⟨q1', q2'⟩
      · rw [if_pos q, q1, Option.bind_some, if_pos rfl, j0, Option.bind_some, if_pos rfl, p1, Option.bind_some, p2, Option.bind_some, if_pos hab2, bnd_b, bnd_b, if_neg z10, j1, Option.bind_some, if_pos e5, r2, Option.bind_some, if_pos rfl, a2, Option.bind_some, if_neg z10]
        simp only [bnd]
        rw [if_neg z10, u1, Option.bind_some, if_neg np1, u2, Option.bind_some, if_neg np2, d4, Option.bind_some, if_pos (lg_same _), gd_t (Or.inr rfl)]
      · rw [if_neg q1', if_pos q2', q1, Option.bind_some, if_pos rfl, j0, Option.bind_some, if_pos rfl, p1, Option.bind_some, p2, Option.bind_some, if_pos hab2, bnd_b, bnd_b, if_neg z10, j1, Option.bind_some, if_pos e5, r2, Option.bind_some, if_pos rfl, a2, Option.bind_some, if_neg z10]
        simp only [bnd]
        rw [if_neg z10, u1, Option.bind_some, if_neg np1, u2, Option.bind_some, if_neg np2, d4, Option.bind_some, if_pos (lg_same _), gd_t (Or.inr rfl)]
    · obtain ⟨μ1, c1, S1⟩ := op_cutN PC S hr hgr hd f
      have d1 := lw_digest S1.now S1.ok
      have rf := op_refusal S1 (by decide)
      refine ⟨μ1, h, 4, ?_, S1⟩
      unfold sL_isTiedAgain
      rw [lw_digest N ok, Option.bind_some, bnd_b, e3, Option.bind_some, qd_nr N ok hr hgr hd f, Option.bind_some, c1, Option.bind_some, bnd_b, if_neg zm3, d1, Option.bind_some]
      simp only [bnd]
      rw [if_pos (lg_same _), if_neg zm31, rf, Option.bind_some, if_pos rfl, gd_t (Or.inr rfl)]
  · obtain ⟨μ1, c1, S1⟩ := op_cut0 PC S c
    have d1 := lw_digest S1.now S1.ok
    refine ⟨μ1, h, r0, ?_, S1⟩
    unfold sL_isTiedAgain
    rw [lw_digest N ok, Option.bind_some, bnd_b, e3, Option.bind_some, qd_no N ok c, Option.bind_some, c1, Option.bind_some, bnd_b, if_neg zm1, d1, Option.bind_some]
    simp only [bnd, ↓reduceIte]
    rw [if_pos (lg_same _), gd_t (Or.inr rfl)]
/-- what an act leaves -/
def ActR (Λ : Lay) (a : Nat) (V : Pic) (f : Option (Int32 × Mem)) : Prop := ∃ x μ1 V' h' sv' r', f = some (x, μ1) ∧ St Λ μ1 a V' h' sv' r' [] ∧ (x < 0 → V' = V)
theorem Res.act {f : Option (Int32 × Mem)} (k : Res Λ a V h sv f) : ActR Λ a V (f.bind (fun q => some (q.1, q.2))) := by
  rw [bind_eta]
  rcases k with ⟨c, μ1, r, e, -, S⟩ | ⟨n, μ1, V', r, e, hn, S⟩
  · exact ⟨c, μ1, V, h, sv, r, e, S, fun _ => rfl⟩
  · exact ⟨nI n, μ1, V', _, sv, r, e, S, fun q => absurd q (nI_pos hn)⟩
theorem act_if {c : Prop} [Decidable c] {x y : Option (Int32 × Mem)} (h1 : c → ActR Λ a V x) (h2 : ¬ c → ActR Λ a V y) : ActR Λ a V (if c then x else y) := by
  by_cases q : c
  · rw [if_pos q]; exact h1 q
  · rw [if_neg q]; exact h2 q
theorem and_65535 (x : Int32) : ∃ n, n < 65536 ∧ x &&& (65535 : Int32) = nI n := by
  have e : x = nI x.toBitVec.toNat := by
    apply Int32.toBitVec_inj.mp
    show x.toBitVec = BitVec.ofNat 32 x.toBitVec.toNat
    simp
  refine ⟨x.toBitVec.toNat &&& 65535, ?_, ?_⟩
  · have := Nat.and_le_right (n := x.toBitVec.toNat) (m := 65535)
    omega
  · rw [show (65535 : Int32) = nI 65535 from rfl, ← nI_and, ← e]
theorem lw_act (PC : FrApart Λ a) (S : St Λ μ a V h sv r0 []) (y : Int32) : ActR Λ a V (sL_act Λ μ a y) := by
  have ok := S.ok
  have N := S.now
  unfold sL_act
  obtain ⟨n, hn, en⟩ := and_65535 (y >>> ((4 : Int32) &&& 31))
  have hread : ActR Λ a V (gd (inb (nI n - nI n / (20 : Int32) * (20 : Int32)) 20) ((sL_write Λ μ a (nI n - nI n / (20 : Int32) * (20 : Int32)).toNatClampNeg).bind (fun q36 => (sX4_read Λ q36 a).bind (fun q37 => some (q37.1, q37.2))))) := by
    have e1 : nI n - nI n / (20 : Int32) * (20 : Int32) = nI (n % 20) := pk_rem (d := 20) (by omega) (by omega) (by omega)
    have h20 : n % 20 < 20 := Nat.mod_lt _ (by omega)
    rw [e1, gd_t (nI_in h20 (by omega)), nI_clamp (by omega)]
    obtain ⟨μ1, w1, R1⟩ := op_text PC S h20
    rw [w1, Option.bind_some]
    exact R1.act
  rw [en, bnd_b, bnd_b, bnd_b, bnd_b]
  refine act_if (fun _ => (op_bank PC S _).act) (fun _ => ?_)
  refine act_if (fun _ => (op_join PC S _ _).act) (fun _ => ?_)
  refine act_if (fun _ => (op_join PC S _ _).act) (fun _ => ?_)
  refine act_if (fun _ => (op_join PC S _ _).act) (fun _ => ?_)
  refine act_if (fun _ => (op_join PC S _ _).act) (fun _ => ?_)
  refine act_if (fun _ => (op_join PC S _ _).act) (fun _ => ?_)
  refine act_if (fun _ => (op_cut PC S _ _).act) (fun _ => ?_)
  refine act_if (fun _ => (op_cut PC S _ _).act) (fun _ => ?_)
  refine act_if (fun _ => ?_) (fun _ => ?_)
  · obtain ⟨z, ez⟩ := qb6_some N ok (nI n >>> ((1 : Int32) &&& 31) - nI n >>> ((1 : Int32) &&& 31) / (9 : Int32) * (9 : Int32))
    rw [ez, Option.bind_some, bnd_b]
    exact act_if (fun _ => (op_cut PC S _ _).act) (fun _ => ⟨0, μ, V, h, sv, r0, rfl, S, fun q => absurd q (by decide)⟩)
  refine act_if (fun _ => (op_turn PC S _).act) (fun _ => ?_)
  refine act_if (fun _ => (op_turn PC S _).act) (fun _ => ?_)
  refine act_if (fun _ => (op_weigh PC S _ _).act) (fun _ => ?_)
  refine act_if (fun _ => (op_rise PC S _ _).act) (fun _ => ?_)
  refine act_if (fun _ => hread) (fun _ => ?_)
  refine act_if (fun _ => hread) (fun _ => ?_)
  rw [bnd_b]
  refine act_if (fun _ => ?_) (fun _ => ?_)
  · obtain ⟨μ1, e, S1⟩ := op_save PC S
    rw [e]
    exact ⟨_, μ1, V, h, _, r0, rfl, S1, fun _ => rfl⟩
  refine act_if (fun _ => ?_) (fun _ => ?_)
  · cases sv with
    | none =>
      rw [op_restore0 S]
      exact ⟨-4, μ, V, h, none, r0, rfl, S, fun _ => rfl⟩
    | some U =>
      obtain ⟨μ1, e, S1⟩ := op_restore PC S
      have hU := S1.ok.1.1
      rw [e]
      exact ⟨_, μ1, U, [], _, r0, rfl, S1, fun q => absurd q (nI_pos (by omega))⟩
  · rcases List.eq_nil_or_concat h with e | ⟨h0, U, e⟩
    · subst e
      rw [op_undo0 S]
      exact ⟨-4, μ, V, [], sv, r0, rfl, S, fun _ => rfl⟩
    · rw [List.concat_eq_append] at e
      subst e
      obtain ⟨μ1, e, l, S1⟩ := op_undo PC S
      rw [e]
      exact ⟨_, μ1, U, h0, sv, r0, rfl, S1, fun q => absurd q (nI_pos l)⟩
end TD
