/-! THE CLASS BETWEEN TWO CALLS: its picture V, what can be gone back to h, what is kept sv, the last reason r, the text tx. -/
def St (Λ : Lay) (μ : Mem) (a : Nat) (V : Pic) (h : List Pic) (sv : Option Pic) (r : Int32) (tx : List Int32) : Prop := ∃ p r2 r3 ln, CInv Λ μ a p (-4) V h sv r r2 r3 ln tx
/-- what a change leaves: an answer below zero, a refusal, or a new picture that can be gone back from -/
def OutC (Λ : Lay) (a : Nat) (V : Pic) (h : List Pic) (sv : Option Pic) (r0 : Int32) (tx : List Int32) (f : Option (Int32 × Mem)) : Out → Prop
  | .inl c => ∃ μ1, f = some (c, μ1) ∧ (c = -1 ∨ c = -2) ∧ St Λ μ1 a V h sv r0 tx
  | .inr (.inl (r, _)) => ∃ μ1, f = some (-3, μ1) ∧ r ≠ 0 ∧ St Λ μ1 a V h sv r tx
  | .inr (.inr (n, V')) => ∃ μ1, f = some (nI n, μ1) ∧ n < 2 ^ 31 ∧ St Λ μ1 a V' (push h V) sv r0 tx
/-- the same, said of answers -/
def Res (Λ : Lay) (a : Nat) (V : Pic) (h : List Pic) (sv : Option Pic) (f : Option (Int32 × Mem)) : Prop :=
  (∃ c μ1 r, f = some (c, μ1) ∧ (c = -1 ∨ c = -2 ∨ c = -3) ∧ St Λ μ1 a V h sv r []) ∨ ∃ n μ1 V' r, f = some (nI n, μ1) ∧ n < 2 ^ 31 ∧ St Λ μ1 a V' (push h V) sv r []
theorem OutC.res {Λ : Lay} {a : Nat} {V : Pic} {h : List Pic} {sv : Option Pic} {r0 : Int32} {f : Option (Int32 × Mem)} {o : Out} (k : OutC Λ a V h sv r0 [] f o) : Res Λ a V h sv f := by
  match o, k with
  | .inl c, ⟨μ1, e, hc, S⟩ => exact Or.inl ⟨c, μ1, r0, e, by rcases hc with q | q <;> simp [q], S⟩
  | .inr (.inl (r, v)), ⟨μ1, e, _, S⟩ => exact Or.inl ⟨-3, μ1, r, e, by simp, S⟩
  | .inr (.inr (n, V')), ⟨μ1, e, hn, S⟩ => exact Or.inr ⟨n, μ1, V', r0, e, hn, S⟩
section OP
variable {Λ : Lay} {μ : Mem} {a : Nat} {V : Pic} {h : List Pic} {sv : Option Pic} {r0 : Int32} {tx : List Int32}
theorem St.ok (S : St Λ μ a V h sv r0 tx) : PicOK V := by obtain ⟨p, r2, r3, ln, C⟩ := S; exact C.2.1
theorem St.now (S : St Λ μ a V h sv r0 tx) : RvV Λ μ (lyR Λ a 0) V := by obtain ⟨p, r2, r3, ln, C⟩ := S; exact C.1
theorem outerC (PC : FrApart Λ a) (S : St Λ μ a V h sv r0 tx) (core : Mem → Option (Int32 × Mem)) (P : Out → Prop) (hk : ∀ μn, RvV Λ μn (lyR Λ a 0) V → ∃ o, P o ∧ CMeets Λ μn a V (core μn) o) : ∃ o, P o ∧ OutC Λ a V h sv r0 tx ((sX0_note Λ μ (lyR Λ a 2) (lyR Λ a 0)).bind (fun q1 => (core q1).bind (fun q2 => (sX4_settle Λ q2.2 a q2.1).bind (fun q3 => some (q3.1, q3.2))))) o := by
  obtain ⟨p, r2, r3, ln, C⟩ := S
  obtain ⟨μn, q1, C1, N1, -, -⟩ := note_inv PC C
  rw [q1, Option.bind_some]
  obtain ⟨o, hP, k1⟩ := hk μn C1.1
  have k3 := cinv_core PC C1 k1
  clear k1
  refine ⟨o, hP, ?_⟩
  clear hP hk
  match o, k3 with
  | .inl c, ⟨e1, hc⟩ =>
    have hs : sX4_settle Λ μn a c = some (c, μn) := by
      unfold sX4_settle
      rw [if_pos (by rcases hc with q | q <;> rw [q] <;> decide)]
    refine ⟨μn, ?_, hc, p, r2, r3, ln, C1⟩
    rw [e1, Option.bind_some]
    dsimp only
    rw [hs]
    rfl
  | .inr (.inl (r, v)), ⟨hr, μ1, e1, C2, _⟩ =>
    have hs : sX4_settle Λ μ1 a (-3) = some (-3, μ1) := by
      unfold sX4_settle
      rw [if_pos (by decide)]
    refine ⟨μ1, ?_, hr, p, v, -4, ln, C2⟩
    rw [e1, Option.bind_some]
    dsimp only
    rw [hs]
    rfl
  | .inr (.inr (n, V')), ⟨hn, μ1, e1, C2, K2⟩ =>
    obtain ⟨μ3, e3, C3⟩ := confirm_inv PC C2 C1.2.1 (K2.2.2 V N1)
    have hs : sX4_settle Λ μ1 a (nI n) = some (nI n, μ3) := by
      unfold sX4_settle
      rw [if_neg (nI_pos hn), e3]
      rfl
    refine ⟨μ3, ?_, hn, _, r2, r3, ln, C3⟩
    rw [e1, Option.bind_some]
    dsimp only
    rw [hs]
    rfl
theorem op_bank (PC : FrApart Λ a) (S : St Λ μ a V h sv r0 []) (x : Int32) : Res Λ a V h sv (sX4_bank Λ μ a x) := by
  obtain ⟨o, -, k⟩ := outerC PC S (fun q => sX4_addBank Λ q a x) (fun _ => True) (fun μn N => (cs_bank PC S.ok N x).imp fun _ z => ⟨trivial, z⟩)
  exact k.res
theorem op_weigh (PC : FrApart Λ a) (S : St Λ μ a V h sv r0 []) (x y : Int32) : Res Λ a V h sv (sX4_weigh Λ μ a x y) := by
  obtain ⟨o, -, k⟩ := outerC PC S (fun q => sX4_setWeight Λ q a x y) (fun _ => True) (fun μn N => (cs_weigh PC S.ok N x y).imp fun _ z => ⟨trivial, z⟩)
  exact k.res
theorem op_rise (PC : FrApart Λ a) (S : St Λ μ a V h sv r0 []) (x y : Int32) : Res Λ a V h sv (sX4_rise Λ μ a x y) := by
  obtain ⟨o, -, k⟩ := outerC PC S (fun q => sX4_raisePart Λ q a x y) (fun _ => True) (fun μn N => (cs_rise PC S.ok N x y).imp fun _ z => ⟨trivial, z⟩)
  exact k.res
theorem op_turn (PC : FrApart Λ a) (S : St Λ μ a V h sv r0 []) (x : Int32) : Res Λ a V h sv (sX4_turn Λ μ a x) := by
  obtain ⟨o, -, k⟩ := outerC PC S (fun q => sX4_turnRound Λ q a x) (fun _ => True) (fun μn N => (cs_turn PC S.ok N x).imp fun _ z => ⟨trivial, z⟩)
  exact k.res
theorem op_cut (PC : FrApart Λ a) (S : St Λ μ a V h sv r0 []) (x y : Int32) : Res Λ a V h sv (sX4_cut Λ μ a x y) := by
  obtain ⟨o, -, k⟩ := outerC PC S (fun q => sX4_cutRope Λ q a x y) (fun _ => True) (fun μn N => (cs_cut PC S.ok N x y).imp fun _ z => ⟨trivial, z⟩)
  exact k.res
theorem op_join (PC : FrApart Λ a) (S : St Λ μ a V h sv r0 []) (x y : Int32) : Res Λ a V h sv (sX4_join Λ μ a x y) := by
  obtain ⟨o, -, k⟩ := outerC PC S (fun q => sX4_joinBanks Λ q a x y) (fun _ => True) (fun μn N => (cs_join PC S.ok N x y).imp fun _ z => ⟨trivial, z⟩)
  exact k.res
/-- a rope cut, told -/
theorem op_cutY (PC : FrApart Λ a) (S : St Λ μ a V h sv r0 []) {g d r : Nat} (hr : r < 12) (hgr : g ∈ V.rd r) (hdr : d ∈ V.rd r) (f : nbr (V.rd r) g d = true) : ∃ μ1, sX4_cut Λ μ a (nI g) (nI d) = some (nI (lowOf (V.rd r) g d), μ1) ∧ St Λ μ1 a (cutP V r (lowOf (V.rd r) g d)) (push h V) sv r0 [] := by
  have hT := rv_tour S.ok.1 hr hgr
  obtain ⟨hT, t, ht⟩ := hT
  obtain ⟨f1, f2, f3, f4⟩ := low_facts hT ht hgr hdr f
  have hlow12 := rv_lt12 S.ok.1 hr _ f2
  obtain ⟨o, hP, k⟩ := outerC PC S (fun q => sX4_cutRope Λ q a (nI g) (nI d)) (fun o => o = .inr (.inr (lowOf (V.rd r) g d, cutP V r (lowOf (V.rd r) g d)))) (fun μn N => by
    obtain ⟨μ1, q1, q2, q3⟩ := cs_cutY PC S.ok N hr hgr hdr f
    exact ⟨_, rfl, μ1, q1, by omega, cut_ok S.ok hr f2 f3, q2, q3⟩)
  subst hP
  obtain ⟨μ1, e, -, S1⟩ := k
  exact ⟨μ1, e, S1⟩
/-- no rope -/
theorem op_cutN (PC : FrApart Λ a) (S : St Λ μ a V h sv r0 []) {g d r : Nat} (hr : r < 12) (hgr : g ∈ V.rd r) (hd : d < V.w.length) (f : ¬ nbr (V.rd r) g d = true) : ∃ μ1, sX4_cut Λ μ a (nI g) (nI d) = some (-3, μ1) ∧ St Λ μ1 a V h sv 4 [] := by
  obtain ⟨o, hP, k⟩ := outerC PC S (fun q => sX4_cutRope Λ q a (nI g) (nI d)) (fun o => o = .inr (.inl (4, nI g))) (fun μn N => ⟨_, rfl, μn, cs_cutN S.ok N hr hgr hd f, by decide, N, Chg.rf⟩)
  subst hP
  obtain ⟨μ1, e, -, S1⟩ := k
  exact ⟨μ1, e, S1⟩
/-- no such bank -/
theorem op_cut0 (PC : FrApart Λ a) (S : St Λ μ a V h sv r0 []) {x y : Int32} (f : ¬ (bIn V.w.length x ∧ bIn V.w.length y)) : ∃ μ1, sX4_cut Λ μ a x y = some (-1, μ1) ∧ St Λ μ1 a V h sv r0 [] := by
  obtain ⟨o, hP, k⟩ := outerC PC S (fun q => sX4_cutRope Λ q a x y) (fun o => o = .inl (-1)) (fun μn N => ⟨_, rfl, cs_cut0 S.ok N f, Or.inl rfl⟩)
  subst hP
  obtain ⟨μ1, e, -, S1⟩ := k
  exact ⟨μ1, e, S1⟩
/-- two parts joined, told -/
theorem op_joinY (PC : FrApart Λ a) (S : St Λ μ a V h sv r0 []) {r r2 d g : Nat} (hr : r < 12) (hdr : d ∈ V.rd r) (hr2 : r2 < 12) (hg2 : g ∈ V.rd r2) (hrr : r ≠ r2) : ∃ μ1 V', sX4_join Λ μ a (nI d) (nI g) = some (nI (((V.rd r).length + (V.rd r2).length + 2) / 2), μ1) ∧ St Λ μ1 a V' (push h V) sv r0 [] ∧ V'.w = V.w ∧ (d, g) ∈ prs (V'.rd r) := by
  have l1 := rv_lenK S.ok.1 hr
  have l2 := rv_lenK S.ok.1 hr2
  obtain ⟨o, hP, k⟩ := outerC PC S (fun q => sX4_joinBanks Λ q a (nI d) (nI g)) (fun o => ∃ V' : Pic, o = .inr (.inr (((V.rd r).length + (V.rd r2).length + 2) / 2, V')) ∧ V'.w = V.w ∧ (d, g) ∈ prs (V'.rd r)) (fun μn N => by
    obtain ⟨μ1, V', q1, q2, q3, q4, q5, q6⟩ := cs_joinY PC S.ok N hr hdr hr2 hg2 hrr
    exact ⟨_, ⟨V', rfl, q5, q6⟩, μ1, q1, by omega, q2, q3, q4⟩)
  obtain ⟨V', rfl, e5, e6⟩ := hP
  obtain ⟨μ1, e, -, S1⟩ := k
  exact ⟨μ1, V', e, S1, e5, e6⟩
theorem op_undo0 (S : St Λ μ a V [] sv r0 tx) : sX4_undo Λ μ a = some (-4, μ) := by
  obtain ⟨p, r2, r3, ln, C⟩ := S
  unfold sX4_undo
  rw [past_no C.2.2.2.1, Option.bind_some]
  rfl
theorem op_undo (PC : FrApart Λ a) {h0 : List Pic} {U : Pic} (S : St Λ μ a V (h0 ++ [U]) sv r0 tx) : ∃ μ1, sX4_undo Λ μ a = some (nI h0.length, μ1) ∧ h0.length < 2 ^ 31 ∧ St Λ μ1 a U h0 sv r0 tx := by
  obtain ⟨p, r2, r3, ln, C⟩ := S
  obtain ⟨c1, c2, c3, c4, c5, c6, c7, c8, c9, c10, c11, c12, c13⟩ := C
  have hb : lyR Λ a 2 = a ∨ lyR Λ a 2 = lyR Λ a 2 ∨ lyR Λ a 2 = lyR Λ a 5 := Or.inr (Or.inl rfl)
  obtain ⟨k1, k2, k3⟩ := past_back PC c4
  have hp := c4.1
  have hl := c4.2.2.2.1
  simp only [List.length_append, List.length_cons, List.length_nil] at hl
  have hg := c4.2.2.1
  simp only [List.length_append, List.length_cons, List.length_nil] at hg
  have ei : ∀ k, mI (stI (stI μ (lyR Λ a 2) 2 (nI h0.length)) (lyR Λ a 2) 1 (nI ((p + 8) % 9))) a k = mI μ a k := fun k => by
    rw [mI_ne (fun q => PC.2.2.2.2.2.2.1 q.1), mI_ne (fun q => PC.2.2.2.2.2.2.1 q.1)]
  have C2 : CInv Λ (stI (stI μ (lyR Λ a 2) 2 (nI h0.length)) (lyR Λ a 2) 1 (nI ((p + 8) % 9))) a ((p + 8) % 9) (-4) V h0 sv r0 r2 r3 ln tx :=
    ⟨rvv_st PC (i := 0) (by omega) hb (rvv_st PC (i := 0) (by omega) hb c1), c2, ring_st PC hb (ring_st PC hb c3), k3, by rw [ei]; exact c5, fun U hU => ⟨(c6 U hU).1, rvv_st PC (i := 1) (by omega) hb (rvv_st PC (i := 1) (by omega) hb (c6 U hU).2)⟩, by rw [ei]; exact c7, by rw [ei]; exact c8, by rw [ei]; exact c9, by rw [ei]; exact c10, w_st PC (by omega) hb (w_st PC (by omega) hb c11), w_st PC (by omega) hb (w_st PC (by omega) hb c12), fun k h1 h2 => by
      obtain ⟨l, q⟩ := c13 k h1 h2
      exact ⟨l, w_st PC h2 hb (w_st PC h2 hb q)⟩⟩
  obtain ⟨μ1, t1, t2, t3⟩ := take_back PC C2.2.2.1 (by omega) k3.2.1 k1 (rvv_st PC (by omega) hb (rvv_st PC (by omega) hb k2))
  obtain ⟨C3, -⟩ := cinv_riv PC C2 k1 t2 t3
  refine ⟨μ1, ?_, by omega, _, r2, r3, ln, C3⟩
  unfold sX4_undo sX0_goBack
  rw [hg, if_pos (by rw [nI_lit0, nI_ltI (by omega) (by omega)]; omega)]
  simp only [bnd]
  rw [nI_pred, mI_ne (by omega), c4.2.1, mod9 p hp, t1, Option.bind_some, Option.bind_some]
  dsimp only
  rw [if_neg (by decide)]
  unfold sX0_count
  rw [C3.2.2.2.1.2.2.1]
  rfl
theorem op_save (PC : FrApart Λ a) (S : St Λ μ a V h sv r0 tx) : ∃ μ1, sX4_save Λ μ a = some (nI V.w.length, μ1) ∧ St Λ μ1 a V h (some V) r0 tx := by
  obtain ⟨p, r2, r3, ln, C⟩ := S
  obtain ⟨c1, c2, c3, c4, c5, c6, c7, c8, c9, c10, c11, c12, c13⟩ := C
  have hp := c4.1
  obtain ⟨μ1, q1, q2, q3, q4⟩ := rvv_copy PC (i := 1) (j := 0) (by omega) (by omega) (by omega) c3 c2 c1
  have ei : ∀ k, mI μ1 a k = mI μ a k := fun k => riv_int PC (i := 1) (by omega) q4 (Or.inl rfl) k
  have es : ∀ k, k ≠ 6 → mI (stI μ1 a 6 1) a k = mI μ a k := fun k hk => by rw [mI_ne (fun q => hk q.2), ei]
  refine ⟨stI μ1 a 6 1, ?_, p, r2, r3, ln, ⟨rvv_st PC (i := 0) (by omega) (Or.inl rfl) q3, c2, ring_st PC (Or.inl rfl) (ring_keep PC (i := 1) (by omega) q4 c3 q2.1), past_st PC (riv_past PC (i := 1) (by omega) (fun m hm => by omega) q4 c4), by rw [mI_self]; rfl, fun U hU => ?_, by rw [es _ (by omega)]; exact c7, by rw [es _ (by omega)]; exact c8, by rw [es _ (by omega)]; exact c9, by rw [es _ (by omega)]; exact c10, w_st PC (by omega) (Or.inl rfl) (w_riv PC (i := 1) (by omega) q4 (by omega) c11), w_st PC (by omega) (Or.inl rfl) (w_riv PC (i := 1) (by omega) q4 (by omega) c12), fun k h1 h2 => ?_⟩⟩
  · unfold sX4_save
    have q1' : sX1_copyFrom Λ μ (lyR Λ a 1) (lyR Λ a 0) = some μ1 := q1
    rw [q1', Option.bind_some]
    simp only [bnd]
    have : RvV Λ (stI μ1 a 6 1) (lyR Λ a 0) V := rvv_st PC (i := 0) (by omega) (Or.inl rfl) q3
    rw [rv_banks this.1]
    rfl
  · have : V = U := Option.some.inj hU
    subst this
    exact ⟨c2, rvv_st PC (i := 1) (by omega) (Or.inl rfl) q2⟩
  · obtain ⟨l, q⟩ := c13 k h1 h2
    exact ⟨l, w_st PC h2 (Or.inl rfl) (w_riv PC (i := 1) (by omega) q4 h2 q)⟩
theorem op_restore0 (S : St Λ μ a V h none r0 tx) : sX4_restore Λ μ a = some (-4, μ) := by
  obtain ⟨p, r2, r3, ln, C⟩ := S
  unfold sX4_restore
  rw [C.2.2.2.2.1]
  rfl
theorem op_restore (PC : FrApart Λ a) {U : Pic} (S : St Λ μ a V h (some U) r0 tx) : ∃ μ1, sX4_restore Λ μ a = some (nI U.w.length, μ1) ∧ St Λ μ1 a U [] (some U) r0 tx := by
  obtain ⟨p, r2, r3, ln, C⟩ := S
  have C' := C
  obtain ⟨c1, c2, c3, c4, c5, c6, c7, c8, c9, c10, c11, c12, c13⟩ := C'
  have hp := c4.1
  have hb : lyR Λ a 2 = a ∨ lyR Λ a 2 = lyR Λ a 2 ∨ lyR Λ a 2 = lyR Λ a 5 := Or.inr (Or.inl rfl)
  obtain ⟨okU, NU⟩ := c6 U rfl
  obtain ⟨μ1, q1, q2, q3, q4⟩ := rvv_copy PC (i := 0) (j := 1) (by omega) (by omega) (by omega) c3 okU NU
  obtain ⟨C1, -⟩ := cinv_riv PC C okU q2 q4
  obtain ⟨d1, d2, d3, d4, d5, d6, d7, d8, d9, d10, d11, d12, d13⟩ := C1
  have ei : ∀ k, mI (stI μ1 (lyR Λ a 2) 2 0) a k = mI μ1 a k := fun k => mI_ne (fun q => PC.2.2.2.2.2.2.1 q.1)
  refine ⟨stI μ1 (lyR Λ a 2) 2 0, ?_, p, r2, r3, ln, ⟨rvv_st PC (i := 0) (by omega) hb d1, d2, ring_st PC hb d3, ⟨hp, by rw [mI_ne (by omega)]; exact d4.2.1, by rw [mI_self]; rfl, by simp, by simp, by simp⟩, by rw [ei]; exact d5, fun W hW => ⟨(d6 W hW).1, rvv_st PC (i := 1) (by omega) hb (d6 W hW).2⟩, by rw [ei]; exact d7, by rw [ei]; exact d8, by rw [ei]; exact d9, by rw [ei]; exact d10, w_st PC (by omega) hb d11, w_st PC (by omega) hb d12, fun k h1 h2 => ?_⟩⟩
  · unfold sX4_restore
    have q1' : sX1_copyFrom Λ μ (lyR Λ a 0) (lyR Λ a 1) = some μ1 := q1
    have c5' : mI μ a 6 = 1 := c5
    rw [c5', if_neg (by decide), q1', Option.bind_some]
    unfold sX0_forget
    simp only [bnd]
    have : RvV Λ (stI μ1 (lyR Λ a 2) 2 0) (lyR Λ a 0) U := rvv_st PC (i := 0) (by omega) hb d1
    rw [Option.bind_some, rv_banks this.1]
    rfl
  · obtain ⟨l, q⟩ := d13 k h1 h2
    exact ⟨l, w_st PC h2 hb q⟩
theorem op_refusal (S : St Λ μ a V h sv r0 tx) (hr : r0 ≠ 0) : sX4_refusal Λ μ a 0 = some r0 := by
  obtain ⟨p, r2, r3, ln, C⟩ := S
  have e := C.2.2.2.2.2.2.1
  unfold sX4_refusal
  rw [e]
  simp [hr]
end OP
section LN
variable {Λ : Lay} {μ μ1 : Mem} {a p : Nat} {x : Int32} {V : Pic} {h : List Pic} {sv : Option Pic} {r1 r2 r3 : Int32} {ln tx : List Int32}
theorem w_int (P : FrApart Λ a) {k : Nat} (hk : k < 5) (c : Chg Λ μ μ1 (fun z => z = frW Λ a k) noT) {z : Nat} (hz : z = a ∨ z = lyR Λ a 2 ∨ z = lyR Λ a 5) (j : Nat) : mI μ1 z j = mI μ z j := c.1 z j (fun q => by
    have := P.2.2.2.2.2.1 k hk
    rcases hz with e | e | e
    · exact this.1 (q.1.symm.trans e)
    · exact this.2.1 (q.1.symm.trans e)
    · exact this.2.2 (q.1.symm.trans e)) (fun q => q)
/-- a row beside the rivers changed -/
theorem w_rvv (P : FrApart Λ a) {k : Nat} (hk : k < 5) (c : Chg Λ μ μ1 (fun z => z = frW Λ a k) noT) {i : Nat} (hi : i < 11) {U : Pic} (N : RvV Λ μ (frR Λ a i) U) : RvV Λ μ1 (frR Λ a i) U := by
  obtain ⟨⟨v1, v2, v3, v4⟩, e4, e5, e6⟩ := N
  have hr : ∀ g l, rvRow Λ (frR Λ a i) g → RowIs Λ μ g l → RowIs Λ μ1 g l := fun g l hg H => by
    have := (P.2.2.1 i g hi hg).2.2.2 k hk
    exact c.row H this.1 (fun z hz => by rw [hz]; exact this.2) (fun q => q)
  have hf : ∀ j, mI μ1 (frR Λ a i) j = mI μ (frR Λ a i) j := fun j => c.1 _ j (fun q => (P.2.2.2.1 i hi).2.2.2 k hk q.1) (fun q => q)
  exact ⟨⟨hr _ _ rvRow0 v1, hr _ _ rvRow1 v2, v3, fun m hm => hr _ _ (rvRowK hm) (v4 m hm)⟩, by rw [hf]; exact e4, by rw [hf]; exact e5, by rw [hf]; exact e6⟩
theorem w_ring (P : FrApart Λ a) {k : Nat} (hk : k < 5) (c : Chg Λ μ μ1 (fun z => z = frW Λ a k) noT) (R : ringO Λ μ a) : ringO Λ μ1 a := fun i hi => by
  obtain ⟨w, q, rd, s⟩ := R i hi
  have := w_rvv P hk c hi (U := mkP w q rd rd (mI μ (frR Λ a i) 4) (mI μ (frR Λ a i) 5) (mI μ (frR Λ a i) 6)) ⟨s, rfl, rfl, rfl⟩
  exact ⟨w, q, rd, this.1⟩
theorem w_past (P : FrApart Λ a) {k : Nat} (hk : k < 5) (c : Chg Λ μ μ1 (fun z => z = frW Λ a k) noT) (H : Past Λ μ a p h) : Past Λ μ1 a p h :=
  ⟨H.1, by rw [w_int P hk c (Or.inr (Or.inl rfl))]; exact H.2.1, by rw [w_int P hk c (Or.inr (Or.inl rfl))]; exact H.2.2.1, H.2.2.2.1, H.2.2.2.2.1, fun m hm => w_rvv P hk c (by omega) (H.2.2.2.2.2 m hm)⟩
theorem w_other (P : FrApart Λ a) {k : Nat} (hk : k < 5) (c : Chg Λ μ μ1 (fun z => z = frW Λ a k) noT) {j : Nat} (hj : j < 5) (hjk : j ≠ k) {l : List Int32} (H : RowIs Λ μ (frW Λ a j) l) : RowIs Λ μ1 (frW Λ a j) l :=
  c.row H (P.2.2.2.2.1 j k hj hk hjk).1 (fun z hz => by rw [hz]; exact (P.2.2.2.2.1 j k hj hk hjk).2) (fun q => q)
theorem cinv_tx (P : FrApart Λ a) (C : CInv Λ μ a p x V h sv r1 r2 r3 ln tx) {l : List Int32} (H : RowIs Λ μ1 (frW Λ a 1) l) (c : Chg Λ μ μ1 (fun z => z = frW Λ a 1) noT) : CInv Λ μ1 a p x V h sv r1 r2 r3 ln l := by
  obtain ⟨c1, c2, c3, c4, c5, c6, c7, c8, c9, c10, c11, c12, c13⟩ := C
  have hk : 1 < 5 := by omega
  have ei : ∀ k, mI μ1 a k = mI μ a k := fun k => w_int P hk c (Or.inl rfl) k
  refine ⟨w_rvv P hk c (i := 0) (by omega) c1, c2, w_ring P hk c c3, w_past P hk c c4, by rw [ei]; exact c5, fun U hU => ⟨(c6 U hU).1, w_rvv P hk c (i := 1) (by omega) (c6 U hU).2⟩, by rw [ei]; exact c7, by rw [ei]; exact c8, by rw [ei]; exact c9, by rw [ei]; exact c10, w_other P hk c (by omega) (by omega) c11, H, fun k h1 h2 => ?_⟩
  obtain ⟨l, q⟩ := c13 k h1 h2
  exact ⟨l, w_other P hk c h2 (by omega) q⟩
end LN
section AP
variable {Λ : Lay} {μ : Mem} {a : Nat} {V : Pic} {h : List Pic} {sv : Option Pic} {r0 : Int32} {tx : List Int32}
theorem op_append (PC : FrApart Λ a) (S : St Λ μ a V h sv r0 tx) {z : Int32} (c : 32 ≤ z.toInt ∧ z.toInt ≤ 126) (hl : tx.length < 70) : ∃ x μ1, sX4_append Λ μ a z = some (x, μ1) ∧ St Λ μ1 a V h sv r0 (tx ++ [z]) := by
  obtain ⟨p, r2, r3, ln, C⟩ := S
  have e32 : (32 : Int32).toInt = 32 := rfl
  have e126 : (126 : Int32).toInt = 126 := rfl
  have H : RowIs Λ μ (lyR Λ a 4) tx := C.2.2.2.2.2.2.2.2.2.2.2.1
  have hcap : lyN Λ (lyR Λ (lyR Λ a 4) 0) = 70 := PC.2.2.2.2.2.2.2.2.2.2.2 1 (by omega) (by omega)
  obtain ⟨μ1, q1, q2, q3⟩ := row_add H (by omega) z
  refine ⟨nI (tx ++ [z]).length, μ1, ?_, p, r2, r3, ln, cinv_tx PC C q2 q3⟩
  unfold sX4_append
  rw [row_len H, Option.bind_some, if_neg (by rw [Int32.lt_iff_toInt_lt, e32]; omega), if_neg (by rw [Int32.lt_iff_toInt_lt, e126]; omega), show (70 : Int32) = nI 70 from rfl, if_pos ((nI_ltI (by omega) (by omega)).mpr (by omega)), q1, Option.bind_some, row_len q2]
  rfl
theorem appL_ok (PC : FrApart Λ a) : ∀ (l : List Int32) (μ : Mem) (tx : List Int32), St Λ μ a V h sv r0 tx → (∀ z ∈ l, 32 ≤ z.toInt ∧ z.toInt ≤ 126) → tx.length + l.length ≤ 70 → ∃ μ1, appL Λ a l μ = some μ1 ∧ St Λ μ1 a V h sv r0 (tx ++ l) := by
  intro l
  induction l with
  | nil => intro μ tx S _ _; exact ⟨μ, rfl, by rw [List.append_nil]; exact S⟩
  | cons z l ih =>
    intro μ tx S hz hl
    simp only [List.length_cons] at hl
    obtain ⟨x, μ1, e1, S1⟩ := op_append PC S (hz z (by simp)) (by omega)
    obtain ⟨μ2, e2, S2⟩ := ih μ1 (tx ++ [z]) S1 (fun y hy => hz y (by simp [hy])) (by simp; omega)
    refine ⟨μ2, ?_, by simpa using S2⟩
    show (sX4_append Λ μ a z).bind (fun q => appL Λ a l q.2) = _
    rw [e1]
    exact e2
theorem tx_ok : ∀ k, k < 20 → ∀ z ∈ txL k, 32 ≤ z.toInt ∧ z.toInt ≤ 126 := by decide +kernel
theorem op_write (PC : FrApart Λ a) (S : St Λ μ a V h sv r0 []) {k : Nat} (hk : k < 20) : ∃ μ1, sL_write Λ μ a k = some μ1 ∧ St Λ μ1 a V h sv r0 (txL k) := by
  have := tx_sm k hk
  obtain ⟨μ1, e, S1⟩ := appL_ok PC (txL k) μ [] S (tx_ok k hk) (by simp; omega)
  exact ⟨μ1, e, by simpa using S1⟩
end AP
