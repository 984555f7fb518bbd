/-! BOTH, WHOLE: the changing operations. -/
def CKeep (Λ : Lay) (μ μ1 : Mem) (a p : Nat) : Prop := (∀ k, k < 5 → ∀ l, RowIs Λ μ (frW Λ a k) l → RowIs Λ μ1 (frW Λ a k) l) ∧ (∀ k, mI μ1 (lyR Λ a 5) k = mI μ (lyR Λ a 5) k) ∧ ∀ U, RvV Λ μ (frR Λ a (2 + p)) U → RvV Λ μ1 (frR Λ a (2 + p)) U
def MKeep (Λ : Lay) (μ μ1 : Mem) (b : Nat) : Prop := (∀ k, k ≠ 4 → k ≠ 5 → k ≠ 6 → k ≠ 7 → mI μ1 b k = mI μ b k) ∧ ∀ x, x ≠ lyR Λ b 0 → x ≠ lyR Λ b 11 → (∀ i, i < 8 → x ≠ hsR Λ b i) → mA μ1 x = mA μ x
def CAft (Λ : Lay) (μ : Mem) (a p : Nat) (x : Int32) (h : List Pic) (sv : Option Pic) (V : Pic) (r1 r2 r3 : Int32) (ln tx : List Int32) (f : Option (Int32 × Mem)) : Out → Prop
  | .inl c => f = some (c, μ) ∧ (c = -1 ∨ c = -2)
  | .inr (.inl (r, v)) => r ≠ 0 ∧ ∃ μ1, f = some (-3, μ1) ∧ CInv Λ μ1 a p x V h sv r v x ln tx ∧ CKeep Λ μ μ1 a p
  | .inr (.inr (n, V')) => n < 2 ^ 31 ∧ ∃ μ1, f = some (nI n, μ1) ∧ CInv Λ μ1 a p x V' h sv r1 r2 r3 ln tx ∧ CKeep Λ μ μ1 a p
def MAft (Λ : Lay) (μ : Mem) (b : Nat) (y : Int32) (h : List Pic) (sv : Option Pic) (V : Pic) (r1 r2 m3 : Int32) (ln tx : List Int32) (f : Option (Int32 × Mem)) : Out → Prop
  | .inl c => f = some (c, μ)
  | .inr (.inl (r, v)) => ∃ μ1, f = some (-3, μ1) ∧ MInv Λ μ1 b y V h sv r v (if y = 0 then -1 else mI μ b 8) ln tx ∧ MKeep Λ μ μ1 b
  | .inr (.inr (n, V')) => ∃ μ1, f = some (nI n, μ1) ∧ MInv Λ μ1 b y V' (if y = 0 then push h V else h) sv r1 r2 m3 ln tx ∧ MKeep Λ μ μ1 b
section OU
variable {Λ Λ' : Lay} {μ μ' : Mem} {a b p : Nat} {x y : Int32} {V : Pic} {h : List Pic} {sv : Option Pic} {r1 r2 r3 m3 : Int32} {ln tx : List Int32}
theorem md_far (P : MdApart Λ b) {z : Nat} (hz : z = lyR Λ b 1 ∨ z = lyR Λ b 2 ∨ z = lyR Λ b 12 ∨ z = lyR Λ b 14) : z ≠ lyR Λ b 0 ∧ z ≠ lyR Λ b 11 ∧ ∀ i, i < 8 → z ≠ hsR Λ b i := by
  have e : ∃ j, j < 14 ∧ z = mdA Λ b j ∧ j ≠ 0 ∧ j ≠ 11 ∧ (j < 3 ∨ 11 ≤ j) := by
    rcases hz with q | q | q | q
    · exact ⟨1, by omega, by rw [q]; rfl, by omega, by omega, by omega⟩
    · exact ⟨2, by omega, by rw [q]; rfl, by omega, by omega, by omega⟩
    · exact ⟨12, by omega, by rw [q]; rfl, by omega, by omega, by omega⟩
    · exact ⟨13, by omega, by rw [q]; rfl, by omega, by omega, by omega⟩
  obtain ⟨j, hj, ej, n0, n11, nh⟩ := e
  refine ⟨fun q => n0 (P.1 j 0 hj (by omega) (by rw [← ej, q]; rfl)), fun q => n11 (P.1 j 11 hj (by omega) (by rw [← ej, q]; rfl)), fun i hi q => ?_⟩
  have := P.1 j (3 + i) hj (by omega) (by
    rw [← ej, q]
    unfold mdA hsR
    rw [if_neg (by omega), if_pos (by omega), Nat.add_sub_cancel_left])
  omega
theorem cinv_riv (P : FrApart Λ a) (C : CInv Λ μ a p x V h sv r1 r2 r3 ln tx) {V' : Pic} (ok : PicOK V') (N : RvV Λ μ' (lyR Λ a 0) V') (c : Chg Λ μ μ' (rvRow Λ (lyR Λ a 0)) (rvFld (lyR Λ a 0))) : CInv Λ μ' a p x V' h sv r1 r2 r3 ln tx ∧ CKeep Λ μ μ' a p := by
  obtain ⟨c1, c2, c3, c4, c5, c6, c7, c8, c9, c10, c11, c12, c13⟩ := C
  have c' : Chg Λ μ μ' (rvRow Λ (frR Λ a 0)) (rvFld (frR Λ a 0)) := c
  have hp := c4.1
  have ei : ∀ k, mI μ' a k = mI μ a k := fun k => riv_int P (i := 0) (by omega) c' (Or.inl rfl) k
  refine ⟨⟨N, ok, ring_keep P (i := 0) (by omega) c' c3 N.1, riv_past P (i := 0) (by omega) (fun m hm => by omega) c' c4, by rw [ei]; exact c5, fun U hU => ⟨(c6 U hU).1, rvv_keep P (i := 0) (j := 1) (by omega) (by omega) (by omega) c' (c6 U hU).2⟩, by rw [ei]; exact c7, by rw [ei]; exact c8, by rw [ei]; exact c9, by rw [ei]; exact c10, w_riv P (i := 0) (by omega) c' (by omega) c11, w_riv P (i := 0) (by omega) c' (by omega) c12, fun k h1 h2 => ?_⟩, ⟨fun k hk l hl => w_riv P (i := 0) (by omega) c' hk hl, fun k => riv_int P (i := 0) (by omega) c' (Or.inr (Or.inr rfl)) k, fun U hU => rvv_keep P (i := 0) (j := 2 + p) (by omega) (by omega) (by omega) c' hU⟩⟩
  obtain ⟨l, q⟩ := c13 k h1 h2
  exact ⟨l, w_riv P (i := 0) (by omega) c' h2 q⟩
theorem cinv_st (P : FrApart Λ a) (C : CInv Λ μ a p x V h sv r1 r2 r3 ln tx) {k : Nat} {v : Int32} : RvV Λ (stI μ a k v) (lyR Λ a 0) V ∧ ringO Λ (stI μ a k v) a ∧ Past Λ (stI μ a k v) a p h ∧ (∀ U, sv = some U → PicOK U ∧ RvV Λ (stI μ a k v) (lyR Λ a 1) U) ∧ CKeep Λ μ (stI μ a k v) a p := by
  obtain ⟨c1, c2, c3, c4, c5, c6, c7, c8, c9, c10, c11, c12, c13⟩ := C
  have hp := c4.1
  exact ⟨rvv_st P (i := 0) (by omega) (Or.inl rfl) c1, ring_st P (Or.inl rfl) c3, past_st P c4, fun U hU => ⟨(c6 U hU).1, rvv_st P (i := 1) (by omega) (Or.inl rfl) (c6 U hU).2⟩, ⟨fun k hk l hl => w_st P hk (Or.inl rfl) hl, fun k => mI_ne (fun q => P.2.2.2.2.2.2.2.1 q.1.symm), fun U hU => rvv_st P (by omega) (Or.inl rfl) hU⟩⟩
theorem CKeep.tr {μ1 μ2 : Mem} (h1 : CKeep Λ μ μ1 a p) (h2 : CKeep Λ μ1 μ2 a p) : CKeep Λ μ μ2 a p := ⟨fun k hk l hl => h2.1 k hk l (h1.1 k hk l hl), fun k => (h2.2.1 k).trans (h1.2.1 k), fun U hU => h2.2.2 U (h1.2.2 U hU)⟩
theorem CKeep.rf : CKeep Λ μ μ a p := ⟨fun _ _ _ h => h, fun _ => rfl, fun _ h => h⟩
theorem MKeep.rf : MKeep Λ μ μ b := ⟨fun _ _ _ _ _ => rfl, fun _ _ _ _ => rfl⟩
/-- one of a's numbers 6 to 10 set -/
theorem cinv_set (P : FrApart Λ a) (C : CInv Λ μ a p x V h sv r1 r2 r3 ln tx) {k : Nat} (hk : k = 7 ∨ k = 8 ∨ k = 9 ∨ k = 10) (v : Int32) : CInv Λ (stI μ a k v) a p (if k = 10 then v else x) V h sv (if k = 7 then v else r1) (if k = 8 then v else r2) (if k = 9 then v else r3) ln tx ∧ CKeep Λ μ (stI μ a k v) a p := by
  obtain ⟨s1, s2, s3, s4, s5⟩ := cinv_st (k := k) (v := v) P C
  obtain ⟨c1, c2, c3, c4, c5, c6, c7, c8, c9, c10, c11, c12, c13⟩ := C
  have get : ∀ j, mI (stI μ a k v) a j = if k = j then v else mI μ a j := fun j => by
    by_cases e : k = j
    · rw [if_pos e, e, mI_self]
    · rw [if_neg e, mI_ne (fun q => e q.2.symm)]
  refine ⟨⟨s1, c2, s2, s3, by rw [get, if_neg (by omega)]; exact c5, s4, by rw [get, c7], by rw [get, c8], by rw [get, c9], by rw [get, c10], s5.1 0 (by omega) _ c11, s5.1 1 (by omega) _ c12, fun k' h1 h2 => ?_⟩, s5⟩
  obtain ⟨l, q⟩ := c13 k' h1 h2
  exact ⟨l, s5.1 k' h2 l q⟩
theorem cinv_core (P : FrApart Λ a) (C : CInv Λ μ a p x V h sv r1 r2 r3 ln tx) {f : Option (Int32 × Mem)} {o : Out} (m : CMeets Λ μ a V f o) : CAft Λ μ a p x h sv V r1 r2 r3 ln tx f o := by
  match o, m with
  | .inl c, m => exact m
  | .inr (.inl (r, v)), ⟨μ1, e1, hr, N, c⟩ =>
    obtain ⟨C1, K1⟩ := cinv_riv P C C.2.1 N c
    obtain ⟨C2, K2⟩ := cinv_set P C1 (k := 7) (by omega) r
    obtain ⟨C3, K3⟩ := cinv_set P C2 (k := 8) (by omega) v
    have e10 : mI μ1 a 10 = x := C1.2.2.2.2.2.2.2.2.2.1
    obtain ⟨C4, K4⟩ := cinv_set P C3 (k := 9) (by omega) (mI μ1 a 10)
    refine ⟨hr, _, e1, ?_, ((K1.tr K2).tr K3).tr K4⟩
    rw [e10] at C4
    unfold refC
    rw [e10]
    exact C4
  | .inr (.inr (n, V')), ⟨μ1, e1, hn, ok, N, c⟩ =>
    obtain ⟨C1, K1⟩ := cinv_riv P C ok N c
    exact ⟨hn, μ1, e1, C1, K1⟩
theorem minv_core (P : MdApart Λ b) (M : MInv Λ μ b y V h sv r1 r2 m3 ln tx) {f : Option (Int32 × Mem)} {o : Out} (m : MMeets Λ μ b h V f o) : MAft Λ μ b y h sv V r1 r2 m3 ln tx f o := by
  obtain ⟨m1, m2, m4, m5, m6, m7, m8, m9, m10, m11, m12, m13⟩ := M
  match o, m with
  | .inl c, m => exact m
  | .inr (.inl (r, v)), m =>
    have g : ∀ j, j ≠ 5 → j ≠ 6 → j ≠ 7 → mI (refM μ b r v) b j = mI μ b j := fun j h5 h6 h7 => by
      unfold refM
      rw [mI_ne (fun q => h7 q.2), mI_ne (fun q => h6 q.2), mI_ne (fun q => h5 q.2)]
    refine ⟨refM μ b r v, m, ⟨NowV.sm m1 rfl, m2.fr (g 4 (by omega) (by omega) (by omega)) (fun _ _ => rfl), by rw [g 9 (by omega) (by omega) (by omega)]; exact m4, fun U hU => NowV.sm (m5 U hU) rfl, ?_, ?_, ?_, by rw [g 10 (by omega) (by omega) (by omega)]; exact m9, by rw [g 13 (by omega) (by omega) (by omega)]; exact m10, m11, by rw [g 15 (by omega) (by omega) (by omega)]; exact m12, m13⟩, ⟨fun k _ h5 h6 h7 => g k h5 h6 h7, fun _ _ _ _ => rfl⟩⟩
    · unfold refM
      rw [mI_ne (by omega), mI_ne (by omega), mI_self]
    · unfold refM
      rw [mI_ne (by omega), mI_self]
    · unfold refM
      rw [mI_self, m9]
  | .inr (.inr (n, V')), ⟨μ1, e1, ⟨⟨f1, f2⟩, H, N⟩⟩ =>
    have g : ∀ j, j ≠ 4 → mI μ1 b j = mI μ b j := fun j h4 => f1 b j (fun q => h4 q.2)
    have gr : ∀ z, (z = lyR Λ b 1 ∨ z = lyR Λ b 2 ∨ z = lyR Λ b 12 ∨ z = lyR Λ b 14) → mA μ1 z = mA μ z := fun z hz => by
      obtain ⟨q1, q2, q3⟩ := md_far P hz
      exact f2 z q1 q2 q3
    have eh : hst μ b h V = if y = 0 then push h V else h := by unfold hst; rw [m9]
    rw [eh] at H
    refine ⟨μ1, e1, ⟨N, H, by rw [g 9 (by omega)]; exact m4, fun U hU => NowV.sm (m5 U hU) (gr _ (Or.inl rfl)), by rw [g 5 (by omega)]; exact m6, by rw [g 6 (by omega)]; exact m7, by rw [g 7 (by omega)]; exact m8, by rw [g 10 (by omega)]; exact m9, by rw [g 13 (by omega)]; exact m10, fun i hi => by rw [gr _ (by simp)]; exact m11 i hi, by rw [g 15 (by omega)]; exact m12, fun i hi => by rw [gr _ (by simp)]; exact m13 i hi⟩, ⟨fun k h4 _ _ _ => g k h4, fun z h0 h11 hh => f2 z h0 h11 hh⟩⟩
theorem note_inv (P : FrApart Λ a) (C : CInv Λ μ a p x V h sv r1 r2 r3 ln tx) : ∃ μ1, sX0_note Λ μ (lyR Λ a 2) (lyR Λ a 0) = some μ1 ∧ CInv Λ μ1 a p x V h sv r1 r2 r3 ln tx ∧ RvV Λ μ1 (frR Λ a (2 + p)) V ∧ (∀ k, k < 5 → ∀ l, RowIs Λ μ (frW Λ a k) l → RowIs Λ μ1 (frW Λ a k) l) ∧ ∀ k, mI μ1 (lyR Λ a 5) k = mI μ (lyR Λ a 5) k := by
  obtain ⟨c1, c2, c3, c4, c5, c6, c7, c8, c9, c10, c11, c12, c13⟩ := C
  have hp := c4.1
  obtain ⟨μ1, q1, q2, q3, q4, q5, q6⟩ := fr_note P c3 c4 c2 c1
  have ei : ∀ k, mI μ1 a k = mI μ a k := fun k => riv_int P (i := 2 + p) (by omega) q6 (Or.inl rfl) k
  refine ⟨μ1, q1, ⟨q2, c2, q5, q4, by rw [ei]; exact c5, fun U hU => ⟨(c6 U hU).1, rvv_keep P (i := 2 + p) (j := 1) (by omega) (by omega) (by omega) q6 (c6 U hU).2⟩, by rw [ei]; exact c7, by rw [ei]; exact c8, by rw [ei]; exact c9, by rw [ei]; exact c10, w_riv P (i := 2 + p) (by omega) q6 (by omega) c11, w_riv P (i := 2 + p) (by omega) q6 (by omega) c12, fun k h1 h2 => ?_⟩, q3, fun k hk l hl => w_riv P (i := 2 + p) (by omega) q6 hk hl, fun k => riv_int P (i := 2 + p) (by omega) q6 (Or.inr (Or.inr rfl)) k⟩
  obtain ⟨l, q⟩ := c13 k h1 h2
  exact ⟨l, w_riv P (i := 2 + p) (by omega) q6 h2 q⟩
/-- what is noted is kept -/
theorem confirm_inv (P : FrApart Λ a) (C : CInv Λ μ a p x V h sv r1 r2 r3 ln tx) {U : Pic} (ok : PicOK U) (N : RvV Λ μ (frR Λ a (2 + p)) U) : ∃ μ1, sX0_confirm Λ μ (lyR Λ a 2) = some μ1 ∧ CInv Λ μ1 a ((p + 1) % 9) x V (push h U) sv r1 r2 r3 ln tx := by
  obtain ⟨c1, c2, c3, c4, c5, c6, c7, c8, c9, c10, c11, c12, c13⟩ := C
  obtain ⟨v, w, q1, q2⟩ := fr_confirm P c4 ok N
  have hb : lyR Λ a 2 = a ∨ lyR Λ a 2 = lyR Λ a 2 ∨ lyR Λ a 2 = lyR Λ a 5 := Or.inr (Or.inl rfl)
  have ei : ∀ k, mI (stI (stI μ (lyR Λ a 2) 1 v) (lyR Λ a 2) 2 w) a k = mI μ a k := fun k => by
    rw [mI_ne (fun q => P.2.2.2.2.2.2.1 q.1), mI_ne (fun q => P.2.2.2.2.2.2.1 q.1)]
  refine ⟨_, q1, ⟨rvv_st P (i := 0) (by omega) hb (rvv_st P (i := 0) (by omega) hb c1), c2, ring_st P hb (ring_st P hb c3), q2, by rw [ei]; exact c5, fun U hU => ⟨(c6 U hU).1, rvv_st P (i := 1) (by omega) hb (rvv_st P (i := 1) (by omega) hb (c6 U hU).2)⟩, by rw [ei]; exact c7, by rw [ei]; exact c8, by rw [ei]; exact c9, by rw [ei]; exact c10, w_st P (by omega) hb (w_st P (by omega) hb c11), w_st P (by omega) hb (w_st P (by omega) hb c12), fun k h1 h2 => ?_⟩⟩
  obtain ⟨l, q⟩ := c13 k h1 h2
  exact ⟨l, w_st P h2 hb (w_st P h2 hb q)⟩
theorem outer (PC : FrApart Λ a) (PM : MdApart Λ' b) (I : Inv Λ μ a Λ' μ' b) (core : Mem → Option (Int32 × Mem)) (fm : Option (Int32 × Mem)) (hstep : ∀ μn V h, PicOK V → RvV Λ μn (lyR Λ a 0) V → NowV Λ' μ' (lyR Λ' b 0) V → Hist Λ' μ' b h → ∃ o, CMeets Λ μn a V (core μn) o ∧ MMeets Λ' μ' b h V fm o) : ∃ r μ1 μ1', ((sX0_note Λ μ (lyR Λ a 2) (lyR Λ a 0)).bind (fun q1 => (core q1).bind (fun q2 => (sX4_settle Λ q2.2 a q2.1).bind (fun q3 => some (q3.1, q3.2))))) = some (r, μ1) ∧ fm = some (r, μ1') ∧ Inv Λ μ1 a Λ' μ1' b := by
  obtain ⟨p, V, h, sv, r1, r2, r3, m3, ln, tx, C, M, hR⟩ := I
  obtain ⟨μn, q1, C1, N1, -, -⟩ := note_inv PC C
  rw [q1, Option.bind_some]
  obtain ⟨o, k1, k2⟩ := hstep μn V h C1.2.1 C1.1 M.1 M.2.1
  have k3 := cinv_core PC C1 k1
  have k4 := minv_core PM M k2
  clear k1 k2
  match o, k3, k4 with
  | .inl c, ⟨e1, hc⟩, k2 =>
    have hs : sX4_settle Λ μn a c = some (c, μn) := by
      unfold sX4_settle
      rw [if_pos (by rcases hc with q | q <;> rw [q] <;> decide)]
    refine ⟨c, μn, μ', ?_, k2, p, V, h, sv, r1, r2, r3, m3, ln, tx, C1, M, hR⟩
    rw [e1, Option.bind_some]
    dsimp only
    rw [hs]
    rfl
  | .inr (.inl (r, v)), ⟨hr, μ1, e1, C2, _⟩, ⟨μ2, e2, M2, _⟩ =>
    have hs : sX4_settle Λ μ1 a (-3) = some (-3, μ1) := by
      unfold sX4_settle
      rw [if_pos (by decide)]
    refine ⟨-3, μ1, μ2, ?_, e2, p, V, h, sv, r, v, -4, -1, ln, tx, C2, M2, ⟨fun _ => Or.inr ⟨by decide, rfl⟩, hR.2⟩⟩
    rw [e1, Option.bind_some]
    dsimp only
    rw [hs]
    rfl
  | .inr (.inr (n, V')), ⟨hn, μ1, e1, C2, K2⟩, ⟨μ2, e2, M2, _⟩ =>
    obtain ⟨μ3, e3, C3⟩ := confirm_inv PC C2 C1.2.1 (K2.2.2 V N1)
    have hs : sX4_settle Λ μ1 a (nI n) = some (nI n, μ3) := by
      unfold sX4_settle
      rw [if_neg (nI_pos hn), e3]
      rfl
    refine ⟨nI n, μ3, μ2, ?_, e2, _, V', _, sv, r1, r2, r3, m3, ln, tx, C3, M2, hR⟩
    rw [e1, Option.bind_some]
    dsimp only
    rw [hs]
    rfl
theorem op_bank (PC : FrApart Λ a) (PM : MdApart Λ' b) (I : Inv Λ μ a Λ' μ' b) (x : Int32) : ∃ r μ1 μ1', sX4_bank Λ μ a x = some (r, μ1) ∧ sX5_bank Λ' μ' b x = some (r, μ1') ∧ Inv Λ μ1 a Λ' μ1' b :=
  outer PC PM I (fun μ => sX4_addBank Λ μ a x) _ (fun _ _ _ ok N M H => step_bank PC PM ok N M H x)
theorem op_weigh (PC : FrApart Λ a) (PM : MdApart Λ' b) (I : Inv Λ μ a Λ' μ' b) (x y : Int32) : ∃ r μ1 μ1', sX4_weigh Λ μ a x y = some (r, μ1) ∧ sX5_weigh Λ' μ' b x y = some (r, μ1') ∧ Inv Λ μ1 a Λ' μ1' b :=
  outer PC PM I (fun μ => sX4_setWeight Λ μ a x y) _ (fun _ _ _ ok N M H => step_weigh PC PM ok N M H x y)
theorem op_rise (PC : FrApart Λ a) (PM : MdApart Λ' b) (I : Inv Λ μ a Λ' μ' b) (x y : Int32) : ∃ r μ1 μ1', sX4_rise Λ μ a x y = some (r, μ1) ∧ sX5_rise Λ' μ' b x y = some (r, μ1') ∧ Inv Λ μ1 a Λ' μ1' b :=
  outer PC PM I (fun μ => sX4_raisePart Λ μ a x y) _ (fun _ _ _ ok N M H => step_rise PC PM ok N M H x y)
theorem op_turn (PC : FrApart Λ a) (PM : MdApart Λ' b) (I : Inv Λ μ a Λ' μ' b) (x : Int32) : ∃ r μ1 μ1', sX4_turn Λ μ a x = some (r, μ1) ∧ sX5_turn Λ' μ' b x = some (r, μ1') ∧ Inv Λ μ1 a Λ' μ1' b :=
  outer PC PM I (fun μ => sX4_turnRound Λ μ a x) _ (fun _ _ _ ok N M H => step_turn PC PM ok N M H x)
theorem op_cut (PC : FrApart Λ a) (PM : MdApart Λ' b) (I : Inv Λ μ a Λ' μ' b) (x y : Int32) : ∃ r μ1 μ1', sX4_cut Λ μ a x y = some (r, μ1) ∧ sX5_cut Λ' μ' b x y = some (r, μ1') ∧ Inv Λ μ1 a Λ' μ1' b :=
  outer PC PM I (fun μ => sX4_cutRope Λ μ a x y) _ (fun _ _ _ ok N M H => step_cut PC PM ok N M H x y)
theorem op_join (PC : FrApart Λ a) (PM : MdApart Λ' b) (I : Inv Λ μ a Λ' μ' b) (x y : Int32) : ∃ r μ1 μ1', sX4_join Λ μ a x y = some (r, μ1) ∧ sX5_join Λ' μ' b x y = some (r, μ1') ∧ Inv Λ μ1 a Λ' μ1' b :=
  outer PC PM I (fun μ => sX4_joinBanks Λ μ a x y) _ (fun _ _ _ ok N M H => step_join PC PM ok N M H x y)
end OU
