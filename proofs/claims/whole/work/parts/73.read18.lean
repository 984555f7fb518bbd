/-! READING: whole. -/
section RW
variable {Λ Λ' : Lay} {μ μ' μ1 : Mem} {a b p : Nat} {x y : Int32} {V : Pic} {h : List Pic} {sv : Option Pic} {r1 r2 r3 m3 : Int32} {ln tx : List Int32}
theorem sch_rvv (P : FrApart Λ a) (c : SCh Λ μ μ1 a) {i : Nat} (hi : i < 11) {U : Pic} (N : RvV Λ μ (frR Λ a i) U) : RvV Λ μ1 (frR Λ a i) U := by
  obtain ⟨⟨v1, v2, v3, v4⟩, e4, e5, e6⟩ := N
  have hr : ∀ g l, rvRow Λ (frR Λ a i) g → RowIs Λ μ g l → RowIs Λ μ1 g l := fun g l hg H => by
    have := P.2.2.1 i g hi hg
    exact c.row H (fun ⟨k, h1, h2, e⟩ => (this.2.2.2 k h2).1 e) (fun z ⟨k, h1, h2, e⟩ => by rw [e]; exact (this.2.2.2 k h2).2) (fun q => this.2.2.1 q.1)
  have hf : ∀ j, mI μ1 (frR Λ a i) j = mI μ (frR Λ a i) j := fun j => c.1 _ j (fun ⟨⟨k, h1, h2, e⟩, _⟩ => (P.2.2.2.1 i hi).2.2.2 k h2 e) (fun q => (P.2.2.2.1 i hi).2.2.1 q.1)
  exact ⟨⟨hr _ _ rvRow0 v1, hr _ _ rvRow1 v2, v3, fun m hm => hr _ _ (rvRowK hm) (v4 m hm)⟩, by rw [hf]; exact e4, by rw [hf]; exact e5, by rw [hf]; exact e6⟩
theorem sch_int (P : FrApart Λ a) (c : SCh Λ μ μ1 a) {z : Nat} (hz : z = a ∨ z = lyR Λ a 2) (j : Nat) : mI μ1 z j = mI μ z j := c.1 z j (fun ⟨⟨k, h1, h2, e⟩, _⟩ => by
    have := P.2.2.2.2.2.1 k h2
    rcases hz with q | q
    · exact this.1 (e.symm.trans q)
    · exact this.2.1 (e.symm.trans q)) (fun q => by
    rcases hz with w | w
    · exact P.2.2.2.2.2.2.2.1 (w.symm.trans q.1)
    · exact P.2.2.2.2.2.2.2.2.1 (w.symm.trans q.1))
theorem sch_ww (P : FrApart Λ a) (c : SCh Λ μ μ1 a) {k : Nat} (hk : k < 2) {l : List Int32} (H : RowIs Λ μ (frW Λ a k) l) : RowIs Λ μ1 (frW Λ a k) l :=
  c.row H (fun ⟨j, h1, h2, e⟩ => (P.2.2.2.2.1 k j (by omega) h2 (by omega)).1 e) (fun z ⟨j, h1, h2, e⟩ => by rw [e]; exact (P.2.2.2.2.1 k j (by omega) h2 (by omega)).2) (fun q => (P.2.2.2.2.2.1 k (by omega)).2.2 q.1)
/-- the class's three rows are of no weight between two operations -/
theorem cinv_sch (P : FrApart Λ a) (C : CInv Λ μ a p x V h sv r1 r2 r3 ln tx) (c : SCh Λ μ μ1 a) {A B D tz : List Int32} (H : R3 Λ μ1 a A B D tz) : CInv Λ μ1 a p x V h sv r1 r2 r3 ln tx := by
  obtain ⟨c1, c2, c3, c4, c5, c6, c7, c8, c9, c10, c11, c12, c13⟩ := C
  have ei : ∀ k, mI μ1 a k = mI μ a k := fun k => sch_int P c (Or.inl rfl) k
  have hp := c4.1
  refine ⟨sch_rvv P c (i := 0) (by omega) c1, c2, fun i hi => ?_, ⟨c4.1, (sch_int P c (Or.inr rfl) 1).trans c4.2.1, (sch_int P c (Or.inr rfl) 2).trans c4.2.2.1, c4.2.2.2.1, c4.2.2.2.2.1, fun m hm => sch_rvv P c (by omega) (c4.2.2.2.2.2 m hm)⟩, by rw [ei]; exact c5, fun U hU => ⟨(c6 U hU).1, sch_rvv P c (i := 1) (by omega) (c6 U hU).2⟩, by rw [ei]; exact c7, by rw [ei]; exact c8, by rw [ei]; exact c9, by rw [ei]; exact c10, sch_ww P c (by omega) c11, sch_ww P c (by omega) c12, fun k h1 h2 => ?_⟩
  · obtain ⟨w, q, rd, s⟩ := c3 i hi
    have := sch_rvv P c hi (U := mkP w q rd rd (mI μ (frR Λ a i) 4) (mI μ (frR Λ a i) 5) (mI μ (frR Λ a i) 6)) ⟨s, rfl, rfl, rfl⟩
    exact ⟨w, q, rd, this.1⟩
  · have : k = 2 ∨ k = 3 ∨ k = 4 := by omega
    rcases this with q | q | q
    · subst q; exact ⟨A, H.1⟩
    · subst q; exact ⟨B, H.2.1⟩
    · subst q; exact ⟨D, H.2.2.1⟩
/-- the class looks for a fault -/
theorem fr_fault (P : FrApart Λ a) (C : CInv Λ μ a p x V h sv r1 r2 r3 ln tx) (hl : tx.length ≤ 70) : (∀ f, parseF tx 70 0 = .inr f → f < 2 ^ 20 ∧ ∃ μ1 A' B' C', sX3_faultIn Λ μ (lyR Λ a 5) (lyR Λ a 4) = some (nI f, μ1) ∧ R3 Λ μ1 a A' B' C' tx ∧ SCh Λ μ μ1 a) ∧ (∀ cs, parseF tx 70 0 = .inl cs → ∃ μ1, sX3_faultIn Λ μ (lyR Λ a 5) (lyR Λ a 4) = some (-1, μ1) ∧ R3 Λ μ1 a (cs.map (fun c => c.1)) (cs.map (fun c => c.2.1)) (cs.map (fun c => c.2.2)) tx ∧ SCh Λ μ μ1 a) := by
  obtain ⟨c1, c2, c3, c4, c5, c6, c7, c8, c9, c10, c11, c12, c13⟩ := C
  obtain ⟨A, hA⟩ := c13 2 (by omega) (by omega)
  obtain ⟨B, hB⟩ := c13 3 (by omega) (by omega)
  obtain ⟨D, hD⟩ := c13 4 (by omega) (by omega)
  obtain ⟨n1, a1, b1, d1⟩ := row_clear hA
  have hB1 := w_other P (k := 2) (by omega) d1 (j := 3) (by omega) (by omega) hB
  have hD1 := w_other P (k := 2) (by omega) d1 (j := 4) (by omega) (by omega) hD
  have hT1 := w_other P (k := 2) (by omega) d1 (j := 1) (by omega) (by omega) c12
  obtain ⟨n2, a2, b2, d2⟩ := row_clear hB1
  have hA2 := w_other P (k := 3) (by omega) d2 (j := 2) (by omega) (by omega) b1
  have hD2 := w_other P (k := 3) (by omega) d2 (j := 4) (by omega) (by omega) hD1
  have hT2 := w_other P (k := 3) (by omega) d2 (j := 1) (by omega) (by omega) hT1
  obtain ⟨n3, a3, b3, d3⟩ := row_clear hD2
  have hA3 := w_other P (k := 4) (by omega) d3 (j := 2) (by omega) (by omega) hA2
  have hB3 := w_other P (k := 4) (by omega) d3 (j := 3) (by omega) (by omega) b2
  have hT3 := w_other P (k := 4) (by omega) d3 (j := 1) (by omega) (by omega) hT2
  have a1' : sX2_clear Λ μ (lyR Λ (lyR Λ a 5) 0) = some n1 := a1
  have a2' : sX2_clear Λ n1 (lyR Λ (lyR Λ a 5) 1) = some n2 := a2
  have a3' : sX2_clear Λ n2 (lyR Λ (lyR Λ a 5) 2) = some n3 := a3
  have R : R3 Λ n3 a [] [] [] tx := ⟨hA3, hB3, b3, hT3⟩
  have S : SCh Λ μ n3 a := ((sch_w (by omega) (by omega) d1).tr (sch_w (by omega) (by omega) d2)).tr (sch_w (by omega) (by omega) d3)
  have F : SFr n3 (stI n3 (lyR Λ a 5) 3 0) (lyR Λ a 5) k34 := SFr.st (Or.inl rfl)
  have e : sX3_faultIn Λ μ (lyR Λ a 5) (lyR Λ a 4) = lpX3_faultIn_37 Λ (lyR Λ a 5) (lyR Λ a 4) fuel (stI n3 (lyR Λ a 5) 3 0) (nI 0) := by
    unfold sX3_faultIn
    rw [a1', Option.bind_some, a2', Option.bind_some, a3', Option.bind_some]
    rfl
  obtain ⟨q1, q2⟩ := fr_parse P hl 70 0 fuel 0 (stI n3 (lyR Λ a 5) 3 0) [] [] [] (by omega) (by unfold fuel; omega) (by omega) (r3_sfr P F R) rfl rfl rfl mI_self
  rw [e]
  refine ⟨fun f hf => ?_, fun cs hcs => ?_⟩
  · obtain ⟨hb, μ2, A', B', C', s1, s2, s3⟩ := q1 f hf
    exact ⟨hb, μ2, A', B', C', s1, s2, (S.tr (sfr_sch F)).tr s3⟩
  · obtain ⟨μ2, s1, s2, s3⟩ := q2 cs hcs
    exact ⟨μ2, s1, s2, (S.tr (sfr_sch F)).tr s3⟩
theorem read_eq (Λ : Lay) (μ : Mem) (b : Nat) : sX5_read Λ μ b = (sX5_countCommands Λ μ b).bind (fun q1 => if (mI q1.2 b 20) = (0 : Int32) then (sX5_copyRow Λ q1.2 (lyR Λ b 0) (lyR Λ b 2)).bind (fun q4 => lpX5_read_50 Λ b q1.1 fuel (stI (stI q4 b 10 1) b 16 0) 0 0) else some (-100 - mI (stI q1.2 b 15 0) b 16, stI q1.2 b 15 0)) := rfl
theorem op_read (PC : FrApart Λ a) (PM : MdApart Λ' b) (I : Inv Λ μ a Λ' μ' b) : ∃ r μ1 μ1', sX4_read Λ μ a = some (r, μ1) ∧ sX5_read Λ' μ' b = some (r, μ1') ∧ Inv Λ μ1 a Λ' μ1' b := by
  obtain ⟨p, V, h, sv, r1, r2, r3, m3, ln, tx, C, M, hR⟩ := I
  have hRow : RowIs Λ μ (frW Λ a 1) tx := C.2.2.2.2.2.2.2.2.2.2.2.1
  have hl : tx.length ≤ 70 := by
    have h1 := hRow.2.1
    have h2 := PC.2.2.2.2.2.2.2.2.2.2.2 1 (by omega) (by omega)
    omega
  have hz := hR.2
  have hR' : Rsn r1 r3 m3 [] := ⟨hR.1, fun z hz => by cases hz⟩
  obtain ⟨q1, q2⟩ := fr_fault PC C hl
  -- the reference counts
  have T0 : TxtM Λ' μ' b tx := ⟨M.2.2.2.2.2.2.2.2.2.2.1, hl, PM.2.2.2.2.2, M.2.2.2.2.2.2.2.2.2.2.2⟩
  have F0 : SFr μ' (stI (stI μ' b 16 0) b 20 0) b kAll := (SFr.st (by decide)).tr (SFr.st (by decide))
  obtain ⟨m1, m2⟩ := md_parse hz 70 0 fuel 0 (stI (stI μ' b 16 0) b 20 0) 0 (by omega) (by omega) (by unfold fuel; omega) (by omega) (T0.frA F0) mI_self (by rw [mI_ne (by omega), mI_self]; rfl)
  have ecount : sX5_countCommands Λ' μ' b = (sX5_readCommand Λ' (stI (stI μ' b 16 0) b 20 0) b).bind (fun q3 => lpX5_countCommands_16 Λ' b fuel q3 (nI (0 + 1))) := by
    unfold sX5_countCommands
    rw [show nI (0 + 1) = (1 : Int32) from rfl]
    simp only [bnd]
  have hI : ∀ {ν : Mem}, SFr μ' ν b kAll → ∀ k, (k = 4 ∨ k = 5 ∨ k = 6 ∨ k = 7 ∨ k = 9 ∨ k = 10 ∨ k = 13 ∨ k = 15) → mI ν b k = mI μ' b k := fun F k hk => F.1 b k (fun q => by have := q.2; omega)
  unfold sX4_read
  rw [read_eq, ecount]
  match hpar : parseF tx 70 0 with
  | .inr f =>
    obtain ⟨hb, μ1, A', B', C', s1, s2, s3⟩ := q1 f hpar
    obtain ⟨xx, μ1', t1, t2, t3, t4⟩ := m1 f hpar
    have C1 := cinv_sch PC C s3 s2
    obtain ⟨μ2, u1, u2, u3⟩ := row_clear (C1.2.2.2.2.2.2.2.2.2.2.2.1 : RowIs Λ μ1 (frW Λ a 1) tx)
    have C2 := cinv_tx PC C1 u2 u3
    have M1 : MInv Λ' μ1' b 0 V h sv r1 r2 m3 ln tx := minv_fr M (hI (F0.tr t4)) (F0.tr t4).2
    have u1' : sX2_clear Λ μ1 (lyR Λ a 4) = some μ2 := u1
    refine ⟨-100 - nI f, μ2, stI μ1' b 15 0, ?_, ?_, p, V, h, sv, r1, r2, r3, m3, ln, [], C2, ?_, hR'⟩
    · rw [s1, Option.bind_some]
      simp only [bnd]
      rw [u1', Option.bind_some, if_neg (nI_pos (by omega))]
    · rw [t1, Option.bind_some]
      dsimp only
      rw [if_neg (by rw [t2]; decide), mI_ne (by omega), t3]
    · obtain ⟨m1, m2, m4, m5, m6, m7, m8, m9, m10, m11, m12, m13⟩ := M1
      have g : ∀ k, k ≠ 15 → mI (stI μ1' b 15 0) b k = mI μ1' b k := fun k h2 => mI_ne (fun q => h2 q.2)
      exact ⟨m1.sm rfl, m2.fr (g 4 (by omega)) (fun i _ => rfl), by rw [g 9 (by omega)]; exact m4, fun U hU => (m5 U hU).sm rfl, by rw [g 5 (by omega)]; exact m6, by rw [g 6 (by omega)]; exact m7, by rw [g 7 (by omega)]; exact m8, by rw [g 10 (by omega)]; exact m9, by rw [g 13 (by omega)]; exact m10, m11, by rw [mI_self]; rfl, fun i hi => absurd hi (by simp)⟩
  | .inl cs =>
    obtain ⟨μ1, s1, s2, s3⟩ := q2 cs hpar
    obtain ⟨μ1', t1, t2, t4⟩ := m2 cs hpar
    have C1 := cinv_sch PC C s3 s2
    obtain ⟨μ2, u1, u2, u3⟩ := row_clear (C1.2.2.2.2.2.2.2.2.2.2.2.1 : RowIs Λ μ1 (frW Λ a 1) tx)
    have C2 := cinv_tx PC C1 u2 u3
    have hN : cs.length ≤ 70 := by
      have h1 := s2.1.2.1
      have h2 := PC.2.2.2.2.2.2.2.2.2.2.2 2 (by omega) (by omega)
      rw [List.length_map] at h1
      omega
    obtain ⟨μ3, v1, C3, N3, K3, -⟩ := note_inv PC C2
    have rr : ∀ k, 2 ≤ k → k < 5 → ∀ l, RowIs Λ μ1 (frW Λ a k) l → RowIs Λ μ3 (frW Λ a k) l := fun k h1 h2 l H => K3 k h2 l (w_other PC (k := 1) (by omega) u3 (j := k) h2 (by omega) H)
    have R : RC Λ μ3 a p (-4) V h sv r1 r2 r3 ln V cs := ⟨C3, N3, rr 2 (by omega) (by omega) _ s2.1, rr 3 (by omega) (by omega) _ s2.2.1, rr 4 (by omega) (by omega) _ s2.2.2.1⟩
    have M1 : MInv Λ' μ1' b 0 V h sv r1 r2 m3 ln tx := minv_fr M (hI (F0.tr t4)) (F0.tr t4).2
    have T1 := (T0.frA F0).frA t4
    obtain ⟨ν, w1, w2⟩ := raw_copy (μ := μ1') (now_len PM (i := 0) (by omega)) (now_len PM (i := 2) (by omega)) (now_ne PM (i := 0) (k := 2) (by omega) (by omega) (by omega))
    have gI : ∀ k, k ≠ 10 → k ≠ 16 → mI (stI (stI ν b 10 1) b 16 0) b k = mI μ1' b k := fun k h1 h2 => by rw [mI_ne (fun q => h2 q.2), mI_ne (fun q => h1 q.2)]; exact w2.int b k
    have gA : ∀ z, z ≠ lyR Λ' b 2 → mA (stI (stI ν b 10 1) b 16 0) z = mA μ1' z := fun z hz => w2.2.2 z hz
    have ne2 : ∀ z, (z = lyR Λ' b 12 ∨ z = lyR Λ' b 14) → z ≠ lyR Λ' b 2 := fun z hz q => by
      rcases hz with e | e
      · have := PM.1 12 2 (by omega) (by omega) (by unfold mdA; simpa [e] using q)
        omega
      · have := PM.1 13 2 (by omega) (by omega) (by unfold mdA; simpa [e] using q)
        omega
    have RMM : RM Λ' (stI (stI ν b 10 1) b 16 0) b V h sv r1 r2 m3 ln tx V 0 := by
      obtain ⟨m1, m2, m4, m5, m6, m7, m8, m9, m10, m11, m12, m13⟩ := M1
      have N2 : NowV Λ' (stI (stI ν b 10 1) b 16 0) (lyR Λ' b 2) V := m1.cp C2.2.1 (now_len PM (by omega)) w2.2.1
      refine ⟨⟨m1.sm (gA _ (now_ne PM (i := 0) (k := 2) (by omega) (by omega) (by omega))), m2.fr (gI 4 (by omega) (by omega)) (fun i hi => gA _ (fun q => hs_0 PM (i := 2) (k := i) (by omega) hi q.symm)), by rw [gI 9 (by omega) (by omega)]; exact m4, fun U hU => (m5 U hU).sm (gA _ (now_ne PM (i := 1) (k := 2) (by omega) (by omega) (by omega))), by rw [gI 5 (by omega) (by omega)]; exact m6, by rw [gI 6 (by omega) (by omega)]; exact m7, by rw [gI 7 (by omega) (by omega)]; exact m8, by rw [mI_ne (by omega), mI_self], by rw [gI 13 (by omega) (by omega)]; exact m10, fun i hi => by rw [gA _ (ne2 _ (Or.inl rfl))]; exact m11 i hi, by rw [gI 15 (by omega) (by omega)]; exact m12, fun i hi => by rw [gA _ (ne2 _ (Or.inr rfl))]; exact m13 i hi⟩, ⟨by rw [gI 15 (by omega) (by omega)]; exact T1.1, T1.2.1, T1.2.2.1, fun i hi => by rw [gA _ (ne2 _ (Or.inr rfl))]; exact T1.2.2.2 i hi⟩, by rw [gI 20 (by omega) (by omega)]; exact t2, by rw [mI_self]; rfl, N2⟩
    obtain ⟨r, μ4, μ4', z1, z2, z3⟩ := read_loop PC PM hz C2.2.1 hN cs [] 70 0 fuel fuel μ3 (stI (stI ν b 10 1) b 16 0) V h (-4) 0 r1 r2 r3 m3 rfl (Or.inr hpar) (by omega) (by unfold fuel; omega) (by unfold fuel; omega) R RMM hR' (by decide)
    have u1' : sX2_clear Λ μ1 (lyR Λ a 4) = some μ2 := u1
    rw [List.length_nil, nI_0] at z1 z2
    refine ⟨r, μ4, μ4', ?_, ?_, z3⟩
    · rw [s1, Option.bind_some]
      simp only [bnd]
      rw [u1', Option.bind_some, if_pos (by decide), v1, Option.bind_some, cmds_len R.2.2.1, Option.bind_some]
      exact z1
    · rw [t1, Option.bind_some]
      dsimp only
      rw [if_pos t2, w1, Option.bind_some, Nat.zero_add]
      exact z2
end RW
