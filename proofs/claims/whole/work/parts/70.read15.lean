/-! READING: how the two loops end. -/
def exC (Λ : Lay) (a : Nat) (μ : Mem) (x : Int32) : Option (Int32 × Mem) := bnd (stI μ a 10 (-4 : Int32)) (fun μ9 => (if (0 : Int32) ≤ x then ((sX4_settle Λ μ9 a x).bind (fun q11 => (some (q11.1, q11.2)))) else ((sX0_takeBack Λ μ9 (lyR Λ a 2) (lyR Λ a 0)).bind (fun q12 => ((sX4_settle Λ q12 a x).bind (fun q13 => (some (q13.1, q13.2))))))))
theorem lp49_e (Λ : Lay) (a n : Nat) (μ : Mem) (x y : Int32) : lpX4_read_49 Λ a (n + 1) μ x y = (sX3_commands Λ μ (lyR Λ a 5)).bind (fun q7 => if q7 ≤ y then exC Λ a μ x else if x < (0 : Int32) then exC Λ a μ x else (bnd (stI μ a 10 y) (fun μ20 => ((sX4_carryOut Λ μ20 a y).bind (fun q21 => (bnd q21.1 (fun v22 => (if (0 : Int32) ≤ v22 then (bnd (y + (1 : Int32)) (fun v24 => (lpX4_read_49 Λ a n q21.2 x v24))) else (if v22 = (-3 : Int32) then (bnd (y + (1 : Int32)) (fun v27 => (lpX4_read_49 Λ a n q21.2 (-3 : Int32) v27))) else (bnd (y + (1 : Int32)) (fun v26 => (lpX4_read_49 Λ a n q21.2 (-2 : Int32) v26)))))))))))) := rfl
def exM (Λ : Lay) (b : Nat) (μ : Mem) (x y : Int32) : Option (Int32 × Mem) := bnd (stI μ b 10 (0 : Int32)) (fun μ8 => (bnd (stI μ8 b 15 (0 : Int32)) (fun μ9 => (if (0 : Int32) ≤ y then ((sX5_remember Λ μ9 b (lyR Λ b 2)).bind (fun q11 => (some (x, q11)))) else ((sX5_copyRow Λ μ9 (lyR Λ b 2) (lyR Λ b 0)).bind (fun q12 => (if y = (-3 : Int32) then (some ((-3 : Int32), q12)) else (some ((-2 : Int32), q12)))))))))
theorem lp50_e (Λ : Lay) (b n : Nat) (μ : Mem) (x y z : Int32) : lpX5_read_50 Λ b x (n + 1) μ y z = if x ≤ z then exM Λ b μ x y else if y < (0 : Int32) then exM Λ b μ x y else (bnd (stI μ b 8 z) (fun μ21 => ((sX5_readCommand Λ μ21 b).bind (fun q22 => (bnd (stI q22 b 16 ((mI q22 b 16) + (1 : Int32))) (fun μ23 => ((sX5_carryOut Λ μ23 b).bind (fun q24 => (bnd q24.1 (fun v25 => (bnd (z + (1 : Int32)) (fun v26 => (lpX5_read_50 Λ b x n q24.2 v25 v26))))))))))))) := rfl
section EX
variable {Λ : Lay} {μ μ1 : Mem} {a b p n : Nat} {x y : Int32} {U V : Pic} {h : List Pic} {sv : Option Pic} {r1 r2 r3 m3 : Int32} {ln tx : List Int32}
theorem exC_ok (P : FrApart Λ a) (C : CInv Λ μ a p x V h sv r1 r2 r3 ln tx) (ok : PicOK U) (N : RvV Λ μ (frR Λ a (2 + p)) U) (hn : n < 2 ^ 31) : ∃ μ1, exC Λ a μ (nI n) = some (nI n, μ1) ∧ CInv Λ μ1 a ((p + 1) % 9) (-4) V (push h U) sv r1 r2 r3 ln tx := by
  obtain ⟨C1, K1⟩ := cinv_set P C (k := 10) (by omega) (-4)
  obtain ⟨μ2, e2, C2⟩ := confirm_inv P C1 ok (K1.2.2 U N)
  refine ⟨μ2, ?_, C2⟩
  unfold exC sX4_settle
  simp only [bnd]
  rw [if_pos (nI_pos' hn), if_neg (nI_pos hn), e2]
  rfl
theorem exC_bad (P : FrApart Λ a) (C : CInv Λ μ a p x V h sv r1 r2 r3 ln tx) (ok : PicOK U) (N : RvV Λ μ (frR Λ a (2 + p)) U) {c : Int32} (hc : c = -3 ∨ c = -2) : ∃ μ1, exC Λ a μ c = some (c, μ1) ∧ CInv Λ μ1 a p (-4) U h sv r1 r2 r3 ln tx := by
  obtain ⟨C1, K1⟩ := cinv_set P C (k := 10) (by omega) (-4)
  have hp := C1.2.2.2.1.1
  obtain ⟨μ2, e2, q1, q2⟩ := take_back P C1.2.2.1 hp C1.2.2.2.1.2.1 ok (K1.2.2 U N)
  obtain ⟨C2, -⟩ := cinv_riv P C1 ok q1 q2
  refine ⟨μ2, ?_, C2⟩
  unfold exC sX4_settle
  simp only [bnd]
  have c1 : ¬ (0 : Int32) ≤ c := by rcases hc with q | q <;> rw [q] <;> decide
  have c2 : c < 0 := by rcases hc with q | q <;> rw [q] <;> decide
  rw [if_neg c1, e2, Option.bind_some, if_pos c2]
  rfl
/-- the reference's numbers that reading alone uses -/
theorem minv_fr (M : MInv Λ μ b y V h sv r1 r2 m3 ln tx) (hI : ∀ k, (k = 4 ∨ k = 5 ∨ k = 6 ∨ k = 7 ∨ k = 9 ∨ k = 10 ∨ k = 13 ∨ k = 15) → mI μ1 b k = mI μ b k) (hA : μ1.2 = μ.2) : MInv Λ μ1 b y V h sv r1 r2 m3 ln tx := by
  obtain ⟨m1, m2, m4, m5, m6, m7, m8, m9, m10, m11, m12, m13⟩ := M
  have eA : ∀ z, mA μ1 z = mA μ z := fun z => by funext j; unfold mA; rw [hA]
  exact ⟨m1.sm (eA _), m2.fr (hI 4 (by omega)) (fun i _ => eA _), by rw [hI 9 (by omega)]; exact m4, fun U hU => (m5 U hU).sm (eA _), by rw [hI 5 (by omega)]; exact m6, by rw [hI 6 (by omega)]; exact m7, by rw [hI 7 (by omega)]; exact m8, by rw [hI 10 (by omega)]; exact m9, by rw [hI 13 (by omega)]; exact m10, fun i hi => by rw [eA]; exact m11 i hi, by rw [hI 15 (by omega)]; exact m12, fun i hi => by rw [eA]; exact m13 i hi⟩
/-- the text is emptied, reading ends -/
theorem minv_end (M : MInv Λ μ b y V h sv r1 r2 m3 ln tx) : MInv Λ (stI (stI μ b 10 0) b 15 0) b 0 V h sv r1 r2 m3 ln [] := by
  obtain ⟨m1, m2, m4, m5, m6, m7, m8, m9, m10, m11, m12, m13⟩ := M
  have g : ∀ k, k ≠ 10 → k ≠ 15 → mI (stI (stI μ b 10 0) b 15 0) b k = mI μ b k := fun k h1 h2 => by rw [mI_ne (fun q => h2 q.2), mI_ne (fun q => h1 q.2)]
  exact ⟨m1.sm rfl, m2.fr (g 4 (by omega) (by omega)) (fun i _ => rfl), by rw [g 9 (by omega) (by omega)]; exact m4, fun U hU => (m5 U hU).sm rfl, by rw [g 5 (by omega) (by omega)]; exact m6, by rw [g 6 (by omega) (by omega)]; exact m7, by rw [g 7 (by omega) (by omega)]; exact m8, by rw [mI_ne (by omega), mI_self], by rw [g 13 (by omega) (by omega)]; exact m10, m11, by rw [mI_self]; rfl, fun i hi => absurd hi (by simp)⟩
theorem exM_ok (P : MdApart Λ b) (M : MInv Λ μ b y V h sv r1 r2 m3 ln tx) (ok : PicOK U) (N : NowV Λ μ (lyR Λ b 2) U) {z : Int32} (hz : (0 : Int32) ≤ z) : ∃ μ1, exM Λ b μ x z = some (x, μ1) ∧ MInv Λ μ1 b 0 V (push h U) sv r1 r2 m3 ln [] := by
  have M1 := minv_end M
  have N1 : NowV Λ (stI (stI μ b 10 0) b 15 0) (lyR Λ b 2) U := N.sm rfl
  obtain ⟨μ2, e2, F, H⟩ := md_remember P M1.2.1 ok (fun i hi => hs_0 P (i := 2) (by omega) hi) N1
  refine ⟨μ2, ?_, ?_⟩
  · unfold exM
    simp only [bnd]
    rw [if_pos hz, e2]
    rfl
  · obtain ⟨m1, m2, m4, m5, m6, m7, m8, m9, m10, m11, m12, m13⟩ := M1
    have g : ∀ k, k ≠ 4 → mI μ2 b k = mI (stI (stI μ b 10 0) b 15 0) b k := fun k hk => F.1 b k (fun q => hk q.2)
    have g0 : mA μ2 (lyR Λ b 0) = mA (stI (stI μ b 10 0) b 15 0) (lyR Λ b 0) := F.2 _ (fun i hi => hs_0 P (i := 0) (by omega) hi)
    have g1 : mA μ2 (lyR Λ b 1) = mA (stI (stI μ b 10 0) b 15 0) (lyR Λ b 1) := F.2 _ (fun i hi => hs_0 P (i := 1) (by omega) hi)
    have g12 : mA μ2 (lyR Λ b 12) = mA (stI (stI μ b 10 0) b 15 0) (lyR Λ b 12) := F.2 _ (md_far P (by simp)).2.2
    exact ⟨m1.sm g0, H, by rw [g 9 (by omega)]; exact m4, fun U hU => (m5 U hU).sm g1, by rw [g 5 (by omega)]; exact m6, by rw [g 6 (by omega)]; exact m7, by rw [g 7 (by omega)]; exact m8, by rw [g 10 (by omega)]; exact m9, by rw [g 13 (by omega)]; exact m10, fun i hi => by rw [g12]; exact m11 i hi, by rw [g 15 (by omega)]; exact m12, fun i hi => absurd hi (by simp)⟩
theorem exM_bad (P : MdApart Λ b) (M : MInv Λ μ b y V h sv r1 r2 m3 ln tx) (ok : PicOK U) (N : NowV Λ μ (lyR Λ b 2) U) {z : Int32} (hz : z < 0) : ∃ μ1, exM Λ b μ x z = some (if z = -3 then -3 else -2, μ1) ∧ MInv Λ μ1 b 0 U h sv r1 r2 m3 ln [] := by
  have M1 := minv_end M
  have N1 : NowV Λ (stI (stI μ b 10 0) b 15 0) (lyR Λ b 2) U := N.sm rfl
  obtain ⟨μ2, e2, q2⟩ := raw_copy (μ := stI (stI μ b 10 0) b 15 0) (now_len P (i := 2) (by omega)) (now_len P (i := 0) (by omega)) (now_ne P (i := 2) (k := 0) (by omega) (by omega) (by omega))
  refine ⟨μ2, ?_, ?_⟩
  · unfold exM
    simp only [bnd]
    rw [if_neg (by rw [Int32.le_iff_toInt_le]; rw [Int32.lt_iff_toInt_lt] at hz; omega), e2, Option.bind_some]
    by_cases c : z = -3
    · rw [if_pos c, if_pos c]
    · rw [if_neg c, if_neg c]
  · obtain ⟨m1, m2, m4, m5, m6, m7, m8, m9, m10, m11, m12, m13⟩ := M1
    have g : ∀ k, mI μ2 b k = mI (stI (stI μ b 10 0) b 15 0) b k := fun k => q2.int b k
    have gA : ∀ z, z ≠ lyR Λ b 0 → mA μ2 z = mA (stI (stI μ b 10 0) b 15 0) z := fun z hz => q2.2.2 z hz
    have g1 := gA (lyR Λ b 1) (now_ne P (i := 1) (k := 0) (by omega) (by omega) (by omega))
    have g12 := gA (lyR Λ b 12) (md_far P (by simp)).1
    exact ⟨N1.cp ok (now_len P (by omega)) q2.2.1, m2.fr (g 4) (fun i hi => gA _ (fun q => hs_0 P (i := 0) (k := i) (by omega) hi q.symm)), by rw [g 9]; exact m4, fun U hU => (m5 U hU).sm g1, by rw [g 5]; exact m6, by rw [g 6]; exact m7, by rw [g 7]; exact m8, by rw [g 10]; exact m9, by rw [g 13]; exact m10, fun i hi => by rw [g12]; exact m11 i hi, by rw [g 15]; exact m12, fun i hi => absurd hi (by simp)⟩
end EX
