/-! BOTH, WHOLE: lines and the text. -/
def digs (n : Nat) : List Nat := if n < 10 then [48 + n] else [48 + n / 10, 48 + n % 10]
def LineM (Λ : Lay) (μ : Mem) (b : Nat) (ln : List Int32) : Prop := mI μ b 13 = nI ln.length ∧ ∀ (i : Nat) (hi : i < ln.length), mA μ (lyR Λ b 12) i = ln[i]
def LFr (Λ : Lay) (μ μ1 : Mem) (b : Nat) : Prop := (∀ k, k ≠ 13 → mI μ1 b k = mI μ b k) ∧ ∀ x, x ≠ lyR Λ b 12 → mA μ1 x = mA μ x
theorem nar_char : ∀ n, n < 128 → vp_nar .char (nI n) = nI n := by decide +kernel
theorem dig_c : ∀ n, n < 100 → (48 : Int32) + (nI n - nI n / 10 * 10) = nI (48 + n % 10) := by decide +kernel
theorem dig_d : ∀ n, n < 100 → (48 : Int32) + nI n / 10 = nI (48 + n / 10) := by decide +kernel
theorem dig_e : ∀ n, n < 100 → nI n / 10 = nI (n / 10) := by decide +kernel
theorem jchar_n : ∀ n, n < 128 → jchar (nI n) = nI n := by decide +kernel
section LN
variable {Λ Λ' : Lay} {μ μ' μ1 : Mem} {a b p : Nat} {x y : Int32} {V : Pic} {h : List Pic} {sv : Option Pic} {r1 r2 r3 m3 : Int32} {ln tx : List Int32}
theorem LFr.rf : LFr Λ μ μ b := ⟨fun _ _ => rfl, fun _ _ => rfl⟩
theorem LFr.tr {μ2 : Mem} (h1 : LFr Λ μ μ1 b) (h2 : LFr Λ μ1 μ2 b) : LFr Λ μ μ2 b := ⟨fun k hk => (h2.1 k hk).trans (h1.1 k hk), fun x hx => (h2.2 x hx).trans (h1.2 x hx)⟩
theorem md_write (P : MdApart Λ b) (L : LineM Λ μ b ln) (hl : ln.length < 80) {n : Nat} (hn : n < 128) : ∃ μ1, sX5_write Λ μ b (nI n) = some μ1 ∧ LineM Λ μ1 b (ln ++ [nI n]) ∧ LFr Λ μ μ1 b := by
  unfold sX5_write
  simp only [bnd]
  rw [L.1, P.2.2.2.2.1, gd_t (nI_in (by omega) (by omega)), nI_clamp (by omega), nar_char n hn]
  have e13 : mI (stA μ (lyR Λ b 12) ln.length (nI n)) b 13 = nI ln.length := L.1
  rw [e13, nI_1]
  refine ⟨_, rfl, ⟨by rw [mI_self]; simp, fun i hi => ?_⟩, ⟨fun k hk => mI_ne (fun q => hk q.2), fun z hz => ?_⟩⟩
  · have e : ∀ j, mA (stI (stA μ (lyR Λ b 12) ln.length (nI n)) b 13 (nI (ln.length + 1))) (lyR Λ b 12) j = upd (mA μ (lyR Λ b 12)) ln.length (nI n) j := fun j => by
      have : mA (stA μ (lyR Λ b 12) ln.length (nI n)) (lyR Λ b 12) = upd (mA μ (lyR Λ b 12)) ln.length (nI n) := mA_upd
      exact congrFun this j
    rw [e]
    unfold upd
    simp only [List.length_append, List.length_cons, List.length_nil] at hi
    by_cases c : i = ln.length
    · subst c
      rw [if_pos rfl]; simp
    · rw [if_neg c, L.2 i (by omega), List.getElem_append_left (by omega)]
  · have := (Mto.rf (μ := μ) (q := lyR Λ b 12)).st ln.length (nI n) |>.2.2 z hz
    exact this
theorem md_num (P : MdApart Λ b) (L : LineM Λ μ b ln) {n : Nat} (hn : n < 100) (hl : ln.length + 2 ≤ 80) : ∃ μ1, sX5_writeNumber Λ μ b (nI n) = some μ1 ∧ LineM Λ μ1 b (ln ++ (digs n).map nI) ∧ LFr Λ μ μ1 b := by
  unfold sX5_writeNumber sX5_writeNumber_rec
  rw [dig_c n hn, dig_e n hn, show (9 : Int32) = nI 9 from rfl, jchar_n _ (by omega)]
  by_cases c : n < 10
  · obtain ⟨μ1, q1, q2, q3⟩ := md_write P L (by omega) (n := 48 + n % 10) (by omega)
    rw [if_pos ((nI_leI (by omega) (by omega)).mpr (by omega)), q1]
    refine ⟨μ1, rfl, ?_, q3⟩
    unfold digs
    rw [if_pos c]
    have : n % 10 = n := by omega
    rw [this] at q2
    exact q2
  · obtain ⟨μ1, q1, q2, q3⟩ := md_write P L (by omega) (n := 48 + n / 10) (by omega)
    obtain ⟨μ2, s1, s2, s3⟩ := md_write P q2 (by simp; omega) (n := 48 + n % 10) (by omega)
    have hd := dig_c (n / 10) (by omega)
    rw [show n / 10 % 10 = n / 10 by omega] at hd
    rw [if_neg (by rw [nI_leI (by omega) (by omega)]; omega), if_pos ((nI_leI (by omega) (by omega)).mpr (by omega)), hd, jchar_n _ (by omega), q1, Option.bind_some, Option.bind_some, s1]
    refine ⟨μ2, rfl, ?_, q3.tr s3⟩
    unfold digs
    rw [if_neg c]
    simpa using s2
theorem fr_num (H : RowIs Λ μ a ln) {n : Nat} (hn : n < 100) (hl : ln.length + 2 ≤ lyN Λ (lyR Λ a 0)) : ∃ μ1, sX2_addDigits Λ μ a (nI n) = some μ1 ∧ RowIs Λ μ1 a (ln ++ (digs n).map nI) ∧ Chg Λ μ μ1 (fun z => z = a) noT := by
  unfold sX2_addDigits
  rw [dig_c n hn, dig_d n hn, show (10 : Int32) = nI 10 from rfl]
  by_cases c : n < 10
  · obtain ⟨μ1, q1, q2, q3⟩ := row_add H (by omega) (nI (48 + n % 10))
    rw [if_pos ((nI_ltI (by omega) (by omega)).mpr c), q1]
    refine ⟨μ1, rfl, ?_, q3⟩
    unfold digs
    rw [if_pos c]
    have : n % 10 = n := by omega
    rw [this] at q2
    exact q2
  · obtain ⟨μ1, q1, q2, q3⟩ := row_add H (by omega) (nI (48 + n / 10))
    obtain ⟨μ2, s1, s2, s3⟩ := row_add q2 (by simp; omega) (nI (48 + n % 10))
    rw [if_neg (by rw [nI_ltI (by omega) (by omega)]; exact c), q1, Option.bind_some, s1]
    refine ⟨μ2, rfl, ?_, q3.tr s3⟩
    unfold digs
    rw [if_neg c]
    simpa using s2
theorem digs_len (n : Nat) : (digs n).length ≤ 2 := by
  unfold digs
  by_cases c : n < 10
  · rw [if_pos c]; simp
  · rw [if_neg c]; simp
/-- a row beside the rivers changed -/
theorem w_rvv (P : FrApart Λ a) {k : Nat} (hk : k < 5) (c : Chg Λ μ μ1 (fun z => z = frW Λ a k) noT) {i : Nat} (hi : i < 11) {U : Pic} (N : RvV Λ μ (frR Λ a i) U) : RvV Λ μ1 (frR Λ a i) U := by
  obtain ⟨⟨v1, v2, v3, v4⟩, e4, e5, e6⟩ := N
  have hr : ∀ g l, rvRow Λ (frR Λ a i) g → RowIs Λ μ g l → RowIs Λ μ1 g l := fun g l hg H => by
    have := (P.2.2.1 i g hi hg).2.2.2 k hk
    exact c.row H this.1 (fun z hz => by rw [hz]; exact this.2) (fun q => q)
  have hf : ∀ j, mI μ1 (frR Λ a i) j = mI μ (frR Λ a i) j := fun j => c.1 _ j (fun q => (P.2.2.2.1 i hi).2.2.2 k hk q.1) (fun q => q)
  exact ⟨⟨hr _ _ rvRow0 v1, hr _ _ rvRow1 v2, v3, fun m hm => hr _ _ (rvRowK hm) (v4 m hm)⟩, by rw [hf]; exact e4, by rw [hf]; exact e5, by rw [hf]; exact e6⟩
theorem w_ring (P : FrApart Λ a) {k : Nat} (hk : k < 5) (c : Chg Λ μ μ1 (fun z => z = frW Λ a k) noT) (R : ringO Λ μ a) : ringO Λ μ1 a := fun i hi => by
  obtain ⟨w, q, rd, s⟩ := R i hi
  have := w_rvv P hk c hi (U := mkP w q rd rd (mI μ (frR Λ a i) 4) (mI μ (frR Λ a i) 5) (mI μ (frR Λ a i) 6)) ⟨s, rfl, rfl, rfl⟩
  exact ⟨w, q, rd, this.1⟩
theorem w_int (P : FrApart Λ a) {k : Nat} (hk : k < 5) (c : Chg Λ μ μ1 (fun z => z = frW Λ a k) noT) {z : Nat} (hz : z = a ∨ z = lyR Λ a 2 ∨ z = lyR Λ a 5) (j : Nat) : mI μ1 z j = mI μ z j := c.1 z j (fun q => by
    have := P.2.2.2.2.2.1 k hk
    rcases hz with e | e | e
    · exact this.1 (q.1.symm.trans e)
    · exact this.2.1 (q.1.symm.trans e)
    · exact this.2.2 (q.1.symm.trans e)) (fun q => q)
theorem w_other (P : FrApart Λ a) {k : Nat} (hk : k < 5) (c : Chg Λ μ μ1 (fun z => z = frW Λ a k) noT) {j : Nat} (hj : j < 5) (hjk : j ≠ k) {l : List Int32} (H : RowIs Λ μ (frW Λ a j) l) : RowIs Λ μ1 (frW Λ a j) l :=
  c.row H (P.2.2.2.2.1 j k hj hk hjk).1 (fun z hz => by rw [hz]; exact (P.2.2.2.2.1 j k hj hk hjk).2) (fun q => q)
theorem w_past (P : FrApart Λ a) {k : Nat} (hk : k < 5) (c : Chg Λ μ μ1 (fun z => z = frW Λ a k) noT) (H : Past Λ μ a p h) : Past Λ μ1 a p h :=
  ⟨H.1, by rw [w_int P hk c (Or.inr (Or.inl rfl))]; exact H.2.1, by rw [w_int P hk c (Or.inr (Or.inl rfl))]; exact H.2.2.1, H.2.2.2.1, H.2.2.2.2.1, fun m hm => w_rvv P hk c (by omega) (H.2.2.2.2.2 m hm)⟩
/-- the line, or the text, changed -/
theorem cinv_ln (P : FrApart Λ a) (C : CInv Λ μ a p x V h sv r1 r2 r3 ln tx) {l : List Int32} (H : RowIs Λ μ1 (frW Λ a 0) l) (c : Chg Λ μ μ1 (fun z => z = frW Λ a 0) noT) : CInv Λ μ1 a p x V h sv r1 r2 r3 l tx := by
  obtain ⟨c1, c2, c3, c4, c5, c6, c7, c8, c9, c10, c11, c12, c13⟩ := C
  have hk : 0 < 5 := by omega
  have ei : ∀ k, mI μ1 a k = mI μ a k := fun k => w_int P hk c (Or.inl rfl) k
  refine ⟨w_rvv P hk c (i := 0) (by omega) c1, c2, w_ring P hk c c3, w_past P hk c c4, by rw [ei]; exact c5, fun U hU => ⟨(c6 U hU).1, w_rvv P hk c (i := 1) (by omega) (c6 U hU).2⟩, by rw [ei]; exact c7, by rw [ei]; exact c8, by rw [ei]; exact c9, by rw [ei]; exact c10, H, w_other P hk c (by omega) (by omega) c12, fun k h1 h2 => ?_⟩
  obtain ⟨l, q⟩ := c13 k h1 h2
  exact ⟨l, w_other P hk c h2 (by omega) q⟩
theorem cinv_tx (P : FrApart Λ a) (C : CInv Λ μ a p x V h sv r1 r2 r3 ln tx) {l : List Int32} (H : RowIs Λ μ1 (frW Λ a 1) l) (c : Chg Λ μ μ1 (fun z => z = frW Λ a 1) noT) : CInv Λ μ1 a p x V h sv r1 r2 r3 ln l := by
  obtain ⟨c1, c2, c3, c4, c5, c6, c7, c8, c9, c10, c11, c12, c13⟩ := C
  have hk : 1 < 5 := by omega
  have ei : ∀ k, mI μ1 a k = mI μ a k := fun k => w_int P hk c (Or.inl rfl) k
  refine ⟨w_rvv P hk c (i := 0) (by omega) c1, c2, w_ring P hk c c3, w_past P hk c c4, by rw [ei]; exact c5, fun U hU => ⟨(c6 U hU).1, w_rvv P hk c (i := 1) (by omega) (c6 U hU).2⟩, by rw [ei]; exact c7, by rw [ei]; exact c8, by rw [ei]; exact c9, by rw [ei]; exact c10, w_other P hk c (by omega) (by omega) c11, H, fun k h1 h2 => ?_⟩
  obtain ⟨l, q⟩ := c13 k h1 h2
  exact ⟨l, w_other P hk c h2 (by omega) q⟩
theorem md_ne14 (P : MdApart Λ b) : lyR Λ b 14 ≠ lyR Λ b 12 := fun q => by
  have := P.1 13 12 (by omega) (by omega) (by unfold mdA; simpa using q)
  omega
theorem minv_ln (P : MdApart Λ b) (M : MInv Λ μ b y V h sv r1 r2 m3 ln tx) {l : List Int32} (L : LineM Λ μ1 b l) (F : LFr Λ μ μ1 b) : MInv Λ μ1 b y V h sv r1 r2 m3 l tx := by
  obtain ⟨m1, m2, m4, m5, m6, m7, m8, m9, m10, m11, m12, m13⟩ := M
  have f12 := md_far P (z := lyR Λ b 12) (by simp)
  have h1 : lyR Λ b 1 ≠ lyR Λ b 12 := fun q => by
    have := P.1 1 12 (by omega) (by omega) (by unfold mdA; simpa using q)
    omega
  exact ⟨m1.sm (F.2 _ f12.1.symm), m2.fr (F.1 4 (by omega)) (fun i hi => F.2 _ (f12.2.2 i hi).symm), by rw [F.1 _ (by omega)]; exact m4, fun U hU => (m5 U hU).sm (F.2 _ h1), by rw [F.1 _ (by omega)]; exact m6, by rw [F.1 _ (by omega)]; exact m7, by rw [F.1 _ (by omega)]; exact m8, by rw [F.1 _ (by omega)]; exact m9, L.1, L.2, by rw [F.1 _ (by omega)]; exact m12, fun i hi => by rw [F.2 _ (md_ne14 P)]; exact m13 i hi⟩
theorem op_append (PC : FrApart Λ a) (PM : MdApart Λ' b) (I : Inv Λ μ a Λ' μ' b) (z : Int32) : ∃ r μ1 μ1', sX4_append Λ μ a z = some (r, μ1) ∧ sX5_append Λ' μ' b z = some (r, μ1') ∧ Inv Λ μ1 a Λ' μ1' b := by
  have I0 := I
  obtain ⟨p, V, h, sv, r1, r2, r3, m3, ln, tx, C, M, hR⟩ := I
  have e32 : (32 : Int32).toInt = 32 := rfl
  have e126 : (126 : Int32).toInt = 126 := rfl
  have H : RowIs Λ μ (lyR Λ a 4) tx := C.2.2.2.2.2.2.2.2.2.2.2.1
  have hcap : lyN Λ (lyR Λ (lyR Λ a 4) 0) = 70 := PC.2.2.2.2.2.2.2.2.2.2.2 1 (by omega) (by omega)
  have ht := H.2.1
  unfold sX4_append sX5_append
  rw [btw_eq, e32, e126, M.2.2.2.2.2.2.2.2.2.2.1, Option.bind_some, row_len H, Option.bind_some]
  by_cases c : 32 ≤ z.toInt ∧ z.toInt ≤ 126
  · rw [if_neg (by rw [Int32.lt_iff_toInt_lt, e32]; omega), if_neg (by rw [Int32.lt_iff_toInt_lt, e126]; omega), if_pos c, if_neg (show ¬ (1 : Int32) = 0 by decide), show (70 : Int32) = nI 70 from rfl]
    by_cases f : tx.length = 70
    · rw [if_neg (by rw [nI_ltI (by omega) (by omega)]; omega), if_pos (by rw [f])]
      exact ⟨-2, μ, μ', rfl, rfl, I0⟩
    · obtain ⟨μ1, q1, q2, q3⟩ := row_add H (by omega) z
      rw [if_pos ((nI_ltI (by omega) (by omega)).mpr (by omega)), if_neg (by rw [nI_eq (by omega) (by omega)]; exact f), q1, Option.bind_some, row_len q2, PM.2.2.2.2.2, gd_t (nI_in (by omega) (by omega)), nI_clamp (by omega)]
      simp only [bnd, Option.bind_some]
      have e15 : mI (stA μ' (lyR Λ' b 14) tx.length z) b 15 = nI tx.length := M.2.2.2.2.2.2.2.2.2.2.1
      rw [e15, nI_1, mI_self]
      have hk : ∀ k, k ≠ 15 → mI (stI (stA μ' (lyR Λ' b 14) tx.length z) b 15 (nI (tx.length + 1))) b k = mI μ' b k := fun k hk => mI_ne (fun q => hk q.2)
      have hA : ∀ y, y ≠ lyR Λ' b 14 → mA (stI (stA μ' (lyR Λ' b 14) tx.length z) b 15 (nI (tx.length + 1))) y = mA μ' y := fun y hy => (Mto.rf (μ := μ') (q := lyR Λ' b 14)).st tx.length z |>.2.2 y hy
      obtain ⟨m1, m2, m4, m5, m6, m7, m8, m9, m10, m11, m12, m13⟩ := M
      have f14 := md_far PM (z := lyR Λ' b 14) (by simp)
      have h1 : lyR Λ' b 1 ≠ lyR Λ' b 14 := fun q => by
        have := PM.1 1 13 (by omega) (by omega) (by unfold mdA; simpa using q)
        omega
      refine ⟨nI (tx ++ [z]).length, μ1, _, rfl, by simp, p, V, h, sv, r1, r2, r3, m3, ln, tx ++ [z], cinv_tx PC C q2 q3, ⟨m1.sm (hA _ f14.1.symm), m2.fr (hk 4 (by omega)) (fun i hi => hA _ (f14.2.2 i hi).symm), by rw [hk _ (by omega)]; exact m4, fun U hU => (m5 U hU).sm (hA _ h1), by rw [hk _ (by omega)]; exact m6, by rw [hk _ (by omega)]; exact m7, by rw [hk _ (by omega)]; exact m8, by rw [hk _ (by omega)]; exact m9, by rw [hk _ (by omega)]; exact m10, fun i hi => by rw [hA _ (md_ne14 PM).symm]; exact m11 i hi, by rw [mI_self]; simp, fun i hi => ?_⟩, ⟨hR.1, fun u hu => by
        rcases List.mem_append.mp hu with q | q
        · exact hR.2 u q
        · rw [List.mem_singleton.mp q]; exact c⟩⟩
      have e : mA (stI (stA μ' (lyR Λ' b 14) tx.length z) b 15 (nI (tx.length + 1))) (lyR Λ' b 14) i = upd (mA μ' (lyR Λ' b 14)) tx.length z i := congrFun (mA_upd (μ := μ')) i
      rw [e]
      unfold upd
      simp only [List.length_append, List.length_cons, List.length_nil] at hi
      by_cases c : i = tx.length
      · subst c
        rw [if_pos rfl]; simp
      · rw [if_neg c, m13 i (by omega), List.getElem_append_left (by omega)]
  · rw [if_neg c, if_pos rfl]
    refine ⟨-2, μ, μ', ?_, rfl, I0⟩
    by_cases c1 : z < 32
    · rw [if_pos c1]
    · rw [if_neg c1, if_pos]
      rw [Int32.lt_iff_toInt_lt, e32] at c1
      rw [Int32.lt_iff_toInt_lt, e126]
      omega
end LN
