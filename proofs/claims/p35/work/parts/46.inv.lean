/-! THE CLASS, WHOLE: what holds between two operations. -/
def CInv (Λ : Lay) (μ : Mem) (a p : Nat) (x : Int32) (V : Pic) (h : List Pic) (sv : Option Pic) (r1 r2 r3 : Int32) (ln tx : List Int32) : Prop :=
  RvV Λ μ (lyR Λ a 0) V ∧ PicOK V ∧ ringO Λ μ a ∧ Past Λ μ a p h ∧ mI μ a 6 = (if sv.isSome then 1 else 0) ∧ (∀ U, sv = some U → PicOK U ∧ RvV Λ μ (lyR Λ a 1) U) ∧ mI μ a 7 = r1 ∧ mI μ a 8 = r2 ∧ mI μ a 9 = r3 ∧ mI μ a 10 = x ∧ RowIs Λ μ (frW Λ a 0) ln ∧ RowIs Λ μ (frW Λ a 1) tx ∧ ∀ k, 2 ≤ k → k < 5 → ∃ l, RowIs Λ μ (frW Λ a k) l
section IV
variable {Λ : Lay} {μ μ' : Mem} {a : Nat}
theorem rvv_st (P : FrApart Λ a) {i : Nat} (hi : i < 11) {b k : Nat} {v : Int32} (hb : b = a ∨ b = lyR Λ a 2 ∨ b = lyR Λ a 5) {V : Pic} (h : RvV Λ μ (frR Λ a i) V) : RvV Λ (stI μ b k v) (frR Λ a i) V := by
  have hr : ∀ g, rvRow Λ (frR Λ a i) g → g ≠ b := fun g hg q => by
    have := P.2.2.1 i g hi hg
    rcases hb with e | e | e
    · exact this.1 (q.trans e)
    · exact this.2.1 (q.trans e)
    · exact this.2.2.1 (q.trans e)
  have ho : frR Λ a i ≠ b := fun q => by
    have := P.2.2.2.1 i hi
    rcases hb with e | e | e
    · exact this.1 (q.trans e)
    · exact this.2.1 (q.trans e)
    · exact this.2.2.1 (q.trans e)
  obtain ⟨⟨v1, v2, v3, v4⟩, e4, e5, e6⟩ := h
  exact ⟨⟨stI_row (hr _ rvRow0) v1, stI_row (hr _ rvRow1) v2, v3, fun m hm => stI_row (hr _ (rvRowK hm)) (v4 m hm)⟩, by rw [mI_ne (fun q => ho q.1)]; exact e4, by rw [mI_ne (fun q => ho q.1)]; exact e5, by rw [mI_ne (fun q => ho q.1)]; exact e6⟩
theorem ring_st (P : FrApart Λ a) {b k : Nat} {v : Int32} (hb : b = a ∨ b = lyR Λ a 2 ∨ b = lyR Λ a 5) (R : ringO Λ μ a) : ringO Λ (stI μ b k v) a := fun i hi => by
  obtain ⟨w, p, rd, q⟩ := R i hi
  have := rvv_st (μ := μ) (v := v) (k := k) P hi hb (V := mkP w p rd rd (mI μ (frR Λ a i) 4) (mI μ (frR Λ a i) 5) (mI μ (frR Λ a i) 6)) ⟨q, rfl, rfl, rfl⟩
  exact ⟨w, p, rd, this.1⟩
theorem w_st (P : FrApart Λ a) {i : Nat} (hi : i < 5) {b k : Nat} {v : Int32} (hb : b = a ∨ b = lyR Λ a 2 ∨ b = lyR Λ a 5) {l : List Int32} (h : RowIs Λ μ (frW Λ a i) l) : RowIs Λ (stI μ b k v) (frW Λ a i) l := stI_row (fun q => by
    have := P.2.2.2.2.2.1 i hi
    rcases hb with e | e | e
    · exact this.1 (q.trans e)
    · exact this.2.1 (q.trans e)
    · exact this.2.2 (q.trans e)) h
theorem w_riv (P : FrApart Λ a) {i : Nat} (hi : i < 11) (c : Chg Λ μ μ' (rvRow Λ (frR Λ a i)) (rvFld (frR Λ a i))) {k : Nat} (hk : k < 5) {l : List Int32} (h : RowIs Λ μ (frW Λ a k) l) : RowIs Λ μ' (frW Λ a k) l :=
  c.row h (fun q => ((P.2.2.1 i _ hi q).2.2.2 k hk).1 rfl) (fun g hg q => ((P.2.2.1 i g hi hg).2.2.2 k hk).2 q.symm) (fun q => (P.2.2.2.1 i hi).2.2.2 k hk q.1.symm)
theorem past_st (P : FrApart Λ a) {k : Nat} {v : Int32} {p : Nat} {h : List Pic} (H : Past Λ μ a p h) : Past Λ (stI μ a k v) a p h :=
  ⟨H.1, by rw [mI_ne (fun q => P.2.2.2.2.2.2.1 q.1.symm)]; exact H.2.1, by rw [mI_ne (fun q => P.2.2.2.2.2.2.1 q.1.symm)]; exact H.2.2.1, H.2.2.2.1, H.2.2.2.2.1, fun m hm => rvv_st P (by omega) (Or.inl rfl) (H.2.2.2.2.2 m hm)⟩
theorem fr_confirm (P : FrApart Λ a) {p : Nat} {h : List Pic} (H : Past Λ μ a p h) {V : Pic} (ok : PicOK V) (N : RvV Λ μ (frR Λ a (2 + p)) V) : ∃ v w, sX0_confirm Λ μ (lyR Λ a 2) = some (stI (stI μ (lyR Λ a 2) 1 v) (lyR Λ a 2) 2 w) ∧ Past Λ (stI (stI μ (lyR Λ a 2) 1 v) (lyR Λ a 2) 2 w) a ((p + 1) % 9) (push h V) := by
  obtain ⟨hp, e1, e2, hl, hok, hrow⟩ := H
  have hb : lyR Λ a 2 = a ∨ lyR Λ a 2 = lyR Λ a 2 ∨ lyR Λ a 2 = lyR Λ a 5 := Or.inr (Or.inl rfl)
  refine ⟨nI ((p + 1) % 9), nI (push h V).length, ?_, ?_⟩
  · unfold sX0_confirm
    simp only [bnd]
    rw [e1, mI_ne (by omega), e2, nI_1, nI_1]
    have a1 : nI (p + 1) - nI (p + 1) / (9 : Int32) * (9 : Int32) = nI ((p + 1) % 9) := by
      have : p = 0 ∨ p = 1 ∨ p = 2 ∨ p = 3 ∨ p = 4 ∨ p = 5 ∨ p = 6 ∨ p = 7 ∨ p = 8 := by omega
      rcases this with q | q | q | q | q | q | q | q | q <;> subst q <;> decide
    have a2 : (if nI (h.length + 1) < (8 : Int32) then nI (h.length + 1) else (8 : Int32)) = nI (push h V).length := by
      unfold push
      by_cases c : h.length = 8
      · rw [if_pos c, if_neg (by rw [c]; decide)]
        simp [c]
        rfl
      · rw [if_neg c]
        rw [List.length_append, List.length_cons, List.length_nil]
        by_cases c2 : h.length + 1 < 8
        · rw [if_pos (by rw [show (8 : Int32) = nI 8 from rfl, nI_ltI (by omega) (by omega)]; exact c2)]
        · have : h.length = 7 := by omega
          rw [this]; rfl
    rw [a1, a2]
  · have hpl : (push h V).length = if h.length = 8 then 8 else h.length + 1 := by
      unfold push
      by_cases c : h.length = 8
      · rw [if_pos c, if_pos c]; simp [c]
      · rw [if_neg c, if_neg c]; simp
    have keep : ∀ {i : Nat} {U : Pic} {v w : Int32}, i < 11 → RvV Λ μ (frR Λ a i) U → RvV Λ (stI (stI μ (lyR Λ a 2) 1 v) (lyR Λ a 2) 2 w) (frR Λ a i) U := fun hi q => rvv_st P hi hb (rvv_st P hi hb q)
    refine ⟨by omega, by rw [mI_ne (by omega), mI_self], by rw [mI_self], by rw [hpl]; by_cases c : h.length = 8 <;> simp [c] <;> omega, fun U hU => ?_, fun m hm => keep (by omega) ?_⟩
    · unfold push at hU
      rcases List.mem_append.mp hU with q | q
      · by_cases c : h.length = 8
        · rw [if_pos c] at q; exact hok U (List.mem_of_mem_drop q)
        · rw [if_neg c] at q; exact hok U q
      · rw [List.mem_singleton.mp q]; exact ok
    · rw [hpl] at hm
      by_cases c : h.length = 8
      · rw [if_pos c] at hm
        have hg : (push h V).getD m picD = if m < 7 then h.getD (m + 1) picD else V := by
          unfold push
          rw [if_pos c]
          have hd : (h.drop 1).length = 7 := by simp; omega
          rw [List.getD_eq_getElem?_getD]
          by_cases y : m < 7
          · rw [if_pos y, List.getElem?_append_left (by omega), List.getElem?_drop, Nat.add_comm 1 m, List.getD_eq_getElem?_getD]
          · have : m = 7 := by omega
            subst this
            rw [if_neg y, List.getElem?_append_right (by omega), hd]; rfl
        rw [hg, hpl, if_pos c]
        by_cases y : m < 7
        · rw [if_pos y]
          have := hrow (m + 1) (by omega)
          rw [c, show (p + 9 - 8 + (m + 1)) % 9 = ((p + 1) % 9 + 9 - 8 + m) % 9 by omega] at this
          exact this
        · have : m = 7 := by omega
          subst this
          rw [if_neg y, show ((p + 1) % 9 + 9 - 8 + 7) % 9 = p by omega]
          exact N
      · rw [if_neg c] at hm
        have hg : (push h V).getD m picD = if m < h.length then h.getD m picD else V := by
          unfold push
          rw [if_neg c, List.getD_eq_getElem?_getD]
          by_cases y : m < h.length
          · rw [if_pos y, List.getElem?_append_left y, List.getD_eq_getElem?_getD]
          · have : m = h.length := by omega
            subst this
            rw [if_neg y, List.getElem?_append_right (Nat.le_refl _), Nat.sub_self]; rfl
        rw [hg, hpl, if_neg c]
        by_cases y : m < h.length
        · rw [if_pos y]
          have := hrow m y
          rw [show (p + 9 - h.length + m) % 9 = ((p + 1) % 9 + 9 - (h.length + 1) + m) % 9 by omega] at this
          exact this
        · have : m = h.length := by omega
          subst this
          rw [if_neg y, show ((p + 1) % 9 + 9 - (h.length + 1) + h.length) % 9 = p by omega]
          exact N
end IV
def CKeep (Λ : Lay) (μ μ1 : Mem) (a p : Nat) : Prop := (∀ k, k < 5 → ∀ l, RowIs Λ μ (frW Λ a k) l → RowIs Λ μ1 (frW Λ a k) l) ∧ (∀ k, mI μ1 (lyR Λ a 5) k = mI μ (lyR Λ a 5) k) ∧ ∀ U, RvV Λ μ (frR Λ a (2 + p)) U → RvV Λ μ1 (frR Λ a (2 + p)) U
def CAft (Λ : Lay) (μ : Mem) (a p : Nat) (x : Int32) (h : List Pic) (sv : Option Pic) (V : Pic) (r1 r2 r3 : Int32) (ln tx : List Int32) (f : Option (Int32 × Mem)) : Out → Prop
  | .inl c => f = some (c, μ) ∧ (c = -1 ∨ c = -2)
  | .inr (.inl (r, v)) => r ≠ 0 ∧ ∃ μ1, f = some (-3, μ1) ∧ CInv Λ μ1 a p x V h sv r v x ln tx ∧ CKeep Λ μ μ1 a p
  | .inr (.inr (n, V')) => n < 2 ^ 31 ∧ ∃ μ1, f = some (nI n, μ1) ∧ CInv Λ μ1 a p x V' h sv r1 r2 r3 ln tx ∧ CKeep Λ μ μ1 a p
section OU
variable {Λ : Lay} {μ μ' : Mem} {a p : Nat} {x y : Int32} {V : Pic} {h : List Pic} {sv : Option Pic} {r1 r2 r3 : Int32} {ln tx : List Int32}
theorem cinv_riv (P : FrApart Λ a) (C : CInv Λ μ a p x V h sv r1 r2 r3 ln tx) {V' : Pic} (ok : PicOK V') (N : RvV Λ μ' (lyR Λ a 0) V') (c : Chg Λ μ μ' (rvRow Λ (lyR Λ a 0)) (rvFld (lyR Λ a 0))) : CInv Λ μ' a p x V' h sv r1 r2 r3 ln tx ∧ CKeep Λ μ μ' a p := by
  obtain ⟨c1, c2, c3, c4, c5, c6, c7, c8, c9, c10, c11, c12, c13⟩ := C
  have c' : Chg Λ μ μ' (rvRow Λ (frR Λ a 0)) (rvFld (frR Λ a 0)) := c
  have hp := c4.1
  have ei : ∀ k, mI μ' a k = mI μ a k := fun k => riv_int P (i := 0) (by omega) c' (Or.inl rfl) k
  refine ⟨⟨N, ok, ring_keep P (i := 0) (by omega) c' c3 N.1, riv_past P (i := 0) (by omega) (fun m hm => by omega) c' c4, by rw [ei]; exact c5, fun U hU => ⟨(c6 U hU).1, rvv_keep P (i := 0) (j := 1) (by omega) (by omega) (by omega) c' (c6 U hU).2⟩, by rw [ei]; exact c7, by rw [ei]; exact c8, by rw [ei]; exact c9, by rw [ei]; exact c10, w_riv P (i := 0) (by omega) c' (by omega) c11, w_riv P (i := 0) (by omega) c' (by omega) c12, fun k h1 h2 => ?_⟩, ⟨fun k hk l hl => w_riv P (i := 0) (by omega) c' hk hl, fun k => riv_int P (i := 0) (by omega) c' (Or.inr (Or.inr rfl)) k, fun U hU => rvv_keep P (i := 0) (j := 2 + p) (by omega) (by omega) (by omega) c' hU⟩⟩
  obtain ⟨l, q⟩ := c13 k h1 h2
  exact ⟨l, w_riv P (i := 0) (by omega) c' h2 q⟩
theorem cinv_st (P : FrApart Λ a) (C : CInv Λ μ a p x V h sv r1 r2 r3 ln tx) {k : Nat} {v : Int32} : RvV Λ (stI μ a k v) (lyR Λ a 0) V ∧ ringO Λ (stI μ a k v) a ∧ Past Λ (stI μ a k v) a p h ∧ (∀ U, sv = some U → PicOK U ∧ RvV Λ (stI μ a k v) (lyR Λ a 1) U) ∧ CKeep Λ μ (stI μ a k v) a p := by
  obtain ⟨c1, c2, c3, c4, c5, c6, c7, c8, c9, c10, c11, c12, c13⟩ := C
  have hp := c4.1
  exact ⟨rvv_st P (i := 0) (by omega) (Or.inl rfl) c1, ring_st P (Or.inl rfl) c3, past_st P c4, fun U hU => ⟨(c6 U hU).1, rvv_st P (i := 1) (by omega) (Or.inl rfl) (c6 U hU).2⟩, ⟨fun k hk l hl => w_st P hk (Or.inl rfl) hl, fun k => mI_ne (fun q => P.2.2.2.2.2.2.2.1 q.1.symm), fun U hU => rvv_st P (by omega) (Or.inl rfl) hU⟩⟩
theorem CKeep.tr {μ1 μ2 : Mem} (h1 : CKeep Λ μ μ1 a p) (h2 : CKeep Λ μ1 μ2 a p) : CKeep Λ μ μ2 a p := ⟨fun k hk l hl => h2.1 k hk l (h1.1 k hk l hl), fun k => (h2.2.1 k).trans (h1.2.1 k), fun U hU => h2.2.2 U (h1.2.2 U hU)⟩
theorem CKeep.rf : CKeep Λ μ μ a p := ⟨fun _ _ _ h => h, fun _ => rfl, fun _ h => h⟩
/-- one of a's numbers 6 to 10 set -/
theorem cinv_set (P : FrApart Λ a) (C : CInv Λ μ a p x V h sv r1 r2 r3 ln tx) {k : Nat} (hk : k = 7 ∨ k = 8 ∨ k = 9 ∨ k = 10) (v : Int32) : CInv Λ (stI μ a k v) a p (if k = 10 then v else x) V h sv (if k = 7 then v else r1) (if k = 8 then v else r2) (if k = 9 then v else r3) ln tx ∧ CKeep Λ μ (stI μ a k v) a p := by
  obtain ⟨s1, s2, s3, s4, s5⟩ := cinv_st (k := k) (v := v) P C
  obtain ⟨c1, c2, c3, c4, c5, c6, c7, c8, c9, c10, c11, c12, c13⟩ := C
  have get : ∀ j, mI (stI μ a k v) a j = if k = j then v else mI μ a j := fun j => by
    by_cases e : k = j
    · rw [if_pos e, e, mI_self]
    · rw [if_neg e, mI_ne (fun q => e q.2.symm)]
  refine ⟨⟨s1, c2, s2, s3, by rw [get, if_neg (by omega)]; exact c5, s4, by rw [get, c7], by rw [get, c8], by rw [get, c9], by rw [get, c10], s5.1 0 (by omega) _ c11, s5.1 1 (by omega) _ c12, fun k' h1 h2 => ?_⟩, s5⟩
  obtain ⟨l, q⟩ := c13 k' h1 h2
  exact ⟨l, s5.1 k' h2 l q⟩
theorem cinv_core (P : FrApart Λ a) (C : CInv Λ μ a p x V h sv r1 r2 r3 ln tx) {f : Option (Int32 × Mem)} {o : Out} (m : CMeets Λ μ a V f o) : CAft Λ μ a p x h sv V r1 r2 r3 ln tx f o := by
  match o, m with
  | .inl c, m => exact m
  | .inr (.inl (r, v)), ⟨μ1, e1, hr, N, c⟩ =>
    obtain ⟨C1, K1⟩ := cinv_riv P C C.2.1 N c
    obtain ⟨C2, K2⟩ := cinv_set P C1 (k := 7) (by omega) r
    obtain ⟨C3, K3⟩ := cinv_set P C2 (k := 8) (by omega) v
    have e10 : mI μ1 a 10 = x := C1.2.2.2.2.2.2.2.2.2.1
    obtain ⟨C4, K4⟩ := cinv_set P C3 (k := 9) (by omega) (mI μ1 a 10)
    refine ⟨hr, _, e1, ?_, ((K1.tr K2).tr K3).tr K4⟩
    rw [e10] at C4
    unfold refC
    rw [e10]
    exact C4
  | .inr (.inr (n, V')), ⟨μ1, e1, hn, ok, N, c⟩ =>
    obtain ⟨C1, K1⟩ := cinv_riv P C ok N c
    exact ⟨hn, μ1, e1, C1, K1⟩
theorem note_inv (P : FrApart Λ a) (C : CInv Λ μ a p x V h sv r1 r2 r3 ln tx) : ∃ μ1, sX0_note Λ μ (lyR Λ a 2) (lyR Λ a 0) = some μ1 ∧ CInv Λ μ1 a p x V h sv r1 r2 r3 ln tx ∧ RvV Λ μ1 (frR Λ a (2 + p)) V ∧ (∀ k, k < 5 → ∀ l, RowIs Λ μ (frW Λ a k) l → RowIs Λ μ1 (frW Λ a k) l) ∧ ∀ k, mI μ1 (lyR Λ a 5) k = mI μ (lyR Λ a 5) k := by
  obtain ⟨c1, c2, c3, c4, c5, c6, c7, c8, c9, c10, c11, c12, c13⟩ := C
  have hp := c4.1
  obtain ⟨μ1, q1, q2, q3, q4, q5, q6⟩ := fr_note P c3 c4 c2 c1
  have ei : ∀ k, mI μ1 a k = mI μ a k := fun k => riv_int P (i := 2 + p) (by omega) q6 (Or.inl rfl) k
  refine ⟨μ1, q1, ⟨q2, c2, q5, q4, by rw [ei]; exact c5, fun U hU => ⟨(c6 U hU).1, rvv_keep P (i := 2 + p) (j := 1) (by omega) (by omega) (by omega) q6 (c6 U hU).2⟩, by rw [ei]; exact c7, by rw [ei]; exact c8, by rw [ei]; exact c9, by rw [ei]; exact c10, w_riv P (i := 2 + p) (by omega) q6 (by omega) c11, w_riv P (i := 2 + p) (by omega) q6 (by omega) c12, fun k h1 h2 => ?_⟩, q3, fun k hk l hl => w_riv P (i := 2 + p) (by omega) q6 hk hl, fun k => riv_int P (i := 2 + p) (by omega) q6 (Or.inr (Or.inr rfl)) k⟩
  obtain ⟨l, q⟩ := c13 k h1 h2
  exact ⟨l, w_riv P (i := 2 + p) (by omega) q6 h2 q⟩
/-- what is noted is kept -/
theorem confirm_inv (P : FrApart Λ a) (C : CInv Λ μ a p x V h sv r1 r2 r3 ln tx) {U : Pic} (ok : PicOK U) (N : RvV Λ μ (frR Λ a (2 + p)) U) : ∃ μ1, sX0_confirm Λ μ (lyR Λ a 2) = some μ1 ∧ CInv Λ μ1 a ((p + 1) % 9) x V (push h U) sv r1 r2 r3 ln tx := by
  obtain ⟨c1, c2, c3, c4, c5, c6, c7, c8, c9, c10, c11, c12, c13⟩ := C
  obtain ⟨v, w, q1, q2⟩ := fr_confirm P c4 ok N
  have hb : lyR Λ a 2 = a ∨ lyR Λ a 2 = lyR Λ a 2 ∨ lyR Λ a 2 = lyR Λ a 5 := Or.inr (Or.inl rfl)
  have ei : ∀ k, mI (stI (stI μ (lyR Λ a 2) 1 v) (lyR Λ a 2) 2 w) a k = mI μ a k := fun k => by
    rw [mI_ne (fun q => P.2.2.2.2.2.2.1 q.1), mI_ne (fun q => P.2.2.2.2.2.2.1 q.1)]
  refine ⟨_, q1, ⟨rvv_st P (i := 0) (by omega) hb (rvv_st P (i := 0) (by omega) hb c1), c2, ring_st P hb (ring_st P hb c3), q2, by rw [ei]; exact c5, fun U hU => ⟨(c6 U hU).1, rvv_st P (i := 1) (by omega) hb (rvv_st P (i := 1) (by omega) hb (c6 U hU).2)⟩, by rw [ei]; exact c7, by rw [ei]; exact c8, by rw [ei]; exact c9, by rw [ei]; exact c10, w_st P (by omega) hb (w_st P (by omega) hb c11), w_st P (by omega) hb (w_st P (by omega) hb c12), fun k h1 h2 => ?_⟩⟩
  obtain ⟨l, q⟩ := c13 k h1 h2
  exact ⟨l, w_st P h2 hb (w_st P h2 hb q)⟩
end OU
section BK
variable {Λ : Lay} {μ μ' : Mem} {a p : Nat} {x y : Int32} {V : Pic} {h : List Pic} {sv : Option Pic} {r1 r2 r3 : Int32} {ln tx : List Int32}
theorem past_back (P : FrApart Λ a) {h0 : List Pic} {U : Pic} (H : Past Λ μ a p (h0 ++ [U])) : PicOK U ∧ RvV Λ μ (frR Λ a (2 + (p + 8) % 9)) U ∧ Past Λ (stI (stI μ (lyR Λ a 2) 2 (nI h0.length)) (lyR Λ a 2) 1 (nI ((p + 8) % 9))) a ((p + 8) % 9) h0 := by
  obtain ⟨hp, e1, e2, hl, hok, hrow⟩ := H
  have hb : lyR Λ a 2 = a ∨ lyR Λ a 2 = lyR Λ a 2 ∨ lyR Λ a 2 = lyR Λ a 5 := Or.inr (Or.inl rfl)
  simp only [List.length_append, List.length_cons, List.length_nil] at hl hrow
  have hU : (h0 ++ [U]).getD h0.length picD = U := by
    rw [List.getD_eq_getElem?_getD, List.getElem?_append_right (Nat.le_refl _), Nat.sub_self]; rfl
  refine ⟨hok U (by simp), ?_, by omega, by rw [mI_self], by rw [mI_ne (by omega), mI_self], by omega, fun W hW => hok W (List.mem_append_left _ hW), fun m hm => rvv_st P (by omega) hb (rvv_st P (by omega) hb ?_)⟩
  · have := hrow h0.length (by omega)
    rw [hU, show (p + 9 - (h0.length + (0 + 1)) + h0.length) % 9 = (p + 8) % 9 by omega] at this
    exact this
  · have := hrow m (by omega)
    rw [List.getD_eq_getElem?_getD, List.getElem?_append_left hm, ← List.getD_eq_getElem?_getD, show (p + 9 - (h0.length + (0 + 1)) + m) % 9 = ((p + 8) % 9 + 9 - h0.length + m) % 9 by omega] at this
    exact this
theorem past_no (C : Past Λ μ a p []) : sX0_goBack Λ μ (lyR Λ a 2) (lyR Λ a 0) = some (0, μ) := by
  unfold sX0_goBack
  rw [C.2.2.1]
  rfl
theorem mod9 : ∀ p, p < 9 → ((nI p + 9) - 1) - ((nI p + 9) - 1) / 9 * 9 = nI ((p + 8) % 9) := by decide
theorem take_back (P : FrApart Λ a) (R : ringO Λ μ a) {q : Nat} (hq : q < 9) (e1 : mI μ (lyR Λ a 2) 1 = nI q) {U : Pic} (ok : PicOK U) (N : RvV Λ μ (frR Λ a (2 + q)) U) : ∃ μ1, sX0_takeBack Λ μ (lyR Λ a 2) (lyR Λ a 0) = some μ1 ∧ RvV Λ μ1 (lyR Λ a 0) U ∧ Chg Λ μ μ1 (rvRow Λ (lyR Λ a 0)) (rvFld (lyR Λ a 0)) := by
  have e : frR Λ a (2 + q) = lyE Λ (lyR Λ (lyR Λ a 2) 0) q := by
    unfold frR
    rw [if_neg (by omega), if_neg (by omega), Nat.add_sub_cancel_left]
  obtain ⟨μ1, q1, q2, -, q4⟩ := rvv_copy P (i := 0) (j := 2 + q) (by omega) (by omega) (by omega) R ok N
  unfold sX0_takeBack
  rw [e1, if_neg (nI_pos (by omega)), P.2.2.2.2.2.2.2.2.2.1, if_neg (by rw [nI_leI (by omega) (by omega)]; omega), gd_t (nI_in (by omega) (by omega)), nI_clamp (by omega), ← e]
  have q1' : sX1_copyFrom Λ μ (lyR Λ a 0) (frR Λ a (2 + q)) = some μ1 := q1
  rw [q1']
  exact ⟨μ1, rfl, q2, q4⟩
end BK
