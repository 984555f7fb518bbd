/-! BOTH, WHOLE: what holds between two operations. -/
def CInv (Λ : Lay) (μ : Mem) (a p : Nat) (x : Int32) (V : Pic) (h : List Pic) (sv : Option Pic) (r1 r2 r3 : Int32) (ln tx : List Int32) : Prop :=
  RvV Λ μ (lyR Λ a 0) V ∧ PicOK V ∧ ringO Λ μ a ∧ Past Λ μ a p h ∧ mI μ a 6 = (if sv.isSome then 1 else 0) ∧ (∀ U, sv = some U → PicOK U ∧ RvV Λ μ (lyR Λ a 1) U) ∧ mI μ a 7 = r1 ∧ mI μ a 8 = r2 ∧ mI μ a 9 = r3 ∧ mI μ a 10 = x ∧ RowIs Λ μ (frW Λ a 0) ln ∧ RowIs Λ μ (frW Λ a 1) tx ∧ ∀ k, 2 ≤ k → k < 5 → ∃ l, RowIs Λ μ (frW Λ a k) l
def MInv (Λ : Lay) (μ : Mem) (b : Nat) (y : Int32) (V : Pic) (h : List Pic) (sv : Option Pic) (r1 r2 m3 : Int32) (ln tx : List Int32) : Prop :=
  NowV Λ μ (lyR Λ b 0) V ∧ Hist Λ μ b h ∧ mI μ b 9 = (if sv.isSome then 1 else 0) ∧ (∀ U, sv = some U → NowV Λ μ (lyR Λ b 1) U) ∧ mI μ b 5 = r1 ∧ mI μ b 6 = r2 ∧ mI μ b 7 = m3 ∧ mI μ b 10 = y ∧ mI μ b 13 = nI ln.length ∧ (∀ (i : Nat) (hi : i < ln.length), mA μ (lyR Λ b 12) i = ln[i]) ∧ mI μ b 15 = nI tx.length ∧ ∀ (i : Nat) (hi : i < tx.length), mA μ (lyR Λ b 14) i = tx[i]
def Rsn (r1 r3 m3 : Int32) (tx : List Int32) : Prop := (r1 ≠ 0 → (¬ m3 < 0 ∧ r3 = m3) ∨ (m3 < 0 ∧ r3 = -4)) ∧ ∀ z ∈ tx, 32 ≤ z.toInt ∧ z.toInt ≤ 126
def Inv (Λ : Lay) (μ : Mem) (a : Nat) (Λ' : Lay) (μ' : Mem) (b : Nat) : Prop := ∃ p V h sv r1 r2 r3 m3 ln tx, CInv Λ μ a p (-4) V h sv r1 r2 r3 ln tx ∧ MInv Λ' μ' b 0 V h sv r1 r2 m3 ln tx ∧ Rsn r1 r3 m3 tx
section IV
variable {Λ : Lay} {μ μ' : Mem} {a : Nat}
theorem rvv_st (P : FrApart Λ a) {i : Nat} (hi : i < 11) {b k : Nat} {v : Int32} (hb : b = a ∨ b = lyR Λ a 2 ∨ b = lyR Λ a 5) {V : Pic} (h : RvV Λ μ (frR Λ a i) V) : RvV Λ (stI μ b k v) (frR Λ a i) V := by
  have hr : ∀ g, rvRow Λ (frR Λ a i) g → g ≠ b := fun g hg q => by
    have := P.2.2.1 i g hi hg
    rcases hb with e | e | e
    · exact this.1 (q.trans e)
    · exact this.2.1 (q.trans e)
    · exact this.2.2.1 (q.trans e)
  have ho : frR Λ a i ≠ b := fun q => by
    have := P.2.2.2.1 i hi
    rcases hb with e | e | e
    · exact this.1 (q.trans e)
    · exact this.2.1 (q.trans e)
    · exact this.2.2.1 (q.trans e)
  obtain ⟨⟨v1, v2, v3, v4⟩, e4, e5, e6⟩ := h
  exact ⟨⟨stI_row (hr _ rvRow0) v1, stI_row (hr _ rvRow1) v2, v3, fun m hm => stI_row (hr _ (rvRowK hm)) (v4 m hm)⟩, by rw [mI_ne (fun q => ho q.1)]; exact e4, by rw [mI_ne (fun q => ho q.1)]; exact e5, by rw [mI_ne (fun q => ho q.1)]; exact e6⟩
theorem ring_st (P : FrApart Λ a) {b k : Nat} {v : Int32} (hb : b = a ∨ b = lyR Λ a 2 ∨ b = lyR Λ a 5) (R : ringO Λ μ a) : ringO Λ (stI μ b k v) a := fun i hi => by
  obtain ⟨w, p, rd, q⟩ := R i hi
  have := rvv_st (μ := μ) (v := v) (k := k) P hi hb (V := mkP w p rd rd (mI μ (frR Λ a i) 4) (mI μ (frR Λ a i) 5) (mI μ (frR Λ a i) 6)) ⟨q, rfl, rfl, rfl⟩
  exact ⟨w, p, rd, this.1⟩
theorem w_st (P : FrApart Λ a) {i : Nat} (hi : i < 5) {b k : Nat} {v : Int32} (hb : b = a ∨ b = lyR Λ a 2 ∨ b = lyR Λ a 5) {l : List Int32} (h : RowIs Λ μ (frW Λ a i) l) : RowIs Λ (stI μ b k v) (frW Λ a i) l := stI_row (fun q => by
    have := P.2.2.2.2.2.1 i hi
    rcases hb with e | e | e
    · exact this.1 (q.trans e)
    · exact this.2.1 (q.trans e)
    · exact this.2.2 (q.trans e)) h
theorem w_riv (P : FrApart Λ a) {i : Nat} (hi : i < 11) (c : Chg Λ μ μ' (rvRow Λ (frR Λ a i)) (rvFld (frR Λ a i))) {k : Nat} (hk : k < 5) {l : List Int32} (h : RowIs Λ μ (frW Λ a k) l) : RowIs Λ μ' (frW Λ a k) l :=
  c.row h (fun q => ((P.2.2.1 i _ hi q).2.2.2 k hk).1 rfl) (fun g hg q => ((P.2.2.1 i g hi hg).2.2.2 k hk).2 q.symm) (fun q => (P.2.2.2.1 i hi).2.2.2 k hk q.1.symm)
theorem past_st (P : FrApart Λ a) {k : Nat} {v : Int32} {p : Nat} {h : List Pic} (H : Past Λ μ a p h) : Past Λ (stI μ a k v) a p h :=
  ⟨H.1, by rw [mI_ne (fun q => P.2.2.2.2.2.2.1 q.1.symm)]; exact H.2.1, by rw [mI_ne (fun q => P.2.2.2.2.2.2.1 q.1.symm)]; exact H.2.2.1, H.2.2.2.1, H.2.2.2.2.1, fun m hm => rvv_st P (by omega) (Or.inl rfl) (H.2.2.2.2.2 m hm)⟩
theorem fr_confirm (P : FrApart Λ a) {p : Nat} {h : List Pic} (H : Past Λ μ a p h) {V : Pic} (ok : PicOK V) (N : RvV Λ μ (frR Λ a (2 + p)) V) : ∃ v w, sX0_confirm Λ μ (lyR Λ a 2) = some (stI (stI μ (lyR Λ a 2) 1 v) (lyR Λ a 2) 2 w) ∧ Past Λ (stI (stI μ (lyR Λ a 2) 1 v) (lyR Λ a 2) 2 w) a ((p + 1) % 9) (push h V) := by
  obtain ⟨hp, e1, e2, hl, hok, hrow⟩ := H
  have hb : lyR Λ a 2 = a ∨ lyR Λ a 2 = lyR Λ a 2 ∨ lyR Λ a 2 = lyR Λ a 5 := Or.inr (Or.inl rfl)
  refine ⟨nI ((p + 1) % 9), nI (push h V).length, ?_, ?_⟩
  · unfold sX0_confirm
    simp only [bnd]
    rw [e1, mI_ne (by omega), e2, nI_1, nI_1]
    have a1 : nI (p + 1) - nI (p + 1) / (9 : Int32) * (9 : Int32) = nI ((p + 1) % 9) := by
      have : p = 0 ∨ p = 1 ∨ p = 2 ∨ p = 3 ∨ p = 4 ∨ p = 5 ∨ p = 6 ∨ p = 7 ∨ p = 8 := by omega
      rcases this with q | q | q | q | q | q | q | q | q <;> subst q <;> decide
    have a2 : (if nI (h.length + 1) < (8 : Int32) then nI (h.length + 1) else (8 : Int32)) = nI (push h V).length := by
      unfold push
      by_cases c : h.length = 8
      · rw [if_pos c, if_neg (by rw [c]; decide)]
        simp [c]
        rfl
      · rw [if_neg c]
        rw [List.length_append, List.length_cons, List.length_nil]
        by_cases c2 : h.length + 1 < 8
        · rw [if_pos (by rw [show (8 : Int32) = nI 8 from rfl, nI_ltI (by omega) (by omega)]; exact c2)]
        · have : h.length = 7 := by omega
          rw [this]; rfl
    rw [a1, a2]
  · have hpl : (push h V).length = if h.length = 8 then 8 else h.length + 1 := by
      unfold push
      by_cases c : h.length = 8
      · rw [if_pos c, if_pos c]; simp [c]
      · rw [if_neg c, if_neg c]; simp
    have keep : ∀ {i : Nat} {U : Pic} {v w : Int32}, i < 11 → RvV Λ μ (frR Λ a i) U → RvV Λ (stI (stI μ (lyR Λ a 2) 1 v) (lyR Λ a 2) 2 w) (frR Λ a i) U := fun hi q => rvv_st P hi hb (rvv_st P hi hb q)
    refine ⟨by omega, by rw [mI_ne (by omega), mI_self], by rw [mI_self], by rw [hpl]; by_cases c : h.length = 8 <;> simp [c] <;> omega, fun U hU => ?_, fun m hm => keep (by omega) ?_⟩
    · unfold push at hU
      rcases List.mem_append.mp hU with q | q
      · by_cases c : h.length = 8
        · rw [if_pos c] at q; exact hok U (List.mem_of_mem_drop q)
        · rw [if_neg c] at q; exact hok U q
      · rw [List.mem_singleton.mp q]; exact ok
    · rw [hpl] at hm
      by_cases c : h.length = 8
      · rw [if_pos c] at hm
        have hg : (push h V).getD m picD = if m < 7 then h.getD (m + 1) picD else V := by
          unfold push
          rw [if_pos c]
          have hd : (h.drop 1).length = 7 := by simp; omega
          rw [List.getD_eq_getElem?_getD]
          by_cases y : m < 7
          · rw [if_pos y, List.getElem?_append_left (by omega), List.getElem?_drop, Nat.add_comm 1 m, List.getD_eq_getElem?_getD]
          · have : m = 7 := by omega
            subst this
            rw [if_neg y, List.getElem?_append_right (by omega), hd]; rfl
        rw [hg, hpl, if_pos c]
        by_cases y : m < 7
        · rw [if_pos y]
          have := hrow (m + 1) (by omega)
          rw [c, show (p + 9 - 8 + (m + 1)) % 9 = ((p + 1) % 9 + 9 - 8 + m) % 9 by omega] at this
          exact this
        · have : m = 7 := by omega
          subst this
          rw [if_neg y, show ((p + 1) % 9 + 9 - 8 + 7) % 9 = p by omega]
          exact N
      · rw [if_neg c] at hm
        have hg : (push h V).getD m picD = if m < h.length then h.getD m picD else V := by
          unfold push
          rw [if_neg c, List.getD_eq_getElem?_getD]
          by_cases y : m < h.length
          · rw [if_pos y, List.getElem?_append_left y, List.getD_eq_getElem?_getD]
          · have : m = h.length := by omega
            subst this
            rw [if_neg y, List.getElem?_append_right (Nat.le_refl _), Nat.sub_self]; rfl
        rw [hg, hpl, if_neg c]
        by_cases y : m < h.length
        · rw [if_pos y]
          have := hrow m y
          rw [show (p + 9 - h.length + m) % 9 = ((p + 1) % 9 + 9 - (h.length + 1) + m) % 9 by omega] at this
          exact this
        · have : m = h.length := by omega
          subst this
          rw [if_neg y, show ((p + 1) % 9 + 9 - (h.length + 1) + h.length) % 9 = p by omega]
          exact N
end IV
