/-! RIVERS: copies, weights that rise, and the other questions. -/
/-- two rivers are apart -/
def RvTwo (Λ : Lay) (a o : Nat) : Prop := a ≠ o ∧ (∀ h g, rvRow Λ a h → rvRow Λ o g → lyR Λ h 0 ≠ lyR Λ g 0 ∧ h ≠ g) ∧ (∀ h, rvRow Λ a h → h ≠ o) ∧ ∀ h, rvRow Λ o h → h ≠ a
section R4
variable {Λ : Lay} {μ μ' : Mem} {a o : Nat} {w p : List Nat} {rd : Nat → List Nat} {l : List Int32}
theorem two_row (X : RvTwo Λ a o) (c : Chg Λ μ μ' (rvRow Λ a) (rvFld a)) {h : Nat} (hh : rvRow Λ o h) (H : RowIs Λ μ h l) : RowIs Λ μ' h l :=
  c.row H (fun q => (X.2.1 h h q hh).2 rfl) (fun g hg q => (X.2.1 g h hg hh).1 q.symm) (fun q => X.2.2.2 h hh q.1)
theorem two_keep (X : RvTwo Λ a o) (c : Chg Λ μ μ' (rvRow Λ a) (rvFld a)) {j k t : Int32} (V : RvS Λ μ o w p rd j k t) : RvS Λ μ' o w p rd j k t := by
  obtain ⟨V, e4, e5, e6⟩ := V
  have hf : ∀ i, mI μ' o i = mI μ o i := fun i => c.1 o i (fun q => X.2.2.1 o q.1 rfl) (fun q => X.1 q.1.symm)
  exact ⟨⟨two_row X c rvRow0 V.1, two_row X c rvRow1 V.2.1, V.2.2.1, fun i hi => two_row X c (rvRowK hi) (V.2.2.2 i hi)⟩, by rw [hf]; exact e4, by rw [hf]; exact e5, by rw [hf]; exact e6⟩
theorem rv_copyL (P : RvApart Λ a) (X : RvTwo Λ a o) {j c t : Int32} (hw : w.length ≤ 12) (hp : p.length ≤ 12) (hrd : ∀ k, k < 12 → (rd k).length ≤ 23) : ∀ n k (μ1 : Mem) (rd1 : Nat → List Nat), k ≤ 12 → 12 - k < n → Riv Λ μ1 a w p rd1 → (∀ i, i < k → rd1 i = rd i) → RvS Λ μ1 o w p rd j c t → Chg Λ μ μ1 (rvRow Λ a) (rvFld a) → ∃ μ', lpX1_copyFrom_29 Λ a o n μ1 (nI k) = some μ' ∧ RvS Λ μ' a w p rd j c t ∧ Chg Λ μ μ' (rvRow Λ a) (rvFld a) := by
  intro n
  induction n with
  | zero => intro k μ1 rd1 hk hn; omega
  | succ n ih =>
    intro k μ1 rd1 hk hn V1 he Vo hC
    rw [lpX1_copyFrom_29_s, nI_lit12]
    by_cases e : k = 12
    · subst e
      rw [if_pos ((nI_leI (by omega) (by omega)).mpr (Nat.le_refl _))]
      simp only [bnd]
      obtain ⟨-, e4, e5, e6⟩ := Vo
      have ho : o ≠ a := fun q => X.1 q.symm
      refine ⟨_, rfl, ⟨?_, ?_, ?_, ?_⟩, ((hC.tr (stI_chg (Or.inl rfl))).tr (stI_chg (Or.inr (Or.inl rfl)))).tr (stI_chg (Or.inr (Or.inr rfl)))⟩
      · have V2 := stI_riv (k := 6) (v := mI (stI (stI μ1 a 4 (mI μ1 o 4)) a 5 (mI (stI μ1 a 4 (mI μ1 o 4)) o 5)) o 6) P (stI_riv (k := 5) (v := mI (stI μ1 a 4 (mI μ1 o 4)) o 5) P (stI_riv (k := 4) (v := mI μ1 o 4) P V1))
        exact ⟨V2.1, V2.2.1, V2.2.2.1, fun i hi => by rw [← he i hi]; exact V2.2.2.2 i hi⟩
      · rw [mI_ne (by omega), mI_ne (by omega), mI_self, e4]
      · rw [mI_ne (by omega), mI_self, mI_ne (fun q => ho q.1), e5]
      · rw [mI_self, mI_ne (fun q => ho q.1), mI_ne (fun q => ho q.1), e6]
    · have hk12 : k < 12 := by omega
      rw [if_neg (by rw [nI_leI (by omega) (by omega)]; omega), rv_at V1 hk12, Option.bind_some, rv_at Vo.1 hk12, Option.bind_some]
      have hx := X.2.1 _ _ (rvRowK (a := a) hk12) (rvRowK (a := o) hk12)
      obtain ⟨μ2, q2, H2, C2⟩ := row_copy (Vo.1.2.2.2 k hk12) (V1.2.2.2 k hk12) hx.2.symm hx.1.symm (by rw [P.2.2.2.2.2.2.2 k hk12, List.length_map]; exact hrd k hk12)
      rw [q2, Option.bind_some]
      simp only [bnd]
      rw [nI_1]
      have hC2 := chg_in P (rvRowK hk12) C2
      refine ih (k + 1) μ2 (rdUp rd1 k (rd k)) (by omega) (by omega) (rv_stayK P hk12 C2 V1 H2) (fun i hi => ?_) (two_keep X hC2 Vo) (hC.tr hC2)
      unfold rdUp
      by_cases y : i = k
      · rw [if_pos y, y]
      · rw [if_neg y]; exact he i (by omega)
theorem rv_copy (P : RvApart Λ a) (X : RvTwo Λ a o) {j c t : Int32} (hw : w.length ≤ 12) (hp : p.length ≤ 12) (hrd : ∀ k, k < 12 → (rd k).length ≤ 23) {w0 p0 : List Nat} {rd0 : Nat → List Nat} (V : Riv Λ μ a w0 p0 rd0) (Vo : RvS Λ μ o w p rd j c t) : ∃ μ', sX1_copyFrom Λ μ a o = some μ' ∧ RvS Λ μ' a w p rd j c t ∧ RvS Λ μ' o w p rd j c t ∧ Chg Λ μ μ' (rvRow Λ a) (rvFld a) := by
  unfold sX1_copyFrom
  have hx0 := X.2.1 _ _ (rvRow0 (Λ := Λ) (a := a)) (rvRow0 (a := o))
  obtain ⟨μ1, q1, H1, C1⟩ := row_copy Vo.1.1 V.1 hx0.2.symm hx0.1.symm (by rw [P.2.2.2.2.2.1, List.length_map]; exact hw)
  have D1 := chg_in P rvRow0 C1
  have V1 := rv_stay0 P C1 V H1
  have Vo1 := two_keep X D1 Vo
  have hx1 := X.2.1 _ _ (rvRow1 (Λ := Λ) (a := a)) (rvRow1 (a := o))
  obtain ⟨μ2, q2, H2, C2⟩ := row_copy Vo1.1.2.1 V1.2.1 hx1.2.symm hx1.1.symm (by rw [P.2.2.2.2.2.2.1, List.length_map]; exact hp)
  have D2 := chg_in P rvRow1 C2
  have V2 := rv_stay1 P C2 V1 H2
  have Vo2 := two_keep X D2 Vo1
  rw [q1, Option.bind_some, q2, Option.bind_some, nI_lit0]
  obtain ⟨μ3, q3, V3, D3⟩ := rv_copyL (μ := μ) P X (c := c) (j := j) (t := t) hw hp hrd fuel 0 μ2 rd0 (by omega) (by unfold fuel; omega) V2 (fun i hi => by omega) Vo2 (D1.tr D2)
  exact ⟨μ3, q3, V3, two_keep X D3 Vo, D3⟩
/-- a weight that has risen -/
def clampW (x : Nat) (by' : Int) : Nat := (max 0 (min 99 ((x : Int) + by'))).toNat
def riseW (w : List Nat) (s : Nat) (d : Int) : List Nat := (List.range w.length).map (fun k => if s.testBit k then clampW (wt w k) d else wt w k)
def riseK (w : List Nat) (s : Nat) (d : Int) (m : Nat) : List Nat := (List.range w.length).map (fun k => if k < m ∧ s.testBit k then clampW (wt w k) d else wt w k)
theorem clamp_le (x : Nat) (d : Int) : clampW x d ≤ 99 := by unfold clampW; omega
theorem clampI {x : Nat} {d : Int32} (hx : x ≤ 99) (h1 : -99 ≤ d.toInt) (h2 : d.toInt ≤ 99) : (if (0 : Int32) < (if (nI x + d) < (99 : Int32) then (nI x + d) else (99 : Int32)) then (if (nI x + d) < (99 : Int32) then (nI x + d) else (99 : Int32)) else (0 : Int32)) = nI (clampW x d.toInt) := by
  have e : (nI x + d).toInt = (x : Int) + d.toInt := by
    rw [Int32.toInt_add, nI_toInt (by omega)]
    have := Int.bmod_eq_of_le (n := (x : Int) + d.toInt) (m := 2 ^ 32) (by omega) (by omega)
    simpa using this
  have e99 : (99 : Int32).toInt = 99 := rfl
  have e0 : (0 : Int32).toInt = 0 := rfl
  have ec : (nI (clampW x d.toInt)).toInt = clampW x d.toInt := nI_toInt (by have := clamp_le x d.toInt; omega)
  apply Int32.toInt_inj.mp
  rw [ec]
  unfold clampW
  by_cases c1 : nI x + d < (99 : Int32)
  · rw [if_pos c1]
    rw [Int32.lt_iff_toInt_lt, e, e99] at c1
    by_cases c2 : (0 : Int32) < nI x + d
    · rw [if_pos c2, e]
      rw [Int32.lt_iff_toInt_lt, e, e0] at c2
      omega
    · rw [if_neg c2, e0]
      rw [Int32.lt_iff_toInt_lt, e, e0] at c2
      omega
  · rw [if_neg c1, if_pos (by decide), e99]
    rw [Int32.lt_iff_toInt_lt, e, e99] at c1
    omega
theorem riseK_len (w : List Nat) (s : Nat) (d : Int) (m : Nat) : (riseK w s d m).length = w.length := by unfold riseK; simp
theorem riseK_get {w : List Nat} {s : Nat} {d : Int} {m k : Nat} (hk : k < w.length) : (riseK w s d m)[k]'(by rw [riseK_len]; exact hk) = if k < m ∧ s.testBit k then clampW (wt w k) d else wt w k := by unfold riseK; simp
theorem riseK_0 (w : List Nat) (s : Nat) (d : Int) : riseK w s d 0 = w := by
  apply List.ext_getElem
  · exact riseK_len ..
  · intro k h1 h2
    rw [riseK_get h2]
    simp [wt, h2]
theorem riseK_s {w : List Nat} {s : Nat} {d : Int} {m : Nat} (hm : m < w.length) : riseK w s d (m + 1) = (riseK w s d m).set m (if s.testBit m then clampW (wt w m) d else wt w m) := by
  apply List.ext_getElem
  · simp [riseK_len]
  · intro k h1 h2
    rw [riseK_len] at h1
    rw [riseK_get h1, List.getElem_set]
    by_cases c : m = k
    · subst c
      simp
    · rw [if_neg c, riseK_get h1]
      have : (k < m + 1) = (k < m) := by apply propext; omega
      simp only [this]
theorem wt_le (hw : ∀ x ∈ w, x ≤ 99) (k : Nat) : wt w k ≤ 99 := by
  unfold wt
  by_cases h : k < w.length
  · have : w.getD k 0 = w[k] := by simp [h]
    rw [this]; exact hw _ (List.getElem_mem h)
  · simp [h]
theorem rv_raiseL (P : RvApart Λ a) (hn12 : w.length ≤ 12) (hw : ∀ x ∈ w, x ≤ 99) {s : Nat} (hs : s < 4096) {d : Int32} (h1 : -99 ≤ d.toInt) (h2 : d.toInt ≤ 99) {j c t : Int32} : ∀ n k (μ1 : Mem) (m : Nat), k ≤ w.length → w.length - k < n → RvS Λ μ1 a (riseK w s d.toInt k) p rd j c t → Chg Λ μ μ1 (rvRow Λ a) (rvFld a) → ∃ μ', lpX1_raiseAll_5 Λ a (nI s) d n μ1 (nI m) (nI k) = some (nI (itr (fun k m => m + if s.testBit k && decide (clampW (wt w k) d.toInt ≠ wt w k) then 1 else 0) k (w.length - k) m), μ') ∧ RvS Λ μ' a (riseK w s d.toInt w.length) p rd j c t ∧ Chg Λ μ μ' (rvRow Λ a) (rvFld a) := by
  intro n
  induction n with
  | zero => intro k μ1 m hk hn; omega
  | succ n ih =>
    intro k μ1 m hk hn V hC
    rw [lpX1_raiseAll_5_s, row_len V.1.1, Option.bind_some, List.length_map, riseK_len]
    by_cases e : k = w.length
    · subst e
      rw [if_pos ((nI_leI (by omega) (by omega)).mpr (Nat.le_refl _)), Nat.sub_self]
      exact ⟨μ1, rfl, V, hC⟩
    · have hk' : k < w.length := by omega
      have hkr : k < (riseK w s d.toInt k).length := by rw [riseK_len]; exact hk'
      have hval : (List.map nI (riseK w s d.toInt k))[k]'(by simpa using hkr) = nI (wt w k) := by
        rw [List.getElem_map, riseK_get hk', if_neg (by omega)]
      rw [if_neg (by rw [nI_leI (by omega) (by omega)]; omega), row_get V.1.1 (by simpa using hkr), Option.bind_some, hval]
      simp only [bnd]
      have hwk := wt_le hw k
      rw [clampI hwk h1 h2, bit_spec (by omega), Option.bind_some]
      have hcl := clamp_le (wt w k) d.toInt
      rw [show w.length - k = (w.length - (k + 1)) + 1 by omega, itr]
      have same : (riseK w s d.toInt k).set k (wt w k) = riseK w s d.toInt k := by
        apply List.ext_getElem
        · simp
        · intro i q1 q2
          rw [List.getElem_set]
          by_cases y : k = i
          · subst y
            rw [if_pos rfl, riseK_get hk', if_neg (by omega)]
          · rw [if_neg y]
      by_cases b1 : s.testBit k = true
      · rw [if_neg (by rw [and_pow_ne hs, b1]; decide)]
        by_cases b2 : clampW (wt w k) d.toInt = wt w k
        · rw [if_pos (by rw [b2]), nI_1]
          have V' : RvS Λ μ1 a (riseK w s d.toInt (k + 1)) p rd j c t := by
            rw [riseK_s hk', if_pos b1, b2, same]; exact V
          obtain ⟨μ2, q2, V2, C2⟩ := ih (k + 1) μ1 m (by omega) (by omega) V' hC
          refine ⟨μ2, ?_, V2, C2⟩
          rw [q2, b1, b2]; simp
        · rw [if_neg (by rw [nI_eq (by omega) (by omega)]; exact b2)]
          obtain ⟨μ2, q2, H2, C2⟩ := row_put V.1.1 (k := k) (by simpa using hkr) (nI (clampW (wt w k) d.toInt))
          rw [lset_map] at H2
          rw [q2, Option.bind_some, nI_1, nI_1]
          have V' : RvS Λ μ2 a (riseK w s d.toInt (k + 1)) p rd j c t := by
            rw [riseK_s hk', if_pos b1]
            exact ⟨rv_stay0 P C2 V.1 H2, by rw [acc_stay P rvRow0 C2]; exact V.2.1, by rw [acc_stay P rvRow0 C2]; exact V.2.2.1, by rw [acc_stay P rvRow0 C2]; exact V.2.2.2⟩
          obtain ⟨μ3, q3, V3, C3⟩ := ih (k + 1) μ2 (m + 1) (by omega) (by omega) V' (hC.tr (chg_in P rvRow0 C2))
          refine ⟨μ3, ?_, V3, C3⟩
          rw [q3, b1]; simp [b2]
      · rw [if_pos ((and_pow_ne hs).mpr (by simpa using b1)), nI_1]
        have V' : RvS Λ μ1 a (riseK w s d.toInt (k + 1)) p rd j c t := by
          rw [riseK_s hk', if_neg b1, same]; exact V
        obtain ⟨μ2, q2, V2, C2⟩ := ih (k + 1) μ1 m (by omega) (by omega) V' hC
        refine ⟨μ2, ?_, V2, C2⟩
        rw [q2]; simp [b1]
theorem rv_raise (P : RvApart Λ a) (hn12 : w.length ≤ 12) (hw : ∀ x ∈ w, x ≤ 99) {s : Nat} (hs : s < 4096) {d : Int32} (h1 : -99 ≤ d.toInt) (h2 : d.toInt ≤ 99) {j c t : Int32} (V : RvS Λ μ a w p rd j c t) : ∃ μ', sX1_raiseAll Λ μ a (nI s) d = some (nI (cntTo w.length (fun k => s.testBit k && decide (clampW (wt w k) d.toInt ≠ wt w k))), μ') ∧ RvS Λ μ' a (riseW w s d.toInt) p rd j c t ∧ Chg Λ μ μ' (rvRow Λ a) (rvFld a) := by
  unfold sX1_raiseAll
  obtain ⟨μ2, q2, V2, C2⟩ := rv_raiseL (μ := μ) P hn12 hw hs h1 h2 fuel 0 μ 0 (by omega) (by unfold fuel; omega) (by rw [riseK_0]; exact V) Chg.rf
  have e : riseK w s d.toInt w.length = riseW w s d.toInt := by
    unfold riseK riseW
    apply List.map_congr_left
    intro k hk
    have : k < w.length := by simpa using hk
    simp [this]
  rw [e] at V2
  refine ⟨μ2, ?_, V2, C2⟩
  rw [nI_lit0, q2, Nat.sub_zero, itr_sum0]
  rfl
end R4
