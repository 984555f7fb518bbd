/-! READING: numbers and signs. -/
def chT (tx : List Int32) (i : Nat) : Int32 := tx.getD i (-1)
abbrev dgt (c : Int32) : Prop := 48 ≤ c.toInt ∧ c.toInt ≤ 57
def numV (tx : List Int32) (i : Nat) : Option (Int32 × Nat) :=
  if dgt (chT tx i) then (if dgt (chT tx (i + 1)) then some (((10 : Int32) * (chT tx i - 48) + chT tx (i + 1)) - 48, i + 2) else some (chT tx i - 48, i + 1)) else none
/-- only the places k of K in the object s changed -/
def SFr (μ μ1 : Mem) (s : Nat) (K : Nat → Prop) : Prop := (∀ z k, ¬ (z = s ∧ K k) → mI μ1 z k = mI μ z k) ∧ μ1.2 = μ.2
section RE
variable {Λ : Lay} {μ μ1 μ2 : Mem} {s T i : Nat} {tx : List Int32} {K : Nat → Prop}
theorem SFr.rf : SFr μ μ s K := ⟨fun _ _ _ => rfl, rfl⟩
theorem SFr.st {k : Nat} (hk : K k) {v : Int32} : SFr μ (stI μ s k v) s K := ⟨fun z j h => mI_ne (fun q => h ⟨q.1, q.2 ▸ hk⟩), rfl⟩
theorem SFr.tr (h1 : SFr μ μ1 s K) (h2 : SFr μ1 μ2 s K) : SFr μ μ2 s K := ⟨fun z k h => (h2.1 z k h).trans (h1.1 z k h), h2.2.trans h1.2⟩
theorem SFr.arr (h : SFr μ μ1 s K) (z : Nat) : mA μ1 z = mA μ z := by
  funext j
  unfold mA
  rw [h.2]
theorem SFr.row (h : SFr μ μ1 s K) {g : Nat} {l : List Int32} (hg : g ≠ s) (H : RowIs Λ μ g l) : RowIs Λ μ1 g l := by
  refine ⟨by rw [h.1 g 1 (fun q => hg q.1)]; exact H.1, H.2.1, H.2.2.1, fun j hj => ?_⟩
  rw [h.arr]
  exact H.2.2.2 j hj
theorem get_ch (H : RowIs Λ μ T tx) (hi : i < 2 ^ 31) : sX2_get Λ μ T (nI i) = some (chT tx i) := by
  unfold chT
  by_cases c : i < tx.length
  · rw [row_get H c, List.getD_eq_getElem?_getD, List.getElem?_eq_getElem c]
    rfl
  · rw [row_out H (Or.inr (by rw [nI_toInt hi]; omega)), List.getD_eq_getElem?_getD, List.getElem?_eq_none (by omega)]
    rfl
theorem isDigit_eq (c : Int32) : sX3_isDigit Λ μ c = some (if dgt c then 1 else 0) := by
  unfold sX3_isDigit
  have e48 : (48 : Int32).toInt = 48 := rfl
  have e57 : (57 : Int32).toInt = 57 := rfl
  by_cases h1 : c < 48
  · rw [if_pos h1, if_neg]
    rw [Int32.lt_iff_toInt_lt, e48] at h1
    exact fun q => by have := q.1; omega
  · rw [if_neg h1]
    rw [Int32.lt_iff_toInt_lt, e48] at h1
    by_cases h2 : (57 : Int32) < c
    · rw [if_pos h2, if_neg]
      rw [Int32.lt_iff_toInt_lt, e57] at h2
      exact fun q => by have := q.2; omega
    · rw [if_neg h2, if_pos]
      rw [Int32.lt_iff_toInt_lt, e57] at h2
      exact ⟨by omega, by omega⟩
abbrev k34 : Nat → Prop := fun k => k = 3 ∨ k = 4
theorem fr_no (H : RowIs Λ μ T tx) (e3 : mI μ s 3 = nI i) (hi : i < 2 ^ 30) (h : numV tx i = none) : sX3_takeNumber Λ μ s T = some (0, μ) := by
  unfold sX3_takeNumber
  have hd : ¬ dgt (chT tx i) := fun q => by
    unfold numV at h
    rw [if_pos q] at h
    by_cases c : dgt (chT tx (i + 1))
    · rw [if_pos c] at h; cases h
    · rw [if_neg c] at h; cases h
  rw [e3, get_ch H (by omega), Option.bind_some, isDigit_eq, if_neg hd, Option.bind_some, if_pos rfl]
theorem fr_yes (hT : T ≠ s) (H : RowIs Λ μ T tx) (e3 : mI μ s 3 = nI i) (hi : i < 2 ^ 30) {v : Int32} {j : Nat} (h : numV tx i = some (v, j)) : ∃ μ1, sX3_takeNumber Λ μ s T = some (1, μ1) ∧ mI μ1 s 3 = nI j ∧ mI μ1 s 4 = v ∧ SFr μ μ1 s k34 ∧ i < j ∧ j ≤ i + 2 := by
  unfold sX3_takeNumber
  have hd : dgt (chT tx i) := by
    apply Classical.byContradiction
    intro q
    unfold numV at h
    rw [if_neg q] at h
    cases h
  unfold numV at h
  rw [if_pos hd] at h
  have z1 : ¬ (1 : Int32) = 0 := by decide
  have F2 : SFr μ (stI (stI μ s 4 (chT tx i - 48)) s 3 (nI (i + 1))) s k34 := (SFr.st (Or.inr rfl)).tr (SFr.st (Or.inl rfl))
  have H2 := F2.row hT H
  simp only [bnd]
  rw [e3, get_ch H (by omega), Option.bind_some, isDigit_eq, if_pos hd, Option.bind_some, if_neg z1, Option.bind_some, mI_ne (by omega), e3, nI_1, mI_self, get_ch H2 (by omega), Option.bind_some, isDigit_eq, Option.bind_some]
  by_cases c : dgt (chT tx (i + 1))
  · rw [if_pos c] at h
    have hj := Option.some.inj h
    rw [if_pos c, if_neg z1, Option.bind_some, mI_ne (by omega), mI_self, mI_ne (by omega), mI_self, nI_1]
    refine ⟨_, rfl, ?_, ?_, F2.tr ((SFr.st (Or.inr rfl)).tr (SFr.st (Or.inl rfl))), ?_, ?_⟩
    · rw [mI_self, ← (Prod.mk.inj hj).2]
    · rw [mI_ne (by omega), mI_self]; exact (Prod.mk.inj hj).1
    · have := (Prod.mk.inj hj).2; omega
    · have := (Prod.mk.inj hj).2; omega
  · rw [if_neg c] at h
    have hj := Option.some.inj h
    rw [if_neg c, if_pos rfl]
    refine ⟨_, rfl, ?_, ?_, F2, ?_, ?_⟩
    · rw [mI_self, ← (Prod.mk.inj hj).2]
    · rw [mI_ne (by omega), mI_self]; exact (Prod.mk.inj hj).1
    · have := (Prod.mk.inj hj).2; omega
    · have := (Prod.mk.inj hj).2; omega
end RE
