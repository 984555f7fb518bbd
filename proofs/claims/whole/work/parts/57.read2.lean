/-! READING: the reference's numbers and signs. -/
def TxtM (Λ : Lay) (μ : Mem) (b : Nat) (tx : List Int32) : Prop := mI μ b 15 = nI tx.length ∧ tx.length ≤ 70 ∧ lyN Λ (lyR Λ b 14) = 70 ∧ ∀ (i : Nat) (hi : i < tx.length), mA μ (lyR Λ b 14) i = tx[i]
abbrev k16 : Nat → Prop := fun k => k = 16 ∨ k = 20
section RF
variable {Λ : Lay} {μ μ1 μ2 : Mem} {b i : Nat} {tx : List Int32}
theorem TxtM.fr (h : TxtM Λ μ b tx) (F : SFr μ μ1 b k16) : TxtM Λ μ1 b tx := ⟨by rw [F.1 b 15 (fun q => by have := q.2; omega)]; exact h.1, h.2.1, h.2.2.1, fun i hi => by rw [F.arr]; exact h.2.2.2 i hi⟩
theorem sees_f (lo hi : Int32) (h : mI μ b 20 ≠ 0) : sX5_sees Λ μ b lo hi = some 0 := by
  unfold sX5_sees
  rw [if_neg h]
theorem sees_eq (T : TxtM Λ μ b tx) (h : mI μ b 20 = 0) (e : mI μ b 16 = nI i) (hi : i < 2 ^ 30) {lo hi' : Int32} (h0 : 0 ≤ lo.toInt) : sX5_sees Λ μ b lo hi' = some (if lo.toInt ≤ (chT tx i).toInt ∧ (chT tx i).toInt ≤ hi'.toInt then 1 else 0) := by
  have hl := T.2.1
  unfold sX5_sees chT
  rw [if_pos h, T.1, e]
  by_cases c : i < tx.length
  · rw [if_neg (by rw [nI_leI (by omega) (by omega)]; omega), T.2.2.1, gd_t (nI_in (by omega) (by omega)), nI_clamp (by omega), T.2.2.2 i c, btw_eq, Option.bind_some, List.getD_eq_getElem?_getD, List.getElem?_eq_getElem c]
    by_cases q : lo.toInt ≤ tx[i].toInt ∧ tx[i].toInt ≤ hi'.toInt
    · rw [if_pos q]
      show (if (1 : Int32) = 0 then _ else _) = _
      rw [if_neg (by decide)]
      exact (congrArg some (if_pos q)).symm
    · rw [if_neg q, if_pos rfl]
      exact (congrArg some (if_neg q)).symm
  · rw [if_pos ((nI_leI (by omega) (by omega)).mpr (by omega)), List.getD_eq_getElem?_getD, List.getElem?_eq_none (by omega)]
    have e1 : ((none : Option Int32).getD (-1)).toInt = -1 := rfl
    rw [if_neg (fun q => by rw [e1] at q; omega)]
theorem sees_d (T : TxtM Λ μ b tx) (h : mI μ b 20 = 0) (e : mI μ b 16 = nI i) (hi : i < 2 ^ 30) : sX5_sees Λ μ b 48 57 = some (if dgt (chT tx i) then 1 else 0) := sees_eq T h e hi (by decide)
theorem sees_c (T : TxtM Λ μ b tx) (h : mI μ b 20 = 0) (e : mI μ b 16 = nI i) (hi : i < 2 ^ 30) {c : Int32} (h0 : 0 ≤ c.toInt) : sX5_sees Λ μ b c c = some (if chT tx i = c then 1 else 0) := by
  rw [sees_eq T h e hi h0]
  by_cases q : chT tx i = c
  · rw [if_pos q, if_pos (by rw [q]; exact ⟨Int.le_refl _, Int.le_refl _⟩)]
  · rw [if_neg q, if_neg (fun z => q (Int32.toInt_inj.mp (Int.le_antisymm z.2 z.1)))]
theorem must_f (c : Int32) (h : mI μ b 20 = 1) : ∃ μ1, sX5_must Λ μ b c = some μ1 ∧ mI μ1 b 20 = 1 ∧ mI μ1 b 16 = mI μ b 16 ∧ SFr μ μ1 b k16 := by
  unfold sX5_must
  rw [sees_f c c (by rw [h]; decide), Option.bind_some, if_pos rfl, h]
  simp only [bnd]
  rw [gd_t (by decide), mI_self, if_neg (by decide)]
  refine ⟨_, rfl, ?_, ?_, (SFr.st (by decide)).tr (SFr.st (by decide))⟩
  · rw [mI_ne (by omega), mI_self]; rfl
  · rw [mI_self, mI_ne (by omega)]; exact Int32.add_zero _
theorem must_eq (T : TxtM Λ μ b tx) (h : mI μ b 20 = 0) (e : mI μ b 16 = nI i) (hi : i < 2 ^ 30) {c : Int32} (h0 : 0 ≤ c.toInt) : ∃ μ1, sX5_must Λ μ b c = some μ1 ∧ mI μ1 b 20 = (if chT tx i = c then 0 else 1) ∧ mI μ1 b 16 = nI (if chT tx i = c then i + 1 else i) ∧ SFr μ μ1 b k16 := by
  unfold sX5_must
  rw [sees_c T h e hi h0, Option.bind_some, h]
  simp only [bnd]
  by_cases q : chT tx i = c
  · rw [if_pos q, if_neg (show ¬ (1 : Int32) = 0 by decide), gd_t (by decide), mI_self, if_pos (by decide), if_pos q, if_pos q]
    refine ⟨_, rfl, ?_, ?_, (SFr.st (by decide)).tr (SFr.st (by decide))⟩
    · rw [mI_ne (by omega), mI_self]; rfl
    · rw [mI_self, mI_ne (by omega), e, nI_1]
  · rw [if_neg q, if_pos rfl, gd_t (by decide), mI_self, if_neg (show ¬ ((0 : Int32) ||| 1) = 0 by decide), if_neg q, if_neg q]
    refine ⟨_, rfl, ?_, ?_, (SFr.st (by decide)).tr (SFr.st (by decide))⟩
    · rw [mI_ne (by omega), mI_self]; rfl
    · rw [mI_self, mI_ne (by omega), e]; exact Int32.add_zero _
theorem num_loop_f (h : mI μ b 20 ≠ 0) (x y : Int32) (n : Nat) : lpX5_readNumber_29 Λ b (n + 1) μ x y = some (x, μ) := by
  rw [lpX5_readNumber_29_s, sees_f _ _ h, Option.bind_some, if_pos rfl]
  by_cases c : (2 : Int32) ≤ y
  · rw [if_pos c]
  · rw [if_neg c]
theorem mdn_f (h : mI μ b 20 = 1) : ∃ v μ1, sX5_readNumber Λ μ b = some (v, μ1) ∧ mI μ1 b 20 = 1 ∧ mI μ1 b 16 = mI μ b 16 ∧ SFr μ μ1 b k16 := by
  unfold sX5_readNumber
  rw [sees_f _ _ (by rw [h]; decide), Option.bind_some, if_pos rfl, h, gd_t (by decide)]
  simp only [bnd]
  rw [show fuel = 4095 + 1 from rfl, num_loop_f (by rw [mI_self]; decide)]
  exact ⟨0, _, rfl, by rw [mI_self]; rfl, mI_ne (by omega), SFr.st (by decide)⟩
theorem mdn_no (T : TxtM Λ μ b tx) (h : mI μ b 20 = 0) (e : mI μ b 16 = nI i) (hi : i < 2 ^ 30) (hv : numV tx i = none) : ∃ v μ1, sX5_readNumber Λ μ b = some (v, μ1) ∧ mI μ1 b 20 = 1 ∧ mI μ1 b 16 = nI i ∧ SFr μ μ1 b k16 := by
  have hd : ¬ dgt (chT tx i) := fun q => by
    unfold numV at hv
    rw [if_pos q] at hv
    by_cases c : dgt (chT tx (i + 1))
    · rw [if_pos c] at hv; cases hv
    · rw [if_neg c] at hv; cases hv
  unfold sX5_readNumber
  rw [sees_d T h e hi, if_neg hd, Option.bind_some, if_pos rfl, h, gd_t (by decide)]
  simp only [bnd]
  rw [show fuel = 4095 + 1 from rfl, num_loop_f (by rw [mI_self]; decide)]
  exact ⟨0, _, rfl, by rw [mI_self]; rfl, (mI_ne (by omega)).trans e, SFr.st (by decide)⟩
theorem mdn_yes (T : TxtM Λ μ b tx) (h : mI μ b 20 = 0) (e : mI μ b 16 = nI i) (hi : i < 70) {v : Int32} {j : Nat} (hv : numV tx i = some (v, j)) : ∃ μ1, sX5_readNumber Λ μ b = some (v, μ1) ∧ mI μ1 b 20 = 0 ∧ mI μ1 b 16 = nI j ∧ SFr μ μ1 b k16 := by
  have hd : dgt (chT tx i) := by
    apply Classical.byContradiction
    intro q
    unfold numV at hv
    rw [if_neg q] at hv
    cases hv
  have hil : ∀ {m : Nat}, dgt (chT tx m) → m < tx.length := fun {m} q => by
    apply Classical.byContradiction
    intro z
    have : chT tx m = -1 := by
      unfold chT
      rw [List.getD_eq_getElem?_getD, List.getElem?_eq_none (by omega)]; rfl
    rw [this] at q
    exact absurd q (by decide)
  have hch : ∀ {m : Nat} (q : m < tx.length), chT tx m = tx[m] := fun {m} q => by
    unfold chT
    rw [List.getD_eq_getElem?_getD, List.getElem?_eq_getElem q]; rfl
  have hl := T.2.1
  have z1 : ¬ (1 : Int32) = 0 := by decide
  unfold numV at hv
  rw [if_pos hd] at hv
  unfold sX5_readNumber
  have q0 := sees_eq (lo := 48) (hi' := 57) T h e (by omega) (by decide)
  rw [show (if (48 : Int32).toInt ≤ (chT tx i).toInt ∧ (chT tx i).toInt ≤ (57 : Int32).toInt then (1 : Int32) else 0) = 1 from if_pos hd] at q0
  rw [q0, Option.bind_some, if_neg z1, h, gd_t (by decide)]
  simp only [bnd]
  have F1 : SFr μ (stI μ b 20 (0 ||| 0)) b k16 := SFr.st (by decide)
  have T1 := T.fr F1
  have h1 : mI (stI μ b 20 (0 ||| 0)) b 20 = 0 := by rw [mI_self]; rfl
  have e1 : mI (stI μ b 20 (0 ||| 0)) b 16 = nI i := (mI_ne (by omega)).trans e
  have q1 := sees_eq (lo := 48) (hi' := 57) T1 h1 e1 (by omega) (by decide)
  rw [show (if (48 : Int32).toInt ≤ (chT tx i).toInt ∧ (chT tx i).toInt ≤ (57 : Int32).toInt then (1 : Int32) else 0) = 1 from if_pos hd] at q1
  rw [show fuel = 4095 + 1 from rfl, lpX5_readNumber_29_s, if_neg (by decide), q1, Option.bind_some, if_neg z1, e1, T.2.2.1, gd_t (nI_in (by omega) (by omega)), nI_clamp (by omega), T1.2.2.2 i (hil hd), ← hch (hil hd), nI_1]
  simp only [bnd]
  have F2 : SFr μ (stI (stI μ b 20 (0 ||| 0)) b 16 (nI (i + 1))) b k16 := F1.tr (SFr.st (by decide))
  have T2 := T.fr F2
  have h2 : mI (stI (stI μ b 20 (0 ||| 0)) b 16 (nI (i + 1))) b 20 = 0 := (mI_ne (by omega)).trans h1
  have e2 : mI (stI (stI μ b 20 (0 ||| 0)) b 16 (nI (i + 1))) b 16 = nI (i + 1) := mI_self
  have q2 := sees_eq (lo := 48) (hi' := 57) T2 h2 e2 (by omega) (by decide)
  have ev : (10 : Int32) * 0 + chT tx i - 48 = chT tx i - 48 := by simp
  rw [show (4095 : Nat) = 4094 + 1 from rfl, lpX5_readNumber_29_s, if_neg (by decide), q2, Option.bind_some, ev]
  by_cases c : dgt (chT tx (i + 1))
  · rw [if_pos c] at hv
    have hj := Prod.mk.inj (Option.some.inj hv)
    rw [show (if (48 : Int32).toInt ≤ (chT tx (i + 1)).toInt ∧ (chT tx (i + 1)).toInt ≤ (57 : Int32).toInt then (1 : Int32) else 0) = 1 from if_pos c, if_neg z1, e2, T.2.2.1, gd_t (nI_in (by have := hil c; omega) (by omega)), nI_clamp (by omega), T2.2.2.2 (i + 1) (hil c), ← hch (hil c), nI_1]
    simp only [bnd]
    rw [show (4094 : Nat) = 4093 + 1 from rfl, lpX5_readNumber_29_s, if_pos (by decide), hj.1]
    exact ⟨_, rfl, (mI_ne (by omega)).trans h2, by rw [mI_self, ← hj.2], F2.tr (SFr.st (by decide))⟩
  · rw [if_neg c] at hv
    have hj := Prod.mk.inj (Option.some.inj hv)
    rw [show (if (48 : Int32).toInt ≤ (chT tx (i + 1)).toInt ∧ (chT tx (i + 1)).toInt ≤ (57 : Int32).toInt then (1 : Int32) else 0) = 0 from if_neg c, if_pos rfl, hj.1]
    exact ⟨_, rfl, h2, by rw [mI_self, ← hj.2], F2⟩
end RF
