/-! READING: the class alone. -/
/-! READING: numbers and signs. -/
def chT (tx : List Int32) (i : Nat) : Int32 := tx.getD i (-1)
abbrev dgt (c : Int32) : Prop := 48 ≤ c.toInt ∧ c.toInt ≤ 57
def numV (tx : List Int32) (i : Nat) : Option (Int32 × Nat) :=
  if dgt (chT tx i) then (if dgt (chT tx (i + 1)) then some (((10 : Int32) * (chT tx i - 48) + chT tx (i + 1)) - 48, i + 2) else some (chT tx i - 48, i + 1)) else none
/-- only the places k of K in the object s changed -/
def SFr (μ μ1 : Mem) (s : Nat) (K : Nat → Prop) : Prop := (∀ z k, ¬ (z = s ∧ K k) → mI μ1 z k = mI μ z k) ∧ μ1.2 = μ.2
section RE
variable {Λ : Lay} {μ μ1 μ2 : Mem} {s T i : Nat} {tx : List Int32} {K : Nat → Prop}
theorem SFr.rf : SFr μ μ s K := ⟨fun _ _ _ => rfl, rfl⟩
theorem SFr.st {k : Nat} (hk : K k) {v : Int32} : SFr μ (stI μ s k v) s K := ⟨fun z j h => mI_ne (fun q => h ⟨q.1, q.2 ▸ hk⟩), rfl⟩
theorem SFr.tr (h1 : SFr μ μ1 s K) (h2 : SFr μ1 μ2 s K) : SFr μ μ2 s K := ⟨fun z k h => (h2.1 z k h).trans (h1.1 z k h), h2.2.trans h1.2⟩
theorem SFr.arr (h : SFr μ μ1 s K) (z : Nat) : mA μ1 z = mA μ z := by
  funext j
  unfold mA
  rw [h.2]
theorem SFr.row (h : SFr μ μ1 s K) {g : Nat} {l : List Int32} (hg : g ≠ s) (H : RowIs Λ μ g l) : RowIs Λ μ1 g l := by
  refine ⟨by rw [h.1 g 1 (fun q => hg q.1)]; exact H.1, H.2.1, H.2.2.1, fun j hj => ?_⟩
  rw [h.arr]
  exact H.2.2.2 j hj
theorem get_ch (H : RowIs Λ μ T tx) (hi : i < 2 ^ 31) : sX2_get Λ μ T (nI i) = some (chT tx i) := by
  unfold chT
  by_cases c : i < tx.length
  · rw [row_get H c, List.getD_eq_getElem?_getD, List.getElem?_eq_getElem c]
    rfl
  · rw [row_out H (Or.inr (by rw [nI_toInt hi]; omega)), List.getD_eq_getElem?_getD, List.getElem?_eq_none (by omega)]
    rfl
theorem isDigit_eq (c : Int32) : sX3_isDigit Λ μ c = some (if dgt c then 1 else 0) := by
  unfold sX3_isDigit
  have e48 : (48 : Int32).toInt = 48 := rfl
  have e57 : (57 : Int32).toInt = 57 := rfl
  by_cases h1 : c < 48
  · rw [if_pos h1, if_neg]
    rw [Int32.lt_iff_toInt_lt, e48] at h1
    exact fun q => by have := q.1; omega
  · rw [if_neg h1]
    rw [Int32.lt_iff_toInt_lt, e48] at h1
    by_cases h2 : (57 : Int32) < c
    · rw [if_pos h2, if_neg]
      rw [Int32.lt_iff_toInt_lt, e57] at h2
      exact fun q => by have := q.2; omega
    · rw [if_neg h2, if_pos]
      rw [Int32.lt_iff_toInt_lt, e57] at h2
      exact ⟨by omega, by omega⟩
abbrev k34 : Nat → Prop := fun k => k = 3 ∨ k = 4
theorem fr_no (H : RowIs Λ μ T tx) (e3 : mI μ s 3 = nI i) (hi : i < 2 ^ 30) (h : numV tx i = none) : sX3_takeNumber Λ μ s T = some (0, μ) := by
  unfold sX3_takeNumber
  have hd : ¬ dgt (chT tx i) := fun q => by
    unfold numV at h
    rw [if_pos q] at h
    by_cases c : dgt (chT tx (i + 1))
    · rw [if_pos c] at h; cases h
    · rw [if_neg c] at h; cases h
  rw [e3, get_ch H (by omega), Option.bind_some, isDigit_eq, if_neg hd, Option.bind_some, if_pos rfl]
theorem fr_yes (hT : T ≠ s) (H : RowIs Λ μ T tx) (e3 : mI μ s 3 = nI i) (hi : i < 2 ^ 30) {v : Int32} {j : Nat} (h : numV tx i = some (v, j)) : ∃ μ1, sX3_takeNumber Λ μ s T = some (1, μ1) ∧ mI μ1 s 3 = nI j ∧ mI μ1 s 4 = v ∧ SFr μ μ1 s k34 ∧ i < j ∧ j ≤ i + 2 := by
  unfold sX3_takeNumber
  have hd : dgt (chT tx i) := by
    apply Classical.byContradiction
    intro q
    unfold numV at h
    rw [if_neg q] at h
    cases h
  unfold numV at h
  rw [if_pos hd] at h
  have z1 : ¬ (1 : Int32) = 0 := by decide
  have F2 : SFr μ (stI (stI μ s 4 (chT tx i - 48)) s 3 (nI (i + 1))) s k34 := (SFr.st (Or.inr rfl)).tr (SFr.st (Or.inl rfl))
  have H2 := F2.row hT H
  simp only [bnd]
  rw [e3, get_ch H (by omega), Option.bind_some, isDigit_eq, if_pos hd, Option.bind_some, if_neg z1, Option.bind_some, mI_ne (by omega), e3, nI_1, mI_self, get_ch H2 (by omega), Option.bind_some, isDigit_eq, Option.bind_some]
  by_cases c : dgt (chT tx (i + 1))
  · rw [if_pos c] at h
    have hj := Option.some.inj h
    rw [if_pos c, if_neg z1, Option.bind_some, mI_ne (by omega), mI_self, mI_ne (by omega), mI_self, nI_1]
    refine ⟨_, rfl, ?_, ?_, F2.tr ((SFr.st (Or.inr rfl)).tr (SFr.st (Or.inl rfl))), ?_, ?_⟩
    · rw [mI_self, ← (Prod.mk.inj hj).2]
    · rw [mI_ne (by omega), mI_self]; exact (Prod.mk.inj hj).1
    · have := (Prod.mk.inj hj).2; omega
    · have := (Prod.mk.inj hj).2; omega
  · rw [if_neg c] at h
    have hj := Option.some.inj h
    rw [if_neg c, if_pos rfl]
    refine ⟨_, rfl, ?_, ?_, F2, ?_, ?_⟩
    · rw [mI_self, ← (Prod.mk.inj hj).2]
    · rw [mI_ne (by omega), mI_self]; exact (Prod.mk.inj hj).1
    · have := (Prod.mk.inj hj).2; omega
    · have := (Prod.mk.inj hj).2; omega
end RE
/-! READING: what one command of a text is; the class's three rows. -/
abbrev isK (k : Int32) : Prop := k = 98 ∨ k = 119 ∨ k = 106 ∨ k = 99 ∨ k = 116 ∨ k = 117
abbrev fitK (k s : Int32) : Prop := if k = 117 then s = 43 ∨ s = 45 else if k = 119 then s = 61 else s = 126
/-- a command: its kind, first, second number and the place behind it; or the place of the fault -/
def cmdF (tx : List Int32) (i : Nat) : (Int32 × Int32 × Int32 × Nat) ⊕ Nat :=
  if isK (chT tx i) then
    match numV tx (i + 1) with
    | none => .inr (i + 1)
    | some (v, j) => if chT tx i = 98 ∨ chT tx i = 116 then .inl (chT tx i, v, 0, j) else
        if fitK (chT tx i) (chT tx j) then
          match numV tx (j + 1) with
          | none => .inr (j + 1)
          | some (u, m) => .inl (chT tx i, v, if chT tx j = 45 then -u else u, m)
        else .inr j
  else .inr i
def scS (Λ : Lay) (a : Nat) (z : Nat) : Prop := ∃ k, 2 ≤ k ∧ k < 5 ∧ z = frW Λ a k
def scT (Λ : Lay) (a : Nat) (z k : Nat) : Prop := z = lyR Λ a 5 ∧ (k = 3 ∨ k = 4)
abbrev SCh (Λ : Lay) (μ μ1 : Mem) (a : Nat) : Prop := Chg Λ μ μ1 (scS Λ a) (scT Λ a)
section RG
variable {Λ : Lay} {μ μ1 : Mem} {a : Nat} {A B C : List Int32}
theorem isKind_eq (k : Int32) : sX3_isKind Λ μ k = some (if isK k then 1 else 0) := by
  unfold sX3_isKind
  by_cases h1 : k = 98
  · rw [if_pos h1, if_pos (Or.inl h1)]
  rw [if_neg h1]
  by_cases h2 : k = 119
  · rw [if_pos h2, if_pos (Or.inr (Or.inl h2))]
  rw [if_neg h2]
  by_cases h3 : k = 106
  · rw [if_pos h3, if_pos (Or.inr (Or.inr (Or.inl h3)))]
  rw [if_neg h3]
  by_cases h4 : k = 99
  · rw [if_pos h4, if_pos (Or.inr (Or.inr (Or.inr (Or.inl h4))))]
  rw [if_neg h4]
  by_cases h5 : k = 116
  · rw [if_pos h5, if_pos (Or.inr (Or.inr (Or.inr (Or.inr (Or.inl h5)))))]
  rw [if_neg h5]
  by_cases h6 : k = 117
  · rw [if_pos h6, if_pos (Or.inr (Or.inr (Or.inr (Or.inr (Or.inr h6)))))]
  rw [if_neg h6, if_neg]
  rintro (q | q | q | q | q | q)
  · exact h1 q
  · exact h2 q
  · exact h3 q
  · exact h4 q
  · exact h5 q
  · exact h6 q
theorem fits_eq (k s : Int32) : sX3_fits Λ μ k s = some (if fitK k s then 1 else 0) := by
  unfold sX3_fits fitK
  by_cases h1 : k = 117
  · simp only [if_pos h1]
    by_cases h2 : s = 43
    · rw [if_pos h2, if_pos (Or.inl h2)]
    · rw [if_neg h2]
      by_cases h3 : s = 45
      · rw [if_pos h3, if_pos (Or.inr h3)]
      · rw [if_neg h3, if_neg (fun q => q.elim h2 h3)]
  · simp only [if_neg h1]
    by_cases h2 : k = 119
    · simp only [if_pos h2]
      by_cases h3 : s = 61
      · rw [if_pos h3, if_pos h3]
      · rw [if_neg h3, if_neg h3]
    · simp only [if_neg h2]
      by_cases h3 : s = 126
      · rw [if_pos h3, if_pos h3]
      · rw [if_neg h3, if_neg h3]
theorem sch_w {k : Nat} (h1 : 2 ≤ k) (h2 : k < 5) (c : Chg Λ μ μ1 (fun z => z = frW Λ a k) noT) : SCh Λ μ μ1 a := c.wk (fun _ q => ⟨k, h1, h2, q⟩) (fun _ _ q => q.elim)
theorem add3 (P : FrApart Λ a) (hA : RowIs Λ μ (frW Λ a 2) A) (hB : RowIs Λ μ (frW Λ a 3) B) (hC : RowIs Λ μ (frW Λ a 4) C) (lA : A.length < 70) (lB : B.length < 70) (lC : C.length < 70) (k v u : Int32) : ∃ μ1, ((sX2_add Λ μ (lyR Λ (lyR Λ a 5) 0) k).bind (fun q9 => (sX2_add Λ q9 (lyR Λ (lyR Λ a 5) 1) v).bind (fun q10 => (sX2_add Λ q10 (lyR Λ (lyR Λ a 5) 2) u).bind (fun q11 => some ((1 : Int32), q11))))) = some (1, μ1) ∧ RowIs Λ μ1 (frW Λ a 2) (A ++ [k]) ∧ RowIs Λ μ1 (frW Λ a 3) (B ++ [v]) ∧ RowIs Λ μ1 (frW Λ a 4) (C ++ [u]) ∧ SCh Λ μ μ1 a := by
  have cap : ∀ j, 1 ≤ j → j < 5 → lyN Λ (lyR Λ (frW Λ a j) 0) = 70 := P.2.2.2.2.2.2.2.2.2.2.2
  obtain ⟨n1, a1, b1, c1⟩ := row_add hA (by rw [cap 2 (by omega) (by omega)]; exact lA) k
  have hB1 := w_other P (k := 2) (by omega) c1 (j := 3) (by omega) (by omega) hB
  have hC1 := w_other P (k := 2) (by omega) c1 (j := 4) (by omega) (by omega) hC
  obtain ⟨n2, a2, b2, c2⟩ := row_add hB1 (by rw [cap 3 (by omega) (by omega)]; exact lB) v
  have hA2 := w_other P (k := 3) (by omega) c2 (j := 2) (by omega) (by omega) b1
  have hC2 := w_other P (k := 3) (by omega) c2 (j := 4) (by omega) (by omega) hC1
  obtain ⟨n3, a3, b3, c3⟩ := row_add hC2 (by rw [cap 4 (by omega) (by omega)]; exact lC) u
  have hA3 := w_other P (k := 4) (by omega) c3 (j := 2) (by omega) (by omega) hA2
  have hB3 := w_other P (k := 4) (by omega) c3 (j := 3) (by omega) (by omega) b2
  have a1' : sX2_add Λ μ (lyR Λ (lyR Λ a 5) 0) k = some n1 := a1
  have a2' : sX2_add Λ n1 (lyR Λ (lyR Λ a 5) 1) v = some n2 := a2
  have a3' : sX2_add Λ n2 (lyR Λ (lyR Λ a 5) 2) u = some n3 := a3
  rw [a1', Option.bind_some, a2', Option.bind_some, a3', Option.bind_some]
  exact ⟨n3, rfl, hA3, hB3, b3, ((sch_w (by omega) (by omega) c1).tr (sch_w (by omega) (by omega) c2)).tr (sch_w (by omega) (by omega) c3)⟩
end RG
/-! READING: the class takes one command. -/
section RH
variable {Λ : Lay} {μ μ1 : Mem} {a i : Nat} {A B C tx : List Int32}
def R3 (Λ : Lay) (μ : Mem) (a : Nat) (A B C tx : List Int32) : Prop := RowIs Λ μ (frW Λ a 2) A ∧ RowIs Λ μ (frW Λ a 3) B ∧ RowIs Λ μ (frW Λ a 4) C ∧ RowIs Λ μ (frW Λ a 1) tx
theorem sfr_sch (h : SFr μ μ1 (lyR Λ a 5) k34) : SCh Λ μ μ1 a := ⟨fun z k _ h2 => h.1 z k h2, fun z _ => h.arr z⟩
theorem r3_sfr (P : FrApart Λ a) (F : SFr μ μ1 (lyR Λ a 5) k34) (H : R3 Λ μ a A B C tx) : R3 Λ μ1 a A B C tx :=
  ⟨F.row (P.2.2.2.2.2.1 2 (by omega)).2.2 H.1, F.row (P.2.2.2.2.2.1 3 (by omega)).2.2 H.2.1, F.row (P.2.2.2.2.2.1 4 (by omega)).2.2 H.2.2.1, F.row (P.2.2.2.2.2.1 1 (by omega)).2.2 H.2.2.2⟩
theorem add3R (P : FrApart Λ a) (H : R3 Λ μ a A B C tx) (lA : A.length < 70) (lB : B.length < 70) (lC : C.length < 70) (k v u : Int32) : ∃ μ1, ((sX2_add Λ μ (lyR Λ (lyR Λ a 5) 0) k).bind (fun q9 => (sX2_add Λ q9 (lyR Λ (lyR Λ a 5) 1) v).bind (fun q10 => (sX2_add Λ q10 (lyR Λ (lyR Λ a 5) 2) u).bind (fun q11 => some ((1 : Int32), q11))))) = some (1, μ1) ∧ R3 Λ μ1 a (A ++ [k]) (B ++ [v]) (C ++ [u]) tx ∧ SCh Λ μ μ1 a ∧ mI μ1 (lyR Λ a 5) 3 = mI μ (lyR Λ a 5) 3 := by
  obtain ⟨μ1, q1, q2, q3, q4, q5⟩ := add3 P H.1 H.2.1 H.2.2.1 lA lB lC k v u
  have hT : RowIs Λ μ1 (frW Λ a 1) tx := q5.row H.2.2.2 (fun ⟨j, h1, h2, e⟩ => (P.2.2.2.2.1 1 j (by omega) h2 (by omega)).1 e) (fun g ⟨j, h1, h2, e⟩ => by rw [e]; exact (P.2.2.2.2.1 1 j (by omega) h2 (by omega)).2) (fun q => (P.2.2.2.2.2.1 1 (by omega)).2.2 q.1)
  have h3 : mI μ1 (lyR Λ a 5) 3 = mI μ (lyR Λ a 5) 3 := by
    -- the rows' own numbers alone changed
    have cap : ∀ j, 1 ≤ j → j < 5 → lyN Λ (lyR Λ (frW Λ a j) 0) = 70 := P.2.2.2.2.2.2.2.2.2.2.2
    obtain ⟨n1, a1, b1, c1⟩ := row_add H.1 (by rw [cap 2 (by omega) (by omega)]; exact lA) k
    have hB1 := w_other P (k := 2) (by omega) c1 (j := 3) (by omega) (by omega) H.2.1
    have hC1 := w_other P (k := 2) (by omega) c1 (j := 4) (by omega) (by omega) H.2.2.1
    obtain ⟨n2, a2, b2, c2⟩ := row_add hB1 (by rw [cap 3 (by omega) (by omega)]; exact lB) v
    have hC2 := w_other P (k := 3) (by omega) c2 (j := 4) (by omega) (by omega) hC1
    obtain ⟨n3, a3, b3, c3⟩ := row_add hC2 (by rw [cap 4 (by omega) (by omega)]; exact lC) u
    have a1' : sX2_add Λ μ (lyR Λ (lyR Λ a 5) 0) k = some n1 := a1
    have a2' : sX2_add Λ n1 (lyR Λ (lyR Λ a 5) 1) v = some n2 := a2
    have a3' : sX2_add Λ n2 (lyR Λ (lyR Λ a 5) 2) u = some n3 := a3
    rw [a1', Option.bind_some, a2', Option.bind_some, a3', Option.bind_some] at q1
    have e : n3 = μ1 := (Prod.mk.inj (Option.some.inj q1)).2
    rw [← e, w_int P (k := 4) (by omega) c3 (Or.inr (Or.inr rfl)), w_int P (k := 3) (by omega) c2 (Or.inr (Or.inr rfl)), w_int P (k := 2) (by omega) c1 (Or.inr (Or.inr rfl))]
  exact ⟨μ1, q1, ⟨q2, q3, q4, hT⟩, q5, h3⟩
end RH
/-! READING: the class takes one command, whole. -/
section RI
variable {Λ : Lay} {μ : Mem} {a i : Nat} {A B C tx : List Int32}
theorem fr_cmd (P : FrApart Λ a) (H : R3 Λ μ a A B C tx) (lA : A.length < 70) (lB : B.length < 70) (lC : C.length < 70) (e3 : mI μ (lyR Λ a 5) 3 = nI i) (hi : i < 2 ^ 20) : (∀ f, cmdF tx i = .inr f → ∃ μ1, sX3_takeCommand Λ μ (lyR Λ a 5) (lyR Λ a 4) = some (0, μ1) ∧ mI μ1 (lyR Λ a 5) 3 = nI f ∧ R3 Λ μ1 a A B C tx ∧ SCh Λ μ μ1 a) ∧ (∀ k v u m, cmdF tx i = .inl (k, v, u, m) → i < m ∧ m ≤ i + 6 ∧ ∃ μ1, sX3_takeCommand Λ μ (lyR Λ a 5) (lyR Λ a 4) = some (1, μ1) ∧ mI μ1 (lyR Λ a 5) 3 = nI m ∧ R3 Λ μ1 a (A ++ [k]) (B ++ [v]) (C ++ [u]) tx ∧ SCh Λ μ μ1 a) := by
  have hT : lyR Λ a 4 ≠ lyR Λ a 5 := (P.2.2.2.2.2.1 1 (by omega)).2.2
  have g0 : sX2_get Λ μ (lyR Λ a 4) (nI i) = some (chT tx i) := get_ch H.2.2.2 (by omega)
  have z1 : ¬ (1 : Int32) = 0 := by decide
  unfold sX3_takeCommand cmdF
  rw [e3, g0, Option.bind_some, isKind_eq, Option.bind_some]
  by_cases c1 : isK (chT tx i)
  · rw [if_pos c1, if_pos c1, if_neg z1]
    simp only [bnd]
    rw [nI_1]
    have F1 : SFr μ (stI μ (lyR Λ a 5) 3 (nI (i + 1))) (lyR Λ a 5) k34 := SFr.st (Or.inl rfl)
    have H1 := r3_sfr P F1 H
    have s1 : mI (stI μ (lyR Λ a 5) 3 (nI (i + 1))) (lyR Λ a 5) 3 = nI (i + 1) := mI_self
    match hv : numV tx (i + 1) with
    | none =>
      have q := fr_no (s := lyR Λ a 5) (T := lyR Λ a 4) H1.2.2.2 s1 (by omega) hv
      rw [q, Option.bind_some]
      dsimp only
      rw [if_pos rfl]
      refine ⟨fun f hf => ?_, fun k v u m hf => by cases hf⟩
      have : i + 1 = f := Sum.inr.inj hf
      subst this
      exact ⟨_, rfl, s1, H1, sfr_sch F1⟩
    | some (v, j) =>
      obtain ⟨μ2, q1, q2, q3, q4, q5, q6⟩ := fr_yes (s := lyR Λ a 5) (T := lyR Λ a 4) hT H1.2.2.2 s1 (by omega) hv
      have F2 := F1.tr q4
      have H2 := r3_sfr P F2 H
      rw [q1, Option.bind_some]
      dsimp only
      rw [if_neg z1, q3]
      by_cases cb : chT tx i = 98 ∨ chT tx i = 116
      · obtain ⟨μ3, a1, a2, a3, a4⟩ := add3R P H2 lA lB lC (chT tx i) v 0
        rw [if_pos cb]
        refine ⟨(fun f hf => by cases hf), fun k v' u m hf => ?_⟩
        have hf' := Sum.inl.inj hf
        simp only [Prod.mk.injEq] at hf'
        obtain ⟨rfl, rfl, rfl, rfl⟩ := hf'
        refine ⟨by omega, by omega, μ3, ?_, a4.trans q2, a2, (sfr_sch F2).tr a3⟩
        rcases cb with e | e
        · rw [if_pos e]; exact a1
        · rw [if_neg (by rw [e]; decide), if_pos e]; exact a1
      · rw [if_neg cb, if_neg (fun q => cb (Or.inl q)), if_neg (fun q => cb (Or.inr q)), q2]
        have g2 : sX2_get Λ μ2 (lyR Λ a 4) (nI j) = some (chT tx j) := get_ch H2.2.2.2 (by omega)
        rw [g2, Option.bind_some, fits_eq, Option.bind_some]
        by_cases cf : fitK (chT tx i) (chT tx j)
        · rw [if_pos cf, if_pos cf, if_neg z1, nI_1]
          have F3 : SFr μ (stI μ2 (lyR Λ a 5) 3 (nI (j + 1))) (lyR Λ a 5) k34 := F2.tr (SFr.st (Or.inl rfl))
          have H3 := r3_sfr P F3 H
          have s3 : mI (stI μ2 (lyR Λ a 5) 3 (nI (j + 1))) (lyR Λ a 5) 3 = nI (j + 1) := mI_self
          match hw : numV tx (j + 1) with
          | none =>
            have q := fr_no (s := lyR Λ a 5) (T := lyR Λ a 4) H3.2.2.2 s3 (by omega) hw
            rw [q, Option.bind_some]
            dsimp only
            rw [if_pos rfl]
            refine ⟨fun f hf => ?_, fun k v u m hf => by cases hf⟩
            have : j + 1 = f := Sum.inr.inj hf
            subst this
            exact ⟨_, rfl, s3, H3, sfr_sch F3⟩
          | some (u, m) =>
            obtain ⟨μ4, r1, r2, r3, r4, r5, r6⟩ := fr_yes (s := lyR Λ a 5) (T := lyR Λ a 4) hT H3.2.2.2 s3 (by omega) hw
            have F4 := F3.tr r4
            have H4 := r3_sfr P F4 H
            rw [r1, Option.bind_some]
            dsimp only
            rw [if_neg z1, r3]
            refine ⟨(fun f hf => by cases hf), fun k v' u' m' hf => ?_⟩
            have hf' := Sum.inl.inj hf
            simp only [Prod.mk.injEq] at hf'
            obtain ⟨rfl, rfl, hu, rfl⟩ := hf'
            obtain ⟨μ5, a1, a2, a3, a4⟩ := add3R P H4 lA lB lC (chT tx i) v u'
            refine ⟨by omega, by omega, μ5, ?_, a4.trans r2, a2, (sfr_sch F4).tr a3⟩
            by_cases cm : chT tx j = 45
            · rw [if_pos cm] at hu ⊢
              rw [hu]; exact a1
            · rw [if_neg cm] at hu ⊢
              rw [hu]; exact a1
        · rw [if_neg cf, if_neg cf, if_pos rfl]
          refine ⟨fun f hf => ?_, fun k v u m hf => by cases hf⟩
          have : j = f := Sum.inr.inj hf
          subst this
          exact ⟨_, rfl, q2, H2, sfr_sch F2⟩
  · rw [if_neg c1, if_neg c1, if_pos rfl]
    refine ⟨fun f hf => ?_, fun k v u m hf => by cases hf⟩
    have : i = f := Sum.inr.inj hf
    subst this
    exact ⟨_, rfl, e3, H, Chg.rf⟩
end RI
section RP
variable {tx : List Int32} {i j : Nat}
theorem num_le {i j : Nat} {v : Int32} (h : numV tx i = some (v, j)) : i < j ∧ j ≤ i + 2 ∧ j ≤ tx.length := by
  have hin : ∀ {m : Nat}, dgt (chT tx m) → m < tx.length := fun {m} q => by
    apply Classical.byContradiction
    intro z
    have : chT tx m = -1 := by
      unfold chT
      rw [List.getD_eq_getElem?_getD, List.getElem?_eq_none (by omega)]; rfl
    rw [this] at q
    exact absurd q (by decide)
  unfold numV at h
  by_cases c1 : dgt (chT tx i)
  · rw [if_pos c1] at h
    have := hin c1
    by_cases c2 : dgt (chT tx (i + 1))
    · rw [if_pos c2] at h
      have := hin c2
      have := (Prod.mk.inj (Option.some.inj h)).2
      omega
    · rw [if_neg c2] at h
      have := (Prod.mk.inj (Option.some.inj h)).2
      omega
  · rw [if_neg c1] at h
    cases h
end RP
/-! READING: what a text is: its commands, or the place of its fault. -/
abbrev Cmd := Int32 × Int32 × Int32
def parseF (tx : List Int32) : Nat → Nat → (List Cmd) ⊕ Nat
  | 0, i => .inr i
  | n + 1, i => match cmdF tx i with
    | .inr f => .inr f
    | .inl (k, v, u, m) => if m = tx.length then .inl [(k, v, u)] else if chT tx m = 59 then (match parseF tx n (m + 1) with | .inr f => .inr f | .inl cs => .inl ((k, v, u) :: cs)) else .inr m
section RQ
variable {Λ : Lay} {a b n i f : Nat} {tx : List Int32}
theorem parse_inr (h : parseF tx (n + 1) i = .inr f) : cmdF tx i = .inr f ∨ ∃ k v u m, cmdF tx i = .inl (k, v, u, m) ∧ m ≠ tx.length ∧ ((chT tx m ≠ 59 ∧ f = m) ∨ (chT tx m = 59 ∧ parseF tx n (m + 1) = .inr f)) := by
  unfold parseF at h
  match hc : cmdF tx i with
  | .inr g =>
    rw [hc] at h
    dsimp only at h
    exact Or.inl (congrArg Sum.inr (Sum.inr.inj h))
  | .inl (k, v, u, m) =>
    rw [hc] at h
    dsimp only at h
    refine Or.inr ⟨k, v, u, m, rfl, ?_⟩
    by_cases c1 : m = tx.length
    · rw [if_pos c1] at h; cases h
    · rw [if_neg c1] at h
      refine ⟨c1, ?_⟩
      by_cases c2 : chT tx m = 59
      · rw [if_pos c2] at h
        refine Or.inr ⟨c2, ?_⟩
        match hp : parseF tx n (m + 1) with
        | .inr g => rw [hp] at h; dsimp only at h; exact h
        | .inl cs => rw [hp] at h; dsimp only at h; cases h
      · rw [if_neg c2] at h
        exact Or.inl ⟨c2, (Sum.inr.inj h).symm⟩
theorem parse_inl {cs : List Cmd} (h : parseF tx (n + 1) i = .inl cs) : ∃ k v u m cs', cmdF tx i = .inl (k, v, u, m) ∧ cs = (k, v, u) :: cs' ∧ ((m = tx.length ∧ cs' = []) ∨ (m ≠ tx.length ∧ chT tx m = 59 ∧ parseF tx n (m + 1) = .inl cs')) := by
  unfold parseF at h
  match hc : cmdF tx i with
  | .inr g =>
    rw [hc] at h
    dsimp only at h
    cases h
  | .inl (k, v, u, m) =>
    rw [hc] at h
    dsimp only at h
    by_cases c1 : m = tx.length
    · rw [if_pos c1] at h
      exact ⟨k, v, u, m, [], rfl, (Sum.inl.inj h).symm, Or.inl ⟨c1, rfl⟩⟩
    · rw [if_neg c1] at h
      by_cases c2 : chT tx m = 59
      · rw [if_pos c2] at h
        match hp : parseF tx n (m + 1) with
        | .inr g => rw [hp] at h; dsimp only at h; cases h
        | .inl cs' =>
          rw [hp] at h
          dsimp only at h
          exact ⟨k, v, u, m, cs', rfl, (Sum.inl.inj h).symm, Or.inr ⟨c1, c2, hp⟩⟩
      · rw [if_neg c2] at h; cases h
theorem cmdF_le (h : cmdF tx i = .inr f) : f ≤ i + 5 := by
  unfold cmdF at h
  by_cases c1 : isK (chT tx i)
  · rw [if_pos c1] at h
    match hv : numV tx (i + 1) with
    | none =>
      rw [hv] at h
      dsimp only at h
      have : i + 1 = f := Sum.inr.inj h
      omega
    | some (v, j) =>
      have := num_le hv
      rw [hv] at h
      dsimp only at h
      by_cases cb : chT tx i = 98 ∨ chT tx i = 116
      · rw [if_pos cb] at h; cases h
      · rw [if_neg cb] at h
        by_cases cf : fitK (chT tx i) (chT tx j)
        · rw [if_pos cf] at h
          match hw : numV tx (j + 1) with
          | none =>
            rw [hw] at h
            dsimp only at h
            have : j + 1 = f := Sum.inr.inj h
            omega
          | some (u, m) => rw [hw] at h; dsimp only at h; cases h
        · rw [if_neg cf] at h
          have : j = f := Sum.inr.inj h
          omega
  · rw [if_neg c1] at h
    have : i = f := Sum.inr.inj h
    omega
theorem cmdF_out (h : tx.length ≤ i) : cmdF tx i = .inr i := by
  have : chT tx i = -1 := by
    unfold chT
    rw [List.getD_eq_getElem?_getD, List.getElem?_eq_none (by omega)]; rfl
  unfold cmdF
  rw [this, if_neg (by decide)]
theorem cmdF_kn {k v u : Int32} {m : Nat} (h : cmdF tx i = .inl (k, v, u, m)) : m ≤ tx.length := by
  unfold cmdF at h
  by_cases c1 : isK (chT tx i)
  · rw [if_pos c1] at h
    match hv : numV tx (i + 1) with
    | none => rw [hv] at h; dsimp only at h; cases h
    | some (v, j) =>
      have := num_le hv
      rw [hv] at h
      dsimp only at h
      by_cases cb : chT tx i = 98 ∨ chT tx i = 116
      · rw [if_pos cb] at h
        have := Sum.inl.inj h
        simp only [Prod.mk.injEq] at this
        omega
      · rw [if_neg cb] at h
        by_cases cf : fitK (chT tx i) (chT tx j)
        · rw [if_pos cf] at h
          match hw : numV tx (j + 1) with
          | none => rw [hw] at h; dsimp only at h; cases h
          | some (u, m) =>
            have := num_le hw
            rw [hw] at h
            dsimp only at h
            have := Sum.inl.inj h
            simp only [Prod.mk.injEq] at this
            omega
        · rw [if_neg cf] at h; cases h
  · rw [if_neg c1] at h; cases h
theorem cmdF_gt {k v u : Int32} {m : Nat} (h : cmdF tx i = .inl (k, v, u, m)) : i < m := by
  unfold cmdF at h
  by_cases c1 : isK (chT tx i)
  · rw [if_pos c1] at h
    match hv : numV tx (i + 1) with
    | none => rw [hv] at h; dsimp only at h; cases h
    | some (v, j) =>
      have := num_le hv
      rw [hv] at h
      dsimp only at h
      by_cases cb : chT tx i = 98 ∨ chT tx i = 116
      · rw [if_pos cb] at h
        have := Sum.inl.inj h
        simp only [Prod.mk.injEq] at this
        omega
      · rw [if_neg cb] at h
        by_cases cf : fitK (chT tx i) (chT tx j)
        · rw [if_pos cf] at h
          match hw : numV tx (j + 1) with
          | none => rw [hw] at h; dsimp only at h; cases h
          | some (u, m) =>
            have := num_le hw
            rw [hw] at h
            dsimp only at h
            have := Sum.inl.inj h
            simp only [Prod.mk.injEq] at this
            omega
        · rw [if_neg cf] at h; cases h
  · rw [if_neg c1] at h; cases h
/-- the class takes all commands -/
theorem fr_parse (P : FrApart Λ a) (hl : tx.length ≤ 70) : ∀ n q fl i (μ : Mem) (A B C : List Int32), q + n = 70 → n < fl → i ≤ tx.length + 1 → R3 Λ μ a A B C tx → A.length = q → B.length = q → C.length = q → mI μ (lyR Λ a 5) 3 = nI i → (∀ f, parseF tx n i = .inr f → f < 2 ^ 20 ∧ ∃ μ1 A' B' C', lpX3_faultIn_37 Λ (lyR Λ a 5) (lyR Λ a 4) fl μ (nI q) = some (nI f, μ1) ∧ R3 Λ μ1 a A' B' C' tx ∧ SCh Λ μ μ1 a) ∧ (∀ cs, parseF tx n i = .inl cs → ∃ μ1, lpX3_faultIn_37 Λ (lyR Λ a 5) (lyR Λ a 4) fl μ (nI q) = some (-1, μ1) ∧ R3 Λ μ1 a (A ++ cs.map (fun c => c.1)) (B ++ cs.map (fun c => c.2.1)) (C ++ cs.map (fun c => c.2.2)) tx ∧ SCh Λ μ μ1 a) := by
  intro n
  induction n with
  | zero =>
    intro q fl i μ A B C hq hf hi H lA lB lC e3
    obtain ⟨fl', rfl⟩ : ∃ k, fl = k + 1 := ⟨fl - 1, by omega⟩
    refine ⟨fun f h => ?_, fun cs h => by cases h⟩
    have : i = f := Sum.inr.inj h
    subst this
    refine ⟨by omega, μ, A, B, C, ?_, H, Chg.rf⟩
    rw [lpX3_faultIn_37_s, if_pos (by rw [show q = 70 by omega]; decide), e3]
  | succ n ih =>
    intro q fl i μ A B C hq hf hi H lA lB lC e3
    obtain ⟨fl', rfl⟩ : ∃ k, fl = k + 1 := ⟨fl - 1, by omega⟩
    obtain ⟨c1, c2⟩ := fr_cmd P H (by omega) (by omega) (by omega) e3 (by omega)
    have z1 : ¬ (1 : Int32) = 0 := by decide
    rw [lpX3_faultIn_37_s, if_neg (by rw [show (70 : Int32) = nI 70 from rfl, nI_leI (by omega) (by omega)]; omega)]
    refine ⟨fun f h => ?_, fun cs h => ?_⟩
    · rcases parse_inr h with e | ⟨k, v, u, m, e, hm, hh⟩
      · obtain ⟨μ1, r1, r2, r3, r4⟩ := c1 f e
        have := cmdF_le e
        rw [r1, Option.bind_some, if_pos rfl]
        exact ⟨by omega, μ1, A, B, C, by rw [r2], r3, r4⟩
      · obtain ⟨h1, h2, μ1, r1, r2, r3, r4⟩ := c2 k v u m e
        have hml := cmdF_kn e
        have L : sX2_length Λ μ1 (lyR Λ a 4) = some (nI tx.length) := row_len r3.2.2.2
        have g : sX2_get Λ μ1 (lyR Λ a 4) (nI m) = some (chT tx m) := get_ch r3.2.2.2 (by omega)
        rw [r1, Option.bind_some]
        dsimp only
        rw [if_neg z1, L, Option.bind_some, r2, if_neg (by rw [nI_eq (by omega) (by omega)]; exact hm), g, Option.bind_some]
        rcases hh with ⟨d1, d2⟩ | ⟨d1, d2⟩
        · rw [if_neg d1, d2]
          exact ⟨by omega, μ1, _, _, _, rfl, r3, r4⟩
        · rw [if_pos d1]
          simp only [bnd]
          rw [nI_1, nI_1]
          have F : SFr μ1 (stI μ1 (lyR Λ a 5) 3 (nI (m + 1))) (lyR Λ a 5) k34 := SFr.st (Or.inl rfl)
          obtain ⟨i1, i2⟩ := ih (q + 1) fl' (m + 1) (stI μ1 (lyR Λ a 5) 3 (nI (m + 1))) (A ++ [k]) (B ++ [v]) (C ++ [u]) (by omega) (by omega) (by omega) (r3_sfr P F r3) (by simp; omega) (by simp; omega) (by simp; omega) mI_self
          obtain ⟨hb, μ2, A', B', C', s1, s2, s3⟩ := i1 f d2
          exact ⟨hb, μ2, A', B', C', s1, s2, (r4.tr (sfr_sch F)).tr s3⟩
    · obtain ⟨k, v, u, m, cs', e, ecs, hh⟩ := parse_inl h
      obtain ⟨h1, h2, μ1, r1, r2, r3, r4⟩ := c2 k v u m e
      have hml := cmdF_kn e
      have L : sX2_length Λ μ1 (lyR Λ a 4) = some (nI tx.length) := row_len r3.2.2.2
      have g : sX2_get Λ μ1 (lyR Λ a 4) (nI m) = some (chT tx m) := get_ch r3.2.2.2 (by omega)
      rw [r1, Option.bind_some]
      dsimp only
      rw [if_neg z1, L, Option.bind_some, r2]
      subst ecs
      rcases hh with ⟨d1, d2⟩ | ⟨d1, d2, d3⟩
      · rw [if_pos (by rw [d1])]
        subst d2
        exact ⟨μ1, rfl, r3, r4⟩
      · rw [if_neg (by rw [nI_eq (by omega) (by omega)]; exact d1), g, Option.bind_some, if_pos d2]
        simp only [bnd]
        rw [nI_1, nI_1]
        have F : SFr μ1 (stI μ1 (lyR Λ a 5) 3 (nI (m + 1))) (lyR Λ a 5) k34 := SFr.st (Or.inl rfl)
        obtain ⟨i1, i2⟩ := ih (q + 1) fl' (m + 1) (stI μ1 (lyR Λ a 5) 3 (nI (m + 1))) (A ++ [k]) (B ++ [v]) (C ++ [u]) (by omega) (by omega) (by omega) (r3_sfr P F r3) (by simp; omega) (by simp; omega) (by simp; omega) mI_self
        obtain ⟨μ2, s1, s2, s3⟩ := i2 cs' d3
        refine ⟨μ2, s1, ?_, (r4.tr (sfr_sch F)).tr s3⟩
        simp only [List.append_assoc, List.singleton_append] at s2
        exact s2
end RQ
def exC (Λ : Lay) (a : Nat) (μ : Mem) (x : Int32) : Option (Int32 × Mem) := bnd (stI μ a 10 (-4 : Int32)) (fun μ9 => (if (0 : Int32) ≤ x then ((sX4_settle Λ μ9 a x).bind (fun q11 => (some (q11.1, q11.2)))) else ((sX0_takeBack Λ μ9 (lyR Λ a 2) (lyR Λ a 0)).bind (fun q12 => ((sX4_settle Λ q12 a x).bind (fun q13 => (some (q13.1, q13.2))))))))
theorem lp49_e (Λ : Lay) (a n : Nat) (μ : Mem) (x y : Int32) : lpX4_read_49 Λ a (n + 1) μ x y = (sX3_commands Λ μ (lyR Λ a 5)).bind (fun q7 => if q7 ≤ y then exC Λ a μ x else if x < (0 : Int32) then exC Λ a μ x else (bnd (stI μ a 10 y) (fun μ20 => ((sX4_carryOut Λ μ20 a y).bind (fun q21 => (bnd q21.1 (fun v22 => (if (0 : Int32) ≤ v22 then (bnd (y + (1 : Int32)) (fun v24 => (lpX4_read_49 Λ a n q21.2 x v24))) else (if v22 = (-3 : Int32) then (bnd (y + (1 : Int32)) (fun v27 => (lpX4_read_49 Λ a n q21.2 (-3 : Int32) v27))) else (bnd (y + (1 : Int32)) (fun v26 => (lpX4_read_49 Λ a n q21.2 (-2 : Int32) v26)))))))))))) := rfl
section EX
variable {Λ : Lay} {μ μ1 : Mem} {a b p n : Nat} {x y : Int32} {U V : Pic} {h : List Pic} {sv : Option Pic} {r1 r2 r3 m3 : Int32} {ln tx : List Int32}
theorem exC_ok (P : FrApart Λ a) (C : CInv Λ μ a p x V h sv r1 r2 r3 ln tx) (ok : PicOK U) (N : RvV Λ μ (frR Λ a (2 + p)) U) (hn : n < 2 ^ 31) : ∃ μ1, exC Λ a μ (nI n) = some (nI n, μ1) ∧ CInv Λ μ1 a ((p + 1) % 9) (-4) V (push h U) sv r1 r2 r3 ln tx := by
  obtain ⟨C1, K1⟩ := cinv_set P C (k := 10) (by omega) (-4)
  obtain ⟨μ2, e2, C2⟩ := confirm_inv P C1 ok (K1.2.2 U N)
  refine ⟨μ2, ?_, C2⟩
  unfold exC sX4_settle
  simp only [bnd]
  rw [if_pos (nI_pos' hn), if_neg (nI_pos hn), e2]
  rfl
theorem exC_bad (P : FrApart Λ a) (C : CInv Λ μ a p x V h sv r1 r2 r3 ln tx) (ok : PicOK U) (N : RvV Λ μ (frR Λ a (2 + p)) U) {c : Int32} (hc : c = -3 ∨ c = -2) : ∃ μ1, exC Λ a μ c = some (c, μ1) ∧ CInv Λ μ1 a p (-4) U h sv r1 r2 r3 ln tx := by
  obtain ⟨C1, K1⟩ := cinv_set P C (k := 10) (by omega) (-4)
  have hp := C1.2.2.2.1.1
  obtain ⟨μ2, e2, q1, q2⟩ := take_back P C1.2.2.1 hp C1.2.2.2.1.2.1 ok (K1.2.2 U N)
  obtain ⟨C2, -⟩ := cinv_riv P C1 ok q1 q2
  refine ⟨μ2, ?_, C2⟩
  unfold exC sX4_settle
  simp only [bnd]
  have c1 : ¬ (0 : Int32) ≤ c := by rcases hc with q | q <;> rw [q] <;> decide
  have c2 : c < 0 := by rcases hc with q | q <;> rw [q] <;> decide
  rw [if_neg c1, e2, Option.bind_some, if_pos c2]
  rfl
end EX
theorem bind_eta {f : Option (Int32 × Mem)} : f.bind (fun q => some (q.1, q.2)) = f := by
  cases f <;> rfl
section RL
variable {Λ : Lay} {a : Nat} {tx ln : List Int32} {cs : List Cmd} {U : Pic} {p : Nat} {sv : Option Pic}
theorem cmds_len {μ : Mem} (H : RowIs Λ μ (frW Λ a 2) (cs.map (fun c => c.1))) : sX3_commands Λ μ (lyR Λ a 5) = some (nI cs.length) := by
  have e := row_len H
  rw [List.length_map] at e
  have e' : sX2_length Λ μ (lyR Λ (lyR Λ a 5) 0) = some (nI cs.length) := e
  unfold sX3_commands
  rw [e']; rfl
def RC (Λ : Lay) (μ : Mem) (a p : Nat) (x : Int32) (V : Pic) (h : List Pic) (sv : Option Pic) (r1 r2 r3 : Int32) (ln : List Int32) (U : Pic) (cs : List Cmd) : Prop :=
  CInv Λ μ a p x V h sv r1 r2 r3 ln [] ∧ RvV Λ μ (frR Λ a (2 + p)) U ∧ RowIs Λ μ (frW Λ a 2) (cs.map (fun c => c.1)) ∧ RowIs Λ μ (frW Λ a 3) (cs.map (fun c => c.2.1)) ∧ RowIs Λ μ (frW Λ a 4) (cs.map (fun c => c.2.2))
theorem RC.keep {μ μ1 : Mem} {x y : Int32} {V V' : Pic} {h h' : List Pic} {r1 r2 r3 s1 s2 s3 : Int32} (R : RC Λ μ a p x V h sv r1 r2 r3 ln U cs) (C : CInv Λ μ1 a p y V' h' sv s1 s2 s3 ln []) (K : CKeep Λ μ μ1 a p) : RC Λ μ1 a p y V' h' sv s1 s2 s3 ln U cs :=
  ⟨C, K.2.2 U R.2.1, K.1 2 (by omega) _ R.2.2.1, K.1 3 (by omega) _ R.2.2.2.1, K.1 4 (by omega) _ R.2.2.2.2⟩
theorem rc_bad {μ : Mem} {x : Int32} {V : Pic} {h : List Pic} {r1 r2 r3 : Int32} (P : FrApart Λ a) (R : RC Λ μ a p x V h sv r1 r2 r3 ln U cs) (ok : PicOK U) {c : Int32} (hc : c = -3 ∨ c = -2) (n : Nat) (y : Int32) : ∃ μ1, lpX4_read_49 Λ a (n + 1) μ c y = some (c, μ1) ∧ CInv Λ μ1 a p (-4) U h sv r1 r2 r3 ln [] := by
  obtain ⟨μ1, e1, C1⟩ := exC_bad P R.1 ok R.2.1 hc
  refine ⟨μ1, ?_, C1⟩
  have c2 : c < 0 := by rcases hc with q | q <;> rw [q] <;> decide
  rw [lp49_e, cmds_len R.2.2.1, Option.bind_some]
  by_cases q : nI cs.length ≤ y
  · rw [if_pos q]; exact e1
  · rw [if_neg q, if_pos c2]; exact e1
end RL
section RW
variable {Λ : Lay} {μ μ' μ1 : Mem} {a p : Nat} {x y : Int32} {V : Pic} {h : List Pic} {sv : Option Pic} {r1 r2 r3 m3 : Int32} {ln tx : List Int32}
theorem sch_rvv (P : FrApart Λ a) (c : SCh Λ μ μ1 a) {i : Nat} (hi : i < 11) {U : Pic} (N : RvV Λ μ (frR Λ a i) U) : RvV Λ μ1 (frR Λ a i) U := by
  obtain ⟨⟨v1, v2, v3, v4⟩, e4, e5, e6⟩ := N
  have hr : ∀ g l, rvRow Λ (frR Λ a i) g → RowIs Λ μ g l → RowIs Λ μ1 g l := fun g l hg H => by
    have := P.2.2.1 i g hi hg
    exact c.row H (fun ⟨k, h1, h2, e⟩ => (this.2.2.2 k h2).1 e) (fun z ⟨k, h1, h2, e⟩ => by rw [e]; exact (this.2.2.2 k h2).2) (fun q => this.2.2.1 q.1)
  have hf : ∀ j, mI μ1 (frR Λ a i) j = mI μ (frR Λ a i) j := fun j => c.1 _ j (fun ⟨⟨k, h1, h2, e⟩, _⟩ => (P.2.2.2.1 i hi).2.2.2 k h2 e) (fun q => (P.2.2.2.1 i hi).2.2.1 q.1)
  exact ⟨⟨hr _ _ rvRow0 v1, hr _ _ rvRow1 v2, v3, fun m hm => hr _ _ (rvRowK hm) (v4 m hm)⟩, by rw [hf]; exact e4, by rw [hf]; exact e5, by rw [hf]; exact e6⟩
theorem sch_int (P : FrApart Λ a) (c : SCh Λ μ μ1 a) {z : Nat} (hz : z = a ∨ z = lyR Λ a 2) (j : Nat) : mI μ1 z j = mI μ z j := c.1 z j (fun ⟨⟨k, h1, h2, e⟩, _⟩ => by
    have := P.2.2.2.2.2.1 k h2
    rcases hz with q | q
    · exact this.1 (e.symm.trans q)
    · exact this.2.1 (e.symm.trans q)) (fun q => by
    rcases hz with w | w
    · exact P.2.2.2.2.2.2.2.1 (w.symm.trans q.1)
    · exact P.2.2.2.2.2.2.2.2.1 (w.symm.trans q.1))
theorem sch_ww (P : FrApart Λ a) (c : SCh Λ μ μ1 a) {k : Nat} (hk : k < 2) {l : List Int32} (H : RowIs Λ μ (frW Λ a k) l) : RowIs Λ μ1 (frW Λ a k) l :=
  c.row H (fun ⟨j, h1, h2, e⟩ => (P.2.2.2.2.1 k j (by omega) h2 (by omega)).1 e) (fun z ⟨j, h1, h2, e⟩ => by rw [e]; exact (P.2.2.2.2.1 k j (by omega) h2 (by omega)).2) (fun q => (P.2.2.2.2.2.1 k (by omega)).2.2 q.1)
/-- the class's three rows are of no weight between two operations -/
theorem cinv_sch (P : FrApart Λ a) (C : CInv Λ μ a p x V h sv r1 r2 r3 ln tx) (c : SCh Λ μ μ1 a) {A B D tz : List Int32} (H : R3 Λ μ1 a A B D tz) : CInv Λ μ1 a p x V h sv r1 r2 r3 ln tx := by
  obtain ⟨c1, c2, c3, c4, c5, c6, c7, c8, c9, c10, c11, c12, c13⟩ := C
  have ei : ∀ k, mI μ1 a k = mI μ a k := fun k => sch_int P c (Or.inl rfl) k
  have hp := c4.1
  refine ⟨sch_rvv P c (i := 0) (by omega) c1, c2, fun i hi => ?_, ⟨c4.1, (sch_int P c (Or.inr rfl) 1).trans c4.2.1, (sch_int P c (Or.inr rfl) 2).trans c4.2.2.1, c4.2.2.2.1, c4.2.2.2.2.1, fun m hm => sch_rvv P c (by omega) (c4.2.2.2.2.2 m hm)⟩, by rw [ei]; exact c5, fun U hU => ⟨(c6 U hU).1, sch_rvv P c (i := 1) (by omega) (c6 U hU).2⟩, by rw [ei]; exact c7, by rw [ei]; exact c8, by rw [ei]; exact c9, by rw [ei]; exact c10, sch_ww P c (by omega) c11, sch_ww P c (by omega) c12, fun k h1 h2 => ?_⟩
  · obtain ⟨w, q, rd, s⟩ := c3 i hi
    have := sch_rvv P c hi (U := mkP w q rd rd (mI μ (frR Λ a i) 4) (mI μ (frR Λ a i) 5) (mI μ (frR Λ a i) 6)) ⟨s, rfl, rfl, rfl⟩
    exact ⟨w, q, rd, this.1⟩
  · have : k = 2 ∨ k = 3 ∨ k = 4 := by omega
    rcases this with q | q | q
    · subst q; exact ⟨A, H.1⟩
    · subst q; exact ⟨B, H.2.1⟩
    · subst q; exact ⟨D, H.2.2.1⟩
/-- the class looks for a fault -/
theorem fr_fault (P : FrApart Λ a) (C : CInv Λ μ a p x V h sv r1 r2 r3 ln tx) (hl : tx.length ≤ 70) : (∀ f, parseF tx 70 0 = .inr f → f < 2 ^ 20 ∧ ∃ μ1 A' B' C', sX3_faultIn Λ μ (lyR Λ a 5) (lyR Λ a 4) = some (nI f, μ1) ∧ R3 Λ μ1 a A' B' C' tx ∧ SCh Λ μ μ1 a) ∧ (∀ cs, parseF tx 70 0 = .inl cs → ∃ μ1, sX3_faultIn Λ μ (lyR Λ a 5) (lyR Λ a 4) = some (-1, μ1) ∧ R3 Λ μ1 a (cs.map (fun c => c.1)) (cs.map (fun c => c.2.1)) (cs.map (fun c => c.2.2)) tx ∧ SCh Λ μ μ1 a) := by
  obtain ⟨c1, c2, c3, c4, c5, c6, c7, c8, c9, c10, c11, c12, c13⟩ := C
  obtain ⟨A, hA⟩ := c13 2 (by omega) (by omega)
  obtain ⟨B, hB⟩ := c13 3 (by omega) (by omega)
  obtain ⟨D, hD⟩ := c13 4 (by omega) (by omega)
  obtain ⟨n1, a1, b1, d1⟩ := row_clear hA
  have hB1 := w_other P (k := 2) (by omega) d1 (j := 3) (by omega) (by omega) hB
  have hD1 := w_other P (k := 2) (by omega) d1 (j := 4) (by omega) (by omega) hD
  have hT1 := w_other P (k := 2) (by omega) d1 (j := 1) (by omega) (by omega) c12
  obtain ⟨n2, a2, b2, d2⟩ := row_clear hB1
  have hA2 := w_other P (k := 3) (by omega) d2 (j := 2) (by omega) (by omega) b1
  have hD2 := w_other P (k := 3) (by omega) d2 (j := 4) (by omega) (by omega) hD1
  have hT2 := w_other P (k := 3) (by omega) d2 (j := 1) (by omega) (by omega) hT1
  obtain ⟨n3, a3, b3, d3⟩ := row_clear hD2
  have hA3 := w_other P (k := 4) (by omega) d3 (j := 2) (by omega) (by omega) hA2
  have hB3 := w_other P (k := 4) (by omega) d3 (j := 3) (by omega) (by omega) b2
  have hT3 := w_other P (k := 4) (by omega) d3 (j := 1) (by omega) (by omega) hT2
  have a1' : sX2_clear Λ μ (lyR Λ (lyR Λ a 5) 0) = some n1 := a1
  have a2' : sX2_clear Λ n1 (lyR Λ (lyR Λ a 5) 1) = some n2 := a2
  have a3' : sX2_clear Λ n2 (lyR Λ (lyR Λ a 5) 2) = some n3 := a3
  have R : R3 Λ n3 a [] [] [] tx := ⟨hA3, hB3, b3, hT3⟩
  have S : SCh Λ μ n3 a := ((sch_w (by omega) (by omega) d1).tr (sch_w (by omega) (by omega) d2)).tr (sch_w (by omega) (by omega) d3)
  have F : SFr n3 (stI n3 (lyR Λ a 5) 3 0) (lyR Λ a 5) k34 := SFr.st (Or.inl rfl)
  have e : sX3_faultIn Λ μ (lyR Λ a 5) (lyR Λ a 4) = lpX3_faultIn_37 Λ (lyR Λ a 5) (lyR Λ a 4) fuel (stI n3 (lyR Λ a 5) 3 0) (nI 0) := by
    unfold sX3_faultIn
    rw [a1', Option.bind_some, a2', Option.bind_some, a3', Option.bind_some]
    rfl
  obtain ⟨q1, q2⟩ := fr_parse P hl 70 0 fuel 0 (stI n3 (lyR Λ a 5) 3 0) [] [] [] (by omega) (by unfold fuel; omega) (by omega) (r3_sfr P F R) rfl rfl rfl mI_self
  rw [e]
  refine ⟨fun f hf => ?_, fun cs hcs => ?_⟩
  · obtain ⟨hb, μ2, A', B', C', s1, s2, s3⟩ := q1 f hf
    exact ⟨hb, μ2, A', B', C', s1, s2, (S.tr (sfr_sch F)).tr s3⟩
  · obtain ⟨μ2, s1, s2, s3⟩ := q2 cs hcs
    exact ⟨μ2, s1, s2, (S.tr (sfr_sch F)).tr s3⟩
end RW
