/-! RIVERS: what the reading functions of a river answer, said of lists. -/
def Riv (Λ : Lay) (μ : Mem) (a : Nat) (w p : List Nat) (rd : Nat → List Nat) : Prop :=
  RowIs Λ μ (lyR Λ a 0) (w.map nI) ∧ RowIs Λ μ (lyR Λ a 1) (p.map nI) ∧ lyN Λ (lyR Λ a 2) = 12 ∧ ∀ k, k < 12 → RowIs Λ μ (lyE Λ (lyR Λ a 2) k) ((rd k).map nI)
/-- pairs of neighbours, in the order of the round -/
def prs : List Nat → List (Nat × Nat)
  | a :: b :: l => (a, b) :: prs (b :: l)
  | _ => []
def RvOK (w p : List Nat) (rd : Nat → List Nat) : Prop :=
  w.length ≤ 12 ∧ p.length = w.length ∧ (∀ x ∈ w, x ≤ 99) ∧ (∀ x ∈ p, x < 4096) ∧ (∀ k, k < 12 → rd k ≠ [] → Tour (rd k) ∧ ∃ t, rd k = k :: t) ∧ (∀ k, k < 12 → ∀ x ∈ rd k, x < w.length) ∧ (∀ b, b < w.length → ∃ k, k < 12 ∧ b ∈ rd k) ∧ (∀ k k' b, k < 12 → k' < 12 → b ∈ rd k → b ∈ rd k' → k = k') ∧ (∀ k, k < 12 → (rd k).length ≤ 23) ∧ ∀ b c k, k < 12 → b ∈ rd k → ((p.getD b 0).testBit c = true ↔ (b, c) ∈ prs (rd k))
def blw (l : List Nat) (k b : Nat) : Bool := decide (k ∈ l ∧ fi l b ≤ fi l k ∧ li l k ≤ li l b)
def dep (l : List Nat) (n b : Nat) : Nat := cntTo n (fun k => !decide (k = b) && blw l b k)
def wt (w : List Nat) (b : Nat) : Nat := w.getD b 0
theorem fi_map {l : List Nat} (hl : ∀ x ∈ l, x < 2 ^ 31) {b : Nat} (hb : b < 2 ^ 31) : fi (l.map nI) (nI b) = fi l b := by
  induction l with
  | nil => rfl
  | cons a l ih =>
    have ha := hl a (by simp)
    simp only [List.map_cons, fi]
    have e : (nI a = nI b) ↔ a = b := nI_eq ha hb
    by_cases c : a = b
    · rw [if_pos (e.mpr c), if_pos c]
    · rw [if_neg (fun q => c (e.mp q)), if_neg c, ih (fun x hx => hl x (by simp [hx]))]
theorem li_map {l : List Nat} (hl : ∀ x ∈ l, x < 2 ^ 31) {b : Nat} (hb : b < 2 ^ 31) : li (l.map nI) (nI b) = li l b := by
  unfold li
  rw [← List.map_reverse, fi_map (fun x hx => hl x (by simpa using hx)) hb]
  simp
theorem mem_mapI {l : List Nat} (hl : ∀ x ∈ l, x < 2 ^ 31) {b : Nat} (hb : b < 2 ^ 31) : nI b ∈ l.map nI ↔ b ∈ l := by
  rw [List.mem_map]
  constructor
  · rintro ⟨x, hx, e⟩
    rw [(nI_eq (hl x hx) hb).mp e] at hx
    exact hx
  · exact fun h => ⟨b, h, rfl⟩
theorem fi_mem {l : List Nat} {b : Nat} (h : fi l b < l.length) : b ∈ l := by
  apply Classical.byContradiction
  intro q
  have := fi_ge (A := l) (R := []) q
  rw [List.append_nil] at this
  omega
theorem mem_take_fi {l : List Nat} {b k : Nat} (hb : b ∈ l) : k ∈ l.take (fi l b + 1) ↔ k ∈ l ∧ fi l k ≤ fi l b := by
  have hlt := fi_lt hb
  constructor
  · intro h
    obtain ⟨i, hi, e⟩ := List.getElem_of_mem h
    simp at hi
    rw [List.getElem_take] at e
    have := fi_le_of _ e
    exact ⟨e ▸ List.getElem_mem _, by omega⟩
  · rintro ⟨h1, h2⟩
    have h3 := fi_get h1
    rw [List.mem_take_iff_getElem]
    exact ⟨fi l k, by omega, h3⟩
theorem mem_drop_li {l : List Nat} {b k : Nat} (hb : b ∈ l) : k ∈ l.drop (li l b) ↔ k ∈ l ∧ li l b ≤ li l k := by
  have hlt := li_lt hb
  constructor
  · intro h
    obtain ⟨i, hi, e⟩ := List.getElem_of_mem h
    simp at hi
    rw [List.getElem_drop] at e
    have := li_ge_of _ e
    exact ⟨e ▸ List.getElem_mem _, by omega⟩
  · rintro ⟨h1, h2⟩
    have h3 := li_get h1
    have h4 := li_lt h1
    rw [List.mem_drop_iff_getElem]
    refine ⟨li l k - li l b, by omega, ?_⟩
    have : li l b + (li l k - li l b) = li l k := by omega
    simp only [this]
    exact h3
section RIV
variable {Λ : Lay} {μ : Mem} {a : Nat} {w p : List Nat} {rd : Nat → List Nat}
theorem rv_lt31 (O : RvOK w p rd) {k : Nat} (hk : k < 12) : ∀ x ∈ rd k, x < 2 ^ 31 := fun x hx => by have := O.2.2.2.2.2.1 k hk x hx; have := O.1; omega
theorem rv_lt12 (O : RvOK w p rd) {k : Nat} (hk : k < 12) : ∀ x ∈ rd k, x < 12 := fun x hx => by have := O.2.2.2.2.2.1 k hk x hx; have := O.1; omega
theorem rv_has (V : Riv Λ μ a w p rd) (O : RvOK w p rd) (x : Int32) : sX1_has Λ μ a x = some (if 0 ≤ x.toInt ∧ x.toInt < w.length then 1 else 0) := by
  have h1 := O.1
  unfold sX1_has
  have e0 : (0 : Int32).toInt = 0 := rfl
  have e1 := nI_toInt (n := w.length) (by omega)
  by_cases c : x < 0
  · rw [if_pos c, if_neg]
    rw [Int32.lt_iff_toInt_lt] at c
    omega
  · rw [if_neg c, row_len V.1, Option.bind_some, List.length_map]
    rw [Int32.lt_iff_toInt_lt] at c
    by_cases d : nI w.length ≤ x
    · rw [if_pos d, if_neg]
      rw [Int32.le_iff_toInt_le] at d
      omega
    · rw [if_neg d, if_pos]
      rw [Int32.le_iff_toInt_le] at d
      omega
theorem rv_hasB (V : Riv Λ μ a w p rd) (O : RvOK w p rd) {b : Nat} (hb : b < w.length) : sX1_has Λ μ a (nI b) = some 1 := by
  have h1 := O.1
  rw [rv_has V O, nI_toInt (by omega), if_pos (by omega)]
theorem rv_banks (V : Riv Λ μ a w p rd) : sX1_banks Λ μ a = some (nI w.length) := by
  unfold sX1_banks
  rw [row_len V.1, Option.bind_some, List.length_map]
theorem rv_at (V : Riv Λ μ a w p rd) {k : Nat} (hk : k < 12) : sX1_roundAt Λ μ a (nI k) = some (lyE Λ (lyR Λ a 2) k) := by
  unfold sX1_roundAt
  rw [if_neg (nI_pos (by omega)), V.2.2.1, if_pos ((nI_ltI (by omega) (by omega)).mpr hk), gd_t (nI_in hk (by omega)), nI_clamp (by omega)]
theorem rv_firstK (V : Riv Λ μ a w p rd) (O : RvOK w p rd) {k b : Nat} (hk : k < 12) (hb : b < 2 ^ 31) : sX2_firstOf Λ μ (lyE Λ (lyR Λ a 2) k) (nI b) = some (if b ∈ rd k then nI (fi (rd k) b) else -1) := by
  rw [row_first (V.2.2.2 k hk), fi_map (rv_lt31 O hk) hb]
  by_cases c : b ∈ rd k
  · rw [if_pos c, if_pos ((mem_mapI (rv_lt31 O hk) hb).mpr c)]
  · rw [if_neg c, if_neg (fun q => c ((mem_mapI (rv_lt31 O hk) hb).mp q))]
theorem rv_lastK (V : Riv Λ μ a w p rd) (O : RvOK w p rd) {k b : Nat} (hk : k < 12) (hb : b < 2 ^ 31) : sX2_lastOf Λ μ (lyE Λ (lyR Λ a 2) k) (nI b) = some (if b ∈ rd k then nI (li (rd k) b) else -1) := by
  rw [row_last (V.2.2.2 k hk), li_map (rv_lt31 O hk) hb]
  by_cases c : b ∈ rd k
  · rw [if_pos c, if_pos ((mem_mapI (rv_lt31 O hk) hb).mpr c)]
  · rw [if_neg c, if_neg (fun q => c ((mem_mapI (rv_lt31 O hk) hb).mp q))]
theorem rv_lenK (O : RvOK w p rd) {k : Nat} (hk : k < 12) : (rd k).length ≤ 23 := O.2.2.2.2.2.2.2.2.1 k hk
theorem rv_rootL (V : Riv Λ μ a w p rd) (O : RvOK w p rd) {b r : Nat} (hr : r < 12) (hb : b ∈ rd r) : ∀ n k, k ≤ r → r - k < n → lpX1_rootOf_2 Λ μ a (nI b) n (nI k) = some (nI r) := by
  have hb31 := rv_lt31 O hr b hb
  intro n
  induction n with
  | zero => intro k hk hn; omega
  | succ n ih =>
    intro k hk hn
    rw [lpX1_rootOf_2_s, nI_lit12, if_neg (by rw [nI_leI (by omega) (by omega)]; omega), rv_at V (by omega), Option.bind_some, rv_firstK V O (by omega) hb31, Option.bind_some]
    by_cases e : k = r
    · subst e
      have := fi_lt hb
      have := rv_lenK O hr
      rw [if_pos hb, if_neg (nI_pos (by omega))]
    · have hn1 : b ∉ rd k := fun q => e (O.2.2.2.2.2.2.2.1 k r b (by omega) hr q hb)
      rw [if_neg hn1, if_pos (by decide)]
      simp only [bnd]
      rw [nI_1]
      exact ih (k + 1) (by omega) (by omega)
theorem rv_root (V : Riv Λ μ a w p rd) (O : RvOK w p rd) {b r : Nat} (hr : r < 12) (hb : b ∈ rd r) : sX1_rootOf Λ μ a (nI b) = some (nI r) :=
  rv_rootL V O hr hb fuel 0 (by omega) (by unfold fuel; omega)
theorem rv_round (V : Riv Λ μ a w p rd) (O : RvOK w p rd) {b r : Nat} (hr : r < 12) (hb : b ∈ rd r) : sX1_roundOf Λ μ a (nI b) = some (lyE Λ (lyR Λ a 2) r) := by
  unfold sX1_roundOf
  rw [rv_root V O hr hb, Option.bind_some, rv_at V hr, Option.bind_some]
theorem rv_weight (V : Riv Λ μ a w p rd) {b : Nat} (hb : b < w.length) : sX1_weightOf Λ μ a (nI b) = some (nI (wt w b)) := by
  unfold sX1_weightOf
  rw [row_get V.1 (by simpa using hb), Option.bind_some]
  simp [wt, hb]
theorem and_pow_ne {s i : Nat} (hs : s < 4096) : (nI s &&& nI (2 ^ i) = 0) ↔ s.testBit i = false := by
  rw [nI_and, nI_lit0]
  have h1 : s &&& 2 ^ i ≤ s := Nat.and_le_left
  rw [nI_eq (by omega) (by omega)]
  constructor
  · intro h
    have := congrArg (fun x => Nat.testBit x i) h
    simpa [Nat.testBit_and] using this
  · intro h
    apply Nat.eq_of_testBit_eq
    intro j
    simp only [Nat.testBit_and, Nat.testBit_two_pow, Nat.zero_testBit]
    by_cases e : i = j
    · subst e; simp [h]
    · simp [e]
theorem rv_weightL (V : Riv Λ μ a w p rd) (O : RvOK w p rd) {s : Nat} (hs : s < 4096) : ∀ n k t, k ≤ w.length → w.length - k < n → lpX1_weightOfAll_4 Λ μ a (nI s) n (nI t) (nI k) = some (nI (itr (fun k t => t + if s.testBit k then wt w k else 0) k (w.length - k) t)) := by
  have hn12 := O.1
  intro n
  induction n with
  | zero => intro k t hk hn; omega
  | succ n ih =>
    intro k t hk hn
    rw [lpX1_weightOfAll_4_s, row_len V.1, Option.bind_some, List.length_map]
    by_cases e : k = w.length
    · subst e
      rw [if_pos ((nI_leI (by omega) (by omega)).mpr (Nat.le_refl _)), Nat.sub_self]
      rfl
    · rw [if_neg (by rw [nI_leI (by omega) (by omega)]; omega), bit_spec (by omega), Option.bind_some]
      rw [show w.length - k = (w.length - (k + 1)) + 1 by omega, itr]
      by_cases c : s.testBit k = true
      · rw [if_neg (by rw [and_pow_ne hs]; simp [c]), row_get V.1 (by simp; omega), Option.bind_some]
        simp only [bnd]
        rw [nI_1, List.getElem_map, nI_add, ih (k + 1) _ (by omega) (by omega), if_pos c]
        have : wt w k = w[k] := by simp [wt, show k < w.length by omega]
        rw [this]
      · rw [if_pos ((and_pow_ne hs).mpr (by simpa using c))]
        simp only [bnd]
        rw [nI_1, ih (k + 1) _ (by omega) (by omega), if_neg c]
        simp
/-- the weights of a set -/
def wsum (w : List Nat) (s : Nat) : Nat := sumTo w.length (fun k => if s.testBit k then wt w k else 0)
theorem wsum_lt (O : RvOK w p rd) (s : Nat) : wsum w s ≤ 1188 := by
  have h : wsum w s ≤ w.length * 99 := sumTo_const (fun k hk => by
    split
    · unfold wt
      have : w.getD k 0 = w[k] := by simp [hk]
      rw [this]
      exact O.2.2.1 _ (List.getElem_mem hk)
    · omega)
  have := O.1
  omega
theorem rv_weights (V : Riv Λ μ a w p rd) (O : RvOK w p rd) {s : Nat} (hs : s < 4096) : sX1_weightOfAll Λ μ a (nI s) = some (nI (wsum w s)) := by
  unfold sX1_weightOfAll
  have := O.1
  rw [nI_lit0, rv_weightL V O hs fuel 0 0 (by omega) (by unfold fuel; omega), Nat.sub_zero, itr_sum0]
  rfl
theorem rv_p (O : RvOK w p rd) {b : Nat} (hb : b < w.length) : p.getD b 0 < 4096 := by
  have h1 := O.2.1
  have : p.getD b 0 = p[b]'(by omega) := by simp [h1, hb]
  rw [this]
  exact O.2.2.2.1 _ (List.getElem_mem _)
theorem rv_ropesOf (V : Riv Λ μ a w p rd) (O : RvOK w p rd) {b : Nat} (hb : b < w.length) : sX1_ropesOf Λ μ a (nI b) = some (nI (p.getD b 0)) := by
  have h1 := O.2.1
  unfold sX1_ropesOf
  rw [rv_hasB V O hb, Option.bind_some, if_neg (by decide), row_get V.2.1 (by simp; omega), Option.bind_some]
  simp [h1, hb]
theorem rv_tied (V : Riv Λ μ a w p rd) (O : RvOK w p rd) {b c : Nat} (hb : b < w.length) (hc : c < 12) : sX1_isTied Λ μ a (nI b) (nI c) = some (if (p.getD b 0).testBit c then 1 else 0) := by
  unfold sX1_isTied
  rw [rv_ropesOf V O hb, Option.bind_some, bit_spec hc, Option.bind_some]
  by_cases d : (p.getD b 0).testBit c = true
  · rw [if_neg (by rw [and_pow_ne (rv_p O hb), d]; decide), if_pos d]
  · rw [if_pos ((and_pow_ne (rv_p O hb)).mpr (by simpa using d)), if_neg d]
theorem rv_all (V : Riv Λ μ a w p rd) (O : RvOK w p rd) {b r : Nat} (hr : r < 12) (hb : b ∈ rd r) : sX1_banksWith Λ μ a (nI b) = some (nI (msk (rd r))) := by
  unfold sX1_banksWith
  rw [rv_round V O hr hb, Option.bind_some, row_setAll (V.2.2.2 r hr) (rv_lt12 O hr) (List.length_pos_of_mem hb) (rv_lenK O hr), Option.bind_some]
theorem rv_one (V : Riv Λ μ a w p rd) (O : RvOK w p rd) {b r c : Nat} (hr : r < 12) (hb : b ∈ rd r) (hc : c < 2 ^ 31) : sX1_isOnePart Λ μ a (nI b) (nI c) = some (if c ∈ rd r then 1 else 0) := by
  unfold sX1_isOnePart
  rw [rv_round V O hr hb, Option.bind_some, rv_firstK V O hr hc, Option.bind_some]
  by_cases d : c ∈ rd r
  · have := fi_lt d
    have := rv_lenK O hr
    rw [if_pos d, if_neg (nI_pos (by omega)), if_pos d]
  · rw [if_neg d, if_pos (by decide), if_neg d]
def aboveM (l : List Nat) (b : Nat) : Nat := msk (l.take (fi l b + 1)) &&& msk (l.drop (li l b))
theorem aboveM_bit {l : List Nat} {b k : Nat} (hb : b ∈ l) : (aboveM l b).testBit k = blw l b k := by
  unfold aboveM blw
  rw [Nat.testBit_and, msk_bit, msk_bit]
  have h1 := mem_take_fi (k := k) hb
  have h2 := mem_drop_li (k := k) hb
  rw [Bool.eq_iff_iff]
  simp only [Bool.and_eq_true, decide_eq_true_eq, h1, h2]
  constructor
  · rintro ⟨⟨a1, a2⟩, -, a3⟩
    exact ⟨hb, a2, a3⟩
  · rintro ⟨-, a2, a3⟩
    have hk : k ∈ l := fi_mem (by have := fi_lt hb; omega)
    exact ⟨⟨hk, a2⟩, hk, a3⟩
end RIV
