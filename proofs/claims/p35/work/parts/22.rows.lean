/-! ROWS: what the functions of a row do, said of lists. -/
def RowIs (Λ : Lay) (μ : Mem) (h : Nat) (l : List Int32) : Prop := mI μ h 1 = nI l.length ∧ l.length ≤ lyN Λ (lyR Λ h 0) ∧ lyN Λ (lyR Λ h 0) ≤ 100 ∧ ∀ (j : Nat) (hj : j < l.length), mA μ (lyR Λ h 0) j = l[j]
/-- what may have changed: the rows of S, the fields of T -/
def Chg (Λ : Lay) (μ μ' : Mem) (S : Nat → Prop) (T : Nat → Nat → Prop) : Prop := (∀ b k, ¬ (S b ∧ k = 1) → ¬ T b k → mI μ' b k = mI μ b k) ∧ ∀ b, (∀ h, S h → b ≠ lyR Λ h 0) → mA μ' b = mA μ b
def noT : Nat → Nat → Prop := fun _ _ => False
section RW
variable {Λ : Lay} {μ μ' μ'' : Mem} {h o : Nat} {l lo : List Int32}
theorem Chg.rf {S : Nat → Prop} {T : Nat → Nat → Prop} : Chg Λ μ μ S T := ⟨fun _ _ _ _ => rfl, fun _ _ => rfl⟩
theorem Chg.tr {S : Nat → Prop} {T : Nat → Nat → Prop} (h1 : Chg Λ μ μ' S T) (h2 : Chg Λ μ' μ'' S T) : Chg Λ μ μ'' S T := ⟨fun b k a c => (h2.1 b k a c).trans (h1.1 b k a c), fun b a => (h2.2 b a).trans (h1.2 b a)⟩
theorem Chg.wk {S S' : Nat → Prop} {T T' : Nat → Nat → Prop} (h1 : Chg Λ μ μ' S T) (hS : ∀ b, S b → S' b) (hT : ∀ b k, T b k → T' b k) : Chg Λ μ μ' S' T' := ⟨fun b k a c => h1.1 b k (fun q => a ⟨hS b q.1, q.2⟩) (fun q => c (hT b k q)), fun b a => h1.2 b (fun h q => a h (hS h q))⟩
theorem Chg.row {S : Nat → Prop} {T : Nat → Nat → Prop} (c : Chg Λ μ μ' S T) (H : RowIs Λ μ h l) (h1 : ¬ S h) (h2 : ∀ g, S g → lyR Λ h 0 ≠ lyR Λ g 0) (h3 : ¬ T h 1) : RowIs Λ μ' h l :=
  ⟨(c.1 h 1 (fun q => h1 q.1) h3).trans H.1, H.2.1, H.2.2.1, fun j hj => by rw [c.2 _ h2]; exact H.2.2.2 j hj⟩
theorem row_lt (H : RowIs Λ μ h l) : l.length < 2 ^ 31 := by have := H.2.1; have := H.2.2.1; omega
theorem row_len (H : RowIs Λ μ h l) : sX2_length Λ μ h = some (nI l.length) := by unfold sX2_length; rw [H.1]
theorem row_get (H : RowIs Λ μ h l) {p : Nat} (hp : p < l.length) : sX2_get Λ μ h (nI p) = some l[p] := by
  have h1 := row_lt H
  have h2 := H.2.1
  have h3 := H.2.2.1
  unfold sX2_get
  rw [H.1, if_neg (nI_pos (by omega)), if_neg (by rw [nI_leI (by omega) (by omega)]; omega), if_pos ((nI_ltI (by omega) (by omega)).mpr (by omega)), gd_t (nI_in (by omega) (by omega)), nI_clamp (by omega), H.2.2.2 p hp]
theorem row_out (H : RowIs Λ μ h l) {x : Int32} (hx : x.toInt < 0 ∨ (l.length : Int) ≤ x.toInt) : sX2_get Λ μ h x = some (-1) := by
  have h1 := row_lt H
  unfold sX2_get
  rw [H.1]
  by_cases c : x < 0
  · rw [if_pos c]
  · rw [if_neg c, if_pos]
    rw [Int32.le_iff_toInt_le, nI_toInt h1]
    rw [Int32.lt_iff_toInt_lt] at c
    have : (0 : Int32).toInt = 0 := rfl
    omega
theorem row_firstL (H : RowIs Λ μ h l) (x : Int32) : ∀ n k, k ≤ l.length → l.length - k < n → lpX2_firstOf_2 Λ μ h x n (nI k) = some (if x ∈ l.drop k then nI (k + fi (l.drop k) x) else -1) := by
  have h1 := row_lt H
  have h2 := H.2.1
  have h3 := H.2.2.1
  intro n
  induction n with
  | zero => intro k hk hn; omega
  | succ n ih =>
    intro k hk hn
    rw [lpX2_firstOf_2_s, H.1]
    by_cases e : k = l.length
    · subst e
      rw [if_pos ((nI_leI (by omega) (by omega)).mpr (Nat.le_refl _))]
      simp
    · have hk' : k < l.length := by omega
      rw [if_neg (by rw [nI_leI (by omega) (by omega)]; omega), if_neg (by rw [nI_leI (by omega) (by omega)]; omega), gd_t (nI_in (by omega) (by omega)), nI_clamp (by omega), H.2.2.2 k hk', List.drop_eq_getElem_cons hk']
      by_cases c : l[k] = x
      · rw [if_pos c]
        simp [c, fi]
      · rw [if_neg c]
        simp only [bnd]
        rw [nI_1, ih (k + 1) (by omega) (by omega)]
        have c' : ¬ x = l[k] := fun q => c q.symm
        simp only [List.mem_cons, c', false_or, fi, if_neg c]
        rw [show k + 1 + fi (List.drop (k + 1) l) x = k + (fi (List.drop (k + 1) l) x + 1) by omega]
theorem row_first (H : RowIs Λ μ h l) (x : Int32) : sX2_firstOf Λ μ h x = some (if x ∈ l then nI (fi l x) else -1) := by
  have h2 := H.2.1
  have h3 := H.2.2.1
  unfold sX2_firstOf
  have := row_firstL H x fuel 0 (by omega) (by unfold fuel; omega)
  rw [nI_lit0, this]
  simp
theorem li_snoc (A : List Int32) (a b : Int32) : li (A ++ [a]) b = if a = b then A.length else if b ∈ A then li A b else A.length - A.length := by
  unfold li
  rw [List.reverse_append]
  by_cases c : a = b
  · simp [fi, c]
  · by_cases hb : b ∈ A
    · simp [fi, c, hb]; omega
    · have := fi_ge (A := A.reverse) (R := []) (b := b) (by simpa using hb)
      simp [fi, c, hb] at this ⊢
      omega
theorem row_lastL (H : RowIs Λ μ h l) (x : Int32) : ∀ n k, k ≤ l.length → k < n → lpX2_lastOf_7 Λ μ h x n (nI k - 1) = some (if x ∈ l.take k then nI (li (l.take k) x) else -1) := by
  have h1 := row_lt H
  have h2 := H.2.1
  have h3 := H.2.2.1
  intro n
  induction n with
  | zero => intro k hk hn; omega
  | succ n ih =>
    intro k hk hn
    rw [lpX2_lastOf_7_s]
    cases k with
    | zero =>
      rw [if_pos (by decide)]
      simp
    | succ k =>
      have hk' : k < l.length := by omega
      rw [nI_pred, if_neg (nI_pos (by omega)), row_get H hk', Option.bind_some]
      have e : l.take (k + 1) = l.take k ++ [l[k]] := by simp
      have hlen : (l.take k).length = k := by simp; omega
      by_cases c : l[k] = x
      · rw [if_pos c, e, li_snoc, if_pos c, hlen, if_pos (by simp [c])]
      · rw [if_neg c]
        simp only [bnd]
        rw [nI_subI, ih k (by omega) (by omega), e, li_snoc, if_neg c]
        have c' : ¬ x = l[k] := fun q => c q.symm
        by_cases hx : x ∈ l.take k
        · rw [if_pos hx, if_pos hx, if_pos (List.mem_append_left _ hx)]
        · rw [if_neg hx, if_neg (by rw [List.mem_append, List.mem_singleton]; exact fun q => q.elim hx c')]
theorem row_last (H : RowIs Λ μ h l) (x : Int32) : sX2_lastOf Λ μ h x = some (if x ∈ l then nI (li l x) else -1) := by
  have h2 := H.2.1
  have h3 := H.2.2.1
  unfold sX2_lastOf
  simp only [bnd]
  rw [H.1, row_lastL H x fuel l.length (by omega) (by unfold fuel; omega)]
  simp
theorem shl12 : ∀ a, a < 12 → ((1 : Int32) <<< (nI a &&& 31)) = nI (2 ^ a) := by decide +kernel
theorem bit_spec {a : Nat} (ha : a < 12) : sX4_bit Λ μ (nI a) = some (nI (2 ^ a)) := by
  unfold sX4_bit
  rw [if_neg (nI_pos (by omega)), nI_lit12, if_pos ((nI_ltI (by omega) (by omega)).mpr ha), shl12 a ha]
theorem bitc_all2 : ∀ a, a < 64 → ∀ b, b < 64 → sJ6_bitCount_0f7a4 ([], fun _ => 0, fun _ _ => 0, fun _ => 0, fun _ _ => 0, fun _ => 0) (fun _ _ => 0, fun _ _ => 0) (nI (64 * a + b)) = some (nI (popN (64 * a + b))) := by decide +kernel
theorem bitc_all : ∀ s, s < 4096 → sJ6_bitCount_0f7a4 ([], fun _ => 0, fun _ _ => 0, fun _ => 0, fun _ _ => 0, fun _ => 0) (fun _ _ => 0, fun _ _ => 0) (nI s) = some (nI (popN s)) := by
  intro s hs
  have := bitc_all2 (s / 64) (by omega) (s % 64) (by omega)
  rwa [show 64 * (s / 64) + s % 64 = s by omega] at this
theorem bitc_spec {s : Nat} (hs : s < 4096) : sJ6_bitCount_0f7a4 Λ μ (nI s) = some (nI (popN s)) := bitc_all s hs
/-- a row of banks -/
theorem row_setL {l : List Nat} (H : RowIs Λ μ h (l.map nI)) (hl : ∀ x ∈ l, x < 12) (t : Nat) (ht : t < l.length) (ht23 : t < 23) : ∀ n k s, k ≤ t + 1 → t + 1 - k < n → s < 4096 → lpX2_setOf_5 Λ μ h (nI t) n (nI s) (nI k) = some (nI (s ||| msk ((l.take (t + 1)).drop k))) := by
  intro n
  induction n with
  | zero => intro k s hk hn; omega
  | succ n ih =>
    intro k s hk hn hs
    rw [lpX2_setOf_5_s]
    by_cases e : k = t + 1
    · subst e
      rw [if_pos ((nI_ltI (by omega) (by omega)).mpr (by omega))]
      have : (l.take (t + 1)).drop (t + 1) = [] := by simp
      rw [this]; simp [msk]
    · have hk' : k < l.length := by omega
      rw [if_neg (by rw [nI_ltI (by omega) (by omega)]; omega), nI_lit23, if_neg (by rw [nI_leI (by omega) (by omega)]; omega), row_get H (by simpa using hk'), Option.bind_some]
      have hb := hl l[k] (List.getElem_mem hk')
      rw [show (List.map nI l)[k]'(by simpa using hk') = nI l[k] by simp, bit_spec hb, Option.bind_some]
      simp only [bnd]
      rw [nI_or, nI_1]
      have hs2 : s ||| 2 ^ l[k] < 4096 := lt12_of (fun i hi => by
        rw [Nat.testBit_or, Nat.testBit_two_pow] at hi
        rcases Nat.lt_or_ge i 12 with q | q
        · exact q
        · rw [bit_lt12 hs q] at hi
          simp at hi
          omega)
      rw [ih (k + 1) _ (by omega) (by omega) hs2]
      have hd : (l.take (t + 1)).drop k = l[k] :: (l.take (t + 1)).drop (k + 1) := by
        rw [List.drop_eq_getElem_cons (by simp; omega)]
        simp
      rw [hd, msk, Nat.or_assoc]
theorem row_set {l : List Nat} (H : RowIs Λ μ h (l.map nI)) (hl : ∀ x ∈ l, x < 12) {f t : Nat} (ht : t < l.length) (ht23 : t < 23) (hf : f ≤ t + 1) : sX2_setOf Λ μ h (nI f) (nI t) = some (nI (msk ((l.take (t + 1)).drop f))) := by
  unfold sX2_setOf
  rw [nI_lit0, row_setL H hl t ht ht23 fuel f 0 hf (by unfold fuel; omega) (by omega)]
  simp
theorem row_setAll {l : List Nat} (H : RowIs Λ μ h (l.map nI)) (hl : ∀ x ∈ l, x < 12) (h0 : 0 < l.length) (ht23 : l.length ≤ 23) : sX2_setOfAll Λ μ h = some (nI (msk l)) := by
  unfold sX2_setOfAll
  obtain ⟨m, hm⟩ : ∃ m, l.length = m + 1 := ⟨l.length - 1, by omega⟩
  rw [H.1, List.length_map, hm, nI_lit1, show nI (m + 1) - nI 1 = nI m from nI_pred m, nI_lit0, row_set H hl (by omega) (by omega) (by omega), Option.bind_some]
  rw [← hm]; simp
-- changes
theorem row_add (H : RowIs Λ μ h l) (hc : l.length < lyN Λ (lyR Λ h 0)) (x : Int32) : ∃ μ', sX2_add Λ μ h x = some μ' ∧ RowIs Λ μ' h (l ++ [x]) ∧ Chg Λ μ μ' (fun b => b = h) noT := by
  have h1 := row_lt H
  have h2 := H.2.1
  have h3 := H.2.2.1
  refine ⟨stI (stA μ (lyR Λ h 0) l.length x) h 1 (nI (l.length + 1)), ?_, ?_, ?_⟩
  · unfold sX2_add
    simp only [bnd]
    rw [H.1, if_neg (nI_pos (by omega)), if_neg (by rw [nI_leI (by omega) (by omega)]; omega), gd_t (nI_in (by omega) (by omega)), nI_clamp (by omega)]
    have : mI (stA μ (lyR Λ h 0) l.length x) h 1 = nI l.length := H.1
    rw [this, nI_1]
  · refine ⟨by rw [mI_self]; simp, by simp; omega, h3, fun j hj => ?_⟩
    simp at hj
    have : mA (stI (stA μ (lyR Λ h 0) l.length x) h 1 (nI (l.length + 1))) (lyR Λ h 0) j = mA (stA μ (lyR Λ h 0) l.length x) (lyR Λ h 0) j := rfl
    rw [this, mA_upd]
    unfold upd
    by_cases e : j = l.length
    · subst e; simp
    · rw [if_neg e, H.2.2.2 j (by omega), List.getElem_append_left]
  · refine ⟨fun b k hb _ => ?_, fun b hb => ?_⟩
    · rw [mI_ne (by intro q; exact hb q)]; rfl
    · have hb := hb h rfl
      funext j
      show mA (stA μ (lyR Λ h 0) l.length x) b j = _
      simp [mA, stA, hb]
theorem row_setlen (H : RowIs Λ μ h l) {k : Nat} (hk : k ≤ l.length) : RowIs Λ (stI μ h 1 (nI k)) h (l.take k) ∧ Chg Λ μ (stI μ h 1 (nI k)) (fun b => b = h) noT := by
  have h2 := H.2.1
  refine ⟨⟨by rw [mI_self]; simp; rw [Nat.min_eq_left hk], by simp; omega, H.2.2.1, fun j hj => ?_⟩, ⟨fun b k' hb _ => mI_ne (by intro q; exact hb q), fun b _ => rfl⟩⟩
  simp at hj
  have := H.2.2.2 j (by omega)
  simp
  exact this
theorem row_clear (H : RowIs Λ μ h l) : ∃ μ', sX2_clear Λ μ h = some μ' ∧ RowIs Λ μ' h [] ∧ Chg Λ μ μ' (fun b => b = h) noT :=
  ⟨_, rfl, by have h0 := (row_setlen H (Nat.zero_le _)).1; rw [List.take_zero] at h0; exact h0, (row_setlen H (Nat.zero_le _)).2⟩
theorem row_shorten (H : RowIs Λ μ h l) {k : Nat} (hk : k ≤ l.length) : ∃ μ', sX2_shorten Λ μ h (nI k) = some μ' ∧ RowIs Λ μ' h (l.take k) ∧ Chg Λ μ μ' (fun b => b = h) noT := by
  have h1 := row_lt H
  unfold sX2_shorten
  simp only [bnd]
  rw [H.1, if_neg (nI_pos (by omega))]
  by_cases e : k = l.length
  · subst e
    rw [if_pos ((nI_leI (by omega) (by omega)).mpr (Nat.le_refl _))]
    exact ⟨μ, rfl, by simpa using H, Chg.rf⟩
  · rw [if_neg (by rw [nI_leI (by omega) (by omega)]; omega)]
    exact ⟨_, rfl, row_setlen H hk⟩
theorem row_put (H : RowIs Λ μ h l) {k : Nat} (hk : k < l.length) (x : Int32) : ∃ μ', sX2_put Λ μ h (nI k) x = some μ' ∧ RowIs Λ μ' h (l.set k x) ∧ Chg Λ μ μ' (fun b => b = h) noT := by
  have h1 := row_lt H
  have h2 := H.2.1
  have h3 := H.2.2.1
  refine ⟨stA μ (lyR Λ h 0) k x, ?_, ⟨by rw [List.length_set]; exact H.1, by rw [List.length_set]; exact h2, h3, fun j hj => ?_⟩, ⟨fun b k' _ _ => rfl, fun b hb => ?_⟩⟩
  · unfold sX2_put
    simp only [bnd]
    rw [H.1, if_neg (nI_pos (by omega)), if_neg (by rw [nI_leI (by omega) (by omega)]; omega), if_neg (by rw [nI_leI (by omega) (by omega)]; omega), gd_t (nI_in (by omega) (by omega)), nI_clamp (by omega)]
  · simp at hj
    rw [mA_upd, List.getElem_set]
    unfold upd
    by_cases e : j = k
    · subst e; simp
    · have e' : ¬ k = j := fun q => e q.symm
      rw [if_neg e, if_neg e', H.2.2.2 j hj]
  · have hb := hb h rfl
    funext j
    simp [mA, stA, hb]
theorem row_addPlacesL (ho : RowIs Λ μ o lo) (hne : o ≠ h) (hsep : lyR Λ o 0 ≠ lyR Λ h 0) (t : Nat) (ht : t < lo.length) (ht23 : t < 23) : ∀ n k (μ1 : Mem) (l1 : List Int32), k ≤ t + 1 → t + 1 - k < n → RowIs Λ μ1 h l1 → Chg Λ μ μ1 (fun b => b = h) noT → l1.length + (t + 1 - k) ≤ lyN Λ (lyR Λ h 0) → ∃ μ', lpX2_addPlaces_8 Λ h o (nI t) n μ1 (nI k) = some μ' ∧ RowIs Λ μ' h (l1 ++ (lo.take (t + 1)).drop k) ∧ Chg Λ μ μ' (fun b => b = h) noT := by
  intro n
  induction n with
  | zero => intro k μ1 l1 hk hn; omega
  | succ n ih =>
    intro k μ1 l1 hk hn H1 hC hcap
    rw [lpX2_addPlaces_8_s]
    have hlo := row_lt ho
    by_cases e : k = t + 1
    · subst e
      rw [if_pos ((nI_ltI (by omega) (by omega)).mpr (by omega))]
      have : (lo.take (t + 1)).drop (t + 1) = [] := by simp
      rw [this]
      exact ⟨μ1, rfl, by simpa using H1, hC⟩
    · have hk' : k < lo.length := by omega
      have ho1 : RowIs Λ μ1 o lo := hC.row ho hne (fun g hg => by rw [hg]; exact hsep) (fun q => q)
      rw [if_neg (by rw [nI_ltI (by omega) (by omega)]; omega), nI_lit23, if_neg (by rw [nI_leI (by omega) (by omega)]; omega), row_get ho1 hk', Option.bind_some]
      obtain ⟨μ2, e2, H2, C2⟩ := row_add H1 (by omega) lo[k]
      rw [e2, Option.bind_some]
      simp only [bnd]
      rw [nI_1]
      obtain ⟨μ3, e3, H3, C3⟩ := ih (k + 1) μ2 _ (by omega) (by omega) H2 (hC.tr C2) (by simp; omega)
      refine ⟨μ3, e3, ?_, C3⟩
      have hd : (lo.take (t + 1)).drop k = lo[k] :: (lo.take (t + 1)).drop (k + 1) := by
        rw [List.drop_eq_getElem_cons (by simp; omega)]
        simp
      rw [hd]
      simpa using H3
theorem row_addPlaces (ho : RowIs Λ μ o lo) (H : RowIs Λ μ h l) (hne : o ≠ h) (hsep : lyR Λ o 0 ≠ lyR Λ h 0) {f t : Nat} (ht : t < lo.length) (ht23 : t < 23) (hf : f ≤ t + 1) (hcap : l.length + (t + 1 - f) ≤ lyN Λ (lyR Λ h 0)) : ∃ μ', sX2_addPlaces Λ μ h o (nI f) (nI t) = some μ' ∧ RowIs Λ μ' h (l ++ (lo.take (t + 1)).drop f) ∧ Chg Λ μ μ' (fun b => b = h) noT :=
  row_addPlacesL ho hne hsep t ht ht23 fuel f μ l hf (by unfold fuel; omega) H Chg.rf hcap
theorem row_copyL (ho : RowIs Λ μ o lo) (hne : o ≠ h) (hsep : lyR Λ o 0 ≠ lyR Λ h 0) (hcap : lo.length ≤ lyN Λ (lyR Λ h 0)) : ∀ n k (μ1 : Mem), k ≤ lo.length → lo.length - k < n → RowIs Λ μ1 h (lo.take k) → Chg Λ μ μ1 (fun b => b = h) noT → ∃ μ', lpX2_copyFrom_12 Λ h o n μ1 (nI k) = some μ' ∧ RowIs Λ μ' h lo ∧ Chg Λ μ μ' (fun b => b = h) noT := by
  intro n
  induction n with
  | zero => intro k μ1 hk hn; omega
  | succ n ih =>
    intro k μ1 hk hn H1 hC
    have hlo := row_lt ho
    have ho1 : RowIs Λ μ1 o lo := hC.row ho hne (fun g hg => by rw [hg]; exact hsep) (fun q => q)
    rw [lpX2_copyFrom_12_s, ho1.1]
    by_cases e : k = lo.length
    · subst e
      rw [if_pos ((nI_leI (by omega) (by omega)).mpr (Nat.le_refl _))]
      exact ⟨μ1, rfl, by simpa using H1, hC⟩
    · have hk' : k < lo.length := by omega
      rw [if_neg (by rw [nI_leI (by omega) (by omega)]; omega), row_get ho1 hk', Option.bind_some]
      obtain ⟨μ2, e2, H2, C2⟩ := row_add H1 (by simp; omega) lo[k]
      rw [e2, Option.bind_some]
      simp only [bnd]
      rw [nI_1]
      refine ih (k + 1) μ2 (by omega) (by omega) ?_ (hC.tr C2)
      have : lo.take (k + 1) = lo.take k ++ [lo[k]] := by simp
      rw [this]
      exact H2
theorem row_copy (ho : RowIs Λ μ o lo) (H : RowIs Λ μ h l) (hne : o ≠ h) (hsep : lyR Λ o 0 ≠ lyR Λ h 0) (hcap : lo.length ≤ lyN Λ (lyR Λ h 0)) : ∃ μ', sX2_copyFrom Λ μ h o = some μ' ∧ RowIs Λ μ' h lo ∧ Chg Λ μ μ' (fun b => b = h) noT := by
  unfold sX2_copyFrom
  simp only [bnd]
  have h0 := row_setlen H (Nat.zero_le l.length)
  have hlo := ho.2.1
  have hlo2 := ho.2.2.1
  exact row_copyL ho hne hsep hcap fuel 0 _ (by omega) (by unfold fuel; omega) (by have h1 := h0.1; rw [List.take_zero] at h1; rw [List.take_zero]; exact h1) h0.2
theorem row_dropL (f d : Nat) (hd : 0 < d) : ∀ n k (μ1 : Mem) (l1 : List Int32), f + d ≤ k → k ≤ l1.length → l1.length - k < n → RowIs Λ μ1 h l1 → Chg Λ μ μ1 (fun b => b = h) noT → ∃ μ', lpX2_dropPlaces_11 Λ h (nI d) n μ1 (nI k) = some μ' ∧ RowIs Λ μ' h (l1.take (k - d) ++ l1.drop k) ∧ Chg Λ μ μ' (fun b => b = h) noT := by
  intro n
  induction n with
  | zero => intro k μ1 l1 hk hk2 hn; omega
  | succ n ih =>
    intro k μ1 l1 hk hk2 hn H1 hC
    have hl1 := row_lt H1
    rw [lpX2_dropPlaces_11_s, H1.1]
    by_cases e : k = l1.length
    · subst e
      rw [if_pos ((nI_leI (by omega) (by omega)).mpr (Nat.le_refl _)), pk_sub (by omega)]
      obtain ⟨μ2, e2, H2, C2⟩ := row_shorten H1 (k := l1.length - d) (by omega)
      rw [e2, Option.bind_some]
      exact ⟨μ2, rfl, by simpa using H2, hC.tr C2⟩
    · have hk' : k < l1.length := by omega
      rw [if_neg (by rw [nI_leI (by omega) (by omega)]; omega), row_get H1 hk', Option.bind_some, pk_sub (by omega)]
      obtain ⟨μ2, e2, H2, C2⟩ := row_put H1 (k := k - d) (by omega) l1[k]
      rw [e2, Option.bind_some]
      simp only [bnd]
      rw [nI_1]
      obtain ⟨μ3, e3, H3, C3⟩ := ih (k + 1) μ2 _ (by omega) (by simp; omega) (by simp; omega) H2 (hC.tr C2)
      refine ⟨μ3, e3, ?_, C3⟩
      have e4 : (l1.set (k - d) l1[k]).take (k + 1 - d) = l1.take (k - d) ++ [l1[k]] := by
        rw [show k + 1 - d = k - d + 1 by omega]
        apply List.ext_getElem
        · simp; omega
        · intro i h1 h2
          simp at h1 h2
          rw [List.getElem_take, List.getElem_set, List.getElem_append]
          by_cases q : i < k - d
          · have q1 : ¬ k - d = i := by omega
            simp [q1, q]
            omega
          · have q1 : k - d = i := by omega
            simp [q1]
            intro q2
            omega
      have e5 : (l1.set (k - d) l1[k]).drop (k + 1) = l1.drop (k + 1) := by
        rw [List.drop_set_of_lt (by omega)]
      rw [e4, e5] at H3
      rw [List.drop_eq_getElem_cons hk']
      simpa using H3
theorem row_drop (H : RowIs Λ μ h l) {f t : Nat} (hft : f ≤ t) (ht : t < l.length) : ∃ μ', sX2_dropPlaces Λ μ h (nI f) (nI t) = some μ' ∧ RowIs Λ μ' h (l.take f ++ l.drop (t + 1)) ∧ Chg Λ μ μ' (fun b => b = h) noT := by
  have h2 := H.2.1
  have h3 := H.2.2.1
  unfold sX2_dropPlaces
  simp only [bnd]
  rw [pk_sub hft, nI_1, nI_1]
  have := row_dropL (h := h) (μ := μ) f (t - f + 1) (by omega) fuel (t + 1) μ l (by omega) (by omega) (by unfold fuel; omega) H Chg.rf
  rw [show t + 1 - (t - f + 1) = f by omega] at this
  exact this
end RW
