/-! THE REFERENCE: its rows of numbers, read and written. -/
def mdA (Λ : Lay) (a i : Nat) : Nat := if i < 3 then lyR Λ a i else if i < 11 then lyE Λ (lyR Λ a 3) (i - 3) else if i = 11 then lyR Λ a 11 else if i = 12 then lyR Λ a 12 else lyR Λ a 14
/-- the reference's rows are apart, and have their lengths -/
def MdApart (Λ : Lay) (a : Nat) : Prop := (∀ i j, i < 14 → j < 14 → mdA Λ a i = mdA Λ a j → i = j) ∧ (∀ i, i < 11 → lyN Λ (mdA Λ a i) = 304) ∧ lyN Λ (lyR Λ a 3) = 8 ∧ lyN Λ (lyR Λ a 11) = 46 ∧ lyN Λ (lyR Λ a 12) = 80 ∧ lyN Λ (lyR Λ a 14) = 70
/-- f, with l written from b on -/
def wr (f : Nat → Int32) (b : Nat) (l : List Nat) : Nat → Int32 := fun x => if b ≤ x ∧ x < b + l.length then nI (l.getD (x - b) 0) else f x
theorem wr_nil (f : Nat → Int32) (b : Nat) : wr f b [] = f := by
  funext x
  unfold wr
  rw [if_neg (by simp)]
theorem wr_snoc (f : Nat → Int32) (b : Nat) (l : List Nat) (y : Nat) : upd (wr f b l) (b + l.length) (nI y) = wr f b (l ++ [y]) := by
  funext x
  unfold upd wr
  by_cases e : x = b + l.length
  · subst e
    rw [if_pos rfl, if_pos (by simp)]
    simp
  · rw [if_neg e]
    by_cases c : b ≤ x ∧ x < b + l.length
    · rw [if_pos c, if_pos (by simp; omega)]
      congr 1
      simp only [List.getD_eq_getElem?_getD]
      rw [List.getElem?_append_left (by omega)]
    · rw [if_neg c, if_neg (by simp; omega)]
theorem wr_cons (f : Nat → Int32) (b : Nat) (l : List Nat) (y : Nat) : upd (wr f (b + 1) l) b (nI y) = wr f b (y :: l) := by
  funext x
  unfold upd wr
  by_cases e : x = b
  · subst e
    rw [if_pos rfl, if_pos (by simp)]
    simp
  · rw [if_neg e]
    by_cases c : b + 1 ≤ x ∧ x < b + 1 + l.length
    · rw [if_pos c, if_pos (by simp; omega)]
      obtain ⟨z, hz⟩ : ∃ z, x - b = z + 1 := ⟨x - b - 1, by omega⟩
      have : x - (b + 1) = z := by omega
      rw [this, hz]
      simp
    · rw [if_neg c, if_neg (by simp; omega)]
theorem wr_in {f : Nat → Int32} {b : Nat} {l : List Nat} {i : Nat} (h : i < l.length) : wr f b l (b + i) = nI l[i] := by
  unfold wr
  rw [if_pos (by omega)]
  simp [h]
theorem wr_out {f : Nat → Int32} {b x : Nat} {l : List Nat} (h : x < b ∨ b + l.length ≤ x) : wr f b l x = f x := by
  unfold wr
  rw [if_neg (by omega)]
/-- a memory that differs from another one in the row q alone, where it is f -/
def Mto (μ μ' : Mem) (q : Nat) (f : Nat → Int32) : Prop := μ'.1 = μ.1 ∧ mA μ' q = f ∧ ∀ b, b ≠ q → mA μ' b = mA μ b
theorem Mto.rf {μ : Mem} {q : Nat} : Mto μ μ q (mA μ q) := ⟨rfl, rfl, fun _ _ => rfl⟩
theorem Mto.st {μ μ' : Mem} {q : Nat} {f : Nat → Int32} (h : Mto μ μ' q f) (k : Nat) (v : Int32) : Mto μ (stA μ' q k v) q (upd f k v) := by
  refine ⟨h.1, by rw [mA_upd, h.2.1], fun b hb => ?_⟩
  rw [← h.2.2 b hb]
  funext x
  simp [mA, stA, hb]
theorem Mto.int {μ μ' : Mem} {q : Nat} {f : Nat → Int32} (h : Mto μ μ' q f) (b k : Nat) : mI μ' b k = mI μ b k := by
  unfold mI; rw [h.1]
section RAW
variable {Λ : Lay} {μ : Mem} {a : Nat}
theorem raw_place (hN : lyN Λ (lyR Λ a 0) = 304) {k i : Nat} (hk : k < 12) (hi : i < 23) : sX5_place Λ μ a (nI k) (nI i) = some (mA μ (lyR Λ a 0) (16 + 24 * k + 1 + i)) := by
  unfold sX5_place
  rw [ix_ki, hN, gd_t (nI_in (by omega) (by omega)), nI_clamp (by omega)]
theorem raw_size (hN : lyN Λ (lyR Λ a 0) = 304) {k : Nat} (hk : k < 12) : sX5_size Λ μ a (nI k) = some (mA μ (lyR Λ a 0) (16 + 24 * k)) := by
  unfold sX5_size
  rw [ix_k, hN, gd_t (nI_in (by omega) (by omega)), nI_clamp (by omega)]
theorem raw_setPlace (hN : lyN Λ (lyR Λ a 0) = 304) {k i : Nat} (hk : k < 12) (hi : i < 23) (v : Int32) : sX5_setPlace Λ μ a (nI k) (nI i) v = some (stA μ (lyR Λ a 0) (16 + 24 * k + 1 + i) v) := by
  unfold sX5_setPlace
  simp only [bnd]
  rw [ix_ki, hN, gd_t (nI_in (by omega) (by omega)), nI_clamp (by omega)]
theorem raw_setSize (hN : lyN Λ (lyR Λ a 0) = 304) {k : Nat} (hk : k < 12) (v : Int32) : sX5_setSize Λ μ a (nI k) v = some (stA μ (lyR Λ a 0) (16 + 24 * k) v) := by
  unfold sX5_setSize
  simp only [bnd]
  rw [ix_k, hN, gd_t (nI_in (by omega) (by omega)), nI_clamp (by omega)]
/-- the row y is the row x, as far as both reach -/
def cpy (f g : Nat → Int32) (n : Nat) : Nat → Int32 := fun k => if k < n then f k else g k
theorem raw_copyL {x y : Nat} (hx : lyN Λ x = 304) (hy : lyN Λ y = 304) (hne : x ≠ y) : ∀ n k (μ1 : Mem), k ≤ 304 → 304 - k < n → Mto μ μ1 y (cpy (mA μ x) (mA μ y) k) → ∃ μ', lpX5_copyRow_2 Λ x y n μ1 (nI k) = some μ' ∧ Mto μ μ' y (cpy (mA μ x) (mA μ y) 304) := by
  intro n
  induction n with
  | zero => intro k μ1 hk hn; omega
  | succ n ih =>
    intro k μ1 hk hn h
    rw [lpX5_copyRow_2_s, show (304 : Int32) = nI 304 from rfl]
    by_cases e : k = 304
    · subst e
      rw [if_pos ((nI_leI (by omega) (by omega)).mpr (Nat.le_refl _))]
      exact ⟨μ1, rfl, h⟩
    · rw [if_neg (by rw [nI_leI (by omega) (by omega)]; omega), hx, hy, gd_t (nI_in (by omega) (by omega)), gd_t (nI_in (by omega) (by omega)), nI_clamp (by omega)]
      simp only [bnd]
      rw [nI_1, h.2.2 x hne]
      refine ih (k + 1) _ (by omega) (by omega) ?_
      have := h.st k (mA μ x k)
      have e2 : upd (cpy (mA μ x) (mA μ y) k) k (mA μ x k) = cpy (mA μ x) (mA μ y) (k + 1) := by
        funext z
        unfold upd cpy
        by_cases q : z = k
        · subst q; simp
        · rw [if_neg q]
          have : (z < k + 1) = (z < k) := by apply propext; omega
          simp only [this]
      rw [e2] at this
      exact this
theorem raw_copy {x y : Nat} (hx : lyN Λ x = 304) (hy : lyN Λ y = 304) (hne : x ≠ y) : ∃ μ', sX5_copyRow Λ μ x y = some μ' ∧ Mto μ μ' y (cpy (mA μ x) (mA μ y) 304) := by
  unfold sX5_copyRow
  rw [nI_lit0]
  refine raw_copyL hx hy hne fuel 0 μ (by omega) (by unfold fuel; omega) ?_
  have : cpy (mA μ x) (mA μ y) 0 = mA μ y := by funext z; unfold cpy; simp
  rw [this]
  exact Mto.rf
theorem NowIs.cg {μ μ' : Mem} {q q' : Nat} {w : List Nat} {sl : Nat → List Nat} {j c t : Int32} (N : NowIs Λ μ q w sl j c t) (hN : lyN Λ q' = 304) (hw : w.length ≤ 12) (hs : ∀ k, k < 12 → (sl k).length ≤ 23) (h : ∀ x, x < 304 → mA μ' q' x = mA μ q x) : NowIs Λ μ' q' w sl j c t :=
  ⟨hN, by rw [h _ (by omega)]; exact N.2.1, by rw [h _ (by omega)]; exact N.2.2.1, by rw [h _ (by omega)]; exact N.2.2.2.1, by rw [h _ (by omega)]; exact N.2.2.2.2.1, fun b hb => by rw [h _ (by omega)]; exact N.2.2.2.2.2.1 b hb, fun k hk => ⟨by rw [h _ (by omega)]; exact (N.2.2.2.2.2.2 k hk).1, fun i hi => by have := hs k hk; rw [h _ (by omega)]; exact (N.2.2.2.2.2.2 k hk).2 i hi⟩⟩
end RAW
section MDC
variable {Λ : Lay} {μ : Mem} {a : Nat} {w : List Nat} {sl : Nat → List Nat} {j c t : Int32}
def slUp (sl : Nat → List Nat) (k : Nat) (l : List Nat) : Nat → List Nat := fun i => if i = k then l else sl i
theorem wr_take_s {f : Nat → Int32} {b : Nat} {l : List Nat} {i : Nat} (hi : i < l.length) : upd (wr f b (l.take i)) (b + i) (nI l[i]) = wr f b (l.take (i + 1)) := by
  have e : (l.take i).length = i := by simp; omega
  have := wr_snoc f b (l.take i) l[i]
  rw [e] at this
  rw [this]
  simp
/-- the third loop of turnTo: what is made is put back -/
theorem md_turn3 (P : MdApart Λ a) {k : Nat} (hk : k < 12) (T : List Nat) (hT : T.length ≤ 23) {f : Nat → Int32} (hm : ∀ (i : Nat) (hi : i < T.length), mA μ (lyR Λ a 11) i = nI T[i]) : ∀ n i (μ1 : Mem), i ≤ T.length → T.length - i < n → Mto μ μ1 (lyR Λ a 0) (wr f (16 + 24 * k + 1) (T.take i)) → ∃ μ', lpX5_turnTo_87 Λ a (nI k) (nI T.length) n μ1 (nI i) = some μ' ∧ Mto μ μ' (lyR Λ a 0) (wr f (16 + 24 * k + 1) T) := by
  have hN : lyN Λ (lyR Λ a 0) = 304 := P.2.1 0 (by omega)
  have hne : lyR Λ a 11 ≠ lyR Λ a 0 := fun q => by have := P.1 11 0 (by omega) (by omega) q; omega
  intro n
  induction n with
  | zero => intro i μ1 hi hn; omega
  | succ n ih =>
    intro i μ1 hi hn h
    rw [lpX5_turnTo_87_s]
    by_cases e : i = T.length
    · subst e
      rw [if_pos ((nI_leI (by omega) (by omega)).mpr (Nat.le_refl _))]
      rw [List.take_length] at h
      exact ⟨μ1, rfl, h⟩
    · have hi' : i < T.length := by omega
      rw [if_neg (by rw [nI_leI (by omega) (by omega)]; omega), P.2.2.2.1, gd_t (nI_in (by omega) (by omega)), nI_clamp (by omega), h.2.2 _ hne, hm i hi', raw_setPlace hN hk (by omega), Option.bind_some]
      simp only [bnd]
      rw [nI_1]
      refine ih (i + 1) _ (by omega) (by omega) ?_
      rw [← wr_take_s hi']
      exact h.st _ _
/-- made holds T so far, and nothing else moved -/
def Made (Λ : Lay) (a : Nat) (μ μ1 : Mem) (T : List Nat) : Prop := ∃ f, Mto μ μ1 (lyR Λ a 11) f ∧ ∀ (i : Nat) (hi : i < T.length), f i = nI T[i]
theorem made_s (P : MdApart Λ a) {μ1 : Mem} {T : List Nat} (h : Made Λ a μ μ1 T) (y : Nat) : Made Λ a μ (stA μ1 (lyR Λ a 11) T.length (nI y)) (T ++ [y]) := by
  obtain ⟨f, h1, h2⟩ := h
  refine ⟨_, h1.st _ _, fun i hi => ?_⟩
  unfold upd
  simp at hi
  by_cases e : i = T.length
  · subst e; simp
  · rw [if_neg e, h2 i (by omega), List.getElem_append_left]
theorem md_turn2 (P : MdApart Λ a) (M : NowIs Λ μ (lyR Λ a 0) w sl j c t) (S : SlOK w sl) {k f : Nat} (hk : k < 12) (hf : f < (sl k).length) : ∀ n i (μ1 : Mem) (T : List Nat), 1 ≤ i → i ≤ f + 1 → f + 1 - i < n → Made Λ a μ μ1 T → T.length + (f + 1 - i) ≤ 23 → ∃ μ', lpX5_turnTo_55 Λ a (nI k) (nI f) n μ1 (nI T.length) (nI i) = some μ' ∧ μ'.1 = μ.1 ∧ mA μ' (lyR Λ a 0) = wr (mA μ (lyR Λ a 0)) (16 + 24 * k + 1) (T ++ ((sl k).take (f + 1)).drop i) ∧ ∀ b, b ≠ lyR Λ a 0 → b ≠ lyR Λ a 11 → mA μ' b = mA μ b := by
  have hN : lyN Λ (lyR Λ a 0) = 304 := P.2.1 0 (by omega)
  have hne : lyR Λ a 11 ≠ lyR Λ a 0 := fun q => by have := P.1 11 0 (by omega) (by omega) q; omega
  have h23 := S.2.2.1 k hk
  intro n
  induction n with
  | zero => intro i μ1 T h1 h2 hn; omega
  | succ n ih =>
    intro i μ1 T h1 h2 hn hM hlen
    rw [lpX5_turnTo_55_s]
    obtain ⟨g, hg1, hg2⟩ := id hM
    by_cases e : i = f + 1
    · subst e
      rw [if_pos ((nI_ltI (by omega) (by omega)).mpr (by omega)), nI_lit0]
      obtain ⟨μ', q1, q2⟩ := md_turn3 (μ := μ1) P hk T (by omega) (f := mA μ1 (lyR Λ a 0)) (fun i hi => by rw [hg1.2.1]; exact hg2 i hi) fuel 0 μ1 (by omega) (by unfold fuel; omega) (by rw [List.take_zero, wr_nil]; exact Mto.rf)
      refine ⟨μ', q1, q2.1.trans hg1.1, ?_, fun b hb1 hb2 => (q2.2.2 b hb1).trans (hg1.2.2 b hb2)⟩
      have : ((sl k).take (f + 1)).drop (f + 1) = [] := by simp
      rw [q2.2.1, hg1.2.2 _ hne.symm, this, List.append_nil]
    · have hi' : i < (sl k).length := by omega
      have hpl : mA μ1 (lyR Λ a 0) (16 + 24 * k + 1 + i) = nI (sl k)[i] := by rw [hg1.2.2 _ hne.symm]; exact (M.2.2.2.2.2.2 k hk).2 i hi'
      rw [if_neg (by rw [nI_ltI (by omega) (by omega)]; omega), raw_place hN hk (by omega), Option.bind_some, hpl, P.2.2.2.1, gd_t (nI_in (by omega) (by omega)), nI_clamp (by omega)]
      simp only [bnd]
      rw [nI_1, nI_1]
      have := made_s P hM (sl k)[i]
      have el : (T ++ [(sl k)[i]]).length = T.length + 1 := by simp
      obtain ⟨μ', q1, q2, q3, q4⟩ := ih (i + 1) _ (T ++ [(sl k)[i]]) (by omega) (by omega) (by omega) this (by rw [el]; omega)
      rw [el] at q1
      refine ⟨μ', q1, q2, ?_, q4⟩
      rw [q3]
      congr 1
      have hd : ((sl k).take (f + 1)).drop i = (sl k)[i] :: ((sl k).take (f + 1)).drop (i + 1) := by
        rw [List.drop_eq_getElem_cons (by simp; omega)]
        simp
      rw [hd]; simp
theorem md_turn1 (P : MdApart Λ a) (M : NowIs Λ μ (lyR Λ a 0) w sl j c t) (S : SlOK w sl) {k f : Nat} (hk : k < 12) (hf : f < (sl k).length) : ∀ n i (μ1 : Mem), f ≤ i → i ≤ (sl k).length → (sl k).length - i < n → Made Λ a μ μ1 (((sl k).drop f).take (i - f)) → ∃ μ', lpX5_turnTo_19 Λ a (nI k) (nI f) n μ1 (nI (i - f)) (nI i) = some μ' ∧ μ'.1 = μ.1 ∧ mA μ' (lyR Λ a 0) = wr (mA μ (lyR Λ a 0)) (16 + 24 * k + 1) ((sl k).drop f ++ ((sl k).take (f + 1)).drop 1) ∧ ∀ b, b ≠ lyR Λ a 0 → b ≠ lyR Λ a 11 → mA μ' b = mA μ b := by
  have hN : lyN Λ (lyR Λ a 0) = 304 := P.2.1 0 (by omega)
  have hne : lyR Λ a 11 ≠ lyR Λ a 0 := fun q => by have := P.1 11 0 (by omega) (by omega) q; omega
  have h23 := S.2.2.1 k hk
  intro n
  induction n with
  | zero => intro i μ1 h1 h2 hn; omega
  | succ n ih =>
    intro i μ1 h1 h2 hn hM
    obtain ⟨g, hg1, hg2⟩ := id hM
    have hsz : mA μ1 (lyR Λ a 0) (16 + 24 * k) = nI (sl k).length := by rw [hg1.2.2 _ hne.symm]; exact (M.2.2.2.2.2.2 k hk).1
    rw [lpX5_turnTo_19_s, raw_size hN hk, Option.bind_some, hsz]
    by_cases e : i = (sl k).length
    · have hfull : ((sl k).drop f).take (i - f) = (sl k).drop f := List.take_of_length_le (by simp; omega)
      rw [if_pos ((nI_leI (by omega) (by omega)).mpr (by omega)), nI_lit1]
      rw [hfull] at hM
      have hl : ((sl k).drop f).length = i - f := by simp; omega
      rw [← hl]
      exact md_turn2 P M S hk hf fuel 1 μ1 _ (by omega) (by omega) (by unfold fuel; omega) hM (by rw [hl]; omega)
    · have hi' : i < (sl k).length := by omega
      have hpl : mA μ1 (lyR Λ a 0) (16 + 24 * k + 1 + i) = nI (sl k)[i] := by rw [hg1.2.2 _ hne.symm]; exact (M.2.2.2.2.2.2 k hk).2 i hi'
      rw [if_neg (by rw [nI_leI (by omega) (by omega)]; omega), raw_place hN hk (by omega), Option.bind_some, hpl, P.2.2.2.1, gd_t (nI_in (by omega) (by omega)), nI_clamp (by omega)]
      simp only [bnd]
      rw [nI_1, nI_1]
      have hl : (((sl k).drop f).take (i - f)).length = i - f := by simp; omega
      have hM2 := made_s P hM (sl k)[i]
      rw [hl] at hM2
      have hT : ((sl k).drop f).take (i - f) ++ [(sl k)[i]] = ((sl k).drop f).take (i + 1 - f) := by
        rw [show i + 1 - f = i - f + 1 by omega]
        have : (sl k)[i] = ((sl k).drop f)[i - f]'(by simp; omega) := by
          rw [List.getElem_drop]
          congr 1
          omega
        have aux : ∀ (D : List Nat) (n : Nat) (h : n < D.length), D.take n ++ [D[n]] = D.take (n + 1) := fun D n h => by simp
        rw [this]
        exact aux _ _ _
      rw [hT] at hM2
      rw [show i - f + 1 = i + 1 - f by omega]
      exact ih (i + 1) _ (by omega) (by omega) (by omega) hM2
theorem now_slot {μ μ' : Mem} {q : Nat} (M : NowIs Λ μ q w sl j c t) (hw : w.length ≤ 12) (hs : ∀ i, i < 12 → (sl i).length ≤ 23) {k : Nat} (hk : k < 12) (T : List Nat) (hT : T.length ≤ 23) (hsz : mA μ' q (16 + 24 * k) = nI T.length) (hin : ∀ (i : Nat) (hi : i < T.length), mA μ' q (16 + 24 * k + 1 + i) = nI T[i]) (hout : ∀ x, x < 304 → (x < 16 + 24 * k ∨ 16 + 24 * k + 24 ≤ x) → mA μ' q x = mA μ q x) : NowIs Λ μ' q w (slUp sl k T) j c t := by
  refine ⟨M.1, by rw [hout _ (by omega) (by omega)]; exact M.2.1, by rw [hout _ (by omega) (by omega)]; exact M.2.2.1, by rw [hout _ (by omega) (by omega)]; exact M.2.2.2.1, by rw [hout _ (by omega) (by omega)]; exact M.2.2.2.2.1, fun b hb => by rw [hout _ (by omega) (by omega)]; exact M.2.2.2.2.2.1 b hb, fun i hi => ?_⟩
  unfold slUp
  by_cases e : i = k
  · subst e
    simp only [if_pos]
    exact ⟨hsz, hin⟩
  · simp only [if_neg e]
    have := hs i hi
    exact ⟨by rw [hout _ (by omega) (by omega)]; exact (M.2.2.2.2.2.2 i hi).1, fun x hx => by rw [hout _ (by omega) (by omega)]; exact (M.2.2.2.2.2.2 i hi).2 x hx⟩
/-- turnTo, whole -/
theorem md_turnTo (P : MdApart Λ a) (M : NowIs Λ μ (lyR Λ a 0) w sl j c t) (S : SlOK w sl) {k b : Nat} (hk : k < 12) (hb : b ∈ sl k) : ∃ μ', sX5_turnTo Λ μ a (nI b) = some μ' ∧ μ'.1 = μ.1 ∧ NowIs Λ μ' (lyR Λ a 0) w (slUp sl k (turnL (sl k) b)) j c t ∧ ∀ x, x ≠ lyR Λ a 0 → x ≠ lyR Λ a 11 → mA μ' x = mA μ x := by
  have hf := fi_lt hb
  have h23 := S.2.2.1 k hk
  unfold sX5_turnTo
  rw [md_round M S hk hb, Option.bind_some, md_firstIn M S hk (sl_lt31 S hk b hb), Option.bind_some, if_pos hb, nI_lit0]
  obtain ⟨μ', q1, q2, q3, q4⟩ := md_turn1 P M S hk hf fuel (fi (sl k) b) μ (by omega) (by omega) (by unfold fuel; omega) (by rw [Nat.sub_self, List.take_zero]; exact ⟨_, Mto.rf, fun i hi => by simp at hi⟩)
  rw [Nat.sub_self] at q1
  refine ⟨μ', q1, q2, ?_, q4⟩
  have hl : (turnL (sl k) b).length = (sl k).length := by unfold turnL; simp; omega
  refine now_slot M S.1 S.2.2.1 hk _ (by rw [hl]; omega) ?_ (fun i hi => ?_) (fun x hx ho => ?_)
  · rw [q3, wr_out (by omega), hl]; exact (M.2.2.2.2.2.2 k hk).1
  · rw [q3]; exact wr_in hi
  · rw [q3, wr_out]
    rcases ho with ho | ho
    · omega
    · right
      have : ((sl k).drop (fi (sl k) b) ++ ((sl k).take (fi (sl k) b + 1)).drop 1).length = (sl k).length := hl
      omega
end MDC
