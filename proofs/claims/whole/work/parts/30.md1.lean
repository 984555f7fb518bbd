/-! THE REFERENCE: what its reading functions answer, said of lists. -/
def NowIs (Λ : Lay) (μ : Mem) (q : Nat) (w : List Nat) (sl : Nat → List Nat) (j c t : Int32) : Prop :=
  lyN Λ q = 304 ∧ mA μ q 0 = nI w.length ∧ mA μ q 1 = j ∧ mA μ q 2 = c ∧ mA μ q 3 = t ∧ (∀ b, b < w.length → mA μ q (4 + b) = nI (wt w b)) ∧ ∀ k, k < 12 → mA μ q (16 + 24 * k) = nI (sl k).length ∧ ∀ (i : Nat) (hi : i < (sl k).length), mA μ q (16 + 24 * k + 1 + i) = nI (sl k)[i]
def SlOK (w : List Nat) (sl : Nat → List Nat) : Prop :=
  w.length ≤ 12 ∧ (∀ x ∈ w, x ≤ 99) ∧ (∀ k, k < 12 → (sl k).length ≤ 23) ∧ (∀ k, k < 12 → ∀ x ∈ sl k, x < w.length) ∧ (∀ k k' b, k < 12 → k' < 12 → b ∈ sl k → b ∈ sl k' → k = k') ∧ ∀ b, b < w.length → ∃ k, k < 12 ∧ b ∈ sl k
theorem nI_mul (a b : Nat) : nI a * nI b = nI (a * b) := pk_mul a b
theorem ix_k (k : Nat) : (16 : Int32) + ((24 : Int32) * nI k) = nI (16 + 24 * k) := by
  rw [show (24 : Int32) = nI 24 from rfl, nI_mul, show (16 : Int32) = nI 16 from rfl, nI_add]
theorem ix_ki (k i : Nat) : (((16 : Int32) + ((24 : Int32) * nI k)) + (1 : Int32)) + nI i = nI (16 + 24 * k + 1 + i) := by
  rw [ix_k, nI_1, nI_add]
theorem ix_w (b : Nat) : (4 : Int32) + nI b = nI (4 + b) := by
  rw [show (4 : Int32) = nI 4 from rfl, nI_add]
section MD
variable {Λ : Lay} {μ : Mem} {a : Nat} {w : List Nat} {sl : Nat → List Nat} {j c t : Int32}
theorem md_size (M : NowIs Λ μ (lyR Λ a 0) w sl j c t) {k : Nat} (hk : k < 12) : sX5_size Λ μ a (nI k) = some (nI (sl k).length) := by
  unfold sX5_size
  rw [ix_k, M.1, gd_t (nI_in (by omega) (by omega)), nI_clamp (by omega), (M.2.2.2.2.2.2 k hk).1]
theorem md_place (M : NowIs Λ μ (lyR Λ a 0) w sl j c t) (S : SlOK w sl) {k i : Nat} (hk : k < 12) (hi : i < (sl k).length) : sX5_place Λ μ a (nI k) (nI i) = some (nI (sl k)[i]) := by
  have := S.2.2.1 k hk
  unfold sX5_place
  rw [ix_ki, M.1, gd_t (nI_in (by omega) (by omega)), nI_clamp (by omega), (M.2.2.2.2.2.2 k hk).2 i hi]
theorem md_n (M : NowIs Λ μ (lyR Λ a 0) w sl j c t) {α : Type} (x : Option α) : gd (inb (0 : Int32) (lyN Λ (lyR Λ a 0))) x = x := by
  rw [M.1]
  exact gd_t (by decide)
theorem md_n0 (M : NowIs Λ μ (lyR Λ a 0) w sl j c t) : mA μ (lyR Λ a 0) (0 : Int32).toNatClampNeg = nI w.length := M.2.1
theorem sl_lt31 (S : SlOK w sl) {k : Nat} (hk : k < 12) : ∀ x ∈ sl k, x < 2 ^ 31 := fun x hx => by have := S.2.2.2.1 k hk x hx; have := S.1; omega
theorem md_firstL (M : NowIs Λ μ (lyR Λ a 0) w sl j c t) (S : SlOK w sl) {k b : Nat} (hk : k < 12) (hb : b < 2 ^ 31) : ∀ n i, i ≤ (sl k).length → (sl k).length - i < n → lpX5_firstIn_2 Λ μ a (nI k) (nI b) n (nI i) = some (if b ∈ (sl k).drop i then nI (i + fi ((sl k).drop i) b) else -1) := by
  have h23 := S.2.2.1 k hk
  intro n
  induction n with
  | zero => intro i hi hn; omega
  | succ n ih =>
    intro i hi hn
    rw [lpX5_firstIn_2_s, md_size M hk, Option.bind_some]
    by_cases e : i = (sl k).length
    · rw [if_pos ((nI_leI (by omega) (by omega)).mpr (by omega)), e]
      simp
    · have hi' : i < (sl k).length := by omega
      rw [if_neg (by rw [nI_leI (by omega) (by omega)]; omega), md_place M S hk hi', Option.bind_some, List.drop_eq_getElem_cons hi']
      have hx := sl_lt31 S hk _ (List.getElem_mem hi')
      by_cases d : (sl k)[i] = b
      · rw [if_pos (by rw [d])]
        simp [d, fi]
      · rw [if_neg (by rw [nI_eq hx hb]; exact d)]
        simp only [bnd]
        rw [nI_1, ih (i + 1) (by omega) (by omega)]
        have d' : ¬ b = (sl k)[i] := fun q => d q.symm
        simp only [List.mem_cons, d', false_or, fi, if_neg d]
        rw [show i + 1 + fi (List.drop (i + 1) (sl k)) b = i + (fi (List.drop (i + 1) (sl k)) b + 1) by omega]
theorem md_firstIn (M : NowIs Λ μ (lyR Λ a 0) w sl j c t) (S : SlOK w sl) {k b : Nat} (hk : k < 12) (hb : b < 2 ^ 31) : sX5_firstIn Λ μ a (nI k) (nI b) = some (if b ∈ sl k then nI (fi (sl k) b) else -1) := by
  have h23 := S.2.2.1 k hk
  unfold sX5_firstIn
  rw [nI_lit0, md_firstL M S hk hb fuel 0 (by omega) (by unfold fuel; omega)]
  simp
theorem md_roundL (M : NowIs Λ μ (lyR Λ a 0) w sl j c t) (S : SlOK w sl) {k b : Nat} (hk : k < 12) (hb : b ∈ sl k) : ∀ n i, i ≤ k → k - i < n → lpX5_roundOf_2 Λ μ a (nI b) n (nI i) = some (nI k) := by
  have hb31 := sl_lt31 S hk b hb
  have h23 := S.2.2.1 k hk
  intro n
  induction n with
  | zero => intro i hi hn; omega
  | succ n ih =>
    intro i hi hn
    rw [lpX5_roundOf_2_s, md_firstIn M S (by omega) hb31, Option.bind_some]
    by_cases e : i = k
    · subst e
      have := fi_lt hb
      rw [if_pos hb, if_pos (nI_pos' (by omega))]
    · have hn1 : b ∉ sl i := fun q => e (S.2.2.2.2.1 i k b (by omega) hk q hb)
      rw [if_neg hn1, if_neg (by decide)]
      simp only [bnd]
      rw [nI_1]
      exact ih (i + 1) (by omega) (by omega)
theorem md_round (M : NowIs Λ μ (lyR Λ a 0) w sl j c t) (S : SlOK w sl) {k b : Nat} (hk : k < 12) (hb : b ∈ sl k) : sX5_roundOf Λ μ a (nI b) = some (nI k) :=
  md_roundL M S hk hb fuel 0 (by omega) (by unfold fuel; omega)
theorem md_first (M : NowIs Λ μ (lyR Λ a 0) w sl j c t) (S : SlOK w sl) {k b : Nat} (hk : k < 12) (hb : b ∈ sl k) : sX5_first Λ μ a (nI b) = some (nI (fi (sl k) b)) := by
  unfold sX5_first
  rw [md_round M S hk hb, Option.bind_some, md_firstIn M S hk (sl_lt31 S hk b hb), Option.bind_some, if_pos hb]
theorem md_lastL (M : NowIs Λ μ (lyR Λ a 0) w sl j c t) (S : SlOK w sl) {k b : Nat} (hk : k < 12) (hb : b ∈ sl k) : ∀ n i, li (sl k) b ≤ i → i < (sl k).length → i - li (sl k) b < n → lpX5_last_14 Λ μ a (nI b) (nI k) n (nI i) = some (nI (li (sl k) b)) := by
  have hb31 := sl_lt31 S hk b hb
  have h23 := S.2.2.1 k hk
  intro n
  induction n with
  | zero => intro i hi hn; omega
  | succ n ih =>
    intro i h1 h2 hn
    rw [lpX5_last_14_s, md_place M S hk h2, Option.bind_some]
    by_cases e : (sl k)[i] = b
    · have := li_ge_of h2 e
      rw [if_pos (by rw [e]), show i = li (sl k) b by omega]
    · have hne : i ≠ li (sl k) b := fun q => e (by
        have := li_get hb
        simp only [← q] at this
        exact this)
      rw [if_neg (by rw [nI_eq (sl_lt31 S hk _ (List.getElem_mem h2)) hb31]; exact e)]
      simp only [bnd]
      obtain ⟨i', rfl⟩ : ∃ i', i = i' + 1 := ⟨i - 1, by omega⟩
      rw [nI_subI, nI_pred]
      exact ih i' (by omega) (by omega) (by omega)
theorem md_last (M : NowIs Λ μ (lyR Λ a 0) w sl j c t) (S : SlOK w sl) {k b : Nat} (hk : k < 12) (hb : b ∈ sl k) : sX5_last Λ μ a (nI b) = some (nI (li (sl k) b)) := by
  have h1 := li_lt hb
  have h23 := S.2.2.1 k hk
  unfold sX5_last
  rw [md_round M S hk hb, Option.bind_some, md_size M hk, Option.bind_some]
  simp only [bnd]
  obtain ⟨m, hm⟩ : ∃ m, (sl k).length = m + 1 := ⟨(sl k).length - 1, by omega⟩
  rw [hm, nI_pred]
  exact md_lastL M S hk hb fuel m (by omega) (by omega) (by unfold fuel; omega)
theorem md_root (M : NowIs Λ μ (lyR Λ a 0) w sl j c t) (S : SlOK w sl) {k b r : Nat} {l : List Nat} (hk : k < 12) (hb : b ∈ sl k) (hr : sl k = r :: l) : sX5_root Λ μ a (nI b) = some (nI r) := by
  unfold sX5_root
  rw [md_round M S hk hb, Option.bind_some, nI_lit0, md_place M S hk (by rw [hr]; simp), Option.bind_some]
  simp [hr]
theorem md_one (M : NowIs Λ μ (lyR Λ a 0) w sl j c t) (S : SlOK w sl) {k b d : Nat} (hk : k < 12) (hb : b ∈ sl k) (hd : d < w.length) : sX5_areOne Λ μ a (nI b) (nI d) = some (if d ∈ sl k then 1 else 0) := by
  obtain ⟨k', hk', hd'⟩ := S.2.2.2.2.2 d hd
  unfold sX5_areOne
  rw [md_round M S hk hb, Option.bind_some, md_round M S hk' hd', Option.bind_some]
  by_cases e : k = k'
  · subst e
    rw [if_pos rfl, if_pos hd']
  · rw [if_neg (by rw [nI_eq (by omega) (by omega)]; exact e), if_neg (fun q => e (S.2.2.2.2.1 k k' d hk hk' q hd'))]
theorem md_weight (M : NowIs Λ μ (lyR Λ a 0) w sl j c t) (hn : w.length ≤ 12) {b : Nat} (hb : b < w.length) : sX5_weight Λ μ a (nI b) = some (nI (wt w b)) := by
  unfold sX5_weight
  rw [ix_w, M.1, gd_t (nI_in (by omega) (by omega)), nI_clamp (by omega), M.2.2.2.2.2.1 b hb]
theorem md_below (M : NowIs Λ μ (lyR Λ a 0) w sl j c t) (S : SlOK w sl) {k b d : Nat} (hk : k < 12) (hb : b ∈ sl k) (hd : d < w.length) : sX5_below Λ μ a (nI b) (nI d) = some (if blw (sl k) b d then 1 else 0) := by
  have h23 := S.2.2.1 k hk
  unfold sX5_below
  rw [md_one M S hk hb hd, Option.bind_some]
  by_cases e : d ∈ sl k
  · have f1 := fi_lt hb
    have f2 := fi_lt e
    have f3 := li_lt hb
    have f4 := li_lt e
    rw [if_pos e, if_neg (by decide), md_first M S hk hb, Option.bind_some, md_first M S hk e, Option.bind_some]
    unfold blw
    by_cases x : fi (sl k) b < fi (sl k) d
    · rw [if_pos ((nI_ltI (by omega) (by omega)).mpr x), if_neg]
      rw [decide_eq_true_eq]; omega
    · rw [if_neg (by rw [nI_ltI (by omega) (by omega)]; exact x), md_last M S hk hb, Option.bind_some, md_last M S hk e, Option.bind_some]
      by_cases y : li (sl k) d < li (sl k) b
      · rw [if_pos ((nI_ltI (by omega) (by omega)).mpr y), if_neg]
        rw [decide_eq_true_eq]; omega
      · rw [if_neg (by rw [nI_ltI (by omega) (by omega)]; exact y), if_pos]
        rw [decide_eq_true_eq]
        exact ⟨hb, by omega, by omega⟩
  · rw [if_neg e, if_pos rfl, if_neg]
    intro q
    exact e (blw_mem q).2
theorem md_belowA (M : NowIs Λ μ (lyR Λ a 0) w sl j c t) (S : SlOK w sl) {k b d : Nat} (hk : k < 12) (hb : b ∈ sl k) (hd : d < w.length) : sX5_below Λ μ a (nI d) (nI b) = some (if blw (sl k) d b then 1 else 0) := by
  have hbn := S.2.2.2.1 k hk b hb
  obtain ⟨k', hk', hd'⟩ := S.2.2.2.2.2 d hd
  rw [md_below M S hk' hd' hbn]
  by_cases e : k = k'
  · rw [e]
  · rw [if_neg (fun q => e (S.2.2.2.2.1 k k' b hk hk' hb (blw_mem q).2)), if_neg (fun q => e (S.2.2.2.2.1 k k' d hk hk' (blw_mem q).1 hd'))]
theorem md_depthL (M : NowIs Λ μ (lyR Λ a 0) w sl j c t) (S : SlOK w sl) {k b : Nat} (hk : k < 12) (hb : b ∈ sl k) : ∀ n i t, i ≤ w.length → w.length - i < n → lpX5_depth_4 Λ μ a (nI b) n (nI t) (nI i) = some (nI (itr (fun i t => t + if (!decide (i = b) && blw (sl k) b i) = true then 1 else 0) i (w.length - i) t)) := by
  have hn12 := S.1
  have hbn := S.2.2.2.1 k hk b hb
  intro n
  induction n with
  | zero => intro i t hi hn; omega
  | succ n ih =>
    intro i t hi hn
    rw [lpX5_depth_4_s, md_n M, md_n0 M]
    by_cases e : i = w.length
    · subst e
      rw [if_pos ((nI_leI (by omega) (by omega)).mpr (Nat.le_refl _)), Nat.sub_self]; rfl
    · rw [if_neg (by rw [nI_leI (by omega) (by omega)]; omega)]
      rw [show w.length - i = (w.length - (i + 1)) + 1 by omega, itr]
      by_cases x : i = b
      · rw [if_pos (by rw [x])]
        simp only [bnd]
        rw [show nI t + 0 = nI t from by rw [nI_lit0, nI_add]; rfl, nI_1, ih (i + 1) _ (by omega) (by omega)]
        simp [x]
      · rw [if_neg (by rw [nI_eq (by omega) (by omega)]; exact x), md_below M S hk hb (by omega), Option.bind_some]
        by_cases y : blw (sl k) b i = true
        · rw [if_pos y, if_neg (by decide)]
          simp only [bnd]
          rw [nI_1, nI_1, ih (i + 1) _ (by omega) (by omega)]
          simp [x, y]
        · rw [if_neg y, if_pos rfl]
          simp only [bnd]
          rw [show nI t + 0 = nI t from by rw [nI_lit0, nI_add]; rfl, nI_1, ih (i + 1) _ (by omega) (by omega)]
          simp [y]
theorem md_depth (M : NowIs Λ μ (lyR Λ a 0) w sl j c t) (S : SlOK w sl) {k b : Nat} (hk : k < 12) (hb : b ∈ sl k) : sX5_depth Λ μ a (nI b) = some (nI (dep (sl k) w.length b)) := by
  have := S.1
  unfold sX5_depth
  rw [nI_lit0, md_depthL M S hk hb fuel 0 0 (by omega) (by unfold fuel; omega), Nat.sub_zero, itr_sum0]; rfl
theorem md_cntL (M : NowIs Λ μ (lyR Λ a 0) w sl j c t) (S : SlOK w sl) {k b : Nat} (hk : k < 12) (hb : b ∈ sl k) : ∀ n i t, i ≤ w.length → w.length - i < n → lpX5_countBelow_4 Λ μ a (nI b) n (nI t) (nI i) = some (nI (itr (fun i t => t + if blw (sl k) i b = true then 1 else 0) i (w.length - i) t)) := by
  have hn12 := S.1
  intro n
  induction n with
  | zero => intro i t hi hn; omega
  | succ n ih =>
    intro i t hi hn
    rw [lpX5_countBelow_4_s, md_n M, md_n0 M]
    by_cases e : i = w.length
    · subst e
      rw [if_pos ((nI_leI (by omega) (by omega)).mpr (Nat.le_refl _)), Nat.sub_self]; rfl
    · rw [if_neg (by rw [nI_leI (by omega) (by omega)]; omega), md_belowA M S hk hb (by omega), Option.bind_some]
      rw [show w.length - i = (w.length - (i + 1)) + 1 by omega, itr]
      by_cases y : blw (sl k) i b = true
      · rw [if_pos y, if_neg (by decide)]
        simp only [bnd]
        rw [nI_1, nI_1, ih (i + 1) _ (by omega) (by omega), if_pos y]
      · rw [if_neg y, if_pos rfl]
        simp only [bnd]
        rw [show nI t + 0 = nI t from by rw [nI_lit0, nI_add]; rfl, nI_1, ih (i + 1) _ (by omega) (by omega), if_neg y]
        rfl
theorem md_cnt (M : NowIs Λ μ (lyR Λ a 0) w sl j c t) (S : SlOK w sl) {k b : Nat} (hk : k < 12) (hb : b ∈ sl k) : sX5_countBelow Λ μ a (nI b) = some (nI (cntTo w.length (fun i => blw (sl k) i b))) := by
  have := S.1
  unfold sX5_countBelow
  rw [nI_lit0, md_cntL M S hk hb fuel 0 0 (by omega) (by unfold fuel; omega), Nat.sub_zero, itr_sum0]; rfl
theorem md_sumL (M : NowIs Λ μ (lyR Λ a 0) w sl j c t) (S : SlOK w sl) {k b : Nat} (hk : k < 12) (hb : b ∈ sl k) : ∀ n i t, i ≤ w.length → w.length - i < n → lpX5_sumBelow_4 Λ μ a (nI b) n (nI t) (nI i) = some (nI (itr (fun i t => t + if blw (sl k) i b = true then wt w i else 0) i (w.length - i) t)) := by
  have hn12 := S.1
  intro n
  induction n with
  | zero => intro i t hi hn; omega
  | succ n ih =>
    intro i t hi hn
    rw [lpX5_sumBelow_4_s, md_n M, md_n0 M]
    by_cases e : i = w.length
    · subst e
      rw [if_pos ((nI_leI (by omega) (by omega)).mpr (Nat.le_refl _)), Nat.sub_self]; rfl
    · rw [if_neg (by rw [nI_leI (by omega) (by omega)]; omega), md_belowA M S hk hb (by omega), Option.bind_some]
      rw [show w.length - i = (w.length - (i + 1)) + 1 by omega, itr]
      by_cases y : blw (sl k) i b = true
      · rw [if_pos y, if_neg (by decide), md_weight M hn12 (by omega), Option.bind_some]
        simp only [bnd]
        rw [nI_1, nI_add, ih (i + 1) _ (by omega) (by omega), if_pos y]
      · rw [if_neg y, if_pos rfl]
        simp only [bnd]
        rw [show nI t + 0 = nI t from by rw [nI_lit0, nI_add]; rfl, nI_1, ih (i + 1) _ (by omega) (by omega), if_neg y]
        rfl
/-- the weights of what is below b -/
def sumB (w : List Nat) (l : List Nat) (b : Nat) : Nat := sumTo w.length (fun i => if blw l i b = true then wt w i else 0)
theorem md_sum (M : NowIs Λ μ (lyR Λ a 0) w sl j c t) (S : SlOK w sl) {k b : Nat} (hk : k < 12) (hb : b ∈ sl k) : sX5_sumBelow Λ μ a (nI b) = some (nI (sumB w (sl k) b)) := by
  have := S.1
  unfold sX5_sumBelow
  rw [nI_lit0, md_sumL M S hk hb fuel 0 0 (by omega) (by unfold fuel; omega), Nat.sub_zero, itr_sum0]; rfl
theorem sumB_le (hn : w.length ≤ 12) (hw : ∀ x ∈ w, x ≤ 99) (l : List Nat) (b : Nat) : sumB w l b ≤ 1188 := by
  have h : sumB w l b ≤ w.length * 99 := sumTo_const (fun k hk => by
    split
    · exact wt_le hw k
    · omega)
  omega
/-- whether b and d stand side by side -/
def nbr (l : List Nat) (b d : Nat) : Bool := decide ((b, d) ∈ prs l)
theorem md_tiedL (M : NowIs Λ μ (lyR Λ a 0) w sl j c t) (S : SlOK w sl) {k b d : Nat} (hk : k < 12) (hb : b < 2 ^ 31) (hd : d < 2 ^ 31) : ∀ n i, i < (sl k).length → (sl k).length - i ≤ n → lpX5_isTied_9 Λ μ a (nI b) (nI d) (nI k) n (nI (i + 1)) = some (if (b, d) ∈ prs ((sl k).drop i) then 1 else 0) := by
  have h23 := S.2.2.1 k hk
  intro n
  induction n with
  | zero => intro i hi hn; omega
  | succ n ih =>
    intro i hi hn
    have hdr := List.drop_eq_getElem_cons hi
    rw [lpX5_isTied_9_s, md_size M hk, Option.bind_some]
    by_cases e : (sl k).length ≤ i + 1
    · rw [if_pos ((nI_leI (by omega) (by omega)).mpr e), hdr, List.drop_eq_nil_of_le e, if_neg (by simp [prs])]
    · have hi1 : i + 1 < (sl k).length := by omega
      have hdr1 := List.drop_eq_getElem_cons hi1
      have hp : prs ((sl k).drop i) = ((sl k)[i], (sl k)[i + 1]) :: prs ((sl k).drop (i + 1)) := by
        rw [hdr, hdr1]; rfl
      rw [if_neg (by rw [nI_leI (by omega) (by omega)]; exact e), nI_pred, md_place M S hk hi, Option.bind_some, hp]
      have x1 := sl_lt31 S hk _ (List.getElem_mem hi)
      have x2 := sl_lt31 S hk _ (List.getElem_mem hi1)
      by_cases y : (sl k)[i] = b
      · rw [if_pos (by rw [y]), md_place M S hk hi1, Option.bind_some]
        by_cases z : (sl k)[i + 1] = d
        · rw [if_pos (by rw [z]), if_pos (by simp [y, z])]
        · rw [if_neg (by rw [nI_eq x2 hd]; exact z)]
          simp only [bnd]
          rw [nI_1, ih (i + 1) hi1 (by omega)]
          have z' : ¬ d = (sl k)[i + 1] := fun q => z q.symm
          simp only [List.mem_cons, Prod.mk.injEq, z', and_false, false_or]
      · rw [if_neg (by rw [nI_eq x1 hb]; exact y)]
        simp only [bnd]
        rw [nI_1, ih (i + 1) hi1 (by omega)]
        have y' : ¬ b = (sl k)[i] := fun q => y q.symm
        simp only [List.mem_cons, Prod.mk.injEq, y', false_and, false_or]
theorem md_tied (M : NowIs Λ μ (lyR Λ a 0) w sl j c t) (S : SlOK w sl) {k b d : Nat} (hk : k < 12) (hb : b ∈ sl k) (hd : d < 2 ^ 31) : sX5_isTied Λ μ a (nI b) (nI d) = some (if nbr (sl k) b d then 1 else 0) := by
  have h23 := S.2.2.1 k hk
  unfold sX5_isTied
  rw [md_round M S hk hb, Option.bind_some, nI_lit1, md_tiedL M S hk (sl_lt31 S hk b hb) hd fuel 0 (List.length_pos_of_mem hb) (by unfold fuel; omega), List.drop_zero]
  unfold nbr
  simp
  rfl
theorem md_ropesL (M : NowIs Λ μ (lyR Λ a 0) w sl j c t) (S : SlOK w sl) {k b : Nat} (hk : k < 12) (hb : b ∈ sl k) : ∀ n i t, i ≤ w.length → w.length - i < n → lpX5_ropes_4 Λ μ a (nI b) n (nI t) (nI i) = some (nI (itr (fun i t => t + if nbr (sl k) b i = true then 1 else 0) i (w.length - i) t)) := by
  have hn12 := S.1
  intro n
  induction n with
  | zero => intro i t hi hn; omega
  | succ n ih =>
    intro i t hi hn
    rw [lpX5_ropes_4_s, md_n M, md_n0 M]
    by_cases e : i = w.length
    · subst e
      rw [if_pos ((nI_leI (by omega) (by omega)).mpr (Nat.le_refl _)), Nat.sub_self]; rfl
    · rw [if_neg (by rw [nI_leI (by omega) (by omega)]; omega), md_tied M S hk hb (by omega), Option.bind_some]
      rw [show w.length - i = (w.length - (i + 1)) + 1 by omega, itr]
      by_cases y : nbr (sl k) b i = true
      · rw [if_pos y, if_neg (by decide)]
        simp only [bnd]
        rw [nI_1, nI_1, ih (i + 1) _ (by omega) (by omega), if_pos y]
      · rw [if_neg y, if_pos rfl]
        simp only [bnd]
        rw [show nI t + 0 = nI t from by rw [nI_lit0, nI_add]; rfl, nI_1, ih (i + 1) _ (by omega) (by omega), if_neg y]
        rfl
theorem md_ropes (M : NowIs Λ μ (lyR Λ a 0) w sl j c t) (S : SlOK w sl) {k b : Nat} (hk : k < 12) (hb : b ∈ sl k) : sX5_ropes Λ μ a (nI b) = some (nI (cntTo w.length (nbr (sl k) b))) := by
  have := S.1
  unfold sX5_ropes
  rw [nI_lit0, md_ropesL M S hk hb fuel 0 0 (by omega) (by unfold fuel; omega), Nat.sub_zero, itr_sum0]; rfl
theorem md_above (M : NowIs Λ μ (lyR Λ a 0) w sl j c t) (S : SlOK w sl) {k b : Nat} (hk : k < 12) (hb : b ∈ sl k) : sX5_above Λ μ a (nI b) = some (if fi (sl k) b = 0 then -4 else nI (par (sl k) b)) := by
  have h1 := fi_lt hb
  have h23 := S.2.2.1 k hk
  unfold sX5_above
  rw [md_first M S hk hb, Option.bind_some]
  by_cases e : fi (sl k) b = 0
  · rw [if_pos (by rw [e]; rfl), if_pos e]
  · obtain ⟨m, hm⟩ : ∃ m, fi (sl k) b = m + 1 := ⟨fi (sl k) b - 1, by omega⟩
    rw [nI_lit0, if_neg (by rw [nI_eq (by omega) (by omega)]; exact e), if_neg e, md_round M S hk hb, Option.bind_some, hm, nI_pred, md_place M S hk (by omega), Option.bind_some]
    have h5 : m < (sl k).length := by omega
    have : par (sl k) b = (sl k)[m] := by unfold par; rw [hm]; simp [h5]
    rw [this]
theorem md_banksOf (M : NowIs Λ μ (lyR Λ a 0) w sl j c t) (S : SlOK w sl) {k : Nat} (hk : k < 12) : sX5_banksOf Λ μ a (nI k) = some (nI (((sl k).length + 1) / 2)) := by
  have h23 := S.2.2.1 k hk
  unfold sX5_banksOf
  rw [md_size M hk, Option.bind_some, nI_1, nI_lit2, pk_div (by omega) (by omega) (by omega)]
theorem md_climbL (M : NowIs Λ μ (lyR Λ a 0) w sl j c t) (S : SlOK w sl) {k : Nat} (hk : k < 12) (hT : Tour (sl k)) {m : Nat} (hm : m ≤ 12) : ∀ n i b, i ≤ m → m - i < n → b ∈ sl k → m - i ≤ dep (sl k) w.length b → lpX5_climb_5 Λ μ a (nI m) n (nI b) (nI i) = some (nI (anc (sl k) (m - i) b)) := by
  intro n
  induction n with
  | zero => intro i b hi hn; omega
  | succ n ih =>
    intro i b hi hn hb hd
    rw [lpX5_climb_5_s]
    by_cases e : i = m
    · subst e
      rw [if_pos ((nI_leI (by omega) (by omega)).mpr (Nat.le_refl _)), Nat.sub_self]; rfl
    · have hln := S.2.2.2.1 k hk
      have c0 : fi (sl k) b ≠ 0 := (dep_zero hT hln hb).mpr (by omega)
      have hp := dep_par hT hb c0 hln
      rw [if_neg (by rw [nI_leI (by omega) (by omega)]; omega), md_above M S hk hb, Option.bind_some, if_neg c0]
      simp only [bnd]
      rw [nI_1, ih (i + 1) _ (by omega) (by omega) (par_facts hT hb c0).1 (by omega)]
      rw [show m - i = (m - (i + 1)) + 1 by omega]
      rfl
theorem md_climb (M : NowIs Λ μ (lyR Λ a 0) w sl j c t) (S : SlOK w sl) {k b m : Nat} (hk : k < 12) (hT : Tour (sl k)) (hb : b ∈ sl k) (hd : m ≤ dep (sl k) w.length b) : sX5_climb Λ μ a (nI b) (nI m) = some (nI (anc (sl k) m b)) := by
  have := dep_lt (S.2.2.2.1 k hk) hb
  have := S.1
  unfold sX5_climb
  rw [nI_lit0, md_climbL M S hk hT (by omega) fuel 0 b (by omega) (by unfold fuel; omega) hb (by omega)]; rfl
theorem md_lower (M : NowIs Λ μ (lyR Λ a 0) w sl j c t) (S : SlOK w sl) {k b d : Nat} (hk : k < 12) (hb : b ∈ sl k) (hd : d ∈ sl k) : sX5_lower Λ μ a (nI b) (nI d) = some (if fi (sl k) b ≤ fi (sl k) d then nI d else nI b) := by
  have h1 := fi_lt hb
  have h2 := fi_lt hd
  have h23 := S.2.2.1 k hk
  unfold sX5_lower
  rw [md_first M S hk hb, Option.bind_some, md_first M S hk hd, Option.bind_some]
  by_cases e : fi (sl k) b ≤ fi (sl k) d
  · rw [if_pos ((nI_leI (by omega) (by omega)).mpr e), if_pos e]
  · rw [if_neg (by rw [nI_leI (by omega) (by omega)]; exact e), if_neg e]
end MD
