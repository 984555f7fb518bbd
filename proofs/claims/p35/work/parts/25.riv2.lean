/-! RIVERS: depths, what is below, what is reached. -/
section RIV2
variable {Λ : Lay} {μ : Mem} {a : Nat} {w p : List Nat} {rd : Nat → List Nat}
theorem rv_tour (O : RvOK w p rd) {r b : Nat} (hr : r < 12) (hb : b ∈ rd r) : Tour (rd r) ∧ ∃ t, rd r = r :: t := O.2.2.2.2.1 r hr (fun q => by rw [q] at hb; cases hb)
theorem rv_ltn (O : RvOK w p rd) {r b : Nat} (hr : r < 12) (hb : b ∈ rd r) : b < w.length := O.2.2.2.2.2.1 r hr b hb
theorem rv_root_mem (O : RvOK w p rd) {r b : Nat} (hr : r < 12) (hb : b ∈ rd r) : r ∈ rd r := by
  obtain ⟨-, t, e⟩ := rv_tour O hr hb
  rw [e]; simp
theorem pop_cnt {s n : Nat} (hn : n ≤ 12) (h : ∀ i, s.testBit i = true → i < n) : popN s = cntTo n (fun i => s.testBit i) := by
  unfold popN cntTo
  exact sumTo_ext hn (fun k h1 _ => by
    rw [if_neg]
    intro q
    have := h k q
    omega)
theorem aboveM_lt {l : List Nat} (hl : ∀ x ∈ l, x < 12) (b : Nat) : aboveM l b < 4096 := by
  unfold aboveM
  refine Nat.lt_of_le_of_lt Nat.and_le_left (msk_lt (fun x hx => hl x (List.mem_of_mem_take hx)))
theorem dep_pop {l : List Nat} {n b : Nat} (hn : n ≤ 12) (hl : ∀ x ∈ l, x < n) (hb : b ∈ l) : popN (aboveM l b) = dep l n b + 1 := by
  rw [pop_cnt hn (fun i q => by rw [aboveM_bit hb] at q; exact hl i (blw_mem q).2)]
  unfold dep cntTo
  rw [sumTo_pt (hl b hb)]
  dsimp only
  rw [if_pos (by rw [aboveM_bit hb, blw_rf hb]), Nat.add_comm]
  congr 1
  apply sumTo_congr
  intro k _
  simp only [aboveM_bit hb]
  by_cases c : k = b <;> simp [c]
theorem dep_lt {l : List Nat} {n b : Nat} (hl : ∀ x ∈ l, x < n) (hb : b ∈ l) : dep l n b < n := by
  have h0 := hl b hb
  have : dep l n b + 1 ≤ n := by
    unfold dep cntTo
    have e := sumTo_one h0 1
    rw [← e, ← sumTo_add]
    refine Nat.le_trans (sumTo_le (g := fun _ => 1) (fun k _ => ?_)) ?_
    · by_cases c : k = b <;> simp [c]
      split <;> omega
    · have := sumTo_const (n := n) (c := 1) (f := fun _ => 1) (fun _ _ => Nat.le_refl _)
      omega
  omega
theorem rv_above (V : Riv Λ μ a w p rd) (O : RvOK w p rd) {b r : Nat} (hr : r < 12) (hb : b ∈ rd r) : sX1_aboveOf Λ μ a (nI b) = some (nI (aboveM (rd r) b)) := by
  have h1 := fi_lt hb
  have h2 := li_lt hb
  have h3 := rv_lenK O hr
  have hb31 := rv_lt31 O hr b hb
  have H := V.2.2.2 r hr
  unfold sX1_aboveOf
  rw [rv_round V O hr hb, Option.bind_some, rv_firstK V O hr hb31, Option.bind_some, if_pos hb, nI_lit0, row_set H (rv_lt12 O hr) h1 (by omega) (by omega), Option.bind_some, rv_lastK V O hr hb31, Option.bind_some, if_pos hb, row_len H, Option.bind_some, List.length_map]
  obtain ⟨m, hm⟩ : ∃ m, (rd r).length = m + 1 := ⟨(rd r).length - 1, by omega⟩
  rw [hm, nI_pred, row_set H (rv_lt12 O hr) (by omega) (by omega) (by omega), Option.bind_some, nI_and]
  unfold aboveM
  rw [← hm]
  simp
theorem rv_depth (V : Riv Λ μ a w p rd) (O : RvOK w p rd) {b r : Nat} (hr : r < 12) (hb : b ∈ rd r) : sX1_depthOf Λ μ a (nI b) = some (nI (dep (rd r) w.length b)) := by
  unfold sX1_depthOf
  rw [rv_above V O hr hb, Option.bind_some, bitc_spec (aboveM_lt (rv_lt12 O hr) b), Option.bind_some, dep_pop O.1 (fun x hx => rv_ltn O hr hx) hb, nI_pred]
def belowM (l : List Nat) (b : Nat) : Nat := msk ((l.take (li l b + 1)).drop (fi l b))
theorem belowM_bit {l : List Nat} (h : Tour l) {b k : Nat} (hb : b ∈ l) : (belowM l b).testBit k = blw l k b := by
  obtain ⟨A, Y, B, d⟩ := T_dec l h b hb
  unfold belowM
  rw [dcp_cut d, msk_bit, Bool.eq_iff_iff, decide_eq_true_eq, dcp_in d]
theorem belowM_lt {l : List Nat} (hl : ∀ x ∈ l, x < 12) (b : Nat) : belowM l b < 4096 := msk_lt (fun x hx => hl x (List.mem_of_mem_take (List.mem_of_mem_drop hx)))
theorem fi_le_li {l : List Nat} {b : Nat} (hb : b ∈ l) : fi l b ≤ li l b := li_ge_of _ (fi_get hb)
theorem rv_below (V : Riv Λ μ a w p rd) (O : RvOK w p rd) {b r : Nat} (hr : r < 12) (hb : b ∈ rd r) : sX1_belowOf Λ μ a (nI b) = some (nI (belowM (rd r) b)) := by
  have h1 := fi_lt hb
  have h2 := li_lt hb
  have h3 := rv_lenK O hr
  have h4 := fi_le_li hb
  have hb31 := rv_lt31 O hr b hb
  unfold sX1_belowOf
  rw [rv_round V O hr hb, Option.bind_some, rv_firstK V O hr hb31, Option.bind_some, if_pos hb, rv_lastK V O hr hb31, Option.bind_some, if_pos hb, row_set (V.2.2.2 r hr) (rv_lt12 O hr) h2 (by omega) (by omega), Option.bind_some]
  rfl
theorem rv_just (V : Riv Λ μ a w p rd) (O : RvOK w p rd) {b r : Nat} (hr : r < 12) (hb : b ∈ rd r) : sX1_justAbove Λ μ a (nI b) = some (if fi (rd r) b = 0 then -4 else nI (par (rd r) b)) := by
  have h1 := fi_lt hb
  have h3 := rv_lenK O hr
  have hb31 := rv_lt31 O hr b hb
  unfold sX1_justAbove
  rw [rv_round V O hr hb, Option.bind_some, rv_firstK V O hr hb31, Option.bind_some, if_pos hb, nI_lit0]
  by_cases c : fi (rd r) b = 0
  · rw [if_neg (by rw [c]; decide), if_pos c]
  · obtain ⟨m, hm⟩ : ∃ m, fi (rd r) b = m + 1 := ⟨fi (rd r) b - 1, by omega⟩
    rw [if_pos ((nI_ltI (by omega) (by omega)).mpr (by omega)), if_neg c, hm, nI_lit1, show nI (m + 1) - nI 1 = nI m from nI_pred m, row_get (V.2.2.2 r hr) (by simp; omega), Option.bind_some]
    have h5 : m < (rd r).length := by omega
    have : par (rd r) b = (rd r)[m] := by unfold par; rw [hm]; simp [h5]
    rw [this]; simp
/-- so many steps up -/
def anc (l : List Nat) : Nat → Nat → Nat
  | 0, b => b
  | m + 1, b => anc l m (par l b)
theorem dep_zero {l : List Nat} {n b : Nat} (h : Tour l) (hl : ∀ x ∈ l, x < n) (hb : b ∈ l) : fi l b ≠ 0 ↔ 0 < dep l n b := by
  constructor
  · intro c
    rw [dep_par h hb c hl]; omega
  · intro c e
    have : dep l n b = 0 := by
      unfold dep cntTo
      apply sumTo_zero
      intro k _
      rw [if_neg]
      intro q
      simp only [Bool.and_eq_true, Bool.not_eq_true', decide_eq_false_iff_not] at q
      have q2 := q.2
      have m := blw_mem q2
      unfold blw at q2
      rw [decide_eq_true_eq] at q2
      exact q.1 (fi_inj m.2 (by omega))
    omega
theorem rv_stepsL (V : Riv Λ μ a w p rd) (O : RvOK w p rd) {r : Nat} (hr : r < 12) {m : Nat} (hm : m ≤ 12) : ∀ n k b, k ≤ m → m - k < n → b ∈ rd r → m - k ≤ dep (rd r) w.length b → lpX1_stepsAbove_5 Λ μ a (nI m) n (nI b) (nI k) = some (nI (anc (rd r) (m - k) b)) := by
  intro n
  induction n with
  | zero => intro k b hk hn; omega
  | succ n ih =>
    intro k b hk hn hb hd
    rw [lpX1_stepsAbove_5_s]
    by_cases e : k = m
    · subst e
      rw [if_pos ((nI_leI (by omega) (by omega)).mpr (Nat.le_refl _)), Nat.sub_self]; rfl
    · have hT := (rv_tour O hr hb).1
      have hln : ∀ x ∈ rd r, x < w.length := fun x hx => rv_ltn O hr hx
      have c : fi (rd r) b ≠ 0 := (dep_zero hT hln hb).mpr (by omega)
      have hp := dep_par hT hb c hln
      rw [if_neg (by rw [nI_leI (by omega) (by omega)]; omega), rv_just V O hr hb, Option.bind_some, if_neg c]
      simp only [bnd]
      rw [nI_1, ih (k + 1) _ (by omega) (by omega) (par_facts hT hb c).1 (by omega)]
      rw [show m - k = (m - (k + 1)) + 1 by omega]
      rfl
theorem rv_steps (V : Riv Λ μ a w p rd) (O : RvOK w p rd) {b r m : Nat} (hr : r < 12) (hb : b ∈ rd r) (hd : m ≤ dep (rd r) w.length b) : sX1_stepsAbove Λ μ a (nI b) (nI m) = some (nI (anc (rd r) m b)) := by
  have := dep_lt (fun x hx => rv_ltn O hr hx) hb
  have := O.1
  unfold sX1_stepsAbove
  rw [nI_lit0, rv_stepsL V O hr (by omega) fuel 0 b (by omega) (by unfold fuel; omega) hb (by omega)]; rfl
theorem rv_lower (V : Riv Λ μ a w p rd) (O : RvOK w p rd) {b c r : Nat} (hr : r < 12) (hb : b ∈ rd r) (hc : c ∈ rd r) : sX1_lowerOf Λ μ a (nI b) (nI c) = some (if fi (rd r) b ≤ fi (rd r) c then nI c else nI b) := by
  have h1 := fi_lt hb
  have h2 := fi_lt hc
  have h3 := rv_lenK O hr
  unfold sX1_lowerOf
  rw [rv_round V O hr hb, Option.bind_some, rv_firstK V O hr (rv_lt31 O hr b hb), Option.bind_some, rv_firstK V O hr (rv_lt31 O hr c hc), Option.bind_some, if_pos hb, if_pos hc]
  by_cases e : fi (rd r) b ≤ fi (rd r) c
  · rw [if_pos ((nI_leI (by omega) (by omega)).mpr e), if_pos e]
  · rw [if_neg (by rw [nI_leI (by omega) (by omega)]; exact e), if_neg e]
/-- the root of a bank -/
def rtF (rd : Nat → List Nat) (b : Nat) : Nat := ((List.range 12).find? (fun k => decide (b ∈ rd k))).getD 0
theorem rtF_of (O : RvOK w p rd) {b r : Nat} (hr : r < 12) (hb : b ∈ rd r) : rtF rd b = r := by
  unfold rtF
  cases e : (List.range 12).find? (fun k => decide (b ∈ rd k)) with
  | none =>
    rw [List.find?_eq_none] at e
    have := e r (by simpa using hr)
    simp at this
    exact absurd hb this
  | some k =>
    have h1 := List.find?_some e
    have h2 := List.mem_of_find?_eq_some e
    simp at h1 h2
    exact O.2.2.2.2.2.2.2.1 k r b h2 hr h1 hb
theorem rtF_in (O : RvOK w p rd) {b : Nat} (hb : b < w.length) : rtF rd b < 12 ∧ b ∈ rd (rtF rd b) := by
  obtain ⟨r, hr, h⟩ := O.2.2.2.2.2.2.1 b hb
  rw [rtF_of O hr h]
  exact ⟨hr, h⟩
def depA (w : List Nat) (rd : Nat → List Nat) (b : Nat) : Nat := dep (rd (rtF rd b)) w.length b
theorem rv_depA (V : Riv Λ μ a w p rd) (O : RvOK w p rd) {b : Nat} (hb : b < w.length) : sX1_depthOf Λ μ a (nI b) = some (nI (depA w rd b)) := by
  obtain ⟨h1, h2⟩ := rtF_in O hb
  exact rv_depth V O h1 h2
theorem depA_lt (O : RvOK w p rd) {b : Nat} (hb : b < w.length) : depA w rd b < 12 := by
  obtain ⟨h1, h2⟩ := rtF_in O hb
  have := dep_lt (fun x hx => rv_ltn O h1 hx) h2
  have := O.1
  unfold depA; omega
theorem rv_sumDL (V : Riv Λ μ a w p rd) (O : RvOK w p rd) : ∀ n k t, k ≤ w.length → w.length - k < n → lpX1_sumOfDepths_4 Λ μ a n (nI t) (nI k) = some (nI (itr (fun k t => t + depA w rd k) k (w.length - k) t)) := by
  have hn12 := O.1
  intro n
  induction n with
  | zero => intro k t hk hn; omega
  | succ n ih =>
    intro k t hk hn
    rw [lpX1_sumOfDepths_4_s, row_len V.1, Option.bind_some, List.length_map]
    by_cases e : k = w.length
    · subst e
      rw [if_pos ((nI_leI (by omega) (by omega)).mpr (Nat.le_refl _)), Nat.sub_self]; rfl
    · rw [if_neg (by rw [nI_leI (by omega) (by omega)]; omega), rv_depA V O (by omega), Option.bind_some]
      simp only [bnd]
      rw [nI_1, nI_add, ih (k + 1) _ (by omega) (by omega)]
      rw [show w.length - k = (w.length - (k + 1)) + 1 by omega, itr]
theorem rv_sumD (V : Riv Λ μ a w p rd) (O : RvOK w p rd) : sX1_sumOfDepths Λ μ a = some (nI (sumTo w.length (depA w rd))) := by
  unfold sX1_sumOfDepths
  have := O.1
  rw [nI_lit0, rv_sumDL V O fuel 0 0 (by omega) (by unfold fuel; omega), Nat.sub_zero, itr_sum0]
theorem rv_greatL (V : Riv Λ μ a w p rd) (O : RvOK w p rd) {s : Nat} (hs : s < 4096) : ∀ n k t, k ≤ w.length → w.length - k < n → t < 12 → lpX1_greatestDepth_4 Λ μ a (nI s) n (nI t) (nI k) = some (nI (itr (fun k t => max t (if s.testBit k then depA w rd k else 0)) k (w.length - k) t)) := by
  have hn12 := O.1
  intro n
  induction n with
  | zero => intro k t hk hn; omega
  | succ n ih =>
    intro k t hk hn ht
    rw [lpX1_greatestDepth_4_s, row_len V.1, Option.bind_some, List.length_map]
    by_cases e : k = w.length
    · subst e
      rw [if_pos ((nI_leI (by omega) (by omega)).mpr (Nat.le_refl _)), Nat.sub_self]; rfl
    · rw [if_neg (by rw [nI_leI (by omega) (by omega)]; omega), bit_spec (by omega), Option.bind_some]
      rw [show w.length - k = (w.length - (k + 1)) + 1 by omega, itr]
      by_cases c : s.testBit k = true
      · have hd := depA_lt O (b := k) (by omega)
        rw [if_neg (by rw [and_pow_ne hs, c]; decide), rv_depA V O (by omega), Option.bind_some, if_pos c]
        simp only [bnd]
        have hm : (if nI t < nI (depA w rd k) then nI (depA w rd k) else nI t) = nI (max t (depA w rd k)) := by
          by_cases d : t < depA w rd k
          · rw [if_pos ((nI_ltI (by omega) (by omega)).mpr d), Nat.max_eq_right (by omega)]
          · rw [if_neg (by rw [nI_ltI (by omega) (by omega)]; exact d), Nat.max_eq_left (by omega)]
        rw [hm, nI_1, ih (k + 1) _ (by omega) (by omega) (by omega)]
      · rw [if_pos ((and_pow_ne hs).mpr (by simpa using c)), if_neg c]
        simp only [bnd]
        rw [nI_1, ih (k + 1) _ (by omega) (by omega) ht, Nat.max_eq_left (Nat.zero_le _)]
theorem rv_great (V : Riv Λ μ a w p rd) (O : RvOK w p rd) {s : Nat} (hs : s < 4096) : sX1_greatestDepth Λ μ a (nI s) = some (nI (maxTo w.length (fun k => if s.testBit k then depA w rd k else 0))) := by
  unfold sX1_greatestDepth
  have := O.1
  rw [nI_lit0, rv_greatL V O hs fuel 0 0 (by omega) (by unfold fuel; omega) (by omega), Nat.sub_zero, itr_max0]
/-- the lowest of a set -/
def low (s : Nat) : Nat := ((List.range 12).find? (fun i => s.testBit i)).getD 0
theorem low_all2 : ∀ a, a < 64 → ∀ b, b < 64 → 64 * a + b ≠ 0 → sX4_lowestIn ([], fun _ => 0, fun _ _ => 0, fun _ => 0, fun _ _ => 0, fun _ => 0) (fun _ _ => 0, fun _ _ => 0) (nI (64 * a + b)) = some (nI (low (64 * a + b))) := by decide +kernel
theorem low_spec {s : Nat} (hs : s < 4096) (h0 : s ≠ 0) : sX4_lowestIn Λ μ (nI s) = some (nI (low s)) := by
  have := low_all2 (s / 64) (by omega) (s % 64) (by omega)
  rw [show 64 * (s / 64) + s % 64 = s by omega] at this
  exact this h0
theorem low_in {s : Nat} (hs : s < 4096) (h0 : s ≠ 0) : low s < 12 ∧ s.testBit (low s) = true := by
  unfold low
  cases e : (List.range 12).find? (fun i => s.testBit i) with
  | none =>
    rw [List.find?_eq_none] at e
    exfalso
    apply h0
    apply Nat.eq_of_testBit_eq
    intro i
    rw [Nat.zero_testBit]
    rcases Nat.lt_or_ge i 12 with q | q
    · have := e i (by simpa using q)
      simpa using this
    · exact bit_lt12 hs q
  | some k =>
    have h1 := List.find?_some e
    have h2 := List.mem_of_find?_eq_some e
    simp at h2
    exact ⟨h2, h1⟩
theorem xor_bit {b i : Nat} (hi : i < 12) : (4095 ^^^ b).testBit i = !b.testBit i := by
  rw [Nat.testBit_xor]
  have : (4095 : Nat).testBit i = true := by
    have e : (4095 : Nat) = 2 ^ 12 - 1 := rfl
    rw [e, Nat.testBit_two_pow_sub_one]; simp; omega
  rw [this]; simp
theorem notAnd_bit {s b i : Nat} (hs : s < 4096) : (s &&& (4095 ^^^ b)).testBit i = (s.testBit i && !b.testBit i) := by
  rw [Nat.testBit_and]
  rcases Nat.lt_or_ge i 12 with q | q
  · rw [xor_bit q]
  · rw [bit_lt12 hs q]; simp
theorem and_lt {s t : Nat} (hs : s < 4096) : s &&& t < 4096 := Nat.lt_of_le_of_lt Nat.and_le_left hs
theorem or_lt {s t : Nat} (hs : s < 4096) (ht : t < 4096) : s ||| t < 4096 := Nat.or_lt_two_pow (n := 12) hs ht
theorem pow_lt12 {i : Nat} (h : i < 12) : 2 ^ i < 4096 := Nat.pow_lt_pow_right (by omega) h
/-- S is what is reached from b over the ropes, without those of z -/
def Reach (p : List Nat) (n b z S : Nat) : Prop := S < 4096 ∧ (∀ i, S.testBit i = true → i < n) ∧ S.testBit b = true ∧ (∀ v u, S.testBit v = true → (p.getD v 0).testBit u = true → z.testBit u = false → S.testBit u = true) ∧ ∀ T, T < 4096 → T.testBit b = true → (∀ v u, T.testBit v = true → (p.getD v 0).testBit u = true → z.testBit u = false → T.testBit u = true) → ∀ i, S.testBit i = true → T.testBit i = true
theorem rv_reachL (V : Riv Λ μ a w p rd) (O : RvOK w p rd) {b z S : Nat} (hz : z < 4096) (hR : Reach p w.length b z S) : ∀ n k s o, k ≤ 12 → 12 - k < n → s < 4096 → o < 4096 → (∀ i, o.testBit i = true → s.testBit i = true) → (∀ i, s.testBit i = true → S.testBit i = true) → s.testBit b = true → (∀ v u, s.testBit v = true → o.testBit v = false → (p.getD v 0).testBit u = true → z.testBit u = false → s.testBit u = true) → cntTo 12 (fun i => s.testBit i && !o.testBit i) = k → lpX1_reached_11 Λ μ a (nI z) n (nI s) (nI o) (nI k) = some (nI S) := by
  obtain ⟨hS, hSn, hSb, hSc, hSg⟩ := hR
  have fin : ∀ s o, s < 4096 → (∀ i, s.testBit i = true → S.testBit i = true) → s.testBit b = true → o = 0 → (∀ v u, s.testBit v = true → o.testBit v = false → (p.getD v 0).testBit u = true → z.testBit u = false → s.testBit u = true) → s = S := by
    intro s o hs h1 h2 h3 h4
    subst h3
    have h5 := hSg s hs h2 (fun v u q1 q2 q3 => h4 v u q1 (by simp) q2 q3)
    apply Nat.eq_of_testBit_eq
    intro i
    rw [Bool.eq_iff_iff]
    exact ⟨h1 i, h5 i⟩
  intro n
  induction n with
  | zero => intro k s o hk hn; omega
  | succ n ih =>
    intro k s o hk hn hs ho hos hsS hsb hcl hcnt
    rw [lpX1_reached_11_s, nI_lit12]
    by_cases e : k = 12
    · subst e
      rw [if_pos ((nI_leI (by omega) (by omega)).mpr (Nat.le_refl _))]
      have ho0 : o = 0 := by
        apply Nat.eq_of_testBit_eq
        intro i
        rw [Nat.zero_testBit]
        rcases Nat.lt_or_ge i 12 with q | q
        · cases c : o.testBit i with
          | false => rfl
          | true =>
            exfalso
            have h1 := sumTo_pt q (fun i => if (s.testBit i && !o.testBit i) = true then 1 else 0)
            rw [show sumTo 12 (fun i => if (s.testBit i && !o.testBit i) = true then 1 else 0) = 12 from hcnt] at h1
            rw [if_neg (by rw [c]; simp)] at h1
            have h2 : sumTo 12 (fun j => if j = i then 0 else (if (s.testBit j && !o.testBit j) = true then 1 else 0)) + sumTo 12 (fun j => if j = i then 1 else 0) ≤ 12 := by
              rw [← sumTo_add]
              refine Nat.le_trans (sumTo_const (c := 1) (fun j _ => ?_)) (by omega)
              by_cases d : j = i
              · simp [d]
              · simp only [d, if_false]
                split <;> omega
            rw [sumTo_one q] at h2
            omega
        · exact bit_lt12 ho q
      rw [fin s o hs hsS hsb ho0 hcl]
    · rw [if_neg (by rw [nI_leI (by omega) (by omega)]; omega)]
      by_cases h0 : o = 0
      · rw [h0, if_pos (by decide), fin s o hs hsS hsb h0 hcl]
      · obtain ⟨hv12, hvo⟩ := low_in ho h0
        have hvs := hos _ hvo
        have hvn := hSn _ (hsS _ hvs)
        rw [nI_lit0, if_neg (by rw [nI_eq (by omega) (by omega)]; exact h0), low_spec ho h0, Option.bind_some, rv_ropesOf V O hvn, Option.bind_some]
        have hp := rv_p O hvn
        generalize hv : low o = v at hv12 hvo hvs hvn hp ⊢
        simp only [bnd]
        rw [nI_notAnd hp hs, nI_notAnd (and_lt hp) hz, nI_or, bit_spec hv12, Option.bind_some, nI_or]
        have hf : p.getD v 0 &&& (4095 ^^^ s) &&& (4095 ^^^ z) < 4096 := and_lt (and_lt hp)
        have hfb : ∀ i, (p.getD v 0 &&& (4095 ^^^ s) &&& (4095 ^^^ z)).testBit i = ((p.getD v 0).testBit i && !s.testBit i && !z.testBit i) := fun i => by rw [notAnd_bit (and_lt hp), notAnd_bit hp]
        generalize p.getD v 0 &&& (4095 ^^^ s) &&& (4095 ^^^ z) = f at hf hfb ⊢
        rw [nI_notAnd (or_lt ho hf) (pow_lt12 hv12), nI_1]
        have hob : ∀ i, ((o ||| f) &&& (4095 ^^^ 2 ^ v)).testBit i = ((o.testBit i || f.testBit i) && !decide (v = i)) := fun i => by rw [notAnd_bit (or_lt ho hf), Nat.testBit_or, Nat.testBit_two_pow]
        have ho' : (o ||| f) &&& (4095 ^^^ 2 ^ v) < 4096 := and_lt (or_lt ho hf)
        generalize (o ||| f) &&& (4095 ^^^ 2 ^ v) = o' at hob ho' ⊢
        refine ih (k + 1) _ _ (by omega) (by omega) (or_lt hs hf) ho' ?_ ?_ ?_ ?_ ?_
        · intro i q
          rw [hob] at q
          rw [Nat.testBit_or]
          simp only [Bool.and_eq_true, Bool.or_eq_true] at q ⊢
          rcases q.1 with q | q
          · exact Or.inl (hos i q)
          · exact Or.inr q
        · intro i q
          rw [Nat.testBit_or, Bool.or_eq_true] at q
          rcases q with q | q
          · exact hsS i q
          · rw [hfb] at q
            simp only [Bool.and_eq_true, Bool.not_eq_true'] at q
            exact hSc v i (hsS v hvs) q.1.1 q.2
        · rw [Nat.testBit_or, hsb]; rfl
        · intro x u q1 q2 q3 q4
          rw [Nat.testBit_or, Bool.or_eq_true]
          rw [hob] at q2
          by_cases d : v = x
          · subst d
            cases c : s.testBit u with
            | true => exact Or.inl rfl
            | false =>
              right
              rw [hfb, q3, c, q4]; rfl
          · simp only [d, decide_false, Bool.not_false, Bool.and_true, Bool.or_eq_false_iff] at q2
            rw [Nat.testBit_or, q2.2, Bool.or_false] at q1
            exact Or.inl (hcl x u q1 q2.1 q3 q4)
        · have h1 := sumTo_pt hv12 (fun i => if ((s ||| f).testBit i && !o'.testBit i) = true then 1 else 0)
          have h2 := sumTo_pt hv12 (fun i => if (s.testBit i && !o.testBit i) = true then 1 else 0)
          unfold cntTo at hcnt ⊢
          rw [hcnt] at h2
          rw [h1, h2, hob, Nat.testBit_or, hvs, hvo]
          simp only [Bool.true_or, decide_true, Bool.not_true, Bool.and_false, Bool.not_false, Bool.and_self, if_true, Bool.true_and]
          rw [Nat.add_comm]
          congr 1
          simp
          apply sumTo_congr
          intro i _
          by_cases d : i = v
          · simp [d]
          · have d' : ¬ v = i := fun q => d q.symm
            simp only [d, if_false, hob, Nat.testBit_or, d', decide_false, Bool.not_false, Bool.and_true, hfb]
            cases s.testBit i <;> cases o.testBit i <;> simp
theorem rv_reach (V : Riv Λ μ a w p rd) (O : RvOK w p rd) {b z S : Nat} (hb : b < 12) (hz : z < 4096) (hR : Reach p w.length b z S) : sX1_reached Λ μ a (nI b) (nI z) = some (nI S) := by
  unfold sX1_reached
  rw [bit_spec hb, Option.bind_some, nI_lit0]
  refine rv_reachL V O hz hR fuel 0 _ _ (by omega) (by unfold fuel; omega) (pow_lt12 hb) (pow_lt12 hb) (fun _ q => q) ?_ ?_ ?_ ?_
  · intro i q
    rw [Nat.testBit_two_pow] at q
    simp at q
    rw [← q]
    exact hR.2.2.1
  · rw [Nat.testBit_two_pow]; simp
  · intro v u q1 q2
    rw [q1] at q2; cases q2
  · unfold cntTo
    apply sumTo_zero
    intro i _
    cases (2 ^ b).testBit i <;> simp
end RIV2
