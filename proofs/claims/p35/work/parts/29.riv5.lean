/-! RIVERS: parts, orders, the bank in the middle, where two meet. -/
def rooted (rd : Nat → List Nat) (r : Nat) : Bool := decide (rd r ≠ [])
def aheadB (w : List Nat) (rd : Nat → List Nat) (o r : Nat) : Bool :=
  if wsum w (msk (rd o)) = wsum w (msk (rd r)) then (if (rd o).length = (rd r).length then decide (o < r) else decide ((rd r).length < (rd o).length)) else decide (wsum w (msk (rd r)) < wsum w (msk (rd o)))
def aheadN (w : List Nat) (rd : Nat → List Nat) (r : Nat) : Nat := cntTo 12 (fun o => !decide (o = r) && (rooted rd o && aheadB w rd o r))
/-- what a fold over the places behind the first finds heaviest -/
def hvy (w : List Nat) : List Nat → Nat
  | [] => 0
  | a :: l => l.foldl (fun h x => if wt w h < wt w x then x else h) a
section R5
variable {Λ : Lay} {μ : Mem} {a : Nat} {w p : List Nat} {rd : Nat → List Nat}
theorem rv_isRoot (V : Riv Λ μ a w p rd) {r : Nat} (hr : r < 12) : sX1_isRoot Λ μ a (nI r) = some (if rd r ≠ [] then 1 else 0) := by
  unfold sX1_isRoot
  have hl := row_lt (V.2.2.2 r hr)
  rw [rv_at V hr, Option.bind_some, row_len (V.2.2.2 r hr), Option.bind_some, nI_lit0]
  by_cases c : rd r = []
  · rw [c, if_pos (by decide), if_neg (by simp)]
  · have : 0 < (rd r).length := List.length_pos_iff.mpr c
    rw [if_neg (by rw [nI_leI hl (by omega)]; simpa using c), if_pos c]
theorem rv_partsL (V : Riv Λ μ a w p rd) : ∀ n k t, k ≤ 12 → 12 - k < n → lpX1_parts_4 Λ μ a n (nI t) (nI k) = some (nI (itr (fun k t => t + if rooted rd k then 1 else 0) k (12 - k) t)) := by
  intro n
  induction n with
  | zero => intro k t hk hn; omega
  | succ n ih =>
    intro k t hk hn
    rw [lpX1_parts_4_s, nI_lit12]
    by_cases e : k = 12
    · subst e
      rw [if_pos ((nI_leI (by omega) (by omega)).mpr (Nat.le_refl _))]; rfl
    · rw [if_neg (by rw [nI_leI (by omega) (by omega)]; omega), rv_isRoot V (by omega), Option.bind_some]
      rw [show 12 - k = (12 - (k + 1)) + 1 by omega, itr]
      unfold rooted
      by_cases c : rd k = []
      · rw [if_neg (show ¬ rd k ≠ [] from fun q => q c), if_pos rfl]
        simp only [bnd]
        rw [show nI t + 0 = nI t from by rw [nI_lit0, nI_add]; rfl, nI_1, ih (k + 1) _ (by omega) (by omega)]
        simp [c, rooted]
      · rw [if_pos c, if_neg (by decide)]
        simp only [bnd]
        rw [nI_1, nI_1, ih (k + 1) _ (by omega) (by omega)]
        simp [c, rooted]
theorem rv_parts (V : Riv Λ μ a w p rd) : sX1_parts Λ μ a = some (nI (cntTo 12 (rooted rd))) := by
  unfold sX1_parts
  rw [nI_lit0, rv_partsL V fuel 0 0 (by omega) (by unfold fuel; omega), Nat.sub_zero, itr_sum0]; rfl
theorem rv_placesL (V : Riv Λ μ a w p rd) : ∀ n k t, k ≤ 12 → 12 - k < n → lpX1_places_4 Λ μ a n (nI t) (nI k) = some (nI (itr (fun k t => t + (rd k).length) k (12 - k) t)) := by
  intro n
  induction n with
  | zero => intro k t hk hn; omega
  | succ n ih =>
    intro k t hk hn
    rw [lpX1_places_4_s, nI_lit12]
    by_cases e : k = 12
    · subst e
      rw [if_pos ((nI_leI (by omega) (by omega)).mpr (Nat.le_refl _))]; rfl
    · rw [if_neg (by rw [nI_leI (by omega) (by omega)]; omega), rv_at V (by omega), Option.bind_some, row_len (V.2.2.2 k (by omega)), Option.bind_some, List.length_map]
      rw [show 12 - k = (12 - (k + 1)) + 1 by omega, itr]
      simp only [bnd]
      rw [nI_1, nI_add, ih (k + 1) _ (by omega) (by omega)]
theorem rv_places (V : Riv Λ μ a w p rd) : sX1_places Λ μ a = some (nI (sumTo 12 (fun k => (rd k).length))) := by
  unfold sX1_places
  rw [nI_lit0, rv_placesL V fuel 0 0 (by omega) (by unfold fuel; omega), Nat.sub_zero, itr_sum0]
theorem rv_ropesL (V : Riv Λ μ a w p rd) (O : RvOK w p rd) : ∀ n k t, k ≤ w.length → w.length - k < n → t ≤ 12 * k → lpX1_ropes_4 Λ μ a n (nI t) (nI k) = some (nI (itr (fun k t => t + popN (p.getD k 0)) k (w.length - k) t / 2)) := by
  have hn12 := O.1
  have hpl := O.2.1
  intro n
  induction n with
  | zero => intro k t hk hn; omega
  | succ n ih =>
    intro k t hk hn ht
    rw [lpX1_ropes_4_s, row_len V.2.1, Option.bind_some, List.length_map, hpl]
    by_cases e : k = w.length
    · subst e
      rw [if_pos ((nI_leI (by omega) (by omega)).mpr (Nat.le_refl _)), Nat.sub_self, nI_lit2, pk_div (by omega) (by omega) (by omega)]; rfl
    · rw [if_neg (by rw [nI_leI (by omega) (by omega)]; omega), row_get V.2.1 (by simp; omega), Option.bind_some, List.getElem_map]
      have e1 : p[k]'(by omega) = p.getD k 0 := by simp [show k < p.length by omega]
      have hp := rv_p O (b := k) (by omega)
      have h12 : popN (p.getD k 0) ≤ 12 := cntTo_le 12 _
      rw [e1, bitc_spec hp, Option.bind_some]
      rw [show w.length - k = (w.length - (k + 1)) + 1 by omega, itr]
      simp only [bnd]
      rw [nI_1, nI_add, ih (k + 1) _ (by omega) (by omega) (by omega)]
theorem rv_ropes (V : Riv Λ μ a w p rd) (O : RvOK w p rd) : sX1_ropes Λ μ a = some (nI (sumTo w.length (fun k => popN (p.getD k 0)) / 2)) := by
  have := O.1
  unfold sX1_ropes
  rw [nI_lit0, rv_ropesL V O fuel 0 0 (by omega) (by unfold fuel; omega) (by omega), Nat.sub_zero, itr_sum0]
theorem rv_setK (V : Riv Λ μ a w p rd) (O : RvOK w p rd) {r : Nat} (hr : r < 12) (h : rd r ≠ []) : sX2_setOfAll Λ μ (lyE Λ (lyR Λ a 2) r) = some (nI (msk (rd r))) :=
  row_setAll (V.2.2.2 r hr) (rv_lt12 O hr) (List.length_pos_iff.mpr h) (rv_lenK O hr)
theorem rv_ahead (V : Riv Λ μ a w p rd) (O : RvOK w p rd) {o r : Nat} (ho : o < 12) (hr : r < 12) (hno : rd o ≠ []) (hnr : rd r ≠ []) : sX1_ranksAhead Λ μ a (nI o) (nI r) = some (if aheadB w rd o r then 1 else 0) := by
  have m1 := msk_lt (rv_lt12 O ho)
  have m2 := msk_lt (rv_lt12 O hr)
  have w1 := wsum_lt O (msk (rd o))
  have w2 := wsum_lt O (msk (rd r))
  have l1 := rv_lenK O ho
  have l2 := rv_lenK O hr
  unfold sX1_ranksAhead aheadB
  rw [rv_at V ho, Option.bind_some, rv_setK V O ho hno, Option.bind_some, rv_weights V O m1, Option.bind_some, rv_at V hr, Option.bind_some, rv_setK V O hr hnr, Option.bind_some, rv_weights V O m2, Option.bind_some]
  by_cases c1 : wsum w (msk (rd o)) = wsum w (msk (rd r))
  · rw [if_pos (by rw [c1]), if_pos c1, Option.bind_some, row_len (V.2.2.2 o ho), Option.bind_some, Option.bind_some, row_len (V.2.2.2 r hr), Option.bind_some, List.length_map, List.length_map]
    by_cases c2 : (rd o).length = (rd r).length
    · rw [if_pos (by rw [c2]), if_pos c2]
      by_cases c3 : r ≤ o
      · rw [if_pos ((nI_leI (by omega) (by omega)).mpr c3), if_neg (by simp; omega)]
      · rw [if_neg (by rw [nI_leI (by omega) (by omega)]; exact c3), if_pos (by simp; omega)]
    · rw [if_neg (by rw [nI_eq (by omega) (by omega)]; exact c2), if_neg c2]
      by_cases c3 : (rd o).length ≤ (rd r).length
      · rw [if_pos ((nI_leI (by omega) (by omega)).mpr c3), if_neg (by simp; omega)]
      · rw [if_neg (by rw [nI_leI (by omega) (by omega)]; exact c3), if_pos (by simp; omega)]
  · rw [if_neg (by rw [nI_eq (by omega) (by omega)]; exact c1), if_neg c1]
    by_cases c3 : wsum w (msk (rd o)) ≤ wsum w (msk (rd r))
    · rw [if_pos ((nI_leI (by omega) (by omega)).mpr c3), if_neg (by simp; omega)]
    · rw [if_neg (by rw [nI_leI (by omega) (by omega)]; exact c3), if_pos (by simp; omega)]
theorem rv_aheadL (V : Riv Λ μ a w p rd) (O : RvOK w p rd) {r : Nat} (hr : r < 12) (hnr : rd r ≠ []) : ∀ n k t, k ≤ 12 → 12 - k < n → lpX1_partsAheadOf_4 Λ μ a (nI r) n (nI t) (nI k) = some (nI (itr (fun o t => t + if !decide (o = r) && (rooted rd o && aheadB w rd o r) then 1 else 0) k (12 - k) t)) := by
  intro n
  induction n with
  | zero => intro k t hk hn; omega
  | succ n ih =>
    intro k t hk hn
    rw [lpX1_partsAheadOf_4_s, nI_lit12]
    by_cases e : k = 12
    · subst e
      rw [if_pos ((nI_leI (by omega) (by omega)).mpr (Nat.le_refl _))]; rfl
    · rw [if_neg (by rw [nI_leI (by omega) (by omega)]; omega)]
      rw [show 12 - k = (12 - (k + 1)) + 1 by omega, itr]
      by_cases c1 : k = r
      · subst c1
        rw [if_pos rfl]
        simp only [bnd]
        rw [nI_1, ih (k + 1) _ (by omega) (by omega)]
        simp
      · rw [if_neg (by rw [nI_eq (by omega) (by omega)]; exact c1), rv_isRoot V (by omega), Option.bind_some]
        by_cases c2 : rd k = []
        · rw [if_neg (show ¬ rd k ≠ [] from fun q => q c2), if_pos rfl]
          simp only [bnd]
          rw [nI_1, ih (k + 1) _ (by omega) (by omega)]
          simp [c2, rooted]
        · rw [if_pos c2, if_neg (by decide), rv_ahead V O (by omega) hr c2 hnr, Option.bind_some]
          by_cases c3 : aheadB w rd k r = true
          · rw [if_pos c3, if_neg (by decide)]
            simp only [bnd]
            rw [nI_1, nI_1, ih (k + 1) _ (by omega) (by omega)]
            simp [c1, c2, c3, rooted]
          · rw [if_neg c3, if_pos rfl]
            simp only [bnd]
            rw [nI_1, ih (k + 1) _ (by omega) (by omega)]
            simp [c3]
theorem rv_aheadN (V : Riv Λ μ a w p rd) (O : RvOK w p rd) {r : Nat} (hr : r < 12) (hnr : rd r ≠ []) : sX1_partsAheadOf Λ μ a (nI r) = some (nI (aheadN w rd r)) := by
  unfold sX1_partsAheadOf
  rw [nI_lit0, rv_aheadL V O hr hnr fuel 0 0 (by omega) (by unfold fuel; omega), Nat.sub_zero, itr_sum0]; rfl
/-- the first of the roots from k on that stands at the place x -/
def rankF (w : List Nat) (rd : Nat → List Nat) (x : Int32) : Nat → Nat → Int32
  | _, 0 => -1
  | k, m + 1 => if rd k ≠ [] ∧ nI (aheadN w rd k) = x then nI k else rankF w rd x (k + 1) m
theorem rv_rankedL (V : Riv Λ μ a w p rd) (O : RvOK w p rd) (x : Int32) : ∀ n k, k ≤ 12 → 12 - k < n → lpX1_rootRanked_2 Λ μ a x n (nI k) = some (rankF w rd x k (12 - k)) := by
  intro n
  induction n with
  | zero => intro k hk hn; omega
  | succ n ih =>
    intro k hk hn
    rw [lpX1_rootRanked_2_s, nI_lit12]
    by_cases e : k = 12
    · subst e
      rw [if_pos ((nI_leI (by omega) (by omega)).mpr (Nat.le_refl _))]; rfl
    · rw [if_neg (by rw [nI_leI (by omega) (by omega)]; omega), rv_isRoot V (by omega), Option.bind_some]
      rw [show 12 - k = (12 - (k + 1)) + 1 by omega, rankF]
      by_cases c : rd k = []
      · rw [if_neg (show ¬ rd k ≠ [] from fun q => q c), if_pos rfl, if_neg (by simp [c])]
        simp only [bnd]
        rw [nI_1, ih (k + 1) (by omega) (by omega)]
      · rw [if_pos c, if_neg (by decide), rv_aheadN V O (by omega) c, Option.bind_some]
        by_cases d : nI (aheadN w rd k) = x
        · rw [if_pos d, if_pos ⟨c, d⟩]
        · rw [if_neg d, if_neg (fun q => d q.2)]
          simp only [bnd]
          rw [nI_1, ih (k + 1) (by omega) (by omega)]
theorem rv_ranked (V : Riv Λ μ a w p rd) (O : RvOK w p rd) (x : Int32) : sX1_rootRanked Λ μ a x = some (rankF w rd x 0 12) := by
  unfold sX1_rootRanked
  rw [nI_lit0, rv_rankedL V O x fuel 0 (by omega) (by unfold fuel; omega)]
theorem rv_heavyL (V : Riv Λ μ a w p rd) (O : RvOK w p rd) {r : Nat} (hr : r < 12) : ∀ n k h, k ≤ (rd r).length → (rd r).length - k < n → h < w.length → lpX1_heaviestWith_15 Λ μ a (lyE Λ (lyR Λ a 2) r) n (nI h) (nI k) = some (nI (((rd r).drop k).foldl (fun h x => if wt w h < wt w x then x else h) h)) := by
  have H := V.2.2.2 r hr
  have h23 := rv_lenK O hr
  have hn12 := O.1
  intro n
  induction n with
  | zero => intro k h hk hn; omega
  | succ n ih =>
    intro k h hk hn hh
    rw [lpX1_heaviestWith_15_s, row_len H, Option.bind_some, List.length_map]
    by_cases e : k = (rd r).length
    · rw [if_pos ((nI_leI (by omega) (by omega)).mpr (by omega)), e]
      simp
    · have hk' : k < (rd r).length := by omega
      have hx := rv_ltn O hr (List.getElem_mem hk')
      rw [if_neg (by rw [nI_leI (by omega) (by omega)]; omega), row_get H (by simpa using hk'), Option.bind_some, List.getElem_map, rv_weight V hx, Option.bind_some, rv_weight V hh, Option.bind_some]
      have w1 := wt_le O.2.2.1 (rd r)[k]
      have w2 := wt_le O.2.2.1 h
      rw [List.drop_eq_getElem_cons hk', List.foldl_cons]
      by_cases c : wt w h < wt w (rd r)[k]
      · rw [if_neg (by rw [nI_leI (by omega) (by omega)]; omega), if_pos c, Option.bind_some]
        simp only [bnd]
        rw [nI_1, ih (k + 1) _ (by omega) (by omega) hx]
      · rw [if_pos ((nI_leI (by omega) (by omega)).mpr (by omega)), if_neg c]
        simp only [bnd]
        rw [nI_1, ih (k + 1) _ (by omega) (by omega) hh]
theorem rv_heavy (V : Riv Λ μ a w p rd) (O : RvOK w p rd) {b r : Nat} (hr : r < 12) (hb : b ∈ rd r) : sX1_heaviestWith Λ μ a (nI b) = some (nI (hvy w (rd r))) := by
  obtain ⟨-, t, e⟩ := rv_tour O hr hb
  have hrn := rv_ltn O hr (rv_root_mem O hr hb)
  have h23 := rv_lenK O hr
  unfold sX1_heaviestWith
  rw [rv_round V O hr hb, Option.bind_some, nI_lit0, row_get (V.2.2.2 r hr) (by rw [e]; simp), Option.bind_some]
  have e0 : (List.map nI (rd r))[0]'(by rw [e]; simp) = nI r := by simp [e]
  rw [e0, nI_lit1, rv_heavyL V O hr fuel 1 r (by rw [e]; simp) (by unfold fuel; omega) hrn, e]
  rfl
/-- the heaviest part that is left without b -/
def leftV (w : List Nat) (l : List Nat) (b k : Nat) : Nat := if blw l k b then wsum w (belowM l k) else wsum w (restM l b)
def heavyLeft (w p : List Nat) (l : List Nat) (b : Nat) : Nat := maxTo w.length (fun k => if (p.getD b 0).testBit k then leftV w l b k else 0)
theorem leftV_le (O : RvOK w p rd) (l : List Nat) (b k : Nat) : leftV w l b k ≤ 1188 := by
  unfold leftV
  split <;> exact wsum_lt O _
theorem rv_leftL (V : Riv Λ μ a w p rd) (O : RvOK w p rd) {b r : Nat} (hr : r < 12) (hb : b ∈ rd r) : ∀ n k t, k ≤ w.length → w.length - k < n → t ≤ 1188 → lpX1_heaviestLeftWithout_4 Λ μ a (nI b) n (nI t) (nI k) = some (nI (itr (fun k t => max t (if (p.getD b 0).testBit k then leftV w (rd r) b k else 0)) k (w.length - k) t)) := by
  have hn12 := O.1
  have hT := (rv_tour O hr hb).1
  have hb12 := rv_lt12 O hr b hb
  have hbn := rv_ltn O hr hb
  intro n
  induction n with
  | zero => intro k t hk hn; omega
  | succ n ih =>
    intro k t hk hn ht
    rw [lpX1_heaviestLeftWithout_4_s, row_len V.1, Option.bind_some, List.length_map]
    by_cases e : k = w.length
    · subst e
      rw [if_pos ((nI_leI (by omega) (by omega)).mpr (Nat.le_refl _)), Nat.sub_self]; rfl
    · rw [if_neg (by rw [nI_leI (by omega) (by omega)]; omega), rv_tied V O hbn (by omega), Option.bind_some]
      rw [show w.length - k = (w.length - (k + 1)) + 1 by omega, itr]
      by_cases c : (p.getD b 0).testBit k = true
      · have hq := (rv_adj O hr hb k).mp c
        have hkl := (prs_mem hq).2
        have hrc : ∃ S, Reach p w.length k (2 ^ b) S ∧ S < 4096 ∧ wsum w S = leftV w (rd r) b k := by
          unfold leftV
          cases z : blw (rd r) k b with
          | true =>
            refine ⟨belowM (rd r) k, reach_below O hr hkl ?_ ?_, belowM_lt (rv_lt12 O hr) k, by simp⟩
            · intro i hi
              rw [Nat.testBit_two_pow]
              simp
              intro q
              subst q
              have := blw_as z hi
              exact (prs_sym _ hT _ _ hq).2 this.symm
            · intro h0
              rcases (prs_cases hT).mp hq with ⟨h1, h2, h3⟩ | ⟨h1, h2, h3⟩
              · have := (par_facts hT h1 h2).2.2.2.1
                rw [← h3, z] at this
                cases this
              · rw [← h3, Nat.testBit_two_pow]; simp
          | false =>
            have h0 : fi (rd r) b ≠ 0 := by
              rcases (prs_cases hT).mp hq with ⟨h1, h2, h3⟩ | ⟨h1, h2, h3⟩
              · exact h2
              · have := (par_facts hT h1 h2).2.2.1
                rw [← h3, z] at this
                cases this
            exact ⟨restM (rd r) b, reach_rest O hr hb h0 hkl z, restM_lt (rv_lt12 O hr) b, by simp⟩
        obtain ⟨S, hS, hS4, hSw⟩ := hrc
        have hle := leftV_le O (rd r) b k
        rw [if_pos c, if_neg (by decide), bit_spec hb12, Option.bind_some, rv_reach V O (by omega) (pow_lt12 hb12) hS, Option.bind_some, rv_weights V O hS4, Option.bind_some, hSw, if_pos c]
        simp only [bnd]
        have hm : (if nI t < nI (leftV w (rd r) b k) then nI (leftV w (rd r) b k) else nI t) = nI (max t (leftV w (rd r) b k)) := by
          by_cases d : t < leftV w (rd r) b k
          · rw [if_pos ((nI_ltI (by omega) (by omega)).mpr d), Nat.max_eq_right (by omega)]
          · rw [if_neg (by rw [nI_ltI (by omega) (by omega)]; exact d), Nat.max_eq_left (by omega)]
        rw [hm, nI_1, ih (k + 1) _ (by omega) (by omega) (by omega)]
      · rw [if_neg c, if_pos rfl, if_neg c]
        simp only [bnd]
        rw [nI_1, ih (k + 1) _ (by omega) (by omega) ht, Nat.max_eq_left (Nat.zero_le _)]
theorem rv_left (V : Riv Λ μ a w p rd) (O : RvOK w p rd) {b r : Nat} (hr : r < 12) (hb : b ∈ rd r) : sX1_heaviestLeftWithout Λ μ a (nI b) = some (nI (heavyLeft w p (rd r) b)) := by
  have := O.1
  unfold sX1_heaviestLeftWithout
  rw [nI_lit0, rv_leftL V O hr hb fuel 0 0 (by omega) (by unfold fuel; omega) (by omega), Nat.sub_zero, itr_max0]; rfl
/-- of the banks of l below n the first at which f is least -/
def midS (l : List Nat) (f : Nat → Nat) (k : Nat) (m : Option Nat) : Option Nat := if k ∈ l then (match m with | none => some k | some j => if f k < f j then some k else some j) else m
def midE (m : Option Nat) : Int32 := match m with | none => -1 | some j => nI j
theorem rv_midL (V : Riv Λ μ a w p rd) (O : RvOK w p rd) {r : Nat} (hr : r < 12) : ∀ n k (m : Option Nat) (x : Int32), k ≤ w.length → w.length - k < n → (∀ j, m = some j → x = nI (heavyLeft w p (rd r) j) ∧ j < 12) → lpX1_middleWith_14 Λ μ a (nI (msk (rd r))) n (midE m) x (nI k) = some (midE (itr (midS (rd r) (heavyLeft w p (rd r))) k (w.length - k) m)) := by
  have hn12 := O.1
  have hm4 := msk_lt (rv_lt12 O hr)
  have hle : ∀ j, heavyLeft w p (rd r) j ≤ 1188 := fun j => maxTo_le.mpr (fun k _ => by split; exact leftV_le O _ _ _; omega)
  intro n
  induction n with
  | zero => intro k m x hk hn; omega
  | succ n ih =>
    intro k m x hk hn hx
    rw [lpX1_middleWith_14_s, row_len V.1, Option.bind_some, List.length_map]
    by_cases e : k = w.length
    · subst e
      rw [if_pos ((nI_leI (by omega) (by omega)).mpr (Nat.le_refl _)), Nat.sub_self]; rfl
    · rw [if_neg (by rw [nI_leI (by omega) (by omega)]; omega), bit_spec (by omega), Option.bind_some]
      rw [show w.length - k = (w.length - (k + 1)) + 1 by omega, itr]
      by_cases c : k ∈ rd r
      · rw [if_neg (by rw [and_pow_ne hm4, msk_bit]; simpa using c), rv_left V O hr c, Option.bind_some]
        have h1 := hle k
        cases m with
        | none =>
          rw [if_pos (show midE none < 0 by decide)]
          simp only [bnd]
          rw [nI_1]
          have e2 : midS (rd r) (heavyLeft w p (rd r)) k none = some k := by unfold midS; rw [if_pos c]
          rw [e2]
          exact ih (k + 1) (some k) _ (by omega) (by omega) (fun j q => by cases q; exact ⟨rfl, by omega⟩)
        | some j =>
          obtain ⟨hx1, hx2⟩ := hx j rfl
          have h2 := hle j
          rw [if_neg (show ¬ midE (some j) < 0 from nI_pos (by omega)), hx1]
          by_cases d : heavyLeft w p (rd r) k < heavyLeft w p (rd r) j
          · rw [if_neg (by rw [nI_leI (by omega) (by omega)]; omega)]
            simp only [bnd]
            rw [nI_1]
            have e2 : midS (rd r) (heavyLeft w p (rd r)) k (some j) = some k := by unfold midS; rw [if_pos c]; simp [d]
            rw [e2]
            exact ih (k + 1) (some k) _ (by omega) (by omega) (fun j q => by cases q; exact ⟨rfl, by omega⟩)
          · rw [if_pos ((nI_leI (by omega) (by omega)).mpr (by omega))]
            simp only [bnd]
            rw [nI_1]
            have e2 : midS (rd r) (heavyLeft w p (rd r)) k (some j) = some j := by unfold midS; rw [if_pos c]; simp [d]
            rw [e2]
            exact ih (k + 1) (some j) _ (by omega) (by omega) (fun j q => by cases q; exact ⟨rfl, hx2⟩)
      · rw [if_pos ((and_pow_ne hm4).mpr (by rw [msk_bit]; simpa using c))]
        simp only [bnd]
        rw [nI_1]
        have e2 : midS (rd r) (heavyLeft w p (rd r)) k m = m := by unfold midS; rw [if_neg c]
        rw [e2]
        exact ih (k + 1) m x (by omega) (by omega) hx
theorem rv_mid (V : Riv Λ μ a w p rd) (O : RvOK w p rd) {b r : Nat} (hr : r < 12) (hb : b ∈ rd r) : sX1_middleWith Λ μ a (nI b) = some (midE (itr (midS (rd r) (heavyLeft w p (rd r))) 0 w.length none)) := by
  have := O.1
  unfold sX1_middleWith
  rw [rv_all V O hr hb, Option.bind_some, nI_lit0]
  exact rv_midL V O hr fuel 0 none (nI 0) (by omega) (by unfold fuel; omega) (fun j q => by cases q)
/-- the deepest of those of which c says yes -/
def deepS (c : Nat → Bool) (f : Nat → Nat) (k : Nat) (m : Option Nat) : Option Nat := if c k then (match m with | none => some k | some j => if f j < f k then some k else some j) else m
theorem rv_meetL (V : Riv Λ μ a w p rd) (O : RvOK w p rd) {r s : Nat} (hr : r < 12) (hs : s < 4096) (hsl : ∀ k, s.testBit k = true → k ∈ rd r) : ∀ n k (m : Option Nat), k ≤ w.length → w.length - k < n → (∀ j, m = some j → j ∈ rd r) → lpX1_meetingOf_18 Λ μ a (nI s) n (midE m) (nI k) = some (midE (itr (deepS (fun k => s.testBit k) (dep (rd r) w.length)) k (w.length - k) m)) := by
  have hn12 := O.1
  intro n
  induction n with
  | zero => intro k m hk hn; omega
  | succ n ih =>
    intro k m hk hn hx
    rw [lpX1_meetingOf_18_s, row_len V.1, Option.bind_some, List.length_map]
    by_cases e : k = w.length
    · subst e
      rw [if_pos ((nI_leI (by omega) (by omega)).mpr (Nat.le_refl _)), Nat.sub_self]; rfl
    · rw [if_neg (by rw [nI_leI (by omega) (by omega)]; omega), bit_spec (by omega), Option.bind_some]
      rw [show w.length - k = (w.length - (k + 1)) + 1 by omega, itr]
      by_cases c : s.testBit k = true
      · have hk2 := hsl k c
        rw [if_neg (by rw [and_pow_ne hs, c]; decide)]
        cases m with
        | none =>
          rw [if_pos (show midE none < 0 by decide)]
          simp only [bnd]
          rw [nI_1]
          have e2 : deepS (fun k => s.testBit k) (dep (rd r) w.length) k none = some k := by unfold deepS; rw [if_pos c]
          rw [e2]
          exact ih (k + 1) (some k) (by omega) (by omega) (fun j q => by cases q; exact hk2)
        | some j =>
          have hj := hx j rfl
          have hj12 := rv_lt12 O hr j hj
          have d1 := dep_lt (fun x hx => rv_ltn O hr hx) hj
          have d2 := dep_lt (fun x hx => rv_ltn O hr hx) hk2
          rw [if_neg (show ¬ midE (some j) < 0 from nI_pos (by omega)), rv_depth V O hr hk2, Option.bind_some, show midE (some j) = nI j from rfl, rv_depth V O hr hj, Option.bind_some]
          by_cases d : dep (rd r) w.length j < dep (rd r) w.length k
          · rw [if_neg (by rw [nI_leI (by omega) (by omega)]; omega)]
            simp only [bnd]
            rw [nI_1]
            have e2 : deepS (fun k => s.testBit k) (dep (rd r) w.length) k (some j) = some k := by unfold deepS; rw [if_pos c]; simp [d]
            rw [e2]
            exact ih (k + 1) (some k) (by omega) (by omega) (fun j q => by cases q; exact hk2)
          · rw [if_pos ((nI_leI (by omega) (by omega)).mpr (by omega))]
            simp only [bnd]
            rw [nI_1]
            have e2 : deepS (fun k => s.testBit k) (dep (rd r) w.length) k (some j) = some j := by unfold deepS; rw [if_pos c]; simp [d]
            rw [e2]
            exact ih (k + 1) (some j) (by omega) (by omega) (fun j q => by cases q; exact hj)
      · rw [if_pos ((and_pow_ne hs).mpr (by simpa using c))]
        simp only [bnd]
        rw [nI_1]
        have e2 : deepS (fun k => s.testBit k) (dep (rd r) w.length) k m = m := by unfold deepS; rw [if_neg c]
        rw [e2]
        exact ih (k + 1) m (by omega) (by omega) hx
theorem rv_meet (V : Riv Λ μ a w p rd) (O : RvOK w p rd) {b c r : Nat} (hr : r < 12) (hb : b ∈ rd r) (hc : c ∈ rd r) : sX1_meetingOf Λ μ a (nI b) (nI c) = some (midE (itr (deepS (fun k => (aboveM (rd r) b &&& aboveM (rd r) c).testBit k) (dep (rd r) w.length)) 0 w.length none)) := by
  have := O.1
  unfold sX1_meetingOf
  rw [rv_above V O hr hb, Option.bind_some, rv_above V O hr hc, Option.bind_some]
  simp only [bnd]
  rw [nI_and, nI_lit0]
  exact rv_meetL V O hr (and_lt (aboveM_lt (rv_lt12 O hr) b)) (fun k q => by
    rw [Nat.testBit_and, aboveM_bit hb, aboveM_bit hc, Bool.and_eq_true] at q
    exact (blw_mem q.1).2) fuel 0 none (by omega) (by unfold fuel; omega) (fun j q => by cases q)
end R5
