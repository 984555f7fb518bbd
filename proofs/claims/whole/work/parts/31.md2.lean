/-! THE REFERENCE: parts, orders, the bank in the middle, where two meet. -/
section MD2
variable {Λ : Lay} {μ : Mem} {a : Nat} {w : List Nat} {sl : Nat → List Nat} {j c t : Int32}
theorem nI_a0 (t : Nat) : nI t + 0 = nI t := by rw [nI_lit0, nI_add]; rfl
theorem md_partsL (M : NowIs Λ μ (lyR Λ a 0) w sl j c t) (S : SlOK w sl) : ∀ n k t, k ≤ 12 → 12 - k < n → lpX5_parts_4 Λ μ a n (nI t) (nI k) = some (nI (itr (fun k t => t + if rooted sl k then 1 else 0) k (12 - k) t)) := by
  intro n
  induction n with
  | zero => intro k t hk hn; omega
  | succ n ih =>
    intro k t hk hn
    rw [lpX5_parts_4_s, nI_lit12]
    by_cases e : k = 12
    · subst e
      rw [if_pos ((nI_leI (by omega) (by omega)).mpr (Nat.le_refl _))]; rfl
    · have h23 := S.2.2.1 k (by omega)
      rw [if_neg (by rw [nI_leI (by omega) (by omega)]; omega), md_size M (by omega), Option.bind_some]
      rw [show 12 - k = (12 - (k + 1)) + 1 by omega, itr]
      by_cases x : sl k = []
      · rw [if_pos (by rw [x]; decide)]
        simp only [bnd]
        rw [nI_a0, nI_1, ih (k + 1) _ (by omega) (by omega)]
        simp [x, rooted]
      · have : 0 < (sl k).length := List.length_pos_iff.mpr x
        rw [if_neg (by rw [nI_lit0, nI_leI (by omega) (by omega)]; omega)]
        simp only [bnd]
        rw [nI_1, nI_1, ih (k + 1) _ (by omega) (by omega)]
        simp [x, rooted]
theorem md_parts (M : NowIs Λ μ (lyR Λ a 0) w sl j c t) (S : SlOK w sl) : sX5_parts Λ μ a = some (nI (cntTo 12 (rooted sl))) := by
  unfold sX5_parts
  rw [nI_lit0, md_partsL M S fuel 0 0 (by omega) (by unfold fuel; omega), Nat.sub_zero, itr_sum0]; rfl
theorem md_placesL (M : NowIs Λ μ (lyR Λ a 0) w sl j c t) : ∀ n k t, k ≤ 12 → 12 - k < n → lpX5_allPlaces_4 Λ μ a n (nI t) (nI k) = some (nI (itr (fun k t => t + (sl k).length) k (12 - k) t)) := by
  intro n
  induction n with
  | zero => intro k t hk hn; omega
  | succ n ih =>
    intro k t hk hn
    rw [lpX5_allPlaces_4_s, nI_lit12]
    by_cases e : k = 12
    · subst e
      rw [if_pos ((nI_leI (by omega) (by omega)).mpr (Nat.le_refl _))]; rfl
    · rw [if_neg (by rw [nI_leI (by omega) (by omega)]; omega), md_size M (by omega), Option.bind_some]
      rw [show 12 - k = (12 - (k + 1)) + 1 by omega, itr]
      simp only [bnd]
      rw [nI_1, nI_add, ih (k + 1) _ (by omega) (by omega)]
theorem md_places (M : NowIs Λ μ (lyR Λ a 0) w sl j c t) : sX5_allPlaces Λ μ a = some (nI (sumTo 12 (fun k => (sl k).length))) := by
  unfold sX5_allPlaces
  rw [nI_lit0, md_placesL M fuel 0 0 (by omega) (by unfold fuel; omega), Nat.sub_zero, itr_sum0]
theorem md_weightsL (M : NowIs Λ μ (lyR Λ a 0) w sl j c t) (hn12 : w.length ≤ 12) : ∀ n k t, k ≤ w.length → w.length - k < n → lpX5_allWeights_4 Λ μ a n (nI t) (nI k) = some (nI (itr (fun k t => t + wt w k) k (w.length - k) t)) := by
  intro n
  induction n with
  | zero => intro k t hk hn; omega
  | succ n ih =>
    intro k t hk hn
    rw [lpX5_allWeights_4_s, md_n M, md_n0 M]
    by_cases e : k = w.length
    · subst e
      rw [if_pos ((nI_leI (by omega) (by omega)).mpr (Nat.le_refl _)), Nat.sub_self]; rfl
    · rw [if_neg (by rw [nI_leI (by omega) (by omega)]; omega), md_weight M hn12 (by omega), Option.bind_some]
      rw [show w.length - k = (w.length - (k + 1)) + 1 by omega, itr]
      simp only [bnd]
      rw [nI_1, nI_add, ih (k + 1) _ (by omega) (by omega)]
theorem md_weights (M : NowIs Λ μ (lyR Λ a 0) w sl j c t) (hn12 : w.length ≤ 12) : sX5_allWeights Λ μ a = some (nI (sumTo w.length (wt w))) := by
  unfold sX5_allWeights
  rw [nI_lit0, md_weightsL M hn12 fuel 0 0 (by omega) (by unfold fuel; omega), Nat.sub_zero, itr_sum0]
theorem md_greatL (M : NowIs Λ μ (lyR Λ a 0) w sl j c t) (S : SlOK w sl) {k : Nat} (hk : k < 12) : ∀ n i t, i ≤ (sl k).length → (sl k).length - i < n → t < 12 → ∃ g, lpX5_greatestDepth_4 Λ μ a (nI k) n (nI t) (nI i) = some (nI g) ∧ g < 12 ∧ t ≤ g ∧ (∀ b ∈ (sl k).drop i, dep (sl k) w.length b ≤ g) ∧ (g = t ∨ ∃ b ∈ sl k, g = dep (sl k) w.length b) := by
  have h23 := S.2.2.1 k hk
  have hn12 := S.1
  intro n
  induction n with
  | zero => intro i t hi hn; omega
  | succ n ih =>
    intro i t hi hn ht
    rw [lpX5_greatestDepth_4_s, md_size M hk, Option.bind_some]
    by_cases e : i = (sl k).length
    · rw [if_pos ((nI_leI (by omega) (by omega)).mpr (by omega)), e]
      exact ⟨t, rfl, ht, Nat.le_refl _, by simp, Or.inl rfl⟩
    · have hi' : i < (sl k).length := by omega
      have hm := List.getElem_mem hi'
      have hd := dep_lt (S.2.2.2.1 k hk) hm
      rw [if_neg (by rw [nI_leI (by omega) (by omega)]; omega), md_place M S hk hi', Option.bind_some, md_depth M S hk hm, Option.bind_some, List.drop_eq_getElem_cons hi']
      by_cases y : dep (sl k) w.length (sl k)[i] ≤ t
      · rw [if_pos ((nI_leI (by omega) (by omega)).mpr y)]
        simp only [bnd]
        rw [nI_1]
        obtain ⟨g, q1, q2, q3, q4, q5⟩ := ih (i + 1) t (by omega) (by omega) ht
        refine ⟨g, q1, q2, q3, fun b hb => ?_, q5⟩
        rcases List.mem_cons.mp hb with rfl | hb
        · omega
        · exact q4 b hb
      · rw [if_neg (by rw [nI_leI (by omega) (by omega)]; exact y)]
        simp only [bnd]
        rw [nI_1]
        obtain ⟨g, q1, q2, q3, q4, q5⟩ := ih (i + 1) (dep (sl k) w.length (sl k)[i]) (by omega) (by omega) (by omega)
        refine ⟨g, q1, q2, by omega, fun b hb => ?_, ?_⟩
        · rcases List.mem_cons.mp hb with rfl | hb
          · exact q3
          · exact q4 b hb
        · rcases q5 with q5 | q5
          · exact Or.inr ⟨_, hm, q5⟩
          · exact Or.inr q5
/-- the greatest depth of a round -/
def gdp (n : Nat) (l : List Nat) : Nat := maxTo n (fun b => if b ∈ l then dep l n b else 0)
theorem md_great (M : NowIs Λ μ (lyR Λ a 0) w sl j c t) (S : SlOK w sl) {k : Nat} (hk : k < 12) : sX5_greatestDepth Λ μ a (nI k) = some (nI (gdp w.length (sl k))) := by
  have h23 := S.2.2.1 k hk
  unfold sX5_greatestDepth
  rw [nI_lit0]
  obtain ⟨g, q1, q2, q3, q4, q5⟩ := md_greatL M S hk fuel 0 0 (by omega) (by unfold fuel; omega) (by omega)
  rw [q1]
  have : g = gdp w.length (sl k) := by
    apply Nat.le_antisymm
    · rcases q5 with q5 | ⟨b, hb, q5⟩
      · omega
      · have := le_maxTo (fun b => if b ∈ sl k then dep (sl k) w.length b else 0) (S.2.2.2.1 k hk b hb)
        rw [if_pos hb] at this
        rw [q5]; exact this
    · apply maxTo_le.mpr
      intro b _
      by_cases hb : b ∈ sl k
      · rw [if_pos hb]; exact q4 b (by simpa using hb)
      · rw [if_neg hb]; omega
  rw [this]
theorem gdp_lt (S : SlOK w sl) {k : Nat} (hk : k < 12) : gdp w.length (sl k) ≤ 11 := maxTo_le.mpr (fun b hb => by
  have := S.1
  split
  · rename_i h
    have := dep_lt (S.2.2.2.1 k hk) h
    omega
  · omega)
theorem md_deepL (M : NowIs Λ μ (lyR Λ a 0) w sl j c t) (S : SlOK w sl) : ∀ n k t, k ≤ 12 → 12 - k < n → t < 12 → lpX5_deepest_4 Λ μ a n (nI t) (nI k) = some (nI (itr (fun k t => max t (gdp w.length (sl k))) k (12 - k) t)) := by
  intro n
  induction n with
  | zero => intro k t hk hn; omega
  | succ n ih =>
    intro k t hk hn ht
    rw [lpX5_deepest_4_s, nI_lit12]
    by_cases e : k = 12
    · subst e
      rw [if_pos ((nI_leI (by omega) (by omega)).mpr (Nat.le_refl _))]; rfl
    · have hg := gdp_lt S (k := k) (by omega)
      rw [if_neg (by rw [nI_leI (by omega) (by omega)]; omega), md_great M S (by omega), Option.bind_some]
      rw [show 12 - k = (12 - (k + 1)) + 1 by omega, itr]
      by_cases y : gdp w.length (sl k) ≤ t
      · rw [if_pos ((nI_leI (by omega) (by omega)).mpr y), Nat.max_eq_left y]
        simp only [bnd]
        rw [nI_1, ih (k + 1) _ (by omega) (by omega) ht]
      · rw [if_neg (by rw [nI_leI (by omega) (by omega)]; exact y), Nat.max_eq_right (by omega)]
        simp only [bnd]
        rw [nI_1, ih (k + 1) _ (by omega) (by omega) (by omega)]
theorem md_deep (M : NowIs Λ μ (lyR Λ a 0) w sl j c t) (S : SlOK w sl) : sX5_deepest Λ μ a = some (nI (maxTo 12 (fun k => gdp w.length (sl k)))) := by
  unfold sX5_deepest
  rw [nI_lit0, md_deepL M S fuel 0 0 (by omega) (by unfold fuel; omega) (by omega), Nat.sub_zero, itr_max0]
theorem md_heavyL (M : NowIs Λ μ (lyR Λ a 0) w sl j c t) (S : SlOK w sl) {k : Nat} (hk : k < 12) : ∀ n i h, i ≤ (sl k).length → (sl k).length - i < n → h < w.length → lpX5_heaviest_9 Λ μ a (nI k) n (nI h) (nI i) = some (nI (((sl k).drop i).foldl (fun h x => if wt w h < wt w x then x else h) h)) := by
  have h23 := S.2.2.1 k hk
  have hn12 := S.1
  intro n
  induction n with
  | zero => intro i h hi hn; omega
  | succ n ih =>
    intro i h hi hn hh
    rw [lpX5_heaviest_9_s, md_size M hk, Option.bind_some]
    by_cases e : i = (sl k).length
    · rw [if_pos ((nI_leI (by omega) (by omega)).mpr (by omega)), e]
      simp
    · have hi' : i < (sl k).length := by omega
      have hx := S.2.2.2.1 k hk _ (List.getElem_mem hi')
      have w1 := wt_le S.2.1 (sl k)[i]
      have w2 := wt_le S.2.1 h
      rw [if_neg (by rw [nI_leI (by omega) (by omega)]; omega), md_place M S hk hi', Option.bind_some, md_weight M hn12 hx, Option.bind_some, md_weight M hn12 hh, Option.bind_some, List.drop_eq_getElem_cons hi', List.foldl_cons]
      by_cases y : wt w h < wt w (sl k)[i]
      · rw [if_neg (by rw [nI_leI (by omega) (by omega)]; omega), if_pos y, Option.bind_some]
        simp only [bnd]
        rw [nI_1, ih (i + 1) _ (by omega) (by omega) hx]
      · rw [if_pos ((nI_leI (by omega) (by omega)).mpr (by omega)), if_neg y]
        simp only [bnd]
        rw [nI_1, ih (i + 1) _ (by omega) (by omega) hh]
theorem md_heavy (M : NowIs Λ μ (lyR Λ a 0) w sl j c t) (S : SlOK w sl) {k : Nat} (hk : k < 12) {r : Nat} {l : List Nat} (e : sl k = r :: l) : sX5_heaviest Λ μ a (nI k) = some (nI (hvy w (sl k))) := by
  have h23 := S.2.2.1 k hk
  have hr := S.2.2.2.1 k hk r (by rw [e]; simp)
  unfold sX5_heaviest
  rw [nI_lit0, md_place M S hk (by rw [e]; simp), Option.bind_some]
  have e0 : (sl k)[0]'(by rw [e]; simp) = r := by simp [e]
  rw [e0, nI_lit1, md_heavyL M S hk fuel 1 r (by rw [e]; simp) (by unfold fuel; omega) hr, e]
  rfl
end MD2
