/-! THE REFERENCE, held against a river: the rest of its questions. -/
def aheadL (w l1 l2 : List Nat) : Bool :=
  if wsum w (msk l1) = wsum w (msk l2) then (if l1.length = l2.length then decide (l1.headD 0 < l2.headD 0) else decide (l2.length < l1.length)) else decide (wsum w (msk l2) < wsum w (msk l1))
def aheadS (w : List Nat) (sl : Nat → List Nat) (l : List Nat) : Nat := cntTo 12 (fun i => rooted sl i && aheadL w (sl i) l)
section MD3
variable {Λ : Lay} {μ : Mem} {a : Nat} {w p : List Nat} {rd sl : Nat → List Nat} {j c t : Int32}
theorem md_oneA (M : NowIs Λ μ (lyR Λ a 0) w sl j c t) (S : SlOK w sl) {k b d : Nat} (hk : k < 12) (hb : b ∈ sl k) (hd : d < w.length) : sX5_areOne Λ μ a (nI d) (nI b) = some (if d ∈ sl k then 1 else 0) := by
  obtain ⟨k', hk', hd'⟩ := S.2.2.2.2.2 d hd
  rw [md_one M S hk' hd' (S.2.2.2.1 k hk b hb)]
  by_cases e : k = k'
  · subst e; rw [if_pos hb, if_pos hd']
  · rw [if_neg (fun q => e (S.2.2.2.2.1 k k' b hk hk' hb q)), if_neg (fun q => e (S.2.2.2.2.1 k k' d hk hk' q hd'))]
theorem md_leftL (M : NowIs Λ μ (lyR Λ a 0) w sl j c t) (S : SlOK w sl) {k b : Nat} (hk : k < 12) (hb : b ∈ sl k) : ∀ n i t, i ≤ w.length → w.length - i < n → t ≤ 1188 → lpX5_heaviestLeft_18 Λ μ a (nI b) n (nI t) (nI i) = some (nI (itr (fun i t => max t (leftG w (sl k) b i)) i (w.length - i) t)) := by
  have hn12 := S.1
  have hb31 := sl_lt31 S hk b hb
  intro n
  induction n with
  | zero => intro i t hi hn; omega
  | succ n ih =>
    intro i t hi hn ht
    rw [lpX5_heaviestLeft_18_s, md_n M, md_n0 M]
    by_cases e : i = w.length
    · subst e
      rw [if_pos ((nI_leI (by omega) (by omega)).mpr (Nat.le_refl _)), Nat.sub_self]; rfl
    · rw [if_neg (by rw [nI_leI (by omega) (by omega)]; omega)]
      rw [show w.length - i = (w.length - (i + 1)) + 1 by omega, itr]
      have step0 : ∀ g, g = 0 → nI (max t g) = nI t := fun g hg => by rw [hg, Nat.max_eq_left (Nat.zero_le _)]
      by_cases x : i = b
      · have hg : leftG w (sl k) b i = 0 := by unfold leftG; rw [if_neg (fun q => q.1 x)]
        rw [if_pos (by rw [x]), if_pos rfl, hg, Nat.max_eq_left (Nat.zero_le _)]
        simp only [bnd]
        rw [nI_1, ih (i + 1) _ (by omega) (by omega) ht]
      · rw [if_neg (by rw [nI_eq (by omega) (by omega)]; exact x), md_belowA M S hk hb (by omega), Option.bind_some]
        by_cases y : blw (sl k) i b = true
        · have hil := (blw_mem y).1
          have h1 := fi_lt hil
          have h23 := S.2.2.1 k hk
          have h0 : fi (sl k) i ≠ 0 := by
            intro q
            have y' := y
            unfold blw at y'
            rw [decide_eq_true_eq] at y'
            exact x (fi_inj hil (by omega))
          have hpl : par (sl k) i < 2 ^ 31 := by
            have h5 : fi (sl k) i - 1 < (sl k).length := by omega
            have : par (sl k) i = (sl k)[fi (sl k) i - 1] := by unfold par; simp [h5]
            rw [this]
            exact sl_lt31 S hk _ (List.getElem_mem h5)
          rw [if_pos y, if_neg (by decide), md_above M S hk hil, Option.bind_some, if_neg h0]
          by_cases z : par (sl k) i = b
          · have hg : leftG w (sl k) b i = sumB w (sl k) i := by unfold leftG; rw [if_pos ⟨x, y, z⟩]
            have hsb := sumB_le hn12 S.2.1 (sl k) i
            rw [if_pos (by rw [z]), if_neg (by decide), md_sum M S hk hil, Option.bind_some, hg]
            by_cases u : sumB w (sl k) i ≤ t
            · rw [if_pos ((nI_leI (by omega) (by omega)).mpr u), Nat.max_eq_left u]
              simp only [bnd]
              rw [nI_1, ih (i + 1) _ (by omega) (by omega) ht]
            · rw [if_neg (by rw [nI_leI (by omega) (by omega)]; exact u), Nat.max_eq_right (by omega), Option.bind_some]
              simp only [bnd]
              rw [nI_1, ih (i + 1) _ (by omega) (by omega) hsb]
          · have hg : leftG w (sl k) b i = 0 := by unfold leftG; rw [if_neg (fun q => z q.2.2)]
            rw [if_neg (by rw [nI_eq hpl hb31]; exact z), if_pos rfl, hg, Nat.max_eq_left (Nat.zero_le _)]
            simp only [bnd]
            rw [nI_1, ih (i + 1) _ (by omega) (by omega) ht]
        · have hg : leftG w (sl k) b i = 0 := by unfold leftG; rw [if_neg (fun q => y q.2.1)]
          rw [if_neg y, if_pos rfl, if_pos rfl, hg, Nat.max_eq_left (Nat.zero_le _)]
          simp only [bnd]
          rw [nI_1, ih (i + 1) _ (by omega) (by omega) ht]
theorem sumB_mono {l : List Nat} {x y : Nat} (h : blw l x y = true) : sumB w l x ≤ sumB w l y := sumTo_le (fun k _ => by
  by_cases c : blw l k x = true
  · rw [if_pos c, if_pos (blw_tr c h)]; exact Nat.le_refl _
  · rw [if_neg c]; exact Nat.zero_le _)
theorem md_left (M : NowIs Λ μ (lyR Λ a 0) w sl j c t) (O : RvOK w p rd) (X : Rel rd sl) {r k b : Nat} (hr : r < 12) (hb : b ∈ rd r) (hk : k < 12) (e : sl k = rd r) : sX5_heaviestLeft Λ μ a (nI b) = some (nI (heavyLeft w p (rd r) b)) := by
  have S := rel_ok O X
  have hbs : b ∈ sl k := by rw [e]; exact hb
  obtain ⟨hT, tl, er⟩ := rv_tour O hr hb
  have hrs : r ∈ sl k := by rw [e]; exact rv_root_mem O hr hb
  have h1 := sumB_le O.1 O.2.2.1 (sl k) r
  have h2 : sumB w (sl k) b ≤ sumB w (sl k) r := sumB_mono (by rw [e, blw_root er hT]; simpa using hb)
  unfold sX5_heaviestLeft
  rw [md_root M S hk hbs (e.trans er), Option.bind_some, md_sum M S hk hrs, Option.bind_some, md_sum M S hk hbs, Option.bind_some]
  simp only [bnd]
  have := O.1
  rw [pk_sub h2, nI_lit0, md_leftL M S hk hbs fuel 0 _ (by omega) (by unfold fuel; omega) (by omega), Nat.sub_zero, heavy_eq O hr hb, e]
  have hm := itr_max (leftG w (rd r) b) w.length 0 (sumB w (rd r) r - sumB w (rd r) b)
  simp only [maxTo, Nat.max_zero, Nat.zero_add] at hm
  rw [hm]
theorem md_midL (M : NowIs Λ μ (lyR Λ a 0) w sl j c t) (O : RvOK w p rd) (X : Rel rd sl) {r k b : Nat} (hr : r < 12) (hb : b ∈ rd r) (hk : k < 12) (e : sl k = rd r) : ∀ n i (m : Option Nat), i ≤ w.length → w.length - i < n → (∀ x, m = some x → x ∈ rd r) → lpX5_middle_14 Λ μ a (nI b) n (midE m) (nI i) = some (midE (itr (midS (rd r) (heavyLeft w p (rd r))) i (w.length - i) m)) := by
  have S := rel_ok O X
  have hbs : b ∈ sl k := by rw [e]; exact hb
  have hn12 := O.1
  have hle : ∀ j, heavyLeft w p (rd r) j ≤ 1188 := fun j => maxTo_le.mpr (fun k _ => by split; exact leftV_le O _ _ _; omega)
  intro n
  induction n with
  | zero => intro i m hi hn; omega
  | succ n ih =>
    intro i m hi hn hx
    rw [lpX5_middle_14_s, md_n M, md_n0 M]
    by_cases e1 : i = w.length
    · subst e1
      rw [if_pos ((nI_leI (by omega) (by omega)).mpr (Nat.le_refl _)), Nat.sub_self]; rfl
    · rw [if_neg (by rw [nI_leI (by omega) (by omega)]; omega), md_oneA M S hk hbs (by omega), Option.bind_some]
      rw [show w.length - i = (w.length - (i + 1)) + 1 by omega, itr]
      by_cases y : i ∈ rd r
      · rw [if_pos (show i ∈ sl k by rw [e]; exact y), if_neg (by decide)]
        cases m with
        | none =>
          rw [if_pos (show midE none < 0 by decide)]
          simp only [bnd]
          rw [nI_1]
          have e2 : midS (rd r) (heavyLeft w p (rd r)) i none = some i := by unfold midS; rw [if_pos y]
          rw [e2]
          exact ih (i + 1) (some i) (by omega) (by omega) (fun x q => by cases q; exact y)
        | some x =>
          have hxr := hx x rfl
          have hx12 := rv_lt12 O hr x hxr
          have g1 := hle i
          have g2 := hle x
          rw [if_neg (show ¬ midE (some x) < 0 from nI_pos (by omega)), md_left M O X hr y hk e, Option.bind_some, show midE (some x) = nI x from rfl, md_left M O X hr hxr hk e, Option.bind_some]
          by_cases d : heavyLeft w p (rd r) i < heavyLeft w p (rd r) x
          · rw [if_neg (by rw [nI_leI (by omega) (by omega)]; omega)]
            simp only [bnd]
            rw [nI_1]
            have e2 : midS (rd r) (heavyLeft w p (rd r)) i (some x) = some i := by unfold midS; rw [if_pos y]; simp [d]
            rw [e2]
            exact ih (i + 1) (some i) (by omega) (by omega) (fun x q => by cases q; exact y)
          · rw [if_pos ((nI_leI (by omega) (by omega)).mpr (by omega))]
            simp only [bnd]
            rw [nI_1]
            have e2 : midS (rd r) (heavyLeft w p (rd r)) i (some x) = some x := by unfold midS; rw [if_pos y]; simp [d]
            rw [e2]
            exact ih (i + 1) (some x) (by omega) (by omega) (fun x q => by cases q; exact hxr)
      · rw [if_neg (show i ∉ sl k by rw [e]; exact y), if_pos rfl]
        simp only [bnd]
        rw [nI_1]
        have e2 : midS (rd r) (heavyLeft w p (rd r)) i m = m := by unfold midS; rw [if_neg y]
        rw [e2]
        exact ih (i + 1) m (by omega) (by omega) hx
theorem md_meetL (M : NowIs Λ μ (lyR Λ a 0) w sl j c t) (S : SlOK w sl) {k b d r : Nat} {tl : List Nat} (hk : k < 12) (hT : Tour (sl k)) (er : sl k = r :: tl) (hb : b ∈ sl k) (hd : d ∈ sl k) : ∀ n x, dep (sl k) w.length x < n → blw (sl k) b x = true → (∀ i, blw (sl k) b i = true → blw (sl k) d i = true → blw (sl k) x i = true) → ∃ m, lpX5_meeting_2 Λ μ a (nI d) n (nI x) = some (nI m) ∧ Meets (sl k) b d m := by
  have hln := S.2.2.2.1 k hk
  intro n
  induction n with
  | zero => intro x hn; omega
  | succ n ih =>
    intro x hn h1 h2
    have hx := (blw_mem h1).2
    rw [lpX5_meeting_2_s, md_below M S hk hd (hln x hx), Option.bind_some]
    by_cases y : blw (sl k) d x = true
    · rw [if_pos y, if_neg (by decide)]
      exact ⟨x, rfl, h1, y, h2⟩
    · have h0 : fi (sl k) x ≠ 0 := by
        intro q
        have : x = r := (par_root er).mp q
        rw [this, blw_root er hT] at y
        exact y (by simpa using hd)
      have hp := par_facts hT hx h0
      have hdp := dep_par hT hx h0 hln
      rw [if_neg y, if_pos rfl, md_above M S hk hx, Option.bind_some, if_neg h0]
      refine ih (par (sl k) x) (by omega) (blw_tr h1 hp.2.2.1) (fun i q1 q2 => ?_)
      have q3 := h2 i q1 q2
      rw [← hp.2.2.2.2 i (fun q => y (q ▸ q2))]
      exact q3
theorem md_meet (M : NowIs Λ μ (lyR Λ a 0) w sl j c t) (S : SlOK w sl) {k b d r : Nat} {tl : List Nat} (hk : k < 12) (hT : Tour (sl k)) (er : sl k = r :: tl) (hb : b ∈ sl k) (hd : d ∈ sl k) : ∃ m, sX5_meeting Λ μ a (nI b) (nI d) = some (nI m) ∧ Meets (sl k) b d m := by
  have := dep_lt (S.2.2.2.1 k hk) hb
  have := S.1
  exact md_meetL M S hk hT er hb hd fuel b (by unfold fuel; omega) (blw_rf hb) (fun i q _ => q)
theorem sub_sgn {x y : Nat} (hx : x < 2 ^ 30) (hy : y < 2 ^ 30) : (nI x - nI y = nI 0 ↔ x = y) ∧ (nI x - nI y ≤ nI 0 ↔ x ≤ y) := by
  have e := pk_sub_toInt hx hy
  have e0 : (nI 0).toInt = 0 := rfl
  constructor
  · rw [← Int32.toInt_inj, e, e0]; omega
  · rw [Int32.le_iff_toInt_le, e, e0]; omega
theorem tour_odd {l : List Nat} (h : Tour l) (hl : ∀ x ∈ l, x < 12) : ∃ m, l.length + 1 = 2 * m := ⟨_, T_len 12 l h hl⟩
theorem md_ahead (M : NowIs Λ μ (lyR Λ a 0) w sl j c t) (O : RvOK w p rd) (X : Rel rd sl) {i k : Nat} (hi : i < 12) (hk : k < 12) (hin : sl i ≠ []) (hkn : sl k ≠ []) : sX5_isAhead Λ μ a (nI i) (nI k) = some (if aheadL w (sl i) (sl k) then 1 else 0) := by
  have S := rel_ok O X
  have shape : ∀ k, k < 12 → sl k ≠ [] → ∃ r tl, Tour (sl k) ∧ sl k = r :: tl ∧ r < 12 ∧ (∀ x ∈ sl k, x < 12) := by
    intro k hk h
    obtain ⟨r, hr, e⟩ := X.2.1 k hk h
    obtain ⟨hT, tl, er⟩ := O.2.2.2.2.1 r hr (by rw [← e]; exact h)
    exact ⟨r, tl, by rw [e]; exact hT, e.trans er, hr, by rw [e]; exact rv_lt12 O hr⟩
  obtain ⟨r1, t1, T1, e1, h1, l1⟩ := shape i hi hin
  obtain ⟨r2, t2, T2, e2, h2, l2⟩ := shape k hk hkn
  have m1 : r1 ∈ sl i := by rw [e1]; simp
  have m2 : r2 ∈ sl k := by rw [e2]; simp
  have g1 : (sl i)[0]'(by rw [e1]; simp) = r1 := by simp [e1]
  have g2 : (sl k)[0]'(by rw [e2]; simp) = r2 := by simp [e2]
  have b1 := sumB_le O.1 O.2.2.1 (sl i) r1
  have b2 := sumB_le O.1 O.2.2.1 (sl k) r2
  have n1 := S.2.2.1 i hi
  have n2 := S.2.2.1 k hk
  have hh1 : (sl i).headD 0 = r1 := by rw [e1]; rfl
  have hh2 : (sl k).headD 0 = r2 := by rw [e2]; rfl
  obtain ⟨o1, o1⟩ := tour_odd T1 l1
  obtain ⟨o2, o2⟩ := tour_odd T2 l2
  unfold sX5_isAhead aheadL
  rw [nI_lit0, md_place M S hi (by rw [e1]; simp), Option.bind_some, g1, md_sum M S hi m1, Option.bind_some, md_place M S hk (by rw [e2]; simp), Option.bind_some, g2, md_sum M S hk m2, Option.bind_some, wsum_all e1 T1, wsum_all e2 T2]
  simp only [bnd]
  rw [md_banksOf M S hi, Option.bind_some, md_banksOf M S hk, Option.bind_some, hh1, hh2]
  obtain ⟨s1, s2⟩ := sub_sgn (x := sumB w (sl i) r1) (y := sumB w (sl k) r2) (by omega) (by omega)
  obtain ⟨s3, s4⟩ := sub_sgn (x := ((sl i).length + 1) / 2) (y := ((sl k).length + 1) / 2) (by omega) (by omega)
  by_cases c1 : sumB w (sl i) r1 = sumB w (sl k) r2
  · rw [if_pos (s1.mpr c1), if_pos c1]
    by_cases c2 : (sl i).length = (sl k).length
    · rw [if_pos (s3.mpr (by rw [c2])), if_pos c2, Option.bind_some, Option.bind_some]
      by_cases c3 : r2 ≤ r1
      · rw [if_pos ((nI_leI (by omega) (by omega)).mpr c3), if_neg (by simp; omega)]
      · rw [if_neg (by rw [nI_leI (by omega) (by omega)]; exact c3), if_pos (by simp; omega)]
    · rw [if_neg (fun q => c2 (by have := s3.mp q; omega)), if_neg c2]
      by_cases c3 : (sl i).length ≤ (sl k).length
      · rw [if_pos (s4.mpr (by omega)), if_neg (by simp; omega)]
      · rw [if_neg (fun q => c3 (by have := s4.mp q; omega)), if_pos (by simp; omega)]
  · rw [if_neg (fun q => c1 (s1.mp q)), if_neg c1]
    by_cases c3 : sumB w (sl i) r1 ≤ sumB w (sl k) r2
    · rw [if_pos (s2.mpr c3), if_neg (by simp; omega)]
    · rw [if_neg (fun q => c3 (s2.mp q)), if_pos (by simp; omega)]
theorem md_rankIn (M : NowIs Λ μ (lyR Λ a 0) w sl j c t) (O : RvOK w p rd) (X : Rel rd sl) (x : Int32) (K : Int32 → Option Int32) {k : Nat} (hk : k < 12) (hkn : sl k ≠ []) : ∀ n i s, i ≤ 12 → 12 - i < n → lpX5_ranked_13 Λ μ a x (nI k) K n (nI s) (nI i) = K (nI (itr (fun i s => s + if (rooted sl i && aheadL w (sl i) (sl k)) = true then 1 else 0) i (12 - i) s)) := by
  have S := rel_ok O X
  have n2 := S.2.2.1 k hk
  have hk0 := List.length_pos_iff.mpr hkn
  intro n
  induction n with
  | zero => intro i s hi hn; omega
  | succ n ih =>
    intro i s hi hn
    rw [lpX5_ranked_13_s, nI_lit12]
    by_cases e : i = 12
    · subst e
      rw [if_pos ((nI_leI (by omega) (by omega)).mpr (Nat.le_refl _))]; rfl
    · have n1 := S.2.2.1 i (by omega)
      rw [if_neg (by rw [nI_leI (by omega) (by omega)]; omega), md_size M hk, Option.bind_some, nI_lit0, if_neg (by rw [nI_leI (by omega) (by omega)]; omega), md_size M (by omega), Option.bind_some]
      rw [show 12 - i = (12 - (i + 1)) + 1 by omega, itr]
      by_cases y : sl i = []
      · rw [if_pos (by rw [y]; decide)]
        simp only [bnd]
        rw [nI_add, nI_1, ih (i + 1) _ (by omega) (by omega)]
        simp [y, rooted]
      · have := List.length_pos_iff.mpr y
        rw [if_neg (by rw [nI_leI (by omega) (by omega)]; omega), md_ahead M O X (by omega) hk y hkn, Option.bind_some]
        by_cases z : aheadL w (sl i) (sl k) = true
        · rw [if_pos z, if_neg (by decide)]
          simp only [bnd]
          rw [nI_1, nI_1, ih (i + 1) _ (by omega) (by omega)]
          simp [y, z, rooted]
        · rw [if_neg z, if_pos (show (0 : Int32) = nI 0 from rfl)]
          simp only [bnd]
          rw [nI_add, nI_1, ih (i + 1) _ (by omega) (by omega)]
          simp [z]
/-- the first of the reference's rounds from k on that stands at the place x -/
def rankG (w : List Nat) (sl : Nat → List Nat) (x : Int32) : Nat → Nat → Int32
  | _, 0 => -1
  | k, m + 1 => if sl k ≠ [] ∧ nI (aheadS w sl (sl k)) = x then nI ((sl k).headD 0) else rankG w sl x (k + 1) m
theorem md_rankL (M : NowIs Λ μ (lyR Λ a 0) w sl j c t) (O : RvOK w p rd) (X : Rel rd sl) (x : Int32) : ∀ n k, k ≤ 12 → 12 - k < n → lpX5_ranked_2 Λ μ a x n (nI k) = some (rankG w sl x k (12 - k)) := by
  have S := rel_ok O X
  intro n
  induction n with
  | zero => intro k hk hn; omega
  | succ n ih =>
    intro k hk hn
    rw [lpX5_ranked_2_s, nI_lit12]
    by_cases e : k = 12
    · subst e
      rw [if_pos ((nI_leI (by omega) (by omega)).mpr (Nat.le_refl _))]; rfl
    · have hk' : k < 12 := by omega
      have n2 := S.2.2.1 k hk'
      rw [if_neg (by rw [nI_leI (by omega) (by omega)]; omega)]
      rw [show 12 - k = (12 - (k + 1)) + 1 by omega, rankG]
      by_cases y : sl k = []
      · rw [show fuel = 4095 + 1 from rfl, lpX5_ranked_13_s, if_neg (by decide), md_size M hk', Option.bind_some, if_pos (by rw [y]; decide), Option.bind_some, if_pos (by rw [y]; decide), if_neg (fun q => q.1 y)]
        simp only [bnd]
        rw [nI_1, ih (k + 1) (by omega) (by omega)]
      · have hk0 := List.length_pos_iff.mpr y
        rw [nI_lit0, md_rankIn M O X x _ hk' y fuel 0 0 (by omega) (by unfold fuel; omega), Nat.sub_zero, itr_sum0, md_size M hk', Option.bind_some, if_neg (by rw [nI_leI (by omega) (by omega)]; omega)]
        have hS : sumTo 12 (fun i => if (rooted sl i && aheadL w (sl i) (sl k)) = true then 1 else 0) = aheadS w sl (sl k) := rfl
        rw [hS]
        by_cases z : nI (aheadS w sl (sl k)) = x
        · rw [if_pos z, if_pos ⟨y, z⟩, md_place M S hk' hk0, Option.bind_some]
          congr 2
          obtain ⟨q, l, e3⟩ := List.exists_cons_of_ne_nil y
          simp [e3]
        · rw [if_neg z, if_neg (fun q => z q.2)]
          simp only [bnd]
          rw [nI_1, ih (k + 1) (by omega) (by omega)]
theorem md_ranked (M : NowIs Λ μ (lyR Λ a 0) w sl j c t) (O : RvOK w p rd) (X : Rel rd sl) (x : Int32) : sX5_ranked Λ μ a x = some (rankG w sl x 0 12) := by
  unfold sX5_ranked
  rw [nI_lit0, md_rankL M O X x fuel 0 (by omega) (by unfold fuel; omega)]
-- both orders are one
theorem ahead_rd (O : RvOK w p rd) {r : Nat} (hr : r < 12) (hn : rd r ≠ []) (X : Rel rd sl) : aheadN w rd r = aheadS w sl (rd r) := by
  have h1 : aheadN w rd r = sumTo 12 (fun o => if rd o ≠ [] then (if aheadL w (rd o) (rd r) then 1 else 0) else 0) := by
    unfold aheadN cntTo
    apply sumTo_congr
    intro o ho
    by_cases y : rd o = []
    · simp [y, rooted]
    · obtain ⟨-, t1, e1⟩ := O.2.2.2.2.1 o ho y
      obtain ⟨-, t2, e2⟩ := O.2.2.2.2.1 r hr hn
      have q1 : (rd o).headD 0 = o := by rw [e1]; rfl
      have q2 : (rd r).headD 0 = r := by rw [e2]; rfl
      have : aheadB w rd o r = aheadL w (rd o) (rd r) := by unfold aheadB aheadL; rw [q1, q2]
      simp only [this]
      rw [if_pos y]
      by_cases z : o = r
      · subst z
        have : aheadL w (rd o) (rd o) = false := by unfold aheadL; simp
        simp [this]
      · simp [z, y, rooted]
  have h2 : aheadS w sl (rd r) = sumTo 12 (fun o => if sl o ≠ [] then (if aheadL w (sl o) (rd r) then 1 else 0) else 0) := by
    unfold aheadS cntTo
    apply sumTo_congr
    intro o _
    by_cases y : sl o = [] <;> simp [y, rooted]
  rw [h1, h2]
  exact rel_sum O X (fun l => if aheadL w l (rd r) then 1 else 0)
theorem aheadL_tr {l1 l2 l3 : List Nat} (h1 : aheadL w l1 l2 = true) (h2 : aheadL w l2 l3 = true) : aheadL w l1 l3 = true := by
  unfold aheadL at *
  generalize wsum w (msk l1) = a1 at *
  generalize wsum w (msk l2) = a2 at *
  generalize wsum w (msk l3) = a3 at *
  split at h1 <;> split at h2
  · split at h1 <;> split at h2 <;> simp only [decide_eq_true_eq] at h1 h2 <;> (split <;> try split) <;> simp only [decide_eq_true_eq] <;> omega
  · split at h1 <;> simp only [decide_eq_true_eq] at h1 h2 <;> (split <;> try split) <;> simp only [decide_eq_true_eq] <;> omega
  · split at h2 <;> simp only [decide_eq_true_eq] at h1 h2 <;> (split <;> try split) <;> simp only [decide_eq_true_eq] <;> omega
  · simp only [decide_eq_true_eq] at h1 h2
    (split <;> try split) <;> simp only [decide_eq_true_eq] <;> omega
theorem aheadL_ir (l : List Nat) : aheadL w l l = false := by unfold aheadL; simp
theorem aheadL_or {l1 l2 : List Nat} (h : l1.headD 0 ≠ l2.headD 0) : aheadL w l1 l2 = true ∨ aheadL w l2 l1 = true := by
  unfold aheadL
  generalize wsum w (msk l1) = a1
  generalize wsum w (msk l2) = a2
  by_cases c1 : a1 = a2
  · subst c1
    rw [if_pos rfl, if_pos rfl]
    by_cases c2 : l1.length = l2.length
    · rw [if_pos c2, if_pos c2.symm]
      simp only [decide_eq_true_eq]; omega
    · rw [if_neg c2, if_neg (fun q => c2 q.symm)]
      simp only [decide_eq_true_eq]; omega
  · rw [if_neg c1, if_neg (fun q => c1 q.symm)]
    simp only [decide_eq_true_eq]; omega
theorem aheadS_lt {k : Nat} (hk : k < 12) (hn : sl k ≠ []) {l : List Nat} (h : aheadL w (sl k) l = true) : aheadS w sl (sl k) < aheadS w sl l := by
  have e := sumTo_one hk 1
  suffices key : aheadS w sl (sl k) + sumTo 12 (fun i => if i = k then 1 else 0) ≤ aheadS w sl l by omega
  unfold aheadS cntTo
  rw [← sumTo_add]
  apply sumTo_le
  intro i _
  by_cases c1 : i = k
  · subst c1
    simp [aheadL_ir, h, hn, rooted]
  · by_cases c2 : aheadL w (sl i) (sl k) = true
    · have := aheadL_tr c2 h
      simp [c1, c2, this]
    · simp [c1, c2]
theorem rank_le (l : List Nat) : aheadS w sl l ≤ 12 := cntTo_le 12 _
theorem rank_eq (O : RvOK w p rd) (X : Rel rd sl) (x : Int32) : rankF w rd x 0 12 = rankG w sl x 0 12 := by
  have uniq : ∀ k k', k < 12 → k' < 12 → sl k ≠ [] → sl k' ≠ [] → nI (aheadS w sl (sl k)) = nI (aheadS w sl (sl k')) → (sl k).headD 0 = (sl k').headD 0 := by
    intro k k' hk hk' h h' e
    have e1 := (nI_eq (by have := rank_le (w := w) (sl := sl) (sl k); omega) (by have := rank_le (w := w) (sl := sl) (sl k'); omega)).mp e
    apply Classical.byContradiction
    intro q
    rcases aheadL_or (w := w) q with z | z
    · have := aheadS_lt hk h z; omega
    · have := aheadS_lt hk' h' z; omega
  have F : ∀ m k, (rankF w rd x k m = -1 ∧ ∀ i, k ≤ i → i < k + m → ¬ (rd i ≠ [] ∧ nI (aheadN w rd i) = x)) ∨ ∃ i, k ≤ i ∧ i < k + m ∧ rd i ≠ [] ∧ nI (aheadN w rd i) = x ∧ rankF w rd x k m = nI i := by
    intro m
    induction m with
    | zero => intro k; exact Or.inl ⟨rfl, fun i h1 h2 => by omega⟩
    | succ m ih =>
      intro k
      rw [rankF]
      by_cases c : rd k ≠ [] ∧ nI (aheadN w rd k) = x
      · rw [if_pos c]
        exact Or.inr ⟨k, by omega, by omega, c.1, c.2, rfl⟩
      · rw [if_neg c]
        rcases ih (k + 1) with ⟨h1, h2⟩ | ⟨i, h1, h2, h3, h4, h5⟩
        · refine Or.inl ⟨h1, fun i g1 g2 => ?_⟩
          by_cases q : i = k
          · rw [q]; exact c
          · exact h2 i (by omega) (by omega)
        · exact Or.inr ⟨i, by omega, by omega, h3, h4, h5⟩
  have Gr : ∀ m k, (rankG w sl x k m = -1 ∧ ∀ i, k ≤ i → i < k + m → ¬ (sl i ≠ [] ∧ nI (aheadS w sl (sl i)) = x)) ∨ ∃ i, k ≤ i ∧ i < k + m ∧ sl i ≠ [] ∧ nI (aheadS w sl (sl i)) = x ∧ rankG w sl x k m = nI ((sl i).headD 0) := by
    intro m
    induction m with
    | zero => intro k; exact Or.inl ⟨rfl, fun i h1 h2 => by omega⟩
    | succ m ih =>
      intro k
      rw [rankG]
      by_cases c : sl k ≠ [] ∧ nI (aheadS w sl (sl k)) = x
      · rw [if_pos c]
        exact Or.inr ⟨k, by omega, by omega, c.1, c.2, rfl⟩
      · rw [if_neg c]
        rcases ih (k + 1) with ⟨h1, h2⟩ | ⟨i, h1, h2, h3, h4, h5⟩
        · refine Or.inl ⟨h1, fun i g1 g2 => ?_⟩
          by_cases q : i = k
          · rw [q]; exact c
          · exact h2 i (by omega) (by omega)
        · exact Or.inr ⟨i, by omega, by omega, h3, h4, h5⟩
  rcases F 12 0 with ⟨f1, f2⟩ | ⟨r, -, f2, f3, f4, f5⟩
  · rcases Gr 12 0 with ⟨g1, g2⟩ | ⟨k, -, g2, g3, g4, g5⟩
    · rw [f1, g1]
    · obtain ⟨r, hr, e⟩ := X.2.1 k (by omega) g3
      have hn : rd r ≠ [] := by rw [← e]; exact g3
      exact absurd ⟨hn, by rw [ahead_rd O hr hn X, ← e]; exact g4⟩ (f2 r (by omega) (by omega))
  · obtain ⟨k0, hk0, e0⟩ := X.1 r (by omega) f3
    have a0 : nI (aheadS w sl (sl k0)) = x := by rw [e0, ← ahead_rd O (by omega) f3 X]; exact f4
    have n0 : sl k0 ≠ [] := by rw [e0]; exact f3
    rcases Gr 12 0 with ⟨g1, g2⟩ | ⟨k, -, g2, g3, g4, g5⟩
    · exact absurd ⟨n0, a0⟩ (g2 k0 (by omega) (by omega))
    · rw [f5, g5, uniq k k0 (by omega) hk0 g3 n0 (g4.trans a0.symm), e0]
      obtain ⟨-, t, er⟩ := O.2.2.2.2.1 r (by omega) f3
      rw [er]; rfl
end MD3
