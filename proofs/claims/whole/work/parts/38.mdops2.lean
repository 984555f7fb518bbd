/-! THE REFERENCE: rising, cutting, joining. -/
theorem risenI {x : Nat} {d : Int32} (hx : x ≤ 99) (h1 : -99 ≤ d.toInt) (h2 : d.toInt ≤ 99) : (if (0 : Int32) ≤ nI x + d then (if nI x + d ≤ (99 : Int32) then some (nI x + d) else some (99 : Int32)) else some (0 : Int32)) = some (nI (clampW x d.toInt)) := by
  have e : (nI x + d).toInt = (x : Int) + d.toInt := by
    rw [Int32.toInt_add, nI_toInt (by omega)]
    have := Int.bmod_eq_of_le (n := (x : Int) + d.toInt) (m := 2 ^ 32) (by omega) (by omega)
    simpa using this
  have e99 : (99 : Int32).toInt = 99 := rfl
  have e0 : (0 : Int32).toInt = 0 := rfl
  have ec : (nI (clampW x d.toInt)).toInt = clampW x d.toInt := nI_toInt (by have := clamp_le x d.toInt; omega)
  by_cases c1 : (0 : Int32) ≤ nI x + d
  · rw [if_pos c1]
    rw [Int32.le_iff_toInt_le, e, e0] at c1
    by_cases c2 : nI x + d ≤ (99 : Int32)
    · rw [if_pos c2]
      rw [Int32.le_iff_toInt_le, e, e99] at c2
      congr 1
      apply Int32.toInt_inj.mp
      rw [ec, e]
      unfold clampW
      omega
    · rw [if_neg c2]
      rw [Int32.le_iff_toInt_le, e, e99] at c2
      congr 1
      apply Int32.toInt_inj.mp
      rw [ec, e99]
      unfold clampW
      omega
  · rw [if_neg c1]
    rw [Int32.le_iff_toInt_le, e, e0] at c1
    congr 1
    apply Int32.toInt_inj.mp
    rw [ec, e0]
    unfold clampW
    omega
section MDP
variable {Λ : Lay} {μ : Mem} {a : Nat} {w : List Nat} {sl : Nat → List Nat} {j c t : Int32}
theorem md_risen (M : NowIs Λ μ (lyR Λ a 0) w sl j c t) (S : SlOK w sl) {b : Nat} (hb : b < w.length) {d : Int32} (h1 : -99 ≤ d.toInt) (h2 : d.toInt ≤ 99) : sX5_risen Λ μ a (nI b) d = some (nI (clampW (wt w b) d.toInt)) := by
  unfold sX5_risen
  rw [md_weight M S.1 hb, Option.bind_some]
  simp only [bnd]
  exact risenI (wt_le S.2.1 b) h1 h2
theorem slok_w {w' : List Nat} (S : SlOK w sl) (hl : w'.length = w.length) (h9 : ∀ x ∈ w', x ≤ 99) : SlOK w' sl :=
  ⟨by rw [hl]; exact S.1, h9, S.2.2.1, by rw [hl]; exact S.2.2.2.1, S.2.2.2.2.1, by rw [hl]; exact S.2.2.2.2.2⟩
theorem rise_99 (hw : ∀ x ∈ w, x ≤ 99) (s : Nat) (d : Int) (m : Nat) : ∀ x ∈ riseK w s d m, x ≤ 99 := by
  intro x hx
  unfold riseK at hx
  obtain ⟨k, _, rfl⟩ := List.mem_map.mp hx
  by_cases e : k < m ∧ s.testBit k = true
  · rw [if_pos e]; exact clamp_le _ _
  · rw [if_neg e]; exact wt_le hw k
theorem rise_full (s : Nat) (d : Int) : riseK w s d w.length = riseW w s d := by
  unfold riseK riseW
  apply List.map_congr_left
  intro k hk
  have : k < w.length := by simpa using hk
  simp [this]
theorem wt_get {k : Nat} (hk : k < w.length) : wt w k = w[k] := by simp [wt, hk]
theorem md_riseW (S0 : SlOK w sl) (hN : lyN Λ (lyR Λ a 0) = 304) {k b : Nat} (hk : k < 12) (hb : b ∈ sl k) {d : Int32} (h1 : -99 ≤ d.toInt) (h2 : d.toInt ≤ 99) (r : Int32) : ∀ n i (μ1 : Mem), i ≤ w.length → w.length - i < n → μ1.1 = μ.1 → (∀ x, x ≠ lyR Λ a 0 → mA μ1 x = mA μ x) → NowIs Λ μ1 (lyR Λ a 0) (riseK w (msk (sl k)) d.toInt i) sl j c t → ∃ μ', lpX5_rise_117 Λ a (nI b) d r n μ1 (nI i) = some (r, μ') ∧ μ'.1 = μ.1 ∧ (∀ x, x ≠ lyR Λ a 0 → mA μ' x = mA μ x) ∧ NowIs Λ μ' (lyR Λ a 0) (riseW w (msk (sl k)) d.toInt) sl j c t := by
  have hn12 := S0.1
  intro n
  induction n with
  | zero => intro i μ1 hi hn; omega
  | succ n ih =>
    intro i μ1 hi hn e1 e2 M
    have hlen := riseK_len w (msk (sl k)) d.toInt i
    have S : SlOK (riseK w (msk (sl k)) d.toInt i) sl := slok_w S0 hlen (rise_99 S0.2.1 _ _ _)
    rw [lpX5_rise_117_s, md_n M, md_n0 M, hlen]
    by_cases e : i = w.length
    · subst e
      rw [if_pos ((nI_leI (by omega) (by omega)).mpr (Nat.le_refl _))]
      rw [rise_full] at M
      exact ⟨μ1, rfl, e1, e2, M⟩
    · have hi' : i < w.length := by omega
      have hir : i < (riseK w (msk (sl k)) d.toInt i).length := by rw [hlen]; exact hi'
      have hwt : wt (riseK w (msk (sl k)) d.toInt i) i = wt w i := by
        rw [wt_get hir, riseK_get hi', if_neg (by omega)]
      rw [if_neg (by rw [nI_leI (by omega) (by omega)]; omega), md_oneA M S hk hb (by rw [hlen]; exact hi'), Option.bind_some]
      by_cases m : i ∈ sl k
      · rw [if_pos m, if_neg (by decide), md_risen M S hir h1 h2, Option.bind_some, hwt, ix_w, hN, gd_t (nI_in (by omega) (by omega)), nI_clamp (by omega)]
        simp only [bnd]
        rw [nI_1]
        have T := (Mto.rf (μ := μ1) (q := lyR Λ a 0)).st (4 + i) (nI (clampW (wt w i) d.toInt))
        refine ih (i + 1) _ (by omega) (by omega) (T.1.trans e1) (fun x hx => (T.2.2 x hx).trans (e2 x hx)) ?_
        rw [riseK_s hi', if_pos (by rw [msk_bit]; exact decide_eq_true m)]
        exact now_wt M (by rw [hlen]; exact hn12) S.2.2.1 hir T
      · rw [if_neg m, if_pos rfl, md_weight M (by rw [hlen]; exact hn12) hir, Option.bind_some, hwt, ix_w, hN, gd_t (nI_in (by omega) (by omega)), nI_clamp (by omega)]
        simp only [bnd]
        rw [nI_1]
        have T := (Mto.rf (μ := μ1) (q := lyR Λ a 0)).st (4 + i) (nI (wt w i))
        refine ih (i + 1) _ (by omega) (by omega) (T.1.trans e1) (fun x hx => (T.2.2 x hx).trans (e2 x hx)) ?_
        rw [riseK_s hi', if_neg (by rw [msk_bit]; simpa using m)]
        exact now_wt M (by rw [hlen]; exact hn12) S.2.2.1 hir T
def riseN (w l : List Nat) (d : Int) (i : Nat) : Bool := (msk l).testBit i && decide (clampW (wt w i) d ≠ wt w i)
theorem md_riseL (M : NowIs Λ μ (lyR Λ a 0) w sl j c t) (S : SlOK w sl) {k b : Nat} (hk : k < 12) (hb : b ∈ sl k) {d : Int32} (h1 : -99 ≤ d.toInt) (h2 : d.toInt ≤ 99) : ∀ n i m, i ≤ w.length → w.length - i < n → ∃ n', lpX5_rise_29 Λ a (nI b) d n μ (nI m) (nI i) = lpX5_rise_29 Λ a (nI b) d (n' + 1) μ (nI (itr (fun i m => m + if riseN w (sl k) d.toInt i then 1 else 0) i (w.length - i) m)) (nI w.length) := by
  have hn12 := S.1
  intro n
  induction n with
  | zero => intro i m hi hn; omega
  | succ n ih =>
    intro i m hi hn
    by_cases e : i = w.length
    · subst e
      rw [Nat.sub_self]
      exact ⟨n, rfl⟩
    · have hi' : i < w.length := by omega
      rw [lpX5_rise_29_s, md_n M, md_n0 M, if_neg (by rw [nI_leI (by omega) (by omega)]; omega), md_oneA M S hk hb hi', Option.bind_some, show w.length - i = (w.length - (i + 1)) + 1 by omega, itr]
      simp only [bnd]
      have hc := clamp_le (wt w i) d.toInt
      have hw := wt_le S.2.1 i
      by_cases q : i ∈ sl k
      · rw [if_pos q, if_neg (by decide), md_risen M S hi' h1 h2, Option.bind_some, md_weight M hn12 hi', Option.bind_some]
        by_cases q2 : clampW (wt w i) d.toInt = wt w i
        · rw [if_pos (by rw [q2]), nI_a0, nI_1]
          have : riseN w (sl k) d.toInt i = false := by unfold riseN; simp [q2]
          rw [this]
          exact ih (i + 1) m (by omega) (by omega)
        · rw [if_neg (by rw [nI_eq (by omega) (by omega)]; exact q2), nI_1, nI_1]
          have : riseN w (sl k) d.toInt i = true := by unfold riseN; rw [msk_bit]; simp [q, q2]
          rw [this]
          exact ih (i + 1) (m + 1) (by omega) (by omega)
      · rw [if_neg q, if_pos rfl, nI_a0, nI_1]
        have : riseN w (sl k) d.toInt i = false := by unfold riseN; rw [msk_bit]; simp [q]
        rw [this]
        exact ih (i + 1) m (by omega) (by omega)
variable {h : List Pic} {V : Pic}
theorem md_rise (P : MdApart Λ a) (H : Hist Λ μ a h) (N : NowV Λ μ (lyR Λ a 0) V) (ok : PicOK V) {k b : Nat} (hk : k < 12) (hb : b ∈ V.sl k) {d : Int32} (h1 : -99 ≤ d.toInt) (h2 : d.toInt ≤ 99) (m : Nat) (hm : m = cntTo V.w.length (riseN V.w (V.sl k) d.toInt)) : (m = 0 → sX5_rise Λ μ a (nI b) d = some (-3, refM μ a 6 (nI (((V.sl k).length + 1) / 2)))) ∧ (m ≠ 0 → ∃ μ', sX5_rise Λ μ a (nI b) d = some (nI m, μ') ∧ Done Λ μ μ' a h V (riseW V.w (msk (V.sl k)) d.toInt) V.sl V.j V.c V.t) := by
  have S := ok.sl
  have hn := S.1
  have hbw := S.2.2.2.1 k hk b hb
  have hm12 : m ≤ V.w.length := by rw [hm]; exact cntTo_le _ _
  have e99 : (99 : Int32).toInt = 99 := rfl
  have e9 : (-99 : Int32).toInt = -99 := rfl
  have hN : lyN Λ (lyR Λ a 0) = 304 := N.1
  unfold sX5_rise
  rw [isBank_1 N hn hbw, Option.bind_some, if_neg (by decide), btw_eq, e99, e9, if_pos ⟨h1, h2⟩, Option.bind_some, if_neg (by decide), nI_lit0]
  obtain ⟨n', q⟩ := md_riseL N S hk hb h1 h2 fuel 0 0 (by omega) (by unfold fuel; omega)
  rw [q, Nat.sub_zero, itr_sum0]
  have hm' : sumTo V.w.length (fun i => if riseN V.w (V.sl k) d.toInt i = true then 1 else 0) = m := hm.symm
  rw [hm', lpX5_rise_29_s, md_n N, md_n0 N, if_pos ((nI_leI (by omega) (by omega)).mpr (Nat.le_refl _))]
  refine ⟨fun z => ?_, fun z => ?_⟩
  · rw [if_pos (by rw [z]; rfl), md_round N S hk hb, Option.bind_some, md_banksOf N S hk, Option.bind_some, md_refuse, Option.bind_some]
    dsimp only
    rw [if_neg (by decide)]
  · rw [if_neg (by rw [nI_lit0, nI_eq (by omega) (by omega)]; exact z), md_round N S hk hb, Option.bind_some, md_banksOf N S hk, Option.bind_some, md_refuse0, Option.bind_some]
    dsimp only
    rw [if_pos rfl]
    obtain ⟨μ1, q1, F, H1, N1⟩ := md_change P H ok N
    rw [q1, Option.bind_some]
    obtain ⟨μ2, r1, r2, r3, r4⟩ := md_riseW (μ := μ1) (j := V.j) (c := V.c) (t := V.t) S hN hk hb h1 h2 (nI m) fuel 0 μ1 (by omega) (by unfold fuel; omega) rfl (fun _ _ => rfl) (by rw [riseK_0]; exact N1)
    exact ⟨μ2, r1, done_mk P F H1 r2 (fun x hx _ => r3 x hx) r4⟩
end MDP
