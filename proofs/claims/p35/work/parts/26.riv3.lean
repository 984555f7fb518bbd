/-! RIVERS: what is reached over the ropes is what the rounds say. -/
theorem walk_tour (T : Nat → Prop) : ∀ L, Tour L → (∀ u v, (u, v) ∈ prs L → T u → T v) → ∀ c ∈ L, T c → ∀ y ∈ L, T y := by
  refine T_ind ?_ ?_
  · intro r _ c hc h y hy
    simp at hc hy
    rw [hy, ← hc]; exact h
  · intro r t1 t2 h1 h2 h3 i1 i2 hT c hc hTc y hy
    obtain ⟨d, ⟨t, e1⟩, -, e⟩ := prs_node (r := r) (t2 := t2) h1
    have hd : d ∈ t1 := by rw [e1]; simp
    rw [e] at hT
    have j1 := i1 (fun u v q => hT u v (by simp [q]))
    have j2 := i2 (fun u v q => hT u v (by simp [q]))
    have k1 : T d → T r := hT d r (by simp)
    have k2 : T r → T d := hT r d (by simp)
    have hr : T r := by
      by_cases c1 : c ∈ t1
      · exact k1 (j1 c c1 hTc d hd)
      · exact j2 c (by simp at hc ⊢; rcases hc with q | q | q | q <;> simp_all) hTc r (by simp)
    by_cases y1 : y ∈ t1
    · exact j1 d hd (k2 hr) y y1
    · exact j2 r (by simp) hr y (by simp at hy ⊢; rcases hy with q | q | q | q <;> simp_all)
theorem prs_seg {U S W : List Nat} {x y : Nat} (h : (x, y) ∈ prs S) : (x, y) ∈ prs (U ++ S ++ W) := by
  obtain ⟨A, B, e⟩ := prs_iff.mp h
  exact prs_iff.mpr ⟨U ++ A, B ++ W, by rw [e]; simp⟩
section RIV3
variable {Λ : Lay} {μ : Mem} {a : Nat} {w p : List Nat} {rd : Nat → List Nat}
theorem rv_adj (O : RvOK w p rd) {r b : Nat} (hr : r < 12) (hb : b ∈ rd r) (c : Nat) : (p.getD b 0).testBit c = true ↔ (b, c) ∈ prs (rd r) := O.2.2.2.2.2.2.2.2.2 b c r hr hb
theorem reach_all (O : RvOK w p rd) {r b : Nat} (hr : r < 12) (hb : b ∈ rd r) : Reach p w.length b 0 (msk (rd r)) := by
  have hT := (rv_tour O hr hb).1
  refine ⟨msk_lt (rv_lt12 O hr), fun i q => ?_, by rw [msk_bit]; simpa using hb, fun v u q1 q2 _ => ?_, fun T hT4 hTb hTc i q => ?_⟩
  · rw [msk_bit, decide_eq_true_eq] at q
    exact rv_ltn O hr q
  · rw [msk_bit, decide_eq_true_eq] at q1 ⊢
    exact (prs_mem ((rv_adj O hr q1 u).mp q2)).2
  · rw [msk_bit, decide_eq_true_eq] at q
    refine walk_tour (fun x => T.testBit x = true) _ hT (fun u v h1 h2 => hTc u v h2 ?_ (by simp)) b hb hTb i q
    exact (rv_adj O hr (prs_mem h1).1 v).mpr h1
/-- a neighbour of what is below b, but not below it, is the bank above b -/
theorem below_nb {l : List Nat} (h : Tour l) {b v u : Nat} (hv : blw l v b = true) (q : (v, u) ∈ prs l) (hu : blw l u b = false) : v = b ∧ fi l b ≠ 0 ∧ u = par l b := by
  rcases (prs_cases h).mp q with ⟨h1, h2, rfl⟩ | ⟨h1, h2, rfl⟩
  · by_cases c : v = b
    · subst c; exact ⟨rfl, h2, rfl⟩
    · have := (par_facts h h1 h2).2.2.2.2 b (fun z => c z.symm)
      rw [this, hu] at hv
      cases hv
  · have := blw_tr (par_facts h h1 h2).2.2.1 hv
    rw [hu] at this
    cases this
theorem reach_below (O : RvOK w p rd) {r b z : Nat} (hr : r < 12) (hb : b ∈ rd r) (hz1 : ∀ k, blw (rd r) k b = true → z.testBit k = false) (hz2 : fi (rd r) b ≠ 0 → z.testBit (par (rd r) b) = true) : Reach p w.length b z (belowM (rd r) b) := by
  have hT := (rv_tour O hr hb).1
  obtain ⟨A, Y, B, d⟩ := T_dec _ hT b hb
  have hin := dcp_in d
  refine ⟨belowM_lt (rv_lt12 O hr) b, fun i q => ?_, by rw [belowM_bit hT hb, blw_rf hb], fun v u q1 q2 q3 => ?_, fun T hT4 hTb hTc i q => ?_⟩
  · rw [belowM_bit hT hb] at q
    exact rv_ltn O hr (blw_mem q).1
  · rw [belowM_bit hT hb] at q1 ⊢
    cases c : blw (rd r) u b with
    | true => rfl
    | false =>
      obtain ⟨-, h2, rfl⟩ := below_nb hT q1 ((rv_adj O hr (blw_mem q1).1 u).mp q2) c
      rw [hz2 h2] at q3
      cases q3
  · rw [belowM_bit hT hb, hin] at q
    obtain ⟨e, hY, ⟨Y', eY⟩, -⟩ := d
    refine walk_tour (fun x => T.testBit x = true) _ hY (fun u v h1 h2 => hTc u v h2 ?_ (hz1 v ((hin v).mpr (prs_mem h1).2))) b (by rw [eY]; simp) hTb i q
    have hul : u ∈ rd r := (blw_mem ((hin u).mpr (prs_mem h1).1)).1
    rw [rv_adj O hr hul]
    rw [e]
    exact prs_seg h1
/-- what isn't below b -/
def restM (l : List Nat) (b : Nat) : Nat := msk l &&& (4095 ^^^ belowM l b)
theorem restM_bit {l : List Nat} (h : Tour l) (hl : ∀ x ∈ l, x < 12) {b k : Nat} (hb : b ∈ l) : (restM l b).testBit k = true ↔ k ∈ l ∧ blw l k b = false := by
  unfold restM
  rw [notAnd_bit (msk_lt hl), msk_bit, belowM_bit h hb]
  simp
theorem restM_lt {l : List Nat} (hl : ∀ x ∈ l, x < 12) (b : Nat) : restM l b < 4096 := and_lt (msk_lt hl)
theorem reach_rest (O : RvOK w p rd) {r b c : Nat} (hr : r < 12) (hb : b ∈ rd r) (h0 : fi (rd r) b ≠ 0) (hc : c ∈ rd r) (hcb : blw (rd r) c b = false) : Reach p w.length c (2 ^ b) (restM (rd r) b) := by
  have hT := (rv_tour O hr hb).1
  have hl := rv_lt12 O hr
  obtain ⟨q0, A, Y, B, ep, d, hT'⟩ := par_spec hT hb h0
  have hin := dcp_in d
  have hmem : ∀ k, k ∈ A ++ q0 :: B ↔ k ∈ rd r ∧ blw (rd r) k b = false := by
    intro k
    have hd := d.2.2.2.1
    have e := d.1
    constructor
    · intro hk
      have h1 : k ∉ Y := fun z => by
        have := hd k z
        simp at this hk
        rcases hk with q | q | q
        · exact this.1.1 q
        · exact this.1.2 q
        · exact this.2.2 q
      refine ⟨?_, ?_⟩
      · rw [e]
        simp at hk ⊢
        rcases hk with q | q | q <;> simp [q]
      · cases z : blw (rd r) k b with
        | false => rfl
        | true => exact absurd ((hin k).mp z) h1
    · rintro ⟨h1, h2⟩
      have h3 : k ∉ Y := fun z => by
        have := (hin k).mpr z
        rw [h2] at this
        cases this
      rw [e] at h1
      simp at h1 ⊢
      rcases h1 with q | q | q | q | q
      · exact Or.inl q
      · exact Or.inr (Or.inl q)
      · exact absurd q h3
      · exact Or.inr (Or.inl q)
      · exact Or.inr (Or.inr q)
  have hpw : ∀ u, u ≠ b → (2 ^ b).testBit u = false := fun u q => by
    rw [Nat.testBit_two_pow]
    simp
    exact fun z => q z.symm
  refine ⟨restM_lt hl b, fun i q => ?_, (restM_bit hT hl hb).mpr ⟨hc, hcb⟩, fun v u q1 q2 q3 => ?_, fun T hT4 hTb hTc i q => ?_⟩
  · exact rv_ltn O hr ((restM_bit hT hl hb).mp q).1
  · obtain ⟨hv, hvb⟩ := (restM_bit hT hl hb).mp q1
    have hvu := (rv_adj O hr hv u).mp q2
    rw [restM_bit hT hl hb]
    refine ⟨(prs_mem hvu).2, ?_⟩
    cases z : blw (rd r) u b with
    | false => rfl
    | true =>
      obtain ⟨rfl, -, -⟩ := below_nb hT z (prs_sym _ hT _ _ hvu).1 hvb
      rw [Nat.testBit_two_pow] at q3
      simp at q3
  · have hi := (hmem i).mpr ((restM_bit hT hl hb).mp q)
    refine walk_tour (fun x => T.testBit x = true) _ hT' (fun u v h1 h2 => hTc u v h2 ?_ (hpw v ?_)) c ((hmem c).mpr ⟨hc, hcb⟩) hTb i hi
    · have hul := ((hmem u).mp (prs_mem h1).1).1
      rw [rv_adj O hr hul]
      rw [prs_app, List.mem_append] at h1
      have e := d.1
      rcases h1 with h1 | h1
      · have := prs_seg (U := []) (W := Y ++ q0 :: B) h1
        rw [e]
        simpa using this
      · have := prs_seg (U := A ++ [q0] ++ Y) (W := []) h1
        rw [e]
        simpa using this
    · intro z
      have := ((hmem v).mp (prs_mem h1).2).2
      rw [z, blw_rf hb] at this
      cases this
theorem rv_reachedB (V : Riv Λ μ a w p rd) (O : RvOK w p rd) {b r : Nat} (hr : r < 12) (hb : b ∈ rd r) : sX1_reachedBelow Λ μ a (nI b) = some (nI (belowM (rd r) b)) := by
  have hb12 := rv_lt12 O hr b hb
  obtain ⟨hT, t, e⟩ := rv_tour O hr hb
  unfold sX1_reachedBelow
  rw [rv_root V O hr hb, Option.bind_some]
  by_cases c : r = b
  · rw [if_pos (by rw [c]), nI_lit0, rv_reach V O hb12 (by omega) (reach_below O hr hb (fun k _ => by simp) (fun q => absurd ((par_root e).mpr c.symm) q)), Option.bind_some]
  · have h0 : fi (rd r) b ≠ 0 := fun q => c ((par_root e).mp q).symm
    have hrm := rv_root_mem O hr hb
    have hrb : blw (rd r) r b = false := by
      cases z : blw (rd r) r b with
      | false => rfl
      | true =>
        unfold blw at z
        rw [decide_eq_true_eq] at z
        have := (par_root e (b := r)).mpr rfl
        omega
    rw [if_neg (by rw [nI_eq (by omega) (by omega)]; exact c), bit_spec hb12, Option.bind_some, rv_reach V O hr (pow_lt12 hb12) (reach_rest O hr hb h0 hrm hrb), Option.bind_some, rv_reach V O hb12 (restM_lt (rv_lt12 O hr) b) (reach_below O hr hb ?_ ?_), Option.bind_some]
    · intro k hk
      cases z : (restM (rd r) b).testBit k with
      | false => rfl
      | true =>
        have := ((restM_bit hT (rv_lt12 O hr) hb).mp z).2
        rw [hk] at this
        cases this
    · intro _
      have := par_facts hT hb h0
      exact (restM_bit hT (rv_lt12 O hr) hb).mpr ⟨this.1, this.2.2.2.1⟩
/-- the banks that stand just behind b -/
def suc (l : List Nat) (b : Nat) : List Nat := ((prs l).filter (fun q => decide (q.1 = b))).map (fun q => q.2)
theorem suc_mem {l : List Nat} {b c : Nat} : c ∈ suc l b ↔ (b, c) ∈ prs l := by
  unfold suc
  simp
theorem suc_nodup {l : List Nat} (h : Tour l) (b : Nat) : (suc l b).Nodup := by
  unfold suc
  have h1 : ((prs l).filter (fun q => decide (q.1 = b))).Nodup := (prs_nodup l h).filter _
  generalize hL : (prs l).filter (fun q => decide (q.1 = b)) = L at h1
  have h2 : ∀ q ∈ L, q.1 = b := by
    intro q hq
    rw [← hL] at hq
    simpa using (List.mem_filter.mp hq).2
  clear hL
  induction L with
  | nil => simp
  | cons q L ih =>
    rw [List.nodup_cons] at h1
    rw [List.map_cons, List.nodup_cons]
    refine ⟨?_, ih h1.2 (fun x hx => h2 x (by simp [hx]))⟩
    intro z
    obtain ⟨x, hx, e⟩ := List.mem_map.mp z
    apply h1.1
    have e1 := h2 q (by simp)
    have e2 := h2 x (by simp [hx])
    have : x = q := Prod.ext (e2.trans e1.symm) e
    exact this ▸ hx
theorem pop_msk {L : List Nat} (hn : L.Nodup) (hl : ∀ x ∈ L, x < 12) : popN (msk L) = L.length := by
  induction L with
  | nil => decide
  | cons x L ih =>
    rw [List.nodup_cons] at hn
    have hx := hl x (by simp)
    have := ih hn.2 (fun y hy => hl y (by simp [hy]))
    unfold popN cntTo at this ⊢
    rw [sumTo_pt hx]
    dsimp only at this ⊢
    rw [if_pos (by rw [msk_bit]; simp), List.length_cons, ← this, Nat.add_comm]
    congr 1
    apply sumTo_congr
    intro k _
    by_cases c : k = x
    · subst c
      rw [if_pos rfl, if_neg (by rw [msk_bit]; simpa using hn.1)]
    · rw [if_neg c]
      simp only [msk_bit, List.mem_cons, c, false_or]
theorem rv_leavesL (V : Riv Λ μ a w p rd) (O : RvOK w p rd) {b r : Nat} (hr : r < 12) (hb : b ∈ rd r) : ∀ n k s t, k < (rd r).length → (rd r).length - k ≤ n → s < 4096 → t + (suc ((rd r).drop k) b).length < 2 ^ 31 → lpX1_leavesOverEachRope_14 Λ μ a (nI b) (lyE Λ (lyR Λ a 2) r) n (nI s) (nI t) (nI k) = some (if s ||| msk (suc ((rd r).drop k) b) = p.getD b 0 ∧ t + (suc ((rd r).drop k) b).length = popN (s ||| msk (suc ((rd r).drop k) b)) then 1 else 0) := by
  have H := V.2.2.2 r hr
  have hl := rv_lt12 O hr
  have h23 := rv_lenK O hr
  intro n
  induction n with
  | zero => intro k s t hk hn; omega
  | succ n ih =>
    intro k s t hk hn hs ht
    rw [lpX1_leavesOverEachRope_14_s, row_len H, Option.bind_some, List.length_map, nI_1]
    have hd : (rd r).drop k = (rd r)[k] :: (rd r).drop (k + 1) := List.drop_eq_getElem_cons hk
    by_cases e : (rd r).length ≤ k + 1
    · have he : (rd r).drop (k + 1) = [] := List.drop_eq_nil_of_le e
      have hsuc : suc ((rd r).drop k) b = [] := by rw [hd, he]; rfl
      rw [if_pos ((nI_leI (by omega) (by omega)).mpr e), rv_ropesOf V O (rv_ltn O hr hb), Option.bind_some, hsuc]
      have hp := rv_p O (rv_ltn O hr hb)
      simp only [msk, Nat.or_zero, List.length_nil, Nat.add_zero]
      rw [hsuc] at ht
      simp at ht
      by_cases c : s = p.getD b 0
      · rw [if_pos (by rw [c]), bitc_spec hs, Option.bind_some]
        have hpop : popN s ≤ 12 := cntTo_le 12 _
        by_cases c2 : t = popN s
        · rw [if_pos (by rw [c2]), if_pos ⟨c, c2⟩]
        · rw [if_neg (by rw [nI_eq ht (by omega)]; exact c2), if_neg (fun q => c2 q.2)]
      · rw [if_neg (by rw [nI_eq (by omega) (by omega)]; exact c), if_neg (fun q => c q.1)]
    · have hk1 : k + 1 < (rd r).length := by omega
      have hd1 : (rd r).drop (k + 1) = (rd r)[k + 1] :: (rd r).drop (k + 2) := List.drop_eq_getElem_cons hk1
      have hk12 := hl _ (List.getElem_mem hk1)
      rw [if_neg (by rw [nI_leI (by omega) (by omega)]; exact e), row_get H (by simpa using hk), Option.bind_some, List.getElem_map]
      have hx31 := rv_lt31 O hr _ (List.getElem_mem hk)
      have hb31 := rv_lt31 O hr _ hb
      by_cases c : (rd r)[k] = b
      · have hsuc : suc ((rd r).drop k) b = (rd r)[k + 1] :: suc ((rd r).drop (k + 1)) b := by
          rw [hd, hd1]
          unfold suc
          rw [prs]
          simp [c]
        rw [if_pos (by rw [c]), row_get H (by simpa using hk1), Option.bind_some, List.getElem_map, bit_spec hk12, Option.bind_some]
        simp only [bnd]
        rw [nI_or, nI_1, ih (k + 1) _ _ hk1 (by omega) (or_lt hs (pow_lt12 hk12)) (by rw [hsuc] at ht; simp at ht; omega), hsuc, msk, Nat.or_assoc, List.length_cons]
        rw [show t + 1 + (suc ((rd r).drop (k + 1)) b).length = t + ((suc ((rd r).drop (k + 1)) b).length + 1) by omega]
      · have hsuc : suc ((rd r).drop k) b = suc ((rd r).drop (k + 1)) b := by
          rw [hd, hd1]
          unfold suc
          rw [prs]
          simp [c]
        rw [if_neg (by rw [nI_eq hx31 hb31]; exact c)]
        simp only [bnd]
        rw [hsuc] at ht
        rw [ih (k + 1) _ _ hk1 (by omega) hs ht, hsuc]
theorem rv_leaves (V : Riv Λ μ a w p rd) (O : RvOK w p rd) {b r : Nat} (hr : r < 12) (hb : b ∈ rd r) : sX1_leavesOverEachRope Λ μ a (nI b) = some 1 := by
  have hT := (rv_tour O hr hb).1
  have hsl : ∀ x ∈ suc (rd r) b, x < 12 := fun x hx => rv_lt12 O hr x (prs_mem (suc_mem.mp hx)).2
  have hpop := pop_msk (suc_nodup hT b) hsl
  have h12 : popN (msk (suc (rd r) b)) ≤ 12 := cntTo_le 12 _
  have h23 := rv_lenK O hr
  have hd : (rd r).drop 0 = rd r := List.drop_zero
  unfold sX1_leavesOverEachRope
  rw [rv_round V O hr hb, Option.bind_some, nI_lit0, rv_leavesL V O hr hb fuel 0 0 0 (List.length_pos_of_mem hb) (by unfold fuel; omega) (by omega) (by rw [hd]; omega), hd, if_pos]
  rw [Nat.zero_or, Nat.zero_add, hpop]
  refine ⟨?_, rfl⟩
  apply Nat.eq_of_testBit_eq
  intro i
  rw [msk_bit, Bool.eq_iff_iff, decide_eq_true_eq, suc_mem, rv_adj O hr hb]
theorem rv_soundL (V : Riv Λ μ a w p rd) (O : RvOK w p rd) : ∀ n k, k ≤ w.length → w.length - k < n → lpX1_isSound_2 Λ μ a n (nI k) = some 1 := by
  have hn12 := O.1
  intro n
  induction n with
  | zero => intro k hk hn; omega
  | succ n ih =>
    intro k hk hn
    rw [lpX1_isSound_2_s, row_len V.1, Option.bind_some, List.length_map]
    by_cases e : k = w.length
    · subst e
      rw [if_pos ((nI_leI (by omega) (by omega)).mpr (Nat.le_refl _))]
    · obtain ⟨hr, hb⟩ := rtF_in O (show k < w.length by omega)
      rw [if_neg (by rw [nI_leI (by omega) (by omega)]; omega), rv_all V O hr hb, Option.bind_some, nI_lit0, rv_reach V O (by omega) (by omega) (reach_all O hr hb), Option.bind_some, if_pos rfl, rv_below V O hr hb, Option.bind_some, rv_reachedB V O hr hb, Option.bind_some, if_pos rfl, rv_leaves V O hr hb, Option.bind_some, if_neg (by decide)]
      simp only [bnd]
      rw [nI_1]
      exact ih (k + 1) (by omega) (by omega)
theorem rv_sound (V : Riv Λ μ a w p rd) (O : RvOK w p rd) : sX1_isSound Λ μ a = some 1 := by
  have := O.1
  exact rv_soundL V O fuel 0 (by omega) (by unfold fuel; omega)
end RIV3
