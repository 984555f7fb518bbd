/-! EVERY CHANGE KEEPS WHAT HOLDS: ropes tied and cut; a slot is left. -/
section KQ
variable {w p : List Nat} {rd sl : Nat → List Nat}
theorem cnt_lt {n b : Nat} {P : Nat → Bool} (hb : b < n) (h : P b = false) : cntTo n P < n := by
  have e := cntTo_disj (n := n) (P := P) (Q := fun k => decide (k = b)) (fun k _ q => by
    have := of_decide_eq_true q.2
    subst this
    rw [h] at q
    exact Bool.false_ne_true q.1)
  have e1 : cntTo n (fun k => decide (k = b)) = 1 := by
    refine Eq.trans ?_ (sumTo_one hb 1)
    unfold cntTo
    apply sumTo_congr
    intro k _
    by_cases q : k = b <;> simp [q]
  have := cntTo_le n (fun k => P k || decide (k = b))
  omega
theorem he_at (O : RvOK w p rd) (X : Rel rd sl) {b : Nat} (hb : b < 12) (h : rd b = []) : cntTo 12 (rooted sl) < 12 := by
  rw [← rel_parts O X]
  exact cnt_lt hb (by unfold rooted; rw [h]; rfl)
theorem rd_free (O : RvOK w p rd) (hn : w.length < 12) : rd w.length = [] := by
  apply Classical.byContradiction
  intro q
  have := O.2.2.2.2.2.1 w.length hn w.length (rd_self O hn q)
  omega
theorem slUp_comm {k e : Nat} (h : k ≠ e) (Y Z : List Nat) : slUp (slUp sl k Z) e Y = slUp (slUp sl e Y) k Z := by
  funext i
  unfold slUp
  by_cases f1 : i = e
  · rw [if_pos f1, if_neg (fun z => h (z.symm.trans f1)), if_pos f1]
  · rw [if_neg f1]
    by_cases f2 : i = k
    · rw [if_pos f2, if_pos f2]
    · rw [if_neg f2, if_neg f2, if_neg f1]
theorem getD_set {l : List Nat} {b x y : Nat} (hb : b < l.length) : (l.set b x).getD y 0 = if y = b then x else l.getD y 0 := by
  rw [List.getD_eq_getElem?_getD, List.getD_eq_getElem?_getD, List.getElem?_set]
  by_cases e : y = b
  · rw [if_pos e, if_pos e.symm, if_pos (by omega)]; rfl
  · rw [if_neg e, if_neg (fun z => e z.symm)]
theorem mem_set4096 {l : List Nat} (hl : ∀ x ∈ l, x < 4096) {b x : Nat} (hx : x < 4096) : ∀ y ∈ l.set b x, y < 4096 := fun y hy => by
  rcases List.mem_or_eq_of_mem_set hy with q | q
  · exact hl y q
  · rw [q]; exact hx
theorem pD_lt (O : RvOK w p rd) (b : Nat) : p.getD b 0 < 4096 := by
  by_cases h : b < p.length
  · rw [List.getD_eq_getElem?_getD, List.getElem?_eq_getElem h]
    exact O.2.2.2.1 _ (List.getElem_mem h)
  · rw [List.getD_eq_getElem?_getD, List.getElem?_eq_none (by omega)]
    decide
theorem keep_tie (O : RvOK w p rd) (X : Rel rd sl) {r g b k e : Nat} (hr : r < 12) (hb : b ∈ rd r) (hg : g < 12) (hG : rd g ≠ []) (hgr : g ≠ r) (hk : k < 12) (he : e < 12) (e1 : sl k = rd r) (e2 : sl e = rd g) : (rd r).length + (rd g).length + 1 ≤ 23 ∧ RvOK w ((p.set b (p.getD b 0 ||| 2 ^ g)).set g ((p.set b (p.getD b 0 ||| 2 ^ g)).getD g 0 ||| 2 ^ b)) (rdUp (rdUp rd r (insL (rd r) b (rd g))) g []) ∧ Rel (rdUp (rdUp rd r (insL (rd r) b (rd g))) g []) (slUp (slUp sl k (insL (sl k) b (sl e))) e []) := by
  obtain ⟨hT, t, ht⟩ := rv_tour O hr hb
  obtain ⟨hT2, t2, ht2⟩ := O.2.2.2.2.1 g hg hG
  have hgg := rd_self O hg hG
  have hdis : ∀ y ∈ rd g, y ∉ rd r := fun y h1 h2 => hgr (O.2.2.2.2.2.2.2.1 g r y hg hr h1 h2)
  obtain ⟨t3, t4, t5, t6⟩ := ins_all hT hb hT2 ht2 hdis
  have hb12 := rv_lt12 O hr b hb
  have hbl := rv_ltn O hr hb
  have hgl := rv_ltn O hg hgg
  have hbg : b ≠ g := fun q => hdis g hgg (q ▸ hb)
  have hrd : ∀ i, rdUp (rdUp rd r (insL (rd r) b (rd g))) g [] i = if i = g then [] else if i = r then insL (rd r) b (rd g) else rd i := fun i => rfl
  have hpl : b < p.length := by rw [O.2.1]; exact hbl
  have hpg : g < (p.set b (p.getD b 0 ||| 2 ^ g)).length := by rw [List.length_set, O.2.1]; exact hgl
  have hp : ∀ y c, ((((p.set b (p.getD b 0 ||| 2 ^ g)).set g ((p.set b (p.getD b 0 ||| 2 ^ g)).getD g 0 ||| 2 ^ b))).getD y 0).testBit c = true ↔ (p.getD y 0).testBit c = true ∨ (y = b ∧ c = g) ∨ (y = g ∧ c = b) := fun y c => by
    rw [getD_set hpg, getD_set (y := g) hpl, if_neg (show ¬ g = b from fun z => hbg z.symm), getD_set (y := y) hpl]
    by_cases f1 : y = g
    · rw [if_pos f1, Nat.testBit_or, Nat.testBit_two_pow]
      simp only [Bool.or_eq_true, decide_eq_true_eq]
      rw [f1]
      constructor
      · rintro (q | q)
        · exact Or.inl q
        · exact Or.inr (Or.inr ⟨rfl, q.symm⟩)
      · rintro (q | q | q)
        · exact Or.inl q
        · exact absurd q.1.symm hbg
        · exact Or.inr q.2.symm
    · rw [if_neg f1]
      by_cases f2 : y = b
      · rw [if_pos f2, Nat.testBit_or, Nat.testBit_two_pow]
        simp only [Bool.or_eq_true, decide_eq_true_eq]
        rw [f2]
        constructor
        · rintro (q | q)
          · exact Or.inl q
          · exact Or.inr (Or.inl ⟨rfl, q.symm⟩)
        · rintro (q | q | q)
          · exact Or.inl q
          · exact Or.inr q.2.symm
          · exact absurd q.1 hbg
      · rw [if_neg f2]
        constructor
        · exact Or.inl
        · rintro (q | q | q)
          · exact q
          · exact absurd q.1 f2
          · exact absurd q.1 f1
  have hin : ∀ i y, y ∈ rdUp (rdUp rd r (insL (rd r) b (rd g))) g [] i → (i = r ∧ (y ∈ rd r ∨ y ∈ rd g)) ∨ (i ≠ r ∧ i ≠ g ∧ y ∈ rd i) := fun i y h => by
    rw [hrd] at h
    by_cases f1 : i = g
    · rw [if_pos f1] at h; cases h
    · rw [if_neg f1] at h
      by_cases f2 : i = r
      · rw [if_pos f2] at h; exact Or.inl ⟨f2, (t5 y).mp h⟩
      · rw [if_neg f2] at h; exact Or.inr ⟨f2, f1, h⟩
  have hsum : (rd r).length + (rd g).length + 1 ≤ 23 := by
    have a1 := T_len 12 (rd r) hT (rv_lt12 O hr)
    have a2 := T_len 12 (rd g) hT2 (rv_lt12 O hg)
    have a3 := cntTo_disj (n := 12) (P := fun i => decide (i ∈ rd r)) (Q := fun i => decide (i ∈ rd g)) (fun i _ q => hdis i (of_decide_eq_true q.2) (of_decide_eq_true q.1))
    have a4 := cntTo_le 12 (fun i => decide (i ∈ rd r) || decide (i ∈ rd g))
    omega
  have ON : RvOK w ((p.set b (p.getD b 0 ||| 2 ^ g)).set g ((p.set b (p.getD b 0 ||| 2 ^ g)).getD g 0 ||| 2 ^ b)) (rdUp (rdUp rd r (insL (rd r) b (rd g))) g []) := by
    refine rvok_mk O.1 (by simp [O.2.1]) O.2.2.1 ?_ (fun i hi h => ?_) (fun i hi y hy => ?_) (fun y hy => ?_) (fun i i' y hi hi' h1 h2 => ?_) (fun y c i hi h => ?_)
    · have z1 : ∀ x ∈ p.set b (p.getD b 0 ||| 2 ^ g), x < 4096 := mem_set4096 O.2.2.2.1 (or_lt (pD_lt O b) (pow_lt12 hg))
      refine mem_set4096 z1 (or_lt ?_ (pow_lt12 hb12))
      rw [getD_set hpl, if_neg (fun z => hbg z.symm)]
      exact pD_lt O g
    · rw [hrd] at h ⊢
      by_cases f1 : i = g
      · rw [if_pos f1] at h; exact absurd rfl h
      · rw [if_neg f1] at h ⊢
        by_cases f2 : i = r
        · rw [if_pos f2, f2]; exact ⟨t3, t4 r t ht⟩
        · rw [if_neg f2] at h ⊢; exact O.2.2.2.2.1 i hi h
    · rcases hin i y hy with q | q
      · rcases q.2 with q | q
        · exact O.2.2.2.2.2.1 r hr y q
        · exact O.2.2.2.2.2.1 g hg y q
      · exact O.2.2.2.2.2.1 i hi y q.2.2
    · obtain ⟨i, hi, q⟩ := O.2.2.2.2.2.2.1 y hy
      by_cases f1 : i = g
      · refine ⟨r, hr, ?_⟩
        rw [hrd, if_neg (fun z => hgr z.symm), if_pos rfl]
        exact (t5 y).mpr (Or.inr (f1 ▸ q))
      · refine ⟨i, hi, ?_⟩
        rw [hrd, if_neg f1]
        by_cases f2 : i = r
        · rw [if_pos f2]; exact (t5 y).mpr (Or.inl (f2 ▸ q))
        · rw [if_neg f2]; exact q
    · rcases hin i y h1 with q | q <;> rcases hin i' y h2 with q' | q'
      · exact q.1.trans q'.1.symm
      · rcases q.2 with z | z
        · exact absurd (O.2.2.2.2.2.2.2.1 r i' y hr hi' z q'.2.2).symm q'.1
        · exact absurd (O.2.2.2.2.2.2.2.1 g i' y hg hi' z q'.2.2).symm q'.2.1
      · rcases q'.2 with z | z
        · exact absurd (O.2.2.2.2.2.2.2.1 r i y hr hi z q.2.2).symm q.1
        · exact absurd (O.2.2.2.2.2.2.2.1 g i y hg hi z q.2.2).symm q.2.1
      · exact O.2.2.2.2.2.2.2.1 i i' y hi hi' q.2.2 q'.2.2
    · rw [hp]
      rcases hin i y h with ⟨q1, q2⟩ | q
      · rw [hrd, if_neg (fun z => hgr (z.symm.trans q1)), if_pos q1, t6]
        rcases q2 with q2 | q2
        · rw [O.2.2.2.2.2.2.2.2.2 y c r hr q2]
          constructor
          · rintro (z | z | z)
            · exact Or.inl z
            · exact Or.inr (Or.inr (Or.inl z))
            · exact Or.inr (Or.inr (Or.inr z))
          · rintro (z | z | z | z)
            · exact Or.inl z
            · exact absurd q2 (hdis y (prs_mem z).1)
            · exact Or.inr (Or.inl z)
            · exact Or.inr (Or.inr z)
        · rw [O.2.2.2.2.2.2.2.2.2 y c g hg q2]
          constructor
          · rintro (z | z | z)
            · exact Or.inr (Or.inl z)
            · exact Or.inr (Or.inr (Or.inl z))
            · exact Or.inr (Or.inr (Or.inr z))
          · rintro (z | z | z | z)
            · exact absurd (prs_mem z).1 (hdis y q2)
            · exact Or.inl z
            · exact Or.inr (Or.inl z)
            · exact Or.inr (Or.inr z)
      · rw [hrd, if_neg q.2.1, if_neg q.1, O.2.2.2.2.2.2.2.2.2 y c i hi q.2.2]
        constructor
        · rintro (z | z | z)
          · exact z
          · exact absurd (O.2.2.2.2.2.2.2.1 i r b hi hr (z.1 ▸ q.2.2) hb) q.1
          · exact absurd (O.2.2.2.2.2.2.2.1 i g g hi hg (z.1 ▸ q.2.2) hgg) q.2.1
        · exact Or.inl
  have hke : k ≠ e := fun q => rd_diff O hg hr hgr hG (by rw [← e2, ← q, e1])
  refine ⟨hsum, ON, ?_⟩
  rw [slUp_comm hke, e1, e2]
  exact rel_two O X hg hr hgr he hk hke.symm e2 e1 hG ON
theorem keep_untie (O : RvOK w p rd) (X : Rel rd sl) {r b k e : Nat} (hr : r < 12) (hb : b ∈ rd r) (hne : b ≠ r) (hk : k < 12) (he : e < 12) (e1 : sl k = rd r) (e2 : sl e = []) : RvOK w ((p.set b (p.getD b 0 &&& (4095 ^^^ 2 ^ par (rd r) b))).set (par (rd r) b) (p.getD (par (rd r) b) 0 &&& (4095 ^^^ 2 ^ b))) (rdUp (rdUp rd b (cutB (rd r) b)) r (cutA (rd r) b)) ∧ Rel (rdUp (rdUp rd b (cutB (rd r) b)) r (cutA (rd r) b)) (slUp (slUp sl k (cutA (sl k) b)) e (cutB (sl k) b)) := by
  obtain ⟨hT, t, ht⟩ := rv_tour O hr hb
  obtain ⟨c1, c2, ⟨s1, c3⟩, ⟨s2, c4⟩, c5, c6, c7, c8, c9⟩ := cut_all hT ht hb hne
  have hb12 := rv_lt12 O hr b hb
  have hbl := rv_ltn O hr hb
  have h0 := rd_none O hr hb hne
  have hbB : b ∈ cutB (rd r) b := by rw [c4]; simp
  have hul : par (rd r) b ∈ rd r := (c5 _).mpr (Or.inl c8)
  have hun := rv_ltn O hr hul
  have hub : par (rd r) b ≠ b := fun q => c6 _ c8 (by rw [q]; exact hbB)
  have hrd : ∀ i, rdUp (rdUp rd b (cutB (rd r) b)) r (cutA (rd r) b) i = if i = r then cutA (rd r) b else if i = b then cutB (rd r) b else rd i := fun i => rfl
  have hpl : b < p.length := by rw [O.2.1]; exact hbl
  have hpu : par (rd r) b < (p.set b (p.getD b 0 &&& (4095 ^^^ 2 ^ par (rd r) b))).length := by rw [List.length_set, O.2.1]; exact hun
  have hp : ∀ y c, ((((p.set b (p.getD b 0 &&& (4095 ^^^ 2 ^ par (rd r) b))).set (par (rd r) b) (p.getD (par (rd r) b) 0 &&& (4095 ^^^ 2 ^ b)))).getD y 0).testBit c = true ↔ (p.getD y 0).testBit c = true ∧ ¬ (y = b ∧ c = par (rd r) b) ∧ ¬ (y = par (rd r) b ∧ c = b) := fun y c => by
    rw [getD_set hpu, getD_set hpl]
    by_cases f1 : y = par (rd r) b
    · rw [if_pos f1, notAnd_bit (pD_lt O _), Nat.testBit_two_pow]
      simp only [Bool.and_eq_true, Bool.not_eq_true', decide_eq_false_iff_not]
      rw [← f1]
      constructor
      · rintro ⟨q1, q2⟩
        exact ⟨q1, fun z => hub (f1.symm.trans z.1), fun z => q2 z.2.symm⟩
      · rintro ⟨q1, q2, q3⟩
        exact ⟨q1, fun z => q3 ⟨rfl, z.symm⟩⟩
    · rw [if_neg f1]
      by_cases f2 : y = b
      · rw [if_pos f2, notAnd_bit (pD_lt O _), Nat.testBit_two_pow]
        simp only [Bool.and_eq_true, Bool.not_eq_true', decide_eq_false_iff_not]
        rw [f2]
        constructor
        · rintro ⟨q1, q2⟩
          exact ⟨q1, fun z => q2 z.2.symm, fun z => hub z.1.symm⟩
        · rintro ⟨q1, q2, q3⟩
          exact ⟨q1, fun z => q2 ⟨rfl, z.symm⟩⟩
      · rw [if_neg f2]
        exact ⟨fun z => ⟨z, fun q => f2 q.1, fun q => f1 q.1⟩, fun z => z.1⟩
  have hin : ∀ i y, y ∈ rdUp (rdUp rd b (cutB (rd r) b)) r (cutA (rd r) b) i → (i = r ∧ y ∈ cutA (rd r) b) ∨ (i = b ∧ y ∈ cutB (rd r) b) ∨ (i ≠ r ∧ i ≠ b ∧ y ∈ rd i) := fun i y h => by
    rw [hrd] at h
    by_cases f1 : i = r
    · rw [if_pos f1] at h; exact Or.inl ⟨f1, h⟩
    · rw [if_neg f1] at h
      by_cases f2 : i = b
      · rw [if_pos f2] at h; exact Or.inr (Or.inl ⟨f2, h⟩)
      · rw [if_neg f2] at h; exact Or.inr (Or.inr ⟨f1, f2, h⟩)
  have hA : ∀ y, y ∈ cutA (rd r) b → y ∈ rd r := fun y h => (c5 y).mpr (Or.inl h)
  have hB : ∀ y, y ∈ cutB (rd r) b → y ∈ rd r := fun y h => (c5 y).mpr (Or.inr h)
  have ON : RvOK w ((p.set b (p.getD b 0 &&& (4095 ^^^ 2 ^ par (rd r) b))).set (par (rd r) b) (p.getD (par (rd r) b) 0 &&& (4095 ^^^ 2 ^ b))) (rdUp (rdUp rd b (cutB (rd r) b)) r (cutA (rd r) b)) := by
    refine rvok_mk O.1 (by simp [O.2.1]) O.2.2.1 ?_ (fun i hi h => ?_) (fun i hi y hy => ?_) (fun y hy => ?_) (fun i i' y hi hi' h1 h2 => ?_) (fun y c i hi h => ?_)
    · exact mem_set4096 (mem_set4096 O.2.2.2.1 (and_lt (pD_lt O b))) (and_lt (pD_lt O _))
    · rw [hrd] at h ⊢
      by_cases f1 : i = r
      · rw [if_pos f1, f1]; exact ⟨c1, s1, c3⟩
      · rw [if_neg f1] at h ⊢
        by_cases f2 : i = b
        · rw [if_pos f2, f2]; exact ⟨c2, s2, c4⟩
        · rw [if_neg f2] at h ⊢; exact O.2.2.2.2.1 i hi h
    · rcases hin i y hy with q | q | q
      · exact O.2.2.2.2.2.1 r hr y (hA y q.2)
      · exact O.2.2.2.2.2.1 r hr y (hB y q.2)
      · exact O.2.2.2.2.2.1 i hi y q.2.2
    · obtain ⟨i, hi, q⟩ := O.2.2.2.2.2.2.1 y hy
      by_cases f1 : i = r
      · rcases (c5 y).mp (f1 ▸ q) with z | z
        · exact ⟨r, hr, by rw [hrd, if_pos rfl]; exact z⟩
        · exact ⟨b, hb12, by rw [hrd, if_neg hne, if_pos rfl]; exact z⟩
      · refine ⟨i, hi, ?_⟩
        rw [hrd, if_neg f1, if_neg (fun z => by rw [z, h0] at q; cases q)]
        exact q
    · rcases hin i y h1 with q | q | q <;> rcases hin i' y h2 with q' | q' | q'
      · exact q.1.trans q'.1.symm
      · exact absurd q'.2 (c6 y q.2)
      · exact absurd (O.2.2.2.2.2.2.2.1 r i' y hr hi' (hA y q.2) q'.2.2).symm q'.1
      · exact absurd q.2 (c6 y q'.2)
      · exact q.1.trans q'.1.symm
      · exact absurd (O.2.2.2.2.2.2.2.1 r i' y hr hi' (hB y q.2) q'.2.2).symm q'.1
      · exact absurd (O.2.2.2.2.2.2.2.1 r i y hr hi (hA y q'.2) q.2.2).symm q.1
      · exact absurd (O.2.2.2.2.2.2.2.1 r i y hr hi (hB y q'.2) q.2.2).symm q.1
      · exact O.2.2.2.2.2.2.2.1 i i' y hi hi' q.2.2 q'.2.2
    · rw [hp]
      rcases hin i y h with ⟨q1, q2⟩ | ⟨q1, q2⟩ | q
      · rw [hrd, if_pos q1, O.2.2.2.2.2.2.2.2.2 y c r hr (hA y q2), c9]
        have n1 : y ≠ b := fun z => c6 y q2 (z ▸ hbB)
        constructor
        · rintro ⟨z | z | z | z, z1, z2⟩
          · exact z
          · exact absurd (prs_mem z).1 (c6 y q2)
          · exact absurd z z2
          · exact absurd z.1 n1
        · intro z
          exact ⟨Or.inl z, fun q => n1 q.1, fun q => c6 c (prs_mem z).2 (q.2 ▸ hbB)⟩
      · rw [hrd, if_neg (by rw [q1]; exact hne), if_pos q1, O.2.2.2.2.2.2.2.2.2 y c r hr (hB y q2), c9]
        have n1 : y ≠ par (rd r) b := fun z => c6 _ c8 (z ▸ q2)
        constructor
        · rintro ⟨z | z | z | z, z1, z2⟩
          · exact absurd q2 (c6 y (prs_mem z).1)
          · exact z
          · exact absurd z.1 n1
          · exact absurd z z1
        · intro z
          exact ⟨Or.inr (Or.inl z), fun q => c6 _ c8 (q.2 ▸ (prs_mem z).2), fun q => n1 q.1⟩
      · rw [hrd, if_neg q.1, if_neg q.2.1, O.2.2.2.2.2.2.2.2.2 y c i hi q.2.2]
        constructor
        · rintro ⟨z, -, -⟩
          exact z
        · intro z
          exact ⟨z, fun q' => absurd (O.2.2.2.2.2.2.2.1 i r b hi hr (q'.1 ▸ q.2.2) hb) q.1, fun q' => absurd (O.2.2.2.2.2.2.2.1 i r _ hi hr (q'.1 ▸ q.2.2) hul) q.1⟩
  have hke : k ≠ e := fun q => by rw [q, e2] at e1; rw [← e1] at hb; cases hb
  have hrn : rd r ≠ [] := fun q => by rw [q] at hb; cases hb
  refine ⟨ON, ?_⟩
  rw [e1]
  exact rel_two O X hr hb12 (fun q => hne q.symm) hk he hke e1 (by rw [e2, h0]) hrn ON
end KQ
