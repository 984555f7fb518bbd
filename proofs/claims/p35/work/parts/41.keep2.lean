/-! EVERY CHANGE KEEPS WHAT HOLDS: rivers and their relation to the reference. -/
section KP
variable {w p : List Nat} {rd sl : Nat → List Nat}
theorem rvok_mk {w p : List Nat} {rd : Nat → List Nat} (h1 : w.length ≤ 12) (h2 : p.length = w.length) (h3 : ∀ x ∈ w, x ≤ 99) (h4 : ∀ x ∈ p, x < 4096) (h5 : ∀ k, k < 12 → rd k ≠ [] → Tour (rd k) ∧ ∃ t, rd k = k :: t) (h6 : ∀ k, k < 12 → ∀ x ∈ rd k, x < w.length) (h7 : ∀ b, b < w.length → ∃ k, k < 12 ∧ b ∈ rd k) (h8 : ∀ k k' b, k < 12 → k' < 12 → b ∈ rd k → b ∈ rd k' → k = k') (h10 : ∀ b c k, k < 12 → b ∈ rd k → ((p.getD b 0).testBit c = true ↔ (b, c) ∈ prs (rd k))) : RvOK w p rd := by
  refine ⟨h1, h2, h3, h4, h5, h6, h7, h8, fun k hk => ?_, h10⟩
  by_cases e : rd k = []
  · rw [e]; simp
  · have := T_len 12 (rd k) (h5 k hk e).1 (fun x hx => by have := h6 k hk x hx; omega)
    have h := cntTo_le 12 (fun i => decide (i ∈ rd k))
    omega
theorem keep_w {w' : List Nat} (O : RvOK w p rd) (hl : w'.length = w.length) (h9 : ∀ x ∈ w', x ≤ 99) : RvOK w' p rd :=
  rvok_mk (by rw [hl]; exact O.1) (by rw [hl]; exact O.2.1) h9 O.2.2.2.1 O.2.2.2.2.1 (by rw [hl]; exact O.2.2.2.2.2.1) (by rw [hl]; exact O.2.2.2.2.2.2.1) O.2.2.2.2.2.2.2.1 O.2.2.2.2.2.2.2.2.2
theorem rd_self (O : RvOK w p rd) {k : Nat} (hk : k < 12) (h : rd k ≠ []) : k ∈ rd k := by
  obtain ⟨_, t, e⟩ := O.2.2.2.2.1 k hk h
  rw [e]; simp
theorem rd_none (O : RvOK w p rd) {b r : Nat} (hr : r < 12) (hb : b ∈ rd r) (hne : b ≠ r) : rd b = [] := by
  apply Classical.byContradiction
  intro q
  have hb12 := rv_lt12 O hr b hb
  exact hne (O.2.2.2.2.2.2.2.1 b r b hb12 hr (rd_self O hb12 q) hb)
theorem rd_diff (O : RvOK w p rd) {r r' : Nat} (hr : r < 12) (hr' : r' < 12) (hne : r ≠ r') (h : rd r ≠ []) : rd r ≠ rd r' := by
  intro q
  have h1 := rd_self O hr h
  exact hne (O.2.2.2.2.2.2.2.1 r r' r hr hr' h1 (q ▸ h1))
/-- a new bank -/
theorem keep_bank (O : RvOK w p rd) (X : Rel rd sl) (hn : w.length < 12) {x k : Nat} (hx : x ≤ 99) (hk : k < 12) (hke : sl k = []) : rd w.length = [] ∧ RvOK (w ++ [x]) (p ++ [0]) (rdUp rd w.length [w.length]) ∧ Rel (rdUp rd w.length [w.length]) (slUp sl k [w.length]) := by
  have h0 : rd w.length = [] := by
    apply Classical.byContradiction
    intro q
    have := O.2.2.2.2.2.1 w.length hn w.length (rd_self O hn q)
    omega
  have hin : ∀ i y, y ∈ rdUp rd w.length [w.length] i ↔ (i = w.length ∧ y = w.length) ∨ (y ∈ rd i) := fun i y => by
    unfold rdUp
    by_cases e : i = w.length
    · subst e; rw [if_pos rfl, h0]; simp
    · rw [if_neg e]; simp [e]
  have hno : ∀ i, i < 12 → w.length ∉ rd i := fun i hi q => by have := O.2.2.2.2.2.1 i hi _ q; omega
  have ON : RvOK (w ++ [x]) (p ++ [0]) (rdUp rd w.length [w.length]) := by
    refine rvok_mk (by simp; omega) (by simp [O.2.1]) (fun y hy => ?_) (fun y hy => ?_) (fun i hi h => ?_) (fun i hi y hy => ?_) (fun b hb => ?_) (fun i i' b hi hi' h1 h2 => ?_) (fun b c i hi h => ?_)
    · rcases List.mem_append.mp hy with q | q
      · exact O.2.2.1 y q
      · rw [List.mem_singleton.mp q]; exact hx
    · rcases List.mem_append.mp hy with q | q
      · exact O.2.2.2.1 y q
      · rw [List.mem_singleton.mp q]; omega
    · unfold rdUp at h ⊢
      by_cases e : i = w.length
      · rw [if_pos e, e]; exact ⟨T_one _, [], rfl⟩
      · rw [if_neg e] at h ⊢; exact O.2.2.2.2.1 i hi h
    · simp only [List.length_append, List.length_cons, List.length_nil]
      rcases (hin i y).mp hy with q | q
      · omega
      · have := O.2.2.2.2.2.1 i hi y q; omega
    · simp only [List.length_append, List.length_cons, List.length_nil] at hb
      by_cases e : b = w.length
      · exact ⟨w.length, hn, (hin _ _).mpr (Or.inl ⟨rfl, e⟩)⟩
      · obtain ⟨i, hi, q⟩ := O.2.2.2.2.2.2.1 b (by omega)
        exact ⟨i, hi, (hin _ _).mpr (Or.inr q)⟩
    · rcases (hin i b).mp h1 with q | q
      · rcases (hin i' b).mp h2 with q' | q'
        · exact q.1.trans q'.1.symm
        · exact absurd (q.2 ▸ q') (hno i' hi')
      · rcases (hin i' b).mp h2 with q' | q'
        · exact absurd (q'.2 ▸ q) (hno i hi)
        · exact O.2.2.2.2.2.2.2.1 i i' b hi hi' q q'
    · rcases (hin i b).mp h with q | q
      · have e1 : (p ++ [0]).getD b 0 = 0 := by
          rw [q.2, ← O.2.1, List.getD_eq_getElem?_getD]; simp
        rw [e1]
        unfold rdUp
        rw [if_pos q.1]
        simp [prs]
      · have hbl := O.2.2.2.2.2.1 i hi b q
        have hi2 : i ≠ w.length := fun e => by rw [e, h0] at q; cases q
        have e1 : (p ++ [0]).getD b 0 = p.getD b 0 := by
          rw [List.getD_eq_getElem?_getD, List.getD_eq_getElem?_getD, List.getElem?_append_left (by rw [O.2.1]; exact hbl)]
        rw [e1]
        unfold rdUp
        rw [if_neg hi2]
        exact O.2.2.2.2.2.2.2.2.2 b c i hi q
  refine ⟨h0, ON, fun r hr h => ?_, fun i hi h => ?_, fun i i' hi hi' h e => ?_⟩
  · unfold rdUp at h ⊢
    by_cases e : r = w.length
    · exact ⟨k, hk, by unfold slUp; rw [if_pos rfl, if_pos e]⟩
    · rw [if_neg e] at h ⊢
      obtain ⟨i, hi, q⟩ := X.1 r hr h
      refine ⟨i, hi, ?_⟩
      unfold slUp
      rw [if_neg (fun z => h (by rw [← q, z, hke]))]
      exact q
  · unfold slUp at h ⊢
    by_cases e : i = k
    · exact ⟨w.length, hn, by rw [if_pos e]; unfold rdUp; rw [if_pos rfl]⟩
    · rw [if_neg e] at h ⊢
      obtain ⟨r, hr, q⟩ := X.2.1 i hi h
      refine ⟨r, hr, ?_⟩
      unfold rdUp
      rw [if_neg (fun z => h (by rw [q, z, h0]))]
      exact q
  · unfold slUp at h e
    have hns : ∀ i, i < 12 → sl i ≠ [w.length] := fun i hi q => by
      obtain ⟨r, hr, q2⟩ := X.2.1 i hi (by rw [q]; simp)
      exact hno r hr (by rw [← q2, q]; simp)
    by_cases e1 : i = k
    · by_cases e2 : i' = k
      · omega
      · rw [if_pos e1, if_neg e2] at e
        exact absurd e.symm (hns i' hi')
    · rw [if_neg e1] at h e
      by_cases e2 : i' = k
      · rw [if_pos e2] at e
        exact absurd e (hns i hi)
      · rw [if_neg e2] at e
        exact X.2.2 i i' hi hi' h e
/-- a part told from another bank -/
theorem keep_turn (O : RvOK w p rd) (X : Rel rd sl) {r b k : Nat} (hr : r < 12) (hb : b ∈ rd r) (hne : b ≠ r) (hk : k < 12) (e : sl k = rd r) : RvOK w p (rdUp (rdUp rd b (turnL (rd r) b)) r []) ∧ Rel (rdUp (rdUp rd b (turnL (rd r) b)) r []) (slUp sl k (turnL (sl k) b)) := by
  obtain ⟨hT, t, ht⟩ := rv_tour O hr hb
  obtain ⟨t1, ⟨t2, t3⟩, t4, t5⟩ := turn_all hT ht hb hne
  have hb12 := rv_lt12 O hr b hb
  have h0 := rd_none O hr hb hne
  have hg : ∀ i, rdUp (rdUp rd b (turnL (rd r) b)) r [] i = if i = r then [] else if i = b then turnL (rd r) b else rd i := fun i => rfl
  have hin : ∀ i y, y ∈ rdUp (rdUp rd b (turnL (rd r) b)) r [] i → (i = b ∧ y ∈ rd r) ∨ (i ≠ r ∧ i ≠ b ∧ y ∈ rd i) := fun i y h => by
    rw [hg] at h
    by_cases e1 : i = r
    · rw [if_pos e1] at h; cases h
    · rw [if_neg e1] at h
      by_cases e2 : i = b
      · rw [if_pos e2] at h; exact Or.inl ⟨e2, (t4 y).mp h⟩
      · rw [if_neg e2] at h; exact Or.inr ⟨e1, e2, h⟩
  have ON : RvOK w p (rdUp (rdUp rd b (turnL (rd r) b)) r []) := by
    refine rvok_mk O.1 O.2.1 O.2.2.1 O.2.2.2.1 (fun i hi h => ?_) (fun i hi y hy => ?_) (fun y hy => ?_) (fun i i' y hi hi' h1 h2 => ?_) (fun y c i hi h => ?_)
    · rw [hg] at h ⊢
      by_cases e1 : i = r
      · rw [if_pos e1] at h; exact absurd rfl h
      · rw [if_neg e1] at h ⊢
        by_cases e2 : i = b
        · rw [if_pos e2, e2]; exact ⟨t1, t2, t3⟩
        · rw [if_neg e2] at h ⊢; exact O.2.2.2.2.1 i hi h
    · rcases hin i y hy with q | q
      · exact O.2.2.2.2.2.1 r hr y q.2
      · exact O.2.2.2.2.2.1 i hi y q.2.2
    · obtain ⟨i, hi, q⟩ := O.2.2.2.2.2.2.1 y hy
      by_cases e1 : i = r
      · refine ⟨b, hb12, ?_⟩
        rw [hg, if_neg hne, if_pos rfl]
        exact (t4 y).mpr (e1 ▸ q)
      · refine ⟨i, hi, ?_⟩
        rw [hg, if_neg e1, if_neg (fun z => by rw [z, h0] at q; cases q)]
        exact q
    · rcases hin i y h1 with q | q <;> rcases hin i' y h2 with q' | q'
      · exact q.1.trans q'.1.symm
      · exact absurd (O.2.2.2.2.2.2.2.1 r i' y hr hi' q.2 q'.2.2).symm q'.1
      · exact absurd (O.2.2.2.2.2.2.2.1 r i y hr hi q'.2 q.2.2).symm q.1
      · exact O.2.2.2.2.2.2.2.1 i i' y hi hi' q.2.2 q'.2.2
    · rcases hin i y h with q | q
      · rw [hg, if_neg (by rw [q.1]; exact hne), if_pos q.1, t5]
        exact O.2.2.2.2.2.2.2.2.2 y c r hr q.2
      · rw [hg, if_neg q.1, if_neg q.2.1]
        exact O.2.2.2.2.2.2.2.2.2 y c i hi q.2.2
  have hrn : rd r ≠ [] := fun q => by rw [q] at hb; cases hb
  refine ⟨ON, fun i hi h => ?_, fun i hi h => ?_, fun i i' hi hi' h e' => ?_⟩
  · rw [hg] at h ⊢
    by_cases e1 : i = r
    · rw [if_pos e1] at h; exact absurd rfl h
    · rw [if_neg e1] at h ⊢
      by_cases e2 : i = b
      · refine ⟨k, hk, ?_⟩
        unfold slUp
        rw [if_pos rfl, if_pos e2, e]
      · rw [if_neg e2] at h ⊢
        obtain ⟨m, hm, q⟩ := X.1 i hi h
        refine ⟨m, hm, ?_⟩
        unfold slUp
        rw [if_neg (fun z => rd_diff O hr hi (fun z' => e1 z'.symm) hrn (by rw [← e, ← z, q]))]
        exact q
  · unfold slUp at h ⊢
    by_cases e1 : i = k
    · refine ⟨b, hb12, ?_⟩
      rw [if_pos e1, hg, if_neg hne, if_pos rfl, e]
    · rw [if_neg e1] at h ⊢
      obtain ⟨m, hm, q⟩ := X.2.1 i hi h
      refine ⟨m, hm, ?_⟩
      rw [hg, if_neg (fun z => e1 (X.2.2 i k hi hk h (by rw [q, z, e]))), if_neg (fun z => h (by rw [q, z, h0]))]
      exact q
  · unfold slUp at h e'
    have hns : ∀ i, i < 12 → i ≠ k → sl i ≠ turnL (sl k) b := fun i hi hik q => by
      obtain ⟨m, hm, q2⟩ := X.2.1 i hi (by rw [q, e, t3]; simp)
      have hbm : b ∈ rd m := by rw [← q2, q, e, t3]; simp
      have : m = r := O.2.2.2.2.2.2.2.1 m r b hm hr hbm hb
      exact hik (X.2.2 i k hi hk (by rw [q, e, t3]; simp) (by rw [q2, this, e]))
    by_cases e1 : i = k
    · by_cases e2 : i' = k
      · omega
      · rw [if_pos e1, if_neg e2] at e'
        exact absurd e'.symm (hns i' hi' e2)
    · rw [if_neg e1] at h e'
      by_cases e2 : i' = k
      · rw [if_pos e2] at e'
        exact absurd e' (hns i hi e1)
      · rw [if_neg e2] at e'
        exact X.2.2 i i' hi hi' h e'
/-- two rounds changed at once -/
theorem rel_two (O : RvOK w p rd) {w' p' : List Nat} {Y Z : List Nat} {r b k e : Nat} (X : Rel rd sl) (hr : r < 12) (hb : b < 12) (hrb : r ≠ b) (hk : k < 12) (he : e < 12) (hke : k ≠ e) (e1 : sl k = rd r) (e2 : sl e = rd b) (hrn : rd r ≠ []) (ON : RvOK w' p' (rdUp (rdUp rd b Y) r Z)) : Rel (rdUp (rdUp rd b Y) r Z) (slUp (slUp sl k Z) e Y) := by
  have hg : ∀ i, rdUp (rdUp rd b Y) r Z i = if i = r then Z else if i = b then Y else rd i := fun i => rfl
  have hs : ∀ i, slUp (slUp sl k Z) e Y i = if i = e then Y else if i = k then Z else sl i := fun i => rfl
  have c1 : ∀ i, i < 12 → rdUp (rdUp rd b Y) r Z i ≠ [] → ∃ m, m < 12 ∧ slUp (slUp sl k Z) e Y m = rdUp (rdUp rd b Y) r Z i := fun i hi h => by
    by_cases f1 : i = r
    · refine ⟨k, hk, ?_⟩
      rw [hs, hg, if_neg hke, if_pos rfl, if_pos f1]
    · by_cases f2 : i = b
      · refine ⟨e, he, ?_⟩
        rw [hs, hg, if_pos rfl, if_neg f1, if_pos f2]
      · rw [hg, if_neg f1, if_neg f2] at h ⊢
        obtain ⟨m, hm, q⟩ := X.1 i hi h
        refine ⟨m, hm, ?_⟩
        rw [hs, if_neg (fun z => ?_), if_neg (fun z => ?_)]
        · exact q
        · exact rd_diff O hi hr f1 h (by rw [← q, z, e1])
        · exact rd_diff O hi hb f2 h (by rw [← q, z, e2])
  have c2 : ∀ i, i < 12 → slUp (slUp sl k Z) e Y i ≠ [] → ∃ m, m < 12 ∧ slUp (slUp sl k Z) e Y i = rdUp (rdUp rd b Y) r Z m ∧ (i = k ↔ m = r) ∧ (i = e ↔ m = b) ∧ (i ≠ k → i ≠ e → sl i = rd m) := fun i hi h => by
    by_cases f1 : i = e
    · refine ⟨b, hb, ?_, ⟨fun z => absurd (z.symm.trans f1) hke, fun z => absurd z.symm hrb⟩, ⟨fun _ => rfl, fun _ => f1⟩, fun _ q => absurd f1 q⟩
      rw [hs, hg, if_pos f1, if_neg (fun z => hrb z.symm), if_pos rfl]
    · by_cases f2 : i = k
      · refine ⟨r, hr, ?_, ⟨fun _ => rfl, fun _ => f2⟩, ⟨fun z => absurd z f1, fun z => absurd z hrb⟩, fun q => absurd f2 q⟩
        rw [hs, hg, if_neg f1, if_pos f2, if_pos rfl]
      · rw [hs, if_neg f1, if_neg f2] at h
        obtain ⟨m, hm, q⟩ := X.2.1 i hi h
        have n1 : m ≠ r := fun z => f2 (X.2.2 i k hi hk h (by rw [q, z, e1]))
        have n2 : m ≠ b := fun z => f1 (X.2.2 i e hi he h (by rw [q, z, e2]))
        refine ⟨m, hm, ?_, ⟨fun z => absurd z f2, fun z => absurd z n1⟩, ⟨fun z => absurd z f1, fun z => absurd z n2⟩, fun _ _ => q⟩
        rw [hs, hg, if_neg f1, if_neg f2, if_neg n1, if_neg n2]
        exact q
  refine ⟨c1, fun i hi h => ?_, fun i i' hi hi' h q => ?_⟩
  · obtain ⟨m, hm, q, -⟩ := c2 i hi h
    exact ⟨m, hm, q⟩
  · obtain ⟨m, hm, q1, a1, a2, a3⟩ := c2 i hi h
    obtain ⟨m', hm', q1', a1', a2', a3'⟩ := c2 i' hi' (by rw [← q]; exact h)
    have em : m = m' := by
      apply Classical.byContradiction
      intro z
      exact rd_diff ON hm hm' z (by rw [← q1]; exact h) (by rw [← q1, q, q1'])
    subst em
    by_cases f1 : i = k
    · rw [f1]; exact (a1'.mpr (a1.mp f1)).symm
    · by_cases f2 : i = e
      · rw [f2]; exact (a2'.mpr (a2.mp f2)).symm
      · have f1' : i' ≠ k := fun z => f1 (a1.mpr (a1'.mp z))
        have f2' : i' ≠ e := fun z => f2 (a2.mpr (a2'.mp z))
        rw [hs, if_neg f2, if_neg f1] at h
        exact X.2.2 i i' hi hi' h (by rw [a3 f1 f2, a3' f1' f2'])
end KP
