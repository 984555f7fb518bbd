/-! THE WORLD out of what is made. -/
def arrI (c n : Nat) : va_E := .inl (c, n, .inl (fun _ => 0))
def idxOf (n : Nat) (pr : Nat → Nat × va_E) (a : Nat) : Nat := ((List.range n).find? (fun i => (pr i).1 == a)).getD 0
def rOf (e : va_E) (k : Nat) : Nat := match e with
  | .inr (_, fs) => (match fs[k]? with
    | some (.ref a) => a
    | _ => 0)
  | _ => 0
def iOf (e : va_E) (k : Nat) : Int32 := match e with
  | .inr (_, fs) => (match fs[k]? with
    | some (.int v) => v
    | _ => 0)
  | _ => 0
def nOf (e : va_E) : Nat := match e with
  | .inl (_, n, _) => n
  | _ => 0
def eOf (e : va_E) (j : Nat) : Nat := match e with
  | .inl (_, _, .inr (.inr (.inr (.inr f)))) => (f j).getD 0
  | _ => 0
def fOf (e : va_E) (j : Nat) : Int32 := match e with
  | .inl (_, _, .inl f) => f j
  | _ => 0
def layOf (n : Nat) (pr : Nat → Nat × va_E) (K : Nat → Nat) (lc : Nat → ClassId) : Lay :=
  ((List.range n).map (fun i => (pr i).1), fun a => K (idxOf n pr a), fun a k => rOf (pr (idxOf n pr a)).2 k, fun a => nOf (pr (idxOf n pr a)).2, fun a j => eOf (pr (idxOf n pr a)).2 j, lc)
def memOf (n : Nat) (pr : Nat → Nat × va_E) : Mem := (fun a k => iOf (pr (idxOf n pr a)).2 k, fun a j => fOf (pr (idxOf n pr a)).2 j)
/-- addresses apart -/
def Inj (n : Nat) (pr : Nat → Nat × va_E) : Prop := ∀ i j, i < n → j < n → (pr i).1 = (pr j).1 → i = j
theorem inj_of {A : Nat → Prop} {n : Nat} {pr : Nat → Nat × va_E} (hD : va_D A (rm n pr)) : Inj n pr := fun i j hi hj h => hD.1 i j _ _ (rm_get hi) (rm_get hj) h
section LY
variable {n : Nat} {pr : Nat → Nat × va_E} {K : Nat → Nat} {lc : Nat → ClassId} {i b N : Nat}
theorem idx_of (h : Inj n pr) (hi : i < n) : idxOf n pr (pr i).1 = i := by
  unfold idxOf
  cases e : (List.range n).find? (fun j => (pr j).1 == (pr i).1) with
  | none =>
    have := List.find?_eq_none.mp e i (List.mem_range.mpr hi)
    simp at this
  | some j =>
    have h1 := List.find?_some e
    have h2 := List.mem_range.mp (List.mem_of_find?_eq_some e)
    have : (pr j).1 = (pr i).1 := by simpa using h1
    exact h j i h2 hi this
theorem lay_K (h : Inj n pr) (hi : i < n) : lyK (layOf n pr K lc) (pr i).1 = K i := by
  show K (idxOf n pr (pr i).1) = K i
  rw [idx_of h hi]
theorem lay_R (h : Inj n pr) (hi : i < n) (k : Nat) : lyR (layOf n pr K lc) (pr i).1 k = rOf (pr i).2 k := by
  show rOf (pr (idxOf n pr (pr i).1)).2 k = _
  rw [idx_of h hi]
theorem lay_N (h : Inj n pr) (hi : i < n) : lyN (layOf n pr K lc) (pr i).1 = nOf (pr i).2 := by
  show nOf (pr (idxOf n pr (pr i).1)).2 = _
  rw [idx_of h hi]
theorem lay_E (h : Inj n pr) (hi : i < n) (k : Nat) : lyE (layOf n pr K lc) (pr i).1 k = eOf (pr i).2 k := by
  show eOf (pr (idxOf n pr (pr i).1)).2 k = _
  rw [idx_of h hi]
theorem mem_I (h : Inj n pr) (hi : i < n) (k : Nat) : mI (memOf n pr) (pr i).1 k = iOf (pr i).2 k := by
  show iOf (pr (idxOf n pr (pr i).1)).2 k = _
  rw [idx_of h hi]
theorem mem_A (h : Inj n pr) (hi : i < n) (k : Nat) : mA (memOf n pr) (pr i).1 k = fOf (pr i).2 k := by
  show fOf (pr (idxOf n pr (pr i).1)).2 k = _
  rw [idx_of h hi]
theorem lay_in (h : Inj n pr) (hi : i < n) {k : Nat} (hk : K i = k) : inK (layOf n pr K lc) (pr i).1 k := ⟨List.mem_map.mpr ⟨i, List.mem_range.mpr hi, rfl⟩, (lay_K h hi).trans hk⟩
/-- a cell of the made world: told rightly by the layout, and its references are in place -/
def Good (n : Nat) (pr : Nat → Nat × va_E) (K : Nat → Nat) (lc : Nat → ClassId) (i : Nat) : Prop := enc (layOf n pr K lc) (memOf n pr) (pr i).1 = (pr i).2 ∧ okR (layOf n pr K lc) (pr i).1
theorem lay_ok (h : Inj n pr) (g : ∀ i, i < n → Good n pr K lc i) : LayOK (layOf n pr K lc) := by
  refine ⟨?_, fun a ha => ?_⟩
  · show ((List.range n).map (fun i => (pr i).1)).Nodup
    rw [List.nodup_iff_pairwise_ne]
    refine List.pairwise_map.mpr ?_
    refine List.pairwise_iff_getElem.mpr (fun i j hi hj hij => ?_)
    simp only [List.length_range] at hi hj
    simp only [List.getElem_range]
    intro q
    have := h i j hi hj q
    omega
  · obtain ⟨i, hi, rfl⟩ := List.mem_map.mp (show a ∈ (List.range n).map (fun i => (pr i).1) from ha)
    exact (g i (List.mem_range.mp hi)).2
theorem lay_Wd {G : va_G} {H : Heap} (g : ∀ i, i < n → Good n pr K lc i) (hP : va_P G vwCl (rm n pr) H) : Wd G (layOf n pr K lc) (memOf n pr) H := by
  have e : [] ++ va_pl (lyL (layOf n pr K lc)) (enc (layOf n pr K lc) (memOf n pr)) = rm n pr := by
    rw [List.nil_append]
    show ((List.range n).map (fun i => (pr i).1)).map (fun a => (a, enc (layOf n pr K lc) (memOf n pr) a)) = (List.range n).map pr
    rw [List.map_map]
    apply List.map_congr_left
    intro i hi
    show ((pr i).1, enc (layOf n pr K lc) (memOf n pr) (pr i).1) = pr i
    rw [(g i (List.mem_range.mp hi)).1]
  unfold Wd
  rw [e]
  exact hP
end LY
theorem ok_2 {Λ : Lay} {a : Nat} (hk : lyK Λ a = 2) (h : inK Λ (lyR Λ a 0) 6) : okR Λ a := by
  unfold okR
  rw [hk]
  exact ⟨fun q => absurd q (by decide), fun q => absurd q (by decide), fun _ => h, fun q => absurd q (by decide), fun q => absurd q (by decide), fun q => absurd q (by decide), fun q => absurd q (by decide)⟩
theorem ok_6 {Λ : Lay} {a : Nat} (hk : lyK Λ a = 6) : okR Λ a := by
  unfold okR
  rw [hk]
  exact ⟨fun q => absurd q (by decide), fun q => absurd q (by decide), fun q => absurd q (by decide), fun q => absurd q (by decide), fun q => absurd q (by decide), fun q => absurd q (by decide), fun q => absurd q (by decide)⟩
theorem ok_0 {Λ : Lay} {a : Nat} (hk : lyK Λ a = 0) (h : inK Λ (lyR Λ a 0) 9) : okR Λ a := by
  unfold okR
  rw [hk]
  exact ⟨fun _ => h, fun q => absurd q (by decide), fun q => absurd q (by decide), fun q => absurd q (by decide), fun q => absurd q (by decide), fun q => absurd q (by decide), fun q => absurd q (by decide)⟩
theorem ok_1 {Λ : Lay} {a : Nat} (hk : lyK Λ a = 1) (h : inK Λ (lyR Λ a 0) 2 ∧ inK Λ (lyR Λ a 1) 2 ∧ inK Λ (lyR Λ a 2) 8 ∧ inK Λ (lyR Λ a 3) 2) : okR Λ a := by
  unfold okR
  rw [hk]
  exact ⟨fun q => absurd q (by decide), fun _ => h, fun q => absurd q (by decide), fun q => absurd q (by decide), fun q => absurd q (by decide), fun q => absurd q (by decide), fun q => absurd q (by decide)⟩
theorem ok_3 {Λ : Lay} {a : Nat} (hk : lyK Λ a = 3) (h : inK Λ (lyR Λ a 0) 2 ∧ inK Λ (lyR Λ a 1) 2 ∧ inK Λ (lyR Λ a 2) 2) : okR Λ a := by
  unfold okR
  rw [hk]
  exact ⟨fun q => absurd q (by decide), fun q => absurd q (by decide), fun q => absurd q (by decide), fun _ => h, fun q => absurd q (by decide), fun q => absurd q (by decide), fun q => absurd q (by decide)⟩
theorem ok_4 {Λ : Lay} {a : Nat} (hk : lyK Λ a = 4) (h : inK Λ (lyR Λ a 0) 1 ∧ inK Λ (lyR Λ a 1) 1 ∧ inK Λ (lyR Λ a 2) 0 ∧ inK Λ (lyR Λ a 3) 2 ∧ inK Λ (lyR Λ a 4) 2 ∧ inK Λ (lyR Λ a 5) 3) : okR Λ a := by
  unfold okR
  rw [hk]
  exact ⟨fun q => absurd q (by decide), fun q => absurd q (by decide), fun q => absurd q (by decide), fun q => absurd q (by decide), fun _ => h, fun q => absurd q (by decide), fun q => absurd q (by decide)⟩
theorem ok_8 {Λ : Lay} {a : Nat} (hk : lyK Λ a = 8) (h : ∀ j, j < lyN Λ a → inK Λ (lyE Λ a j) 2) : okR Λ a := by
  unfold okR
  rw [hk]
  exact ⟨fun q => absurd q (by decide), fun q => absurd q (by decide), fun q => absurd q (by decide), fun q => absurd q (by decide), fun q => absurd q (by decide), fun _ => h, fun q => absurd q (by decide)⟩
theorem ok_9 {Λ : Lay} {a : Nat} (hk : lyK Λ a = 9) (h : ∀ j, j < lyN Λ a → inK Λ (lyE Λ a j) 1) : okR Λ a := by
  unfold okR
  rw [hk]
  exact ⟨fun q => absurd q (by decide), fun q => absurd q (by decide), fun q => absurd q (by decide), fun q => absurd q (by decide), fun q => absurd q (by decide), fun q => absurd q (by decide), fun _ => h⟩
section LZ
variable {n : Nat} {pr : Nat → Nat × va_E} {K : Nat → Nat} {lc : Nat → ClassId} {i b N : Nat}
/-- an array of numbers -/
theorem good_arr (h : Inj n pr) (hi : i < n) {κ cx : Nat} (hk : K i = κ) (h67 : (κ = 6 ∧ cx = 0) ∨ False) (e : (pr i).2 = arrI (lc cx) N) : Good n pr K lc i ∧ lyN (layOf n pr K lc) (pr i).1 = N ∧ ∀ j, mA (memOf n pr) (pr i).1 j = 0 := by
  have hN : lyN (layOf n pr K lc) (pr i).1 = N := by rw [lay_N h hi, e]; rfl
  have hA : mA (memOf n pr) (pr i).1 = fun _ => 0 := by funext j; rw [mem_A h hi, e]; rfl
  rcases h67 with ⟨q, q2⟩ | q
  · refine ⟨⟨?_, ok_6 ((lay_K h hi).trans (hk.trans q))⟩, hN, fun j => by rw [hA]⟩
    rw [enc_6 ((lay_K h hi).trans (hk.trans q)), hN, hA, e, q2]; rfl
  · exact q.elim
/-- a row -/
theorem good_row (h : Inj n pr) (hb : b + 1 < n) (k0 : K b = 2) (k1 : K (b + 1) = 6) (hN : N ≤ 100) (r : RowS lc pr b N) : Good n pr K lc b ∧ Good n pr K lc (b + 1) ∧ lyR (layOf n pr K lc) (pr b).1 0 = (pr (b + 1)).1 ∧ lyN (layOf n pr K lc) (pr (b + 1)).1 = N ∧ RowIs (layOf n pr K lc) (memOf n pr) (pr b).1 [] := by
  obtain ⟨g1, g2, g3⟩ := good_arr (K := K) (lc := lc) (cx := 0) h hb k1 (Or.inl ⟨rfl, rfl⟩) r.2
  have hR : lyR (layOf n pr K lc) (pr b).1 0 = (pr (b + 1)).1 := by rw [lay_R h (by omega), r.1]; rfl
  have hI : mI (memOf n pr) (pr b).1 1 = 0 := by rw [mem_I h (by omega), r.1]; rfl
  refine ⟨⟨?_, ok_2 ((lay_K h (by omega)).trans k0) (by rw [hR]; exact lay_in h hb k1)⟩, g1, hR, g2, ⟨by rw [hI]; rfl, by simp, by rw [hR, g2]; exact hN, fun j hj => absurd hj (by simp)⟩⟩
  rw [enc_2 ((lay_K h (by omega)).trans k0), hR, hI, r.1]
/-- an array of references -/
theorem good_q (h : Inj n pr) (hi : i < n) {κ kx cx : Nat} {f : Nat → Nat} (hk : K i = κ) (h8 : (κ = 8 ∧ kx = 2 ∧ cx = 2) ∨ (κ = 9 ∧ kx = 1 ∧ cx = 3) ∨ False) (e : (pr i).2 = arrQ (lc cx) N (fun j => if j < N then some (f j) else none)) (hin : ∀ j, j < N → inK (layOf n pr K lc) (f j) kx) : Good n pr K lc i ∧ lyN (layOf n pr K lc) (pr i).1 = N ∧ ∀ j, j < N → lyE (layOf n pr K lc) (pr i).1 j = f j := by
  have hN : lyN (layOf n pr K lc) (pr i).1 = N := by rw [lay_N h hi, e]; rfl
  have hE : ∀ j, j < N → lyE (layOf n pr K lc) (pr i).1 j = f j := fun j hj => by
    rw [lay_E h hi, e]
    show ((if j < N then some (f j) else none) : Option Nat).getD 0 = f j
    rw [if_pos hj]; rfl
  have hQ : encQ (layOf n pr K lc) (pr i).1 = fun j => if j < N then some (f j) else none := by
    funext j
    unfold encQ
    rw [hN]
    by_cases c : j < N
    · rw [if_pos c, if_pos c, hE j c]
    · rw [if_neg c, if_neg c]
  have hin' : ∀ j, j < lyN (layOf n pr K lc) (pr i).1 → inK (layOf n pr K lc) (lyE (layOf n pr K lc) (pr i).1 j) kx := fun j hj => by
    rw [hN] at hj
    rw [hE j hj]
    exact hin j hj
  refine ⟨⟨?_, ?_⟩, hN, hE⟩
  · rcases h8 with ⟨q, _, q2⟩ | ⟨q, _, q2⟩ | q
    · rw [enc_8 ((lay_K h hi).trans (hk.trans q)), hN, hQ, e, q2]; rfl
    · rw [enc_9 ((lay_K h hi).trans (hk.trans q)), hN, hQ, e, q2]; rfl
    · exact q.elim
  · rcases h8 with ⟨q, q3, q2⟩ | ⟨q, q3, q2⟩ | q
    · subst q3; exact ok_8 ((lay_K h hi).trans (hk.trans q)) hin'
    · subst q3; exact ok_9 ((lay_K h hi).trans (hk.trans q)) hin'
    · exact q.elim
end LZ
