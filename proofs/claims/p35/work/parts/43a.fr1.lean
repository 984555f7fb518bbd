/-! FERRY ROUNDS: where its objects lie; its past. -/
def frR (Λ : Lay) (a i : Nat) : Nat := if i = 0 then lyR Λ a 0 else if i = 1 then lyR Λ a 1 else lyE Λ (lyR Λ (lyR Λ a 2) 0) (i - 2)
def frW (Λ : Lay) (a i : Nat) : Nat := if i = 0 then lyR Λ a 3 else if i = 1 then lyR Λ a 4 else lyR Λ (lyR Λ a 5) (i - 2)
def FrApart (Λ : Lay) (a : Nat) : Prop :=
  (∀ i, i < 11 → RvApart Λ (frR Λ a i)) ∧ (∀ i j, i < 11 → j < 11 → i ≠ j → RvTwo Λ (frR Λ a i) (frR Λ a j)) ∧
  (∀ i h, i < 11 → rvRow Λ (frR Λ a i) h → h ≠ a ∧ h ≠ lyR Λ a 2 ∧ h ≠ lyR Λ a 5 ∧ ∀ k, k < 5 → h ≠ frW Λ a k ∧ lyR Λ h 0 ≠ lyR Λ (frW Λ a k) 0) ∧
  (∀ i, i < 11 → frR Λ a i ≠ a ∧ frR Λ a i ≠ lyR Λ a 2 ∧ frR Λ a i ≠ lyR Λ a 5 ∧ ∀ k, k < 5 → frR Λ a i ≠ frW Λ a k) ∧
  (∀ k l, k < 5 → l < 5 → k ≠ l → frW Λ a k ≠ frW Λ a l ∧ lyR Λ (frW Λ a k) 0 ≠ lyR Λ (frW Λ a l) 0) ∧
  (∀ k, k < 5 → frW Λ a k ≠ a ∧ frW Λ a k ≠ lyR Λ a 2 ∧ frW Λ a k ≠ lyR Λ a 5) ∧ a ≠ lyR Λ a 2 ∧ a ≠ lyR Λ a 5 ∧ lyR Λ a 2 ≠ lyR Λ a 5 ∧
  lyN Λ (lyR Λ (lyR Λ a 2) 0) = 9 ∧ lyN Λ (lyR Λ (frW Λ a 0) 0) = 69 ∧ ∀ k, 1 ≤ k → k < 5 → lyN Λ (lyR Λ (frW Λ a k) 0) = 70
def RvV (Λ : Lay) (μ : Mem) (a : Nat) (V : Pic) : Prop := RvS Λ μ a V.w V.p V.rd V.j V.c V.t
/-- what a change of the i-th river, of reasons, of the past's numbers may touch -/
def frS (Λ : Lay) (a : Nat) (b : Nat) : Prop := ∃ i, i < 11 ∧ rvRow Λ (frR Λ a i) b
def frT (Λ : Lay) (a : Nat) (b k : Nat) : Prop := (∃ i, i < 11 ∧ rvFld (frR Λ a i) b k) ∨ (b = a ∧ (k = 6 ∨ k = 7 ∨ k = 8 ∨ k = 9)) ∨ (b = lyR Λ a 2 ∧ (k = 1 ∨ k = 2))
abbrev FCh (Λ : Lay) (μ μ' : Mem) (a : Nat) : Prop := Chg Λ μ μ' (frS Λ a) (frT Λ a)
def ringO (Λ : Lay) (μ : Mem) (a : Nat) : Prop := ∀ i, i < 11 → ∃ w p rd, Riv Λ μ (frR Λ a i) w p rd
/-- the past: h is what can be gone back to, p where the next one is kept -/
def Past (Λ : Lay) (μ : Mem) (a p : Nat) (h : List Pic) : Prop := p < 9 ∧ mI μ (lyR Λ a 2) 1 = nI p ∧ mI μ (lyR Λ a 2) 2 = nI h.length ∧ h.length ≤ 8 ∧ (∀ U ∈ h, PicOK U) ∧ ∀ i, i < h.length → RvV Λ μ (frR Λ a (2 + (p + 9 - h.length + i) % 9)) (h.getD i picD)
section FR
variable {Λ : Lay} {μ μ' : Mem} {a : Nat}
theorem fch_riv {i : Nat} (hi : i < 11) (c : Chg Λ μ μ' (rvRow Λ (frR Λ a i)) (rvFld (frR Λ a i))) : FCh Λ μ μ' a := c.wk (fun _ h => ⟨i, hi, h⟩) (fun _ _ h => Or.inl ⟨i, hi, h⟩)
theorem rvv_keep (P : FrApart Λ a) {i j : Nat} (hi : i < 11) (hj : j < 11) (hij : i ≠ j) (c : Chg Λ μ μ' (rvRow Λ (frR Λ a i)) (rvFld (frR Λ a i))) {V : Pic} (h : RvV Λ μ (frR Λ a j) V) : RvV Λ μ' (frR Λ a j) V := two_keep (P.2.1 i j hi hj hij) c h
theorem riv_keep (P : FrApart Λ a) {i j : Nat} (hi : i < 11) (hj : j < 11) (hij : i ≠ j) (c : Chg Λ μ μ' (rvRow Λ (frR Λ a i)) (rvFld (frR Λ a i))) {w p : List Nat} {rd : Nat → List Nat} (h : Riv Λ μ (frR Λ a j) w p rd) : Riv Λ μ' (frR Λ a j) w p rd :=
  (two_keep (P.2.1 i j hi hj hij) c (show RvS Λ μ (frR Λ a j) w p rd (mI μ (frR Λ a j) 4) (mI μ (frR Λ a j) 5) (mI μ (frR Λ a j) 6) from ⟨h, rfl, rfl, rfl⟩)).1
theorem ring_keep (P : FrApart Λ a) {i : Nat} (hi : i < 11) (c : Chg Λ μ μ' (rvRow Λ (frR Λ a i)) (rvFld (frR Λ a i))) (R : ringO Λ μ a) {w p : List Nat} {rd : Nat → List Nat} (h : Riv Λ μ' (frR Λ a i) w p rd) : ringO Λ μ' a := fun j hj => by
  by_cases e : i = j
  · subst e; exact ⟨w, p, rd, h⟩
  · obtain ⟨w', p', rd', q⟩ := R j hj
    exact ⟨w', p', rd', riv_keep P hi hj e c q⟩
theorem riv_int (P : FrApart Λ a) {i : Nat} (hi : i < 11) (c : Chg Λ μ μ' (rvRow Λ (frR Λ a i)) (rvFld (frR Λ a i))) {b : Nat} (hb : b = a ∨ b = lyR Λ a 2 ∨ b = lyR Λ a 5) (k : Nat) : mI μ' b k = mI μ b k := by
  refine c.1 b k (fun q => ?_) (fun q => ?_)
  · have := P.2.2.1 i b hi q.1
    rcases hb with e | e | e
    · exact this.1 e
    · exact this.2.1 e
    · exact this.2.2.1 e
  · have := P.2.2.2.1 i hi
    rcases hb with e | e | e
    · exact this.1 (q.1.symm.trans e)
    · exact this.2.1 (q.1.symm.trans e)
    · exact this.2.2.1 (q.1.symm.trans e)
theorem riv_past (P : FrApart Λ a) {i p : Nat} {h : List Pic} (hi : i < 11) (hp : ∀ m, m < h.length → i ≠ 2 + (p + 9 - h.length + m) % 9) (c : Chg Λ μ μ' (rvRow Λ (frR Λ a i)) (rvFld (frR Λ a i))) (H : Past Λ μ a p h) : Past Λ μ' a p h :=
  ⟨H.1, (riv_int P hi c (Or.inr (Or.inl rfl)) 1).trans H.2.1, (riv_int P hi c (Or.inr (Or.inl rfl)) 2).trans H.2.2.1, H.2.2.2.1, H.2.2.2.2.1, fun m hm => rvv_keep P hi (by omega) (hp m hm) c (H.2.2.2.2.2 m hm)⟩
theorem rvv_copy (P : FrApart Λ a) {i j : Nat} (hi : i < 11) (hj : j < 11) (hij : i ≠ j) (R : ringO Λ μ a) {V : Pic} (ok : PicOK V) (h : RvV Λ μ (frR Λ a j) V) : ∃ μ', sX1_copyFrom Λ μ (frR Λ a i) (frR Λ a j) = some μ' ∧ RvV Λ μ' (frR Λ a i) V ∧ RvV Λ μ' (frR Λ a j) V ∧ Chg Λ μ μ' (rvRow Λ (frR Λ a i)) (rvFld (frR Λ a i)) := by
  obtain ⟨w0, p0, rd0, q⟩ := R i hi
  exact rv_copy (P.1 i hi) (P.2.1 i j hi hj hij) ok.1.1 (by rw [ok.1.2.1]; exact ok.1.1) (fun k hk => rv_lenK ok.1 hk) q h
/-- the picture is noted where the next one is kept -/
theorem fr_note (P : FrApart Λ a) (R : ringO Λ μ a) {p : Nat} {h : List Pic} (H : Past Λ μ a p h) {V : Pic} (ok : PicOK V) (N : RvV Λ μ (lyR Λ a 0) V) : ∃ μ', sX0_note Λ μ (lyR Λ a 2) (lyR Λ a 0) = some μ' ∧ RvV Λ μ' (lyR Λ a 0) V ∧ RvV Λ μ' (frR Λ a (2 + p)) V ∧ Past Λ μ' a p h ∧ ringO Λ μ' a ∧ Chg Λ μ μ' (rvRow Λ (frR Λ a (2 + p))) (rvFld (frR Λ a (2 + p))) := by
  have hp9 := H.1
  have hl8 := H.2.2.2.1
  have e : frR Λ a (2 + p) = lyE Λ (lyR Λ (lyR Λ a 2) 0) p := by
    unfold frR
    rw [if_neg (by omega), if_neg (by omega), Nat.add_sub_cancel_left]
  obtain ⟨μ', q1, q2, q3, q4⟩ := rvv_copy P (i := 2 + p) (j := 0) (by omega) (by omega) (by omega) R ok N
  unfold sX0_note
  rw [H.2.1, if_neg (nI_pos (by omega)), P.2.2.2.2.2.2.2.2.2.1, if_pos ((nI_ltI (by omega) (by omega)).mpr hp9), gd_t (nI_in (by omega) (by omega)), nI_clamp (by omega), ← e]
  have q1' : sX1_copyFrom Λ μ (frR Λ a (2 + p)) (lyR Λ a 0) = some μ' := q1
  rw [q1']
  exact ⟨μ', rfl, q3, q2, riv_past P (by omega) (fun m hm => by omega) q4 H, ring_keep P (by omega) q4 R q2.1, q4⟩
end FR
