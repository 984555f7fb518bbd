/-! PICTURES: weights, ropes, rounds by root, (the fourth is not asked), three accounts. -/
def Pic := List Nat × List Nat × (Nat → List Nat) × (Nat → List Nat) × Int32 × Int32 × Int32
def Pic.w (V : Pic) : List Nat := V.1
def Pic.p (V : Pic) : List Nat := V.2.1
def Pic.rd (V : Pic) : Nat → List Nat := V.2.2.1
def Pic.sl (V : Pic) : Nat → List Nat := V.2.2.2.1
def Pic.j (V : Pic) : Int32 := V.2.2.2.2.1
def Pic.c (V : Pic) : Int32 := V.2.2.2.2.2.1
def Pic.t (V : Pic) : Int32 := V.2.2.2.2.2.2
def picD : Pic := ([], [], fun _ => [], fun _ => [], 0, 0, 0)
def mkP (w p : List Nat) (rd sl : Nat → List Nat) (j c t : Int32) : Pic := (w, p, rd, sl, j, c, t)
/-- as many ropes as banks without parts: the ropes tied without the ropes cut -/
def JC (w : List Nat) (rd : Nat → List Nat) (j c : Int32) : Prop := j - c + nI (cntTo 12 (rooted rd)) = nI w.length
def PicOK (V : Pic) : Prop := RvOK V.w V.p V.rd ∧ JC V.w V.rd V.j V.c
theorem picD_ok : PicOK picD := by
  refine ⟨rvok_mk (w := []) (p := []) (rd := fun _ => []) (by decide) rfl (by simp) (by simp) (fun k _ h => absurd rfl h) (by simp) (by simp) (by simp) (by simp), ?_⟩
  show (0 : Int32) - 0 + nI (cntTo 12 (rooted (fun _ => []))) = nI 0
  decide
def push (h : List Pic) (V : Pic) : List Pic := (if h.length = 8 then h.drop 1 else h) ++ [V]
theorem rel_rf {w p : List Nat} {rd : Nat → List Nat} (O : RvOK w p rd) : Rel rd rd := ⟨fun r hr _ => ⟨r, hr, rfl⟩, fun k hk _ => ⟨k, hk, rfl⟩, fun k k' hk hk' h e => Classical.byContradiction (fun q => rd_diff O hk hk' q h e)⟩
theorem cnt_up {rd : Nat → List Nat} {k : Nat} (hk : k < 12) (l : List Nat) : cntTo 12 (rooted (rdUp rd k l)) + (if rd k ≠ [] then 1 else 0) = cntTo 12 (rooted rd) + (if l ≠ [] then 1 else 0) := by
  have e1 := sumTo_pt hk (fun i => if rooted (rdUp rd k l) i then 1 else 0)
  have e2 := sumTo_pt hk (fun i => if rooted rd i then 1 else 0)
  have e3 : sumTo 12 (fun i => if i = k then 0 else (if rooted (rdUp rd k l) i then 1 else 0)) = sumTo 12 (fun i => if i = k then 0 else (if rooted rd i then 1 else 0)) := sumTo_congr (fun i _ => by
    by_cases c : i = k
    · rw [if_pos c, if_pos c]
    · rw [if_neg c, if_neg c]
      unfold rooted rdUp
      rw [if_neg c])
  have a1 : (if rooted (rdUp rd k l) k then 1 else 0) = (if l ≠ [] then 1 else 0) := by
    unfold rooted rdUp
    rw [if_pos rfl]
    by_cases c : l = [] <;> simp [c]
  have a2 : (if rooted rd k then 1 else 0) = (if rd k ≠ [] then 1 else 0) := by
    unfold rooted
    by_cases c : rd k = [] <;> simp [c]
  unfold cntTo
  rw [e1, e2, e3]
  rw [a1, a2]
  omega
theorem jc_add {x : Int32} {a b : Nat} (h : x + nI a = nI b) (n : Nat) : x + nI (a + n) = nI (b + n) := by
  rw [← nI_add, ← nI_add, ← h, Int32.add_assoc]
theorem jc_tie {j c : Int32} {a b : Nat} (h : j - c + nI (a + 1) = nI b) : j + 1 - c + nI a = nI b := by
  rw [← h, ← nI_add]
  have : (1 : Int32) = nI 1 := rfl
  rw [this]
  generalize nI a = x
  generalize nI 1 = y
  apply Int32.toBitVec_inj.mp
  simp only [Int32.toBitVec_add, Int32.toBitVec_sub]
  generalize j.toBitVec = j
  generalize c.toBitVec = c
  generalize x.toBitVec = x
  generalize y.toBitVec = y
  simp only [BitVec.sub_eq_add_neg]
  ac_rfl
theorem jc_cut {j c : Int32} {a b : Nat} (h : j - c + nI a = nI b) : j - (c + 1) + nI (a + 1) = nI b := by
  rw [← h, ← nI_add]
  have : (1 : Int32) = nI 1 := rfl
  rw [this]
  generalize nI a = x
  generalize nI 1 = y
  apply Int32.toBitVec_inj.mp
  simp only [Int32.toBitVec_add, Int32.toBitVec_sub]
  generalize j.toBitVec = j
  generalize c.toBitVec = c
  generalize x.toBitVec = x
  generalize y.toBitVec = y
  rw [BitVec.sub_eq_add_neg, BitVec.sub_eq_add_neg, BitVec.neg_add]
  have e : j + (-c - y) + (x + y) = j + -c + x + (y - y) := by
    simp only [BitVec.sub_eq_add_neg]
    ac_rfl
  rw [e, BitVec.sub_self, BitVec.add_zero]
