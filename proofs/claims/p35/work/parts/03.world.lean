def tw : List Cond := lw_tbl.filter goodWord
/-! THE WORLD: one memory (int fields and int arrays) over a layout that never changes once it is made. -/
abbrev Lay : Type := List Nat × (Nat → Nat) × (Nat → Nat → Nat) × (Nat → Nat) × (Nat → Nat → Nat) × (Nat → ClassId)
def lyL (Λ : Lay) : List Nat := Λ.1
def lyK (Λ : Lay) : Nat → Nat := Λ.2.1
def lyR (Λ : Lay) : Nat → Nat → Nat := Λ.2.2.1
def lyN (Λ : Lay) : Nat → Nat := Λ.2.2.2.1
def lyE (Λ : Lay) : Nat → Nat → Nat := Λ.2.2.2.2.1
def lyC (Λ : Lay) : Nat → ClassId := Λ.2.2.2.2.2
abbrev Mem : Type := (Nat → Nat → Int32) × (Nat → Nat → Int32)
def mI (μ : Mem) (a k : Nat) : Int32 := μ.1 a k
def mA (μ : Mem) (a j : Nat) : Int32 := μ.2 a j
def stI (μ : Mem) (a k : Nat) (v : Int32) : Mem := (fun b j => if b = a ∧ j = k then v else μ.1 b j, μ.2)
def stA (μ : Mem) (a j : Nat) (v : Int32) : Mem := (μ.1, fun b i => if b = a ∧ i = j then v else μ.2 b i)
def tysOf (Λ : Lay) : List (ClassId × FieldType) := [(lyC Λ 0, .int), (lyC Λ 2, .object RX2), (lyC Λ 3, .object RX1)]
def encQ (Λ : Lay) (a : Nat) : Nat → Option Nat := fun j => if j < lyN Λ a then some (lyE Λ a j) else none
def enc (Λ : Lay) (μ : Mem) (a : Nat) : va_E :=
  match lyK Λ a with
  | 0 => .inr (0, [.ref (lyR Λ a 0), .int (mI μ a 1), .int (mI μ a 2)])
  | 1 => .inr (1, [.ref (lyR Λ a 0), .ref (lyR Λ a 1), .ref (lyR Λ a 2), .ref (lyR Λ a 3), .int (mI μ a 4), .int (mI μ a 5), .int (mI μ a 6)])
  | 2 => .inr (2, [.ref (lyR Λ a 0), .int (mI μ a 1)])
  | 3 => .inr (3, [.ref (lyR Λ a 0), .ref (lyR Λ a 1), .ref (lyR Λ a 2), .int (mI μ a 3), .int (mI μ a 4)])
  | 4 => .inr (4, [.ref (lyR Λ a 0), .ref (lyR Λ a 1), .ref (lyR Λ a 2), .ref (lyR Λ a 3), .ref (lyR Λ a 4), .ref (lyR Λ a 5), .int (mI μ a 6), .int (mI μ a 7), .int (mI μ a 8), .int (mI μ a 9), .int (mI μ a 10)])
  | 6 => .inl (lyC Λ 0, lyN Λ a, .inl (mA μ a))
  | 8 => .inl (lyC Λ 2, lyN Λ a, .inr (.inr (.inr (.inr (encQ Λ a)))))
  | _ => .inl (lyC Λ 3, lyN Λ a, .inr (.inr (.inr (.inr (encQ Λ a)))))
theorem enc_0 {Λ : Lay} {μ : Mem} {a : Nat} (h : lyK Λ a = 0) : enc Λ μ a = .inr (0, [.ref (lyR Λ a 0), .int (mI μ a 1), .int (mI μ a 2)]) := by unfold enc; rw [h]; rfl
theorem enc_1 {Λ : Lay} {μ : Mem} {a : Nat} (h : lyK Λ a = 1) : enc Λ μ a = .inr (1, [.ref (lyR Λ a 0), .ref (lyR Λ a 1), .ref (lyR Λ a 2), .ref (lyR Λ a 3), .int (mI μ a 4), .int (mI μ a 5), .int (mI μ a 6)]) := by unfold enc; rw [h]; rfl
theorem enc_2 {Λ : Lay} {μ : Mem} {a : Nat} (h : lyK Λ a = 2) : enc Λ μ a = .inr (2, [.ref (lyR Λ a 0), .int (mI μ a 1)]) := by unfold enc; rw [h]; rfl
theorem enc_3 {Λ : Lay} {μ : Mem} {a : Nat} (h : lyK Λ a = 3) : enc Λ μ a = .inr (3, [.ref (lyR Λ a 0), .ref (lyR Λ a 1), .ref (lyR Λ a 2), .int (mI μ a 3), .int (mI μ a 4)]) := by unfold enc; rw [h]; rfl
theorem enc_4 {Λ : Lay} {μ : Mem} {a : Nat} (h : lyK Λ a = 4) : enc Λ μ a = .inr (4, [.ref (lyR Λ a 0), .ref (lyR Λ a 1), .ref (lyR Λ a 2), .ref (lyR Λ a 3), .ref (lyR Λ a 4), .ref (lyR Λ a 5), .int (mI μ a 6), .int (mI μ a 7), .int (mI μ a 8), .int (mI μ a 9), .int (mI μ a 10)]) := by unfold enc; rw [h]; rfl
theorem enc_6 {Λ : Lay} {μ : Mem} {a : Nat} (h : lyK Λ a = 6) : enc Λ μ a = .inl (lyC Λ 0, lyN Λ a, .inl (mA μ a)) := by unfold enc; rw [h]; rfl
theorem enc_8 {Λ : Lay} {μ : Mem} {a : Nat} (h : lyK Λ a = 8) : enc Λ μ a = .inl (lyC Λ 2, lyN Λ a, .inr (.inr (.inr (.inr (encQ Λ a))))) := by unfold enc; rw [h]; rfl
theorem enc_9 {Λ : Lay} {μ : Mem} {a : Nat} (h : lyK Λ a = 9) : enc Λ μ a = .inl (lyC Λ 3, lyN Λ a, .inr (.inr (.inr (.inr (encQ Λ a))))) := by unfold enc; rw [h]; rfl
def inK (Λ : Lay) (a k : Nat) : Prop := a ∈ lyL Λ ∧ lyK Λ a = k
def okR (Λ : Lay) (a : Nat) : Prop :=
  (lyK Λ a = 0 → inK Λ (lyR Λ a 0) 9) ∧
  (lyK Λ a = 1 → inK Λ (lyR Λ a 0) 2 ∧ inK Λ (lyR Λ a 1) 2 ∧ inK Λ (lyR Λ a 2) 8 ∧ inK Λ (lyR Λ a 3) 2) ∧
  (lyK Λ a = 2 → inK Λ (lyR Λ a 0) 6) ∧
  (lyK Λ a = 3 → inK Λ (lyR Λ a 0) 2 ∧ inK Λ (lyR Λ a 1) 2 ∧ inK Λ (lyR Λ a 2) 2) ∧
  (lyK Λ a = 4 → inK Λ (lyR Λ a 0) 1 ∧ inK Λ (lyR Λ a 1) 1 ∧ inK Λ (lyR Λ a 2) 0 ∧ inK Λ (lyR Λ a 3) 2 ∧ inK Λ (lyR Λ a 4) 2 ∧ inK Λ (lyR Λ a 5) 3) ∧
  (lyK Λ a = 8 → ∀ j, j < lyN Λ a → inK Λ (lyE Λ a j) 2) ∧
  (lyK Λ a = 9 → ∀ j, j < lyN Λ a → inK Λ (lyE Λ a j) 1)
def LayOK (Λ : Lay) : Prop := (lyL Λ).Nodup ∧ ∀ a ∈ lyL Λ, okR Λ a
def inL (Λ : Lay) (q : Nat) : Prop := q ∈ lyL Λ
section LK
variable {Λ : Lay} {a : Nat} (h : LayOK Λ)
theorem lk_0_0 (h : LayOK Λ) (k : inK Λ a 0) : inK Λ (lyR Λ a 0) 9 := (h.2 a k.1).1 k.2
theorem lk_1_0 (h : LayOK Λ) (k : inK Λ a 1) : inK Λ (lyR Λ a 0) 2 := ((h.2 a k.1).2.1 k.2).1
theorem lk_1_1 (h : LayOK Λ) (k : inK Λ a 1) : inK Λ (lyR Λ a 1) 2 := ((h.2 a k.1).2.1 k.2).2.1
theorem lk_1_2 (h : LayOK Λ) (k : inK Λ a 1) : inK Λ (lyR Λ a 2) 8 := ((h.2 a k.1).2.1 k.2).2.2.1
theorem lk_1_3 (h : LayOK Λ) (k : inK Λ a 1) : inK Λ (lyR Λ a 3) 2 := ((h.2 a k.1).2.1 k.2).2.2.2
theorem lk_2_0 (h : LayOK Λ) (k : inK Λ a 2) : inK Λ (lyR Λ a 0) 6 := (h.2 a k.1).2.2.1 k.2
theorem lk_3_0 (h : LayOK Λ) (k : inK Λ a 3) : inK Λ (lyR Λ a 0) 2 := ((h.2 a k.1).2.2.2.1 k.2).1
theorem lk_3_1 (h : LayOK Λ) (k : inK Λ a 3) : inK Λ (lyR Λ a 1) 2 := ((h.2 a k.1).2.2.2.1 k.2).2.1
theorem lk_3_2 (h : LayOK Λ) (k : inK Λ a 3) : inK Λ (lyR Λ a 2) 2 := ((h.2 a k.1).2.2.2.1 k.2).2.2
theorem lk_4_0 (h : LayOK Λ) (k : inK Λ a 4) : inK Λ (lyR Λ a 0) 1 := ((h.2 a k.1).2.2.2.2.1 k.2).1
theorem lk_4_1 (h : LayOK Λ) (k : inK Λ a 4) : inK Λ (lyR Λ a 1) 1 := ((h.2 a k.1).2.2.2.2.1 k.2).2.1
theorem lk_4_2 (h : LayOK Λ) (k : inK Λ a 4) : inK Λ (lyR Λ a 2) 0 := ((h.2 a k.1).2.2.2.2.1 k.2).2.2.1
theorem lk_4_3 (h : LayOK Λ) (k : inK Λ a 4) : inK Λ (lyR Λ a 3) 2 := ((h.2 a k.1).2.2.2.2.1 k.2).2.2.2.1
theorem lk_4_4 (h : LayOK Λ) (k : inK Λ a 4) : inK Λ (lyR Λ a 4) 2 := ((h.2 a k.1).2.2.2.2.1 k.2).2.2.2.2.1
theorem lk_4_5 (h : LayOK Λ) (k : inK Λ a 4) : inK Λ (lyR Λ a 5) 3 := ((h.2 a k.1).2.2.2.2.1 k.2).2.2.2.2.2
theorem lk_8 (h : LayOK Λ) (k : inK Λ a 8) {j : Nat} (hj : j < lyN Λ a) : inK Λ (lyE Λ a j) 2 := (h.2 a k.1).2.2.2.2.2.1 k.2 j hj
theorem lk_9 (h : LayOK Λ) (k : inK Λ a 9) {j : Nat} (hj : j < lyN Λ a) : inK Λ (lyE Λ a j) 1 := (h.2 a k.1).2.2.2.2.2.2 k.2 j hj
end LK
-- what a function's guard and its names say
def gd {α : Type} (c : Prop) [Decidable c] (x : Option α) : Option α := if c then x else none
theorem gd_some {α : Type} {c : Prop} [Decidable c] {x : Option α} {r : α} (h : gd c x = some r) : c ∧ x = some r := by
  unfold gd at h
  by_cases hc : c
  · rw [if_pos hc] at h; exact ⟨hc, h⟩
  · rw [if_neg hc] at h; cases h
theorem gd_t {α : Type} {c : Prop} [Decidable c] {x : Option α} (hc : c) : gd c x = x := if_pos hc
def bnd {α β : Type} (x : α) (f : α → β) : β := f x
theorem bnd_e {α β : Type} {x : α} {f : α → β} {r : β} (h : bnd x f = r) : ∃ y, y = x ∧ f y = r := ⟨x, rfl, h⟩
theorem obind_e {α β : Type} {x : Option α} {f : α → Option β} {r : β} (h : x.bind f = some r) : ∃ y, x = some y ∧ f y = some r := by
  cases x with
  | none => cases h
  | some y => exact ⟨y, rfl, h⟩
theorem ite_t {α : Type} {c : Prop} [Decidable c] {x y r : α} (h : ite c x y = r) (hc : c) : x = r := by rw [if_pos hc] at h; exact h
theorem ite_f {α : Type} {c : Prop} [Decidable c] {x y r : α} (h : ite c x y = r) (hc : ¬ c) : y = r := by rw [if_neg hc] at h; exact h
abbrev inb (i : Int32) (n : Nat) : Prop := ¬ (i < 0 ∨ n ≤ i.toNatClampNeg)
theorem inb_lt {i : Int32} {n : Nat} (h : inb i n) : i.toNatClampNeg < n := Nat.not_le.mp fun q => h (Or.inr q)
abbrev isB (v : Int32) : Prop := v = 0 ∨ v = 1
theorem isB_nar {v : Int32} (h : isB v) : narrow .boolean (.int v) = .int v := by rcases h with rfl | rfl <;> decide
def jushr (x y : Int32) : Int32 := (x.toUInt32 >>> (y.toUInt32 &&& Int32.toUInt32 31)).toInt32
def jchar (x : Int32) : Int32 := (x.toUInt32 % 65536).toInt32
def fuel : Nat := 4096
/-! THE MACHINE'S ROWS over the world. -/
theorem tw_mem {w : Cond} {i : Nat} (h : lw_tbl[i]? = some w) (g : goodWord w = true) : w ∈ tw := List.mem_filter.mpr ⟨List.mem_of_getElem? h, g⟩
theorem tw_good {w : Cond} (h : w ∈ tw) : goodWord w = true := (List.mem_filter.mp h).2
def wsm (y : MethodName) (b : ByteArray) (n : Nat) (r : Option FieldType) : List Cond := .code y b n r :: tw
abbrev rmd (d : Nat) : Room := { frames := d, cells := 0, slots := 0, locals := 40 * d }
theorem tw_in {y : MethodName} {b : ByteArray} {n : Nat} {r : Option FieldType} (h : Cond.code y b n r ∈ tw) : GoodIn tw (wsm y b n r) := by
  intro w hw
  rcases List.mem_cons.mp hw with rfl | hw
  · exact ⟨h, good_of_word (tw_good h)⟩
  · exact ⟨hw, good_of_word (tw_good hw)⟩
def Nw (U : State) : Prop := va_Nw (.methodLinkNest RX1 133 yX4_lowestIn RX4) U ∧ va_Nw (.methodLinkNest RX1 56 yX4_bit RX4) U ∧ va_Nw (.methodLinkNest RX2 38 yX4_bit RX4) U
/-! the law's texts: their signs -/
def txB : List (List Int32) := [[98, 53], [98, 57, 57, 59, 98, 48, 48], [106, 48, 126, 49], [106, 49, 126, 50, 59, 99, 50, 126, 49], [99, 48, 126, 49], [99, 49, 126, 48, 59, 106, 48, 126, 49], [116, 48], [116, 49, 59, 116, 50], [119, 48, 61, 53, 48], [119, 49, 61, 57, 59, 119, 49, 61, 48, 57], [117, 48, 43, 49, 48], [117, 50, 45, 57, 57, 59, 117, 50, 43, 49], [117, 49, 43, 48, 48], [106, 48, 126, 48], [106, 48, 126, 49, 49], [99, 48, 126, 48], [116, 57], [119, 49, 49, 61, 53], [106, 51, 126, 48, 59, 106, 48, 126, 52], [98, 49, 59, 98, 49, 59, 98, 49]]
def txN : List Nat := [2, 7, 4, 9, 4, 9, 2, 5, 5, 10, 5, 10, 5, 4, 5, 4, 2, 5, 9, 8]
/-- the row TEXTS, its texts, and what String and Preconditions say -/
def Xs (A : Nat → Prop) (tx : Nat) (q v : Nat → Nat) (U : State) : Prop := va_Z RL "TEXTS" "[Ljava/lang/String;" (.ref tx) A U U.heap ∧ va_T (.object "java/lang/String") tx 20 (fun j => .ref (q j)) A U U.heap ∧ vk_S 20 txN txB q v A U U.heap ∧ va_Z "java/lang/String" "COMPACT_STRINGS" "Z" (.int 1) A U U.heap ∧ va_Zq "jdk/internal/util/Preconditions" "SIOOBE_FORMATTER" "Ljava/util/function/BiFunction;" A U U.heap
def Xt (A : Nat → Prop) (U : State) : Prop := ∃ (tx : Nat) (q v : Nat → Nat), Xs A tx q v U
theorem Xs.mv {A : Nat → Prop} {tx : Nat} {q v : Nat → Nat} {s U : State} (h : Xs A tx q v s) (hv : s.vm.Alike U.vm) (hk : ∀ q : Nat, q < s.heap.size → ¬ A q → U.heap[q]? = s.heap[q]?) : Xs A tx q v U :=
  ⟨(va_Z.moved hv h.1).kept hk, (va_T.moved hv h.2.1).kept hk, (vk_S.moved hv h.2.2.1).kept hk, (va_Z.moved hv h.2.2.2.1).kept hk, (va_Zq.moved hv h.2.2.2.2).kept hk⟩
theorem Xt.blind {A : Nat → Prop} {U : State} (h : Xt A U) (g : JFrame) (mk : MethodId) (a : Array Value) : Xt A (U.calling g mk a) := by
  obtain ⟨tx, q, v, h⟩ := h
  exact ⟨tx, q, v, h.mv (Vm.Alike.refl U.vm) (fun _ _ _ => rfl)⟩
theorem Xt.at {A : Nat → Prop} {s U : State} (h : Xt A s) (hW : s.WarmedH U.vm) (hk : ∀ q : Nat, q < s.heap.size → ¬ A q → U.heap[q]? = s.heap[q]?) : Xt A U := by
  obtain ⟨tx, q, v, h⟩ := h
  exact ⟨tx, q, v, h.mv hW.alike hk⟩
def KK (G : va_G) (Λ : Lay) (U : State) : Prop := va_K G vwCl (tysOf Λ) U ∧ Nw U ∧ Xt (inL Λ) U
theorem KK.blind {G : va_G} {Λ : Lay} {U : State} (h : KK G Λ U) (g : JFrame) (mk : MethodId) (a : Array Value) : KK G Λ (U.calling g mk a) :=
  ⟨va_K.moved (u := U) (U := U.calling g mk a) (Vm.Alike.refl U.vm) h.1, ⟨va_Nw.same rfl rfl h.2.1.1, va_Nw.same rfl rfl h.2.1.2.1, va_Nw.same rfl rfl h.2.1.2.2⟩, h.2.2.blind g mk a⟩
theorem KK.at {G : va_G} {Λ : Lay} {s U : State} {H : Heap} {locs : List Loc} (h : KK G Λ s) (hS : va_S (inL Λ) s.heap H locs) (hU : U.heap = H) (hW : s.WarmedH U.vm) : KK G Λ U :=
  ⟨va_K.moved hW.alike h.1, ⟨va_Nw.warmM hW h.2.1.1, va_Nw.warmM hW h.2.1.2.1, va_Nw.warmM hW h.2.1.2.2⟩, h.2.2.at hW (fun q h1 h2 => by rw [hU]; exact hS.2.1 q h1 h2)⟩
def Wd (G : va_G) (Λ : Lay) (μ : Mem) (H : Heap) : Prop := va_P G vwCl ([] ++ va_pl (lyL Λ) (enc Λ μ)) H
theorem wd_D {Λ : Lay} {μ : Mem} {A : Nat → Prop} (h : LayOK Λ) (hA : ∀ q, inL Λ q → A q) : va_D A ([] ++ va_pl (lyL Λ) (enc Λ μ)) := by
  refine ⟨fun i j p q hi hj e => ?_, fun k q hk => ?_⟩
  · rw [List.nil_append, va_pl, List.getElem?_map] at hi hj
    cases h1 : (lyL Λ)[i]? with
    | none => rw [h1] at hi; cases hi
    | some a =>
      cases h2 : (lyL Λ)[j]? with
      | none => rw [h2] at hj; cases hj
      | some b =>
        rw [h1] at hi
        rw [h2] at hj
        cases hi
        cases hj
        have e : a = b := e
        subst e
        obtain ⟨l1, e1⟩ := List.getElem?_eq_some_iff.mp h1
        obtain ⟨l2, e2⟩ := List.getElem?_eq_some_iff.mp h2
        have hp : List.Pairwise (fun x y : Nat => x ≠ y) (lyL Λ) := h.1
        rcases Nat.lt_trichotomy i j with g | g | g
        · exact absurd (e1.trans e2.symm) (List.pairwise_iff_getElem.mp hp i j l1 l2 g)
        · exact g
        · exact absurd (e2.trans e1.symm) (List.pairwise_iff_getElem.mp hp j i l2 l1 g)
  · rw [List.nil_append, va_pl, List.getElem?_map] at hk
    cases h1 : (lyL Λ)[k]? with
    | none => rw [h1] at hk; cases hk
    | some a =>
      rw [h1] at hk
      cases hk
      exact hA a (List.mem_of_getElem? h1)
abbrev PcW (G : va_G) (Λ : Lay) (μ : Mem) (av : List Value) : Array Value → State → Prop := va_Pc av (fun U => KK G Λ U ∧ Wd G Λ μ U.heap)
abbrev QI (G : va_G) (Λ : Lay) (v : Int32) (μ : Mem) : Array Value → State → Outcome → State → Prop := va_Qi (fun r0 (_ : Unit) => r0 = v) (fun _ t => Wd G Λ μ t.heap) (inL Λ)
abbrev QV (G : va_G) (Λ : Lay) (μ : Mem) : Array Value → State → Outcome → State → Prop := va_Qv (fun (_ : Unit) => True) (fun _ t => Wd G Λ μ t.heap) (inL Λ)
abbrev QR (G : va_G) (Λ : Lay) (v k : Nat) (μ : Mem) : Array Value → State → Outcome → State → Prop := va_Qr (fun (_ : Unit) => inK Λ v k) (fun _ a t => a = v ∧ Wd G Λ μ t.heap) (inL Λ)
abbrev CM (l : Launch) (G : va_G) (Λ : Lay) (y : MethodName) (b : ByteArray) (n : Nat) (r : Option FieldType) (d : Nat) (μ : Mem) (av : List Value) (Qc : Array Value → State → Outcome → State → Prop) : Prop := Met l y (wsm y b n r) (rmd d) (PcW G Λ μ av) Qc 0 0 (inL Λ)
theorem pcw_blind {G : va_G} {Λ : Lay} {μ : Mem} {av : List Value} : FrameBlind (PcW G Λ μ av) := fun a _ g mk q => ⟨q.1, q.2.1.blind g mk a, q.2.2⟩
section MR
variable {p : Program} {l : Launch} {e : Env} {R : Room} {s : State} {m : MethodId} {args : Array Value} {below : List Frame} {meth : Method} {c : Code} {H : Heap} {locs : List Loc} {cells slots : Nat} {Q : State → Prop}
variable {G : va_G} {Λ : Lay} {μ μ1 : Mem} {cc : ByteArray} {pc nL : Nat} {ls : Array Slot} {rest st0 : List Value} {own : String} {A : Nat → Prop} {H0 : Heap} {a : Nat}
theorem ofM {y : MethodName} {ret : Option FieldType} {d : Nat} {av : List Value} {Qc : Array Value → State → Outcome → State → Prop} (hy : plainFor y = true) (how : y.cls = own) (hsl : (lg_sl av).length ≤ nL)
    (body : ∀ p e s m args below meth c ls, CallFix p m c cc nL s args tw own → KK G Λ s → Wd G Λ μ s.heap → meth.sig.returnType = ret → meth.locks = false → lv_has ls nL (lv_args 0 av) →
      W p l e (rmd d) s m args below meth c s.heap [] 0 0 (MQ below Qc args s 0 0 (inL Λ)) (F0 m 0 ls [])) : CM l G Λ y cc nL ret d μ av Qc := by
  refine va_MetF (cc := cc) (maxL := nL) (ret := ret) hy rfl ?_
  intro p e s m args below meth c s₁ B hml hv
  obtain ⟨rfl, hK, hW⟩ := hv
  have hts := atoms_spec (ws := wsm y cc nL ret) B.pre
  have hl := lv_entry av hsl
  rw [lg_entry_eq]
  exact body p e s m _ below meth c _ ⟨B.exec, B.bytes, hml, how ▸ findClass_of_methodNamed B.named, fun w h => hts w (List.mem_cons_of_mem _ h)⟩ hK hW B.returns B.notSynchronized hl
theorem lv_ldcwf (hexec : p.tables.exec = Jvm.exec) (hb : c.code = cc) {own : String} {index : Nat} {v : UInt32} (hown : s.vm.findClass own = some m.cls) (hconst : (Jvm.Cond.constantFloat own index v).before args s = true) (hdg : decode cc pc = .ok (.ldc_w index, 3)) (k : W p l e R s m args below meth c H locs cells slots Q (F0 m (pc + 3) ls (.float v :: rest))) : W p l e R s m args below meth c H locs cells slots Q (F0 m pc ls rest) := by
  intro T hT X
  obtain ⟨t, a, b⟩ := k T hT X
  obtain ⟨k', cf, hk, hcf, hcp⟩ := Cond.constantFloat_spec hown hconst
  obtain ⟨k'', hk', he⟩ := X.warmed.alike.2.2 _ _ hk
  refine ⟨t, ?_, b⟩
  jvm_step X.here [hexec, hb, hdg, ldc_w.wp_float (s := T) (f := F0 m pc ls rest) X.here.top hk' (by rw [he]; exact hcf) hcp]
  exact a
theorem top_i {x y : Int32} (h : y = x) (k : W p l e R s m args below meth c H locs cells slots Q (F0 m pc ls (.int y :: rest))) : W p l e R s m args below meth c H locs cells slots Q (F0 m pc ls (.int x :: rest)) := h ▸ k
theorem top_f {x y : UInt32} (h : y = x) (k : W p l e R s m args below meth c H locs cells slots Q (F0 m pc ls (.float y :: rest))) : W p l e R s m args below meth c H locs cells slots Q (F0 m pc ls (.float x :: rest)) := h ▸ k
/-- a field read -/
theorem g_get (hF : CallFix p m c cc nL s args tw own) (hKK : KK G Λ s) (hW : Wd G Λ μ H) (ha : a ∈ lyL Λ) {ci N k index : Nat} {C : String} {T : u_T} {fs : List Value} {v : Value} (he : enc Λ μ a = .inr (ci, fs)) (hc : vwCl[ci]? = some (C, T, N)) (hin : ∀ w ∈ u_ws C T N, w ∈ tw) (hk : k < N) (hlink : Cond.fieldLink own index (T k).1 (T k).2.1 (T k).2.2.1 ∈ tw) (hv : fs[k]? = some v) (hdg : decode cc pc = .ok (.getfield index, 3))
    (kk : W p l e R s m args below meth c H locs cells slots Q (F0 m (pc + 3) ls (v :: rest))) : W p l e R s m args below meth c H locs cells slots Q (F0 m pc ls (.ref a :: rest)) := by
  obtain ⟨q0, h0⟩ := va_pl_get (X := []) (f := enc Λ μ) ha
  rw [he] at h0
  exact va_get hF.1 hF.2.1 hF.2.2.2.2 hin hF.2.2.2.1 hKK.1 hW q0 h0 hc k hk (hF.2.2.2.2 _ hlink) (fun _ h => h) hv hdg kk
/-- a field written -/
theorem g_put (hOK : LayOK Λ) (hF : CallFix p m c cc nL s args tw own) (hKK : KK G Λ s) (hW : Wd G Λ μ H) (hS : va_S A H0 H locs) (hA : ∀ q, inL Λ q → A q) (ha : a ∈ lyL Λ) {ci N k index : Nat} {C : String} {T : u_T} {fs : List Value} {v : Value} (he : enc Λ μ a = .inr (ci, fs)) (hc : vwCl[ci]? = some (C, T, N)) (hin : ∀ w ∈ u_ws C T N, w ∈ tw) (ty0 : Nat → FieldType) (hty : ∀ k, k < N → parseFieldDescriptor (T k).2.2.1 = some (ty0 k)) (hnm : ∀ a, a < N → ∀ b, b < N → a ≠ b → (T a).2.1 ≠ (T b).2.1) (hk : k < N) (hlink : Cond.fieldLink own index (T k).1 (T k).2.1 (T k).2.2.1 ∈ tw) (hfin : (T k).2.2.2 = false) {ty : FieldType} (hd : parseFieldDescriptor (T k).2.2.1 = some ty) (hn : narrow ty v = v) (hfit : fits ty v = true) (hl : k < fs.length)
    (hnew : enc Λ μ1 = va_up (enc Λ μ) a (.inr (ci, fs.set k v))) (hdg : decode cc pc = .ok (.putfield index, 3))
    (kk : ∀ (H : Heap) (locs : List Loc), Wd G Λ μ1 H → va_S A H0 H locs → W p l e R s m args below meth c H locs cells slots Q (F0 m (pc + 3) ls rest)) : W p l e R s m args below meth c H locs cells slots Q (F0 m pc ls (v :: .ref a :: rest)) := by
  obtain ⟨q0, h0⟩ := va_pl_get (X := []) (f := enc Λ μ) ha
  have hD := wd_D (μ := μ) hOK hA
  have h1 := h0
  rw [he] at h0
  refine va_put hF.1 hF.2.1 hF.2.2.2.2 hin ty0 hty hnm hF.2.2.2.1 hKK.1 hW hD hS q0 h0 hc k hk (hF.2.2.2.2 _ hlink) (fun _ h => h) hfin hd hn hfit hl hdg (fun H1 locs1 hP1 hD1 hS1 => kk H1 locs1 ?_ hS1)
  rw [va_pl_set hD ha h1] at hP1
  unfold Wd
  rw [hnew]
  exact hP1
theorem enc_stI {Λ : Lay} {μ : Mem} {a k : Nat} {v : Int32} {E : va_E} (h : enc Λ (stI μ a k v) a = E) : enc Λ (stI μ a k v) = va_up (enc Λ μ) a E := by
  funext b
  by_cases e : b = a
  · subst e
    rw [va_up_self, h]
  · rw [va_up_ne _ _ e]
    have h1 : ∀ j, mI (stI μ a k v) b j = mI μ b j := fun j => by simp [mI, stI, e]
    have h2 : mA (stI μ a k v) b = mA μ b := rfl
    unfold enc
    simp only [h1, h2]
theorem enc_stA {Λ : Lay} {μ : Mem} {a k : Nat} {v : Int32} {E : va_E} (h : enc Λ (stA μ a k v) a = E) : enc Λ (stA μ a k v) = va_up (enc Λ μ) a E := by
  funext b
  by_cases e : b = a
  · subst e
    rw [va_up_self, h]
  · rw [va_up_ne _ _ e]
    have h1 : ∀ j, mI (stA μ a k v) b j = mI μ b j := fun j => rfl
    have h2 : mA (stA μ a k v) b = mA μ b := funext fun j => by simp [mA, stA, e]
    unfold enc
    simp only [h1, h2]
theorem mI_self {μ : Mem} {a k : Nat} {v : Int32} : mI (stI μ a k v) a k = v := by simp [mI, stI]
theorem mI_ne {μ : Mem} {a k b j : Nat} {v : Int32} (h : ¬ (b = a ∧ j = k)) : mI (stI μ a k v) b j = mI μ b j := by simp [mI, stI, h]
theorem mA_upd {μ : Mem} {a k : Nat} {v : Int32} : mA (stA μ a k v) a = upd (mA μ a) k v := by
  funext j
  simp [mA, stA, upd]
theorem ga_ld (hF : CallFix p m c cc nL s args tw own) (hKK : KK G Λ s) (hW : Wd G Λ μ H) (hk : inK Λ a 6) {i : Int32} (hin : inb i (lyN Λ a)) (hdg : decode cc pc = .ok (.iaload, 1))
    (kk : W p l e R s m args below meth c H locs cells slots Q (F0 m (pc + 1) ls (.int (mA μ a i.toNatClampNeg) :: rest))) : W p l e R s m args below meth c H locs cells slots Q (F0 m pc ls (.int i :: .ref a :: rest)) := by
  obtain ⟨q0, h0⟩ := va_pl_get (X := []) (f := enc Λ μ) hk.1
  rw [enc_6 hk.2] at h0
  exact va_iald hF.1 hF.2.1 hKK.1 hW q0 0 h0 rfl hin hdg kk
theorem ga_st (hOK : LayOK Λ) (hF : CallFix p m c cc nL s args tw own) (hKK : KK G Λ s) (hW : Wd G Λ μ H) (hS : va_S A H0 H locs) (hA : ∀ q, inL Λ q → A q) (hk : inK Λ a 6) {i x : Int32} (hin : inb i (lyN Λ a)) (hμ : μ1 = stA μ a i.toNatClampNeg x) (hdg : decode cc pc = .ok (.iastore, 1))
    (kk : ∀ (H : Heap) (locs : List Loc), Wd G Λ μ1 H → va_S A H0 H locs → W p l e R s m args below meth c H locs cells slots Q (F0 m (pc + 1) ls rest)) : W p l e R s m args below meth c H locs cells slots Q (F0 m pc ls (.int x :: .int i :: .ref a :: rest)) := by
  obtain ⟨q0, h0⟩ := va_pl_get (X := []) (f := enc Λ μ) hk.1
  have hD := wd_D (μ := μ) hOK hA
  have h1 := h0
  rw [enc_6 hk.2] at h0
  refine va_iast hF.1 hF.2.1 hKK.1 hW hD hS q0 0 h0 rfl hin hdg (fun H1 locs1 hP1 hD1 hS1 => kk H1 locs1 ?_ hS1)
  rw [va_pl_set hD hk.1 h1] at hP1
  unfold Wd
  rw [hμ, enc_stA ((enc_6 hk.2).trans (by rw [mA_upd]))]
  exact hP1
theorem ga_len6 (hF : CallFix p m c cc nL s args tw own) (hKK : KK G Λ s) (hW : Wd G Λ μ H) (hk : inK Λ a 6) (hdg : decode cc pc = .ok (.arraylength, 1))
    (kk : W p l e R s m args below meth c H locs cells slots Q (F0 m (pc + 1) ls (.int (nI (lyN Λ a)) :: rest))) : W p l e R s m args below meth c H locs cells slots Q (F0 m pc ls (.ref a :: rest)) := by
  obtain ⟨q0, h0⟩ := va_pl_get (X := []) (f := enc Λ μ) hk.1
  rw [enc_6 hk.2] at h0
  exact va_alen hF.1 hF.2.1 hKK.1 hW q0 0 h0 rfl rfl hdg kk
theorem ga_len8 (hF : CallFix p m c cc nL s args tw own) (hKK : KK G Λ s) (hW : Wd G Λ μ H) (hk : inK Λ a 8) (hdg : decode cc pc = .ok (.arraylength, 1))
    (kk : W p l e R s m args below meth c H locs cells slots Q (F0 m (pc + 1) ls (.int (nI (lyN Λ a)) :: rest))) : W p l e R s m args below meth c H locs cells slots Q (F0 m pc ls (.ref a :: rest)) := by
  obtain ⟨q0, h0⟩ := va_pl_get (X := []) (f := enc Λ μ) hk.1
  rw [enc_8 hk.2] at h0
  exact va_alen hF.1 hF.2.1 hKK.1 hW q0 1 h0 rfl rfl hdg kk
theorem ga_len9 (hF : CallFix p m c cc nL s args tw own) (hKK : KK G Λ s) (hW : Wd G Λ μ H) (hk : inK Λ a 9) (hdg : decode cc pc = .ok (.arraylength, 1))
    (kk : W p l e R s m args below meth c H locs cells slots Q (F0 m (pc + 1) ls (.int (nI (lyN Λ a)) :: rest))) : W p l e R s m args below meth c H locs cells slots Q (F0 m pc ls (.ref a :: rest)) := by
  obtain ⟨q0, h0⟩ := va_pl_get (X := []) (f := enc Λ μ) hk.1
  rw [enc_9 hk.2] at h0
  exact va_alen hF.1 hF.2.1 hKK.1 hW q0 2 h0 rfl rfl hdg kk
theorem encQ_in {Λ : Lay} {a : Nat} {i : Int32} (hin : inb i (lyN Λ a)) : va_rf (encQ Λ a i.toNatClampNeg) = .ref (lyE Λ a i.toNatClampNeg) := by
  unfold encQ
  rw [if_pos (inb_lt hin)]
  rfl
theorem gq_ld8 (hF : CallFix p m c cc nL s args tw own) (hKK : KK G Λ s) (hW : Wd G Λ μ H) (hk : inK Λ a 8) {i : Int32} (hin : inb i (lyN Λ a)) (hdg : decode cc pc = .ok (.aaload, 1))
    (kk : W p l e R s m args below meth c H locs cells slots Q (F0 m (pc + 1) ls (.ref (lyE Λ a i.toNatClampNeg) :: rest))) : W p l e R s m args below meth c H locs cells slots Q (F0 m pc ls (.int i :: .ref a :: rest)) := by
  obtain ⟨q0, h0⟩ := va_pl_get (X := []) (f := enc Λ μ) hk.1
  rw [enc_8 hk.2] at h0
  exact va_aldq hF.1 hF.2.1 hKK.1 hW q0 1 h0 rfl hin hdg (by rw [encQ_in hin]; exact kk)
theorem gq_ld9 (hF : CallFix p m c cc nL s args tw own) (hKK : KK G Λ s) (hW : Wd G Λ μ H) (hk : inK Λ a 9) {i : Int32} (hin : inb i (lyN Λ a)) (hdg : decode cc pc = .ok (.aaload, 1))
    (kk : W p l e R s m args below meth c H locs cells slots Q (F0 m (pc + 1) ls (.ref (lyE Λ a i.toNatClampNeg) :: rest))) : W p l e R s m args below meth c H locs cells slots Q (F0 m pc ls (.int i :: .ref a :: rest)) := by
  obtain ⟨q0, h0⟩ := va_pl_get (X := []) (f := enc Λ μ) hk.1
  rw [enc_9 hk.2] at h0
  exact va_aldq hF.1 hF.2.1 hKK.1 hW q0 2 h0 rfl hin hdg (by rw [encQ_in hin]; exact kk)
theorem wr_i {ty : FieldType} {v : Int32} (hF : CallFix p m c cc nL s args tw own) (hr : meth.sig.returnType = some ty) (hlocks : meth.locks = false) (hn : narrow ty (.int v) = .int v) (hW : Wd G Λ μ H) (hS : va_S (inL Λ) s.heap H locs) (hdg : decode cc pc = .ok (.ireturn, 1)) : W p l e R s m args below meth c H locs cells slots (MQ below (QI G Λ v μ) args s cells slots (inL Λ)) (F0 m pc ls [.int v]) :=
  W.zret hF.1 hF.2.1 hr hn (fun t ht _ => ⟨⟨v, (), rfl, rfl, (show Wd G Λ μ t.heap by rw [ht]; exact hW)⟩, hS.F ht⟩) hS.2.2 hdg hlocks
theorem wr_v (hF : CallFix p m c cc nL s args tw own) (hr : meth.sig.returnType = none) (hlocks : meth.locks = false) (hW : Wd G Λ μ H) (hS : va_S (inL Λ) s.heap H locs) (hdg : decode cc pc = .ok (.return_, 1)) : W p l e R s m args below meth c H locs cells slots (MQ below (QV G Λ μ) args s cells slots (inL Λ)) (F0 m pc ls []) :=
  W.vret hF.1 hF.2.1 hr (fun t ht _ => ⟨⟨(), rfl, trivial, (show Wd G Λ μ t.heap by rw [ht]; exact hW)⟩, hS.F ht⟩) hS.2.2 hdg hlocks
theorem wr_a {C : String} {v k : Nat} (hF : CallFix p m c cc nL s args tw own) (hr : meth.sig.returnType = some (.object C)) (hlocks : meth.locks = false) (hk : inK Λ v k) (hW : Wd G Λ μ H) (hS : va_S (inL Λ) s.heap H locs) (hdg : decode cc pc = .ok (.areturn, 1)) : W p l e R s m args below meth c H locs cells slots (MQ below (QR G Λ v k μ) args s cells slots (inL Λ)) (F0 m pc ls [.ref v]) :=
  W.aret hF.1 hF.2.1 hr (Or.inl ⟨_, rfl⟩) (Or.inr ⟨_, rfl⟩) (fun t ht _ => ⟨⟨(), v, rfl, hk, rfl, (show Wd G Λ μ t.heap by rw [ht]; exact hW)⟩, hS.F ht⟩) hS.2.2 hdg hlocks
-- calls
theorem recv_w {b ci : Nat} {q : vw_C} (hKK : KK G Λ s) (hW : Wd G Λ μ H) (hb : inK Λ b ci) (hi : ci ≤ 4) (hc : vwCl[ci]? = some q) : ∃ cell : Cell, H[b]? = some cell ∧ cell.vm.isStatics = false ∧ s.vm.findClass q.1 = some cell.cls := by
  obtain ⟨q0, h0⟩ := va_pl_get (X := []) (f := enc Λ μ) hb.1
  have he : ∃ fs, enc Λ μ b = .inr (ci, fs) := by
    obtain ⟨-, h⟩ := hb
    have h6 : ci = 0 ∨ ci = 1 ∨ ci = 2 ∨ ci = 3 ∨ ci = 4 := by omega
    rcases h6 with rfl | rfl | rfl | rfl | rfl
    · exact ⟨_, enc_0 h⟩
    · exact ⟨_, enc_1 h⟩
    · exact ⟨_, enc_2 h⟩
    · exact ⟨_, enc_3 h⟩
    · exact ⟨_, enc_4 h⟩
  obtain ⟨fs, he⟩ := he
  rw [he] at h0
  exact va_recv hKK.1 hW hc h0
section CALLS
variable {y : MethodName} {bytes : ByteArray} {maxL n index d : Nat} {ret : Option FieldType} {As : List Value}
theorem kwV {C : String} (n : Nat) (h4 : Cond.code y bytes maxL ret ∈ tw) (h1 : Cond.methodLink own index y ∈ tw) (h2 : Cond.instanceMethod y ∈ tw) (h3 : Cond.selects C y y ∈ tw) (h5 : Cond.initialized C ∈ tw)
    (hd : y.cls = C ∧ y.cls ≠ "java/lang/invoke/MethodHandle" ∧ y.cls ≠ "java/lang/invoke/VarHandle" ∧ (parseMethodDescriptor y.desc).map (fun d => d.parameters.length) = some n) (hts : ∀ w ∈ tw, w.before args s = true) (hR : d + 1 ≤ R.frames ∧ 8 + (maxL + 11) + 40 * d ≤ R.locals) :
    CallW R s args own C index y bytes maxL ret (wsm y bytes maxL ret) (rmd d) 0 0 n := by
  refine cwV n hts ?_ rfl rfl rfl hd hR
  intro w hw
  unfold wsV at hw
  rcases List.mem_append.mp hw with h | h
  · have : w ∈ tw := by
      rcases List.mem_cons.mp h with rfl | h
      · exact h1
      rcases List.mem_cons.mp h with rfl | h
      · exact h2
      rcases List.mem_cons.mp h with rfl | h
      · exact h3
      rcases List.mem_cons.mp h with rfl | h
      · exact h5
      cases h
    exact ⟨this, good_of_word (tw_good this)⟩
  · exact tw_in h4 w h
theorem kwS (n : Nat) (h4 : Cond.code y bytes maxL ret ∈ tw) (h1 : Cond.methodLink own index y ∈ tw) (h2 : Cond.static y ∈ tw) (h5 : Cond.initialized y.cls ∈ tw)
    (hd : y.cls ≠ "java/lang/invoke/MethodHandle" ∧ y.cls ≠ "java/lang/invoke/VarHandle" ∧ (parseMethodDescriptor y.desc).map (fun d => d.parameters.length) = some n) (hts : ∀ w ∈ tw, w.before args s = true) (hR : d + 1 ≤ R.frames ∧ 8 + (maxL + 11) + 40 * d ≤ R.locals) :
    CallB R s args own index y bytes maxL ret (wsm y bytes maxL ret) (rmd d) 0 0 n ∧ (Cond.static y).before args s = true :=
  ⟨callB_of n hts (tw_in h4) rfl rfl rfl (hts _ h5) (hts _ h1) hd hR, hts _ h2⟩
theorem kwN {host : String} (n : Nat) (h4 : Cond.code y bytes maxL ret ∈ tw) (h2 : Cond.static y ∈ tw) (h5 : Cond.initialized y.cls ∈ tw)
    (hd : y.cls ≠ "java/lang/invoke/MethodHandle" ∧ y.cls ≠ "java/lang/invoke/VarHandle" ∧ (parseMethodDescriptor y.desc).map (fun d => d.parameters.length) = some n) (hl : va_Nw (.methodLinkNest own index y host) s) (hts : ∀ w ∈ tw, w.before args s = true) (hR : d + 1 ≤ R.frames ∧ 8 + (maxL + 11) + 40 * d ≤ R.locals) :
    va_CN R s args own index y host bytes maxL ret (wsm y bytes maxL ret) (rmd d) 0 0 n ∧ (Cond.static y).before args s = true ∧ True :=
  ⟨va_cnB n hts (tw_in h4) rfl rfl rfl hl (hts _ h5) hd hR, hts _ h2, trivial⟩
theorem pre_V {b ci : Nat} {q : vw_C} (hKK : KK G Λ s) (hW : Wd G Λ μ H) (hS : va_S (inL Λ) s.heap H locs) (hb : inK Λ b ci) (hi : ci ≤ 4) (hc : vwCl[ci]? = some q) : PreV s H q.1 b (PcW G Λ μ (.ref b :: As)) As :=
  ⟨pcw_blind, recv_w hKK hW hb hi hc, fun U hU hWm => ⟨rfl, hKK.at hS hU hWm, by rw [hU]; exact hW⟩⟩
theorem pre_S (hKK : KK G Λ s) (hW : Wd G Λ μ H) (hS : va_S (inL Λ) s.heap H locs) : PreS s H (PcW G Λ μ As) As :=
  ⟨pcw_blind, fun U hU hWm => ⟨rfl, hKK.at hS hU hWm, by rw [hU]; exact hW⟩⟩
theorem end_i {v : Int32} {a : Array Value} (hr : va_Run p l e R s m args below meth c H locs cells slots 0 0 (F0 m pc ls st0) rest (QI G Λ v μ1 a) (inL Λ)) (hS : va_S (inL Λ) H0 H locs)
    (kk : ∀ (H : Heap) (locs : List Loc), Wd G Λ μ1 H → va_S (inL Λ) H0 H locs → W p l e R s m args below meth c H locs cells slots Q (F0 m (pc + 3) ls (.int v :: rest))) : W p l e R s m args below meth c H locs cells slots Q (F0 m pc ls st0) :=
  va_calli hr hS (fun _ _ h => h) (fun _ h => h) (fun r _ t H1 locs1 ht _ hp hB _ _ hS1 => by
    have hp : r = v := hp
    subst hp
    exact kk H1 locs1 (by rw [← ht]; exact hB) hS1)
theorem end_v {a : Array Value} (hr : va_Run p l e R s m args below meth c H locs cells slots 0 0 (F0 m pc ls st0) rest (QV G Λ μ1 a) (inL Λ)) (hS : va_S (inL Λ) H0 H locs)
    (kk : ∀ (H : Heap) (locs : List Loc), Wd G Λ μ1 H → va_S (inL Λ) H0 H locs → W p l e R s m args below meth c H locs cells slots Q (F0 m (pc + 3) ls rest)) : W p l e R s m args below meth c H locs cells slots Q (F0 m pc ls st0) :=
  va_callv hr hS (fun _ _ h => h) (fun _ h => h) (fun _ t H1 locs1 ht _ _ hB _ _ hS1 => kk H1 locs1 (by rw [← ht]; exact hB) hS1)
theorem end_r {v k : Nat} {a : Array Value} (hr : va_Run p l e R s m args below meth c H locs cells slots 0 0 (F0 m pc ls st0) rest (QR G Λ v k μ1 a) (inL Λ)) (hS : va_S (inL Λ) H0 H locs)
    (kk : ∀ (H : Heap) (locs : List Loc), inK Λ v k → Wd G Λ μ1 H → va_S (inL Λ) H0 H locs → W p l e R s m args below meth c H locs cells slots Q (F0 m (pc + 3) ls (.ref v :: rest))) : W p l e R s m args below meth c H locs cells slots Q (F0 m pc ls st0) :=
  va_callr hr hS (fun _ _ h => h) (fun _ h => h) (fun _ ra t H1 locs1 ht _ hp hB _ _ hS1 => by
    obtain ⟨rfl, hB⟩ := hB
    exact kk H1 locs1 hp (by rw [← ht]; exact hB) hS1)
theorem run_V {b ci : Nat} {q : vw_C} {Qc : Array Value → State → Outcome → State → Prop} (hF : CallFix p m c cc nL s args tw own) (hKK : KK G Λ s) (hW : Wd G Λ μ H) (hS : va_S (inL Λ) s.heap H locs) (hl : ls.size = nL) (hb : inK Λ b ci) (hi : ci ≤ 4) (hc : vwCl[ci]? = some q) (hM : CM l G Λ y bytes maxL ret d μ (.ref b :: As) Qc) (cw : CallW R s args own q.1 index y bytes maxL ret (wsm y bytes maxL ret) (rmd d) 0 0 n)
    (hn : As.length = n) (hst : st0 = As.reverse ++ .ref b :: rest) (hW8 : (rest.map fun v => v.category).sum ≤ 8) (hdg : decode cc pc = .ok (.invokevirtual index, 3)) (hf : cells ≤ R.cells ∧ slots ≤ R.slots) :
    va_Run p l e R s m args below meth c H locs cells slots 0 0 (F0 m pc ls st0) rest (Qc (Value.ref b :: As).toArray) (inL Λ) :=
  va_runV hF hM cw (pre_V hKK hW hS hb hi hc) rfl hn hl hst (lv_room hW8) hdg hf
theorem run_S {Qc : Array Value → State → Outcome → State → Prop} (hF : CallFix p m c cc nL s args tw own) (hKK : KK G Λ s) (hW : Wd G Λ μ H) (hS : va_S (inL Λ) s.heap H locs) (hl : ls.size = nL) (hM : CM l G Λ y bytes maxL ret d μ As Qc) (cw : CallB R s args own index y bytes maxL ret (wsm y bytes maxL ret) (rmd d) 0 0 n ∧ (Cond.static y).before args s = true)
    (hn : As.length = n) (hst : st0 = As.reverse ++ rest) (hW8 : (rest.map fun v => v.category).sum ≤ 8) (hdg : decode cc pc = .ok (.invokestatic index, 3)) (hf : cells ≤ R.cells ∧ slots ≤ R.slots) :
    va_Run p l e R s m args below meth c H locs cells slots 0 0 (F0 m pc ls st0) rest (Qc As.toArray) (inL Λ) :=
  va_runS hF hM cw (pre_S hKK hW hS) rfl hn hl hst (lv_room hW8) hdg hf
theorem run_N {host : String} {Qc : Array Value → State → Outcome → State → Prop} (hF : CallFix p m c cc nL s args tw own) (hKK : KK G Λ s) (hW : Wd G Λ μ H) (hS : va_S (inL Λ) s.heap H locs) (hl : ls.size = nL) (hM : CM l G Λ y bytes maxL ret d μ As Qc) (cw : va_CN R s args own index y host bytes maxL ret (wsm y bytes maxL ret) (rmd d) 0 0 n ∧ (Cond.static y).before args s = true ∧ True)
    (hn : As.length = n) (hst : st0 = As.reverse ++ rest) (hW8 : (rest.map fun v => v.category).sum ≤ 8) (hdg : decode cc pc = .ok (.invokestatic index, 3)) (hf : cells ≤ R.cells ∧ slots ≤ R.slots) :
    va_Run p l e R s m args below meth c H locs cells slots 0 0 (F0 m pc ls st0) rest (Qc As.toArray) (inL Λ) :=
  va_runSN hF hM cw (pre_S hKK hW hS) rfl hn hl hst (lv_room hW8) hdg hf
end CALLS
end MR
set_option maxRecDepth 100000 in
theorem twX0 : ∀ w ∈ u_ws RX0 TX0 3, w ∈ tw := by decide +kernel
set_option maxRecDepth 100000 in
theorem twX1 : ∀ w ∈ u_ws RX1 TX1 7, w ∈ tw := by decide +kernel
set_option maxRecDepth 100000 in
theorem twX2 : ∀ w ∈ u_ws RX2 TX2 2, w ∈ tw := by decide +kernel
set_option maxRecDepth 100000 in
theorem twX3 : ∀ w ∈ u_ws RX3 TX3 5, w ∈ tw := by decide +kernel
set_option maxRecDepth 100000 in
theorem twX4 : ∀ w ∈ u_ws RX4 TX4 11, w ∈ tw := by decide +kernel
