/-! printed by wip/gen35/build.py out of the decode rows: do not edit by hand -/
/-! THE LAW, at its entry: the texts, the arrays' classes, the classes; its script's cells. -/
def tmT : Term := .static RL "TEXTS" "[Ljava/lang/String;"
def tmS (i : Nat) : Term := .string RL (178 + 2 * i)
def tmV (i : Nat) : Term := .field (tmS i) "java/lang/String" "value" "[B"
abbrev fls : List Cond := flatC (Jvm.Cond.and given_1 narrow_1)
set_option maxRecDepth 100000 in
theorem mx_ex : ∀ i, i < 20 → Cond.exactly (tmS i) "java/lang/String" ∈ fls := by decide +kernel
set_option maxRecDepth 100000 in
theorem mx_co : ∀ i, i < 20 → Cond.eq (.field (tmS i) "java/lang/String" "coder" "B") (.int 0) ∈ fls := by decide +kernel
set_option maxRecDepth 100000 in
theorem mx_ar : ∀ i, i < 20 → Cond.arrayOf (tmV i) .byte ∈ fls := by decide +kernel
set_option maxRecDepth 100000 in
theorem mx_le : ∀ i, i < 20 → Cond.eq (.length (tmV i)) (.int (Int32.ofNat (txN.getD i 0))) ∈ fls := by decide +kernel
set_option maxRecDepth 100000 in
theorem mx_el : ∀ i, i < 20 → ∀ j, j < txN.getD i 0 → Cond.eq (.elem (tmV i) (.int (Int32.ofNat j))) (.int ((txB.getD i []).getD j 0)) ∈ fls := by decide +kernel
def mxB : List Nat := [0, 49, 58, 73, 84, 101, 112, 127, 143, 165, 183, 207, 227, 247, 269, 291, 312, 337, 367, 397]
set_option maxRecDepth 100000 in
theorem mx_nk : ∀ j, j < 20 → ∀ i, i < j → fls[mxB.getD j 0 + i]? = some (Cond.not (Cond.eq (tmS i) (tmS j))) := by decide +kernel
theorem mx_ne (i : Nat) (hi : i < 20) (j : Nat) (hj : j < 20) (h : i ≠ j) : Cond.not (Cond.eq (tmS i) (tmS j)) ∈ fls ∨ Cond.not (Cond.eq (tmS j) (tmS i)) ∈ fls := by
  rcases Nat.lt_or_gt_of_ne h with q | q
  · exact Or.inl (List.mem_of_getElem? (mx_nk j hj i q))
  · exact Or.inr (List.mem_of_getElem? (mx_nk i hi j q))
set_option maxRecDepth 100000 in
theorem mx_tx : ∀ i, i < 20 → Cond.eq (.elem tmT (.int (Int32.ofNat i))) (tmS i) ∈ fls := by decide +kernel
set_option maxRecDepth 100000 in
theorem mx_t1 : Cond.arrayOf tmT (.object "java/lang/String") ∈ fls ∧ Cond.eq (.length tmT) (.int 20) ∈ fls ∧ Cond.eq (.static "java/lang/String" "COMPACT_STRINGS" "Z") (.int 1) ∈ fls ∧ Cond.isRef (.static "jdk/internal/util/Preconditions" "SIOOBE_FORMATTER" "Ljava/util/function/BiFunction;") ∈ fls := by decide +kernel
