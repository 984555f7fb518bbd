/-! WHAT IS MADE: a world as a row of cells by their places. -/
def rm (n : Nat) (pr : Nat → Nat × va_E) : va_W := (List.range n).map pr
def mrg (n : Nat) (pr pr1 : Nat → Nat × va_E) : Nat → Nat × va_E := fun j => if j < n then pr j else pr1 (j - n)
def rmU (pr : Nat → Nat × va_E) (n : Nat) (x : Nat × va_E) : Nat → Nat × va_E := fun j => if j = n then x else pr j
theorem rm_len {n : Nat} {pr : Nat → Nat × va_E} : (rm n pr).length = n := by unfold rm; simp
theorem rm_get {n i : Nat} {pr : Nat → Nat × va_E} (h : i < n) : (rm n pr)[i]? = some (pr i) := by
  unfold rm
  rw [List.getElem?_map, List.getElem?_range h]; rfl
theorem rm_none {n i : Nat} {pr : Nat → Nat × va_E} (h : n ≤ i) : (rm n pr)[i]? = none := List.getElem?_eq_none (by rw [rm_len]; exact h)
theorem rm_congr {n : Nat} {pr pr' : Nat → Nat × va_E} (h : ∀ j, j < n → pr j = pr' j) : rm n pr = rm n pr' := by
  unfold rm
  exact List.map_congr_left (fun j hj => h j (List.mem_range.mp hj))
theorem rm_ext {ws : va_W} {n : Nat} {pr : Nat → Nat × va_E} (hl : ws.length = n) (h : ∀ j, j < n → ws[j]? = some (pr j)) : ws = rm n pr := by
  apply List.ext_getElem?
  intro j
  by_cases c : j < n
  · rw [h j c, rm_get c]
  · rw [List.getElem?_eq_none (by omega), rm_none (by omega)]
theorem rm_push {n : Nat} {pr : Nat → Nat × va_E} {x : Nat × va_E} : rm n pr ++ [x] = rm (n + 1) (rmU pr n x) := by
  refine rm_ext (by simp [rm_len]) (fun j hj => ?_)
  unfold rmU
  by_cases c : j < n
  · rw [List.getElem?_append_left (by rw [rm_len]; exact c), rm_get c, if_neg (by omega)]
  · have : j = n := by omega
    subst this
    rw [List.getElem?_append_right (by rw [rm_len]; exact Nat.le_refl _), rm_len, Nat.sub_self, if_pos rfl]; rfl
theorem rm_set {n i : Nat} {pr : Nat → Nat × va_E} {x : Nat × va_E} (h : i < n) : (rm n pr).set i x = rm n (rmU pr i x) := by
  refine rm_ext (by simp [rm_len]) (fun j hj => ?_)
  unfold rmU
  rw [List.getElem?_set, rm_len]
  by_cases c : j = i
  · subst c
    rw [if_pos rfl, if_pos rfl, if_pos hj]
  · rw [if_neg (fun q => c q.symm), if_neg c, rm_get hj]
theorem rm_app {n m : Nat} {pr pr1 : Nat → Nat × va_E} : rm n pr ++ rm m pr1 = rm (n + m) (mrg n pr pr1) := by
  refine rm_ext (by simp [rm_len]) (fun j hj => ?_)
  unfold mrg
  by_cases c : j < n
  · rw [List.getElem?_append_left (by rw [rm_len]; exact c), rm_get c, if_pos c]
  · rw [List.getElem?_append_right (by rw [rm_len]; omega), rm_len, rm_get (by omega), if_neg c]
theorem rm_one {q : Nat} {e : va_E} : [(q, e)] = rm 1 (fun _ => (q, e)) := rfl
theorem nd_of : ∀ l : List Nat, l.Nodup → va_nd l = true := by
  intro l
  induction l with
  | nil => intro _; rfl
  | cons a l ih =>
    intro h
    rw [List.nodup_cons] at h
    show (decide (a ∉ l) && va_nd l) = true
    rw [ih h.2, decide_eq_true h.1]; rfl
section RMW
variable {A0 : Nat → Prop} {D : va_G} {cl : List vw_C} {H H1 : Heap} {n m q : Nat} {e : va_E} {pr pr1 : Nat → Nat × va_E}
theorem rm_lastC : ([n] : List Nat).map (fun i => (rm n pr ++ [(q, e)])[i]?) = [((q, e) : Nat × va_E)].map some := by
  show [(rm n pr ++ [(q, e)])[n]?] = [some (q, e)]
  rw [List.getElem?_append_right (by rw [rm_len]; exact Nat.le_refl _), rm_len, Nat.sub_self]; rfl
theorem rm_lastP (hP : va_P D cl (rm n pr ++ [(q, e)]) H) : va_P D cl [(q, e)] H := by
  refine hP.sub [n] ?_
  show ([n] : List Nat).filterMap (fun i => (rm n pr ++ [(q, e)])[i]?) = _
  rw [List.filterMap_cons, List.getElem?_append_right (by rw [rm_len]; exact Nat.le_refl _), rm_len, Nat.sub_self]; rfl
theorem rm_lastD (hD : va_D A0 (rm n pr ++ [(q, e)])) : va_D A0 [(q, e)] := hD.sub [n] (nd_of _ (by simp)) rm_lastC
theorem rm_join (hP : va_P D cl (rm n pr ++ [(q, e)]) H) (hD : va_D A0 (rm n pr ++ [(q, e)])) (hk : ∀ a : Nat, a < H.size → ¬ va_A [(q, e)] H.size a → H1[a]? = H[a]?) (hF : ∀ a, va_A [(q, e)] H.size a → A0 a) (hP1 : va_P D cl (rm m pr1) H1) (hD1 : va_D (va_A [(q, e)] H.size) (rm m pr1)) : va_P D cl (rm (n + m) (mrg n pr pr1)) H1 ∧ va_D A0 (rm (n + m) (mrg n pr pr1)) := by
  rw [← rm_app]
  refine va_join (wr := rm n pr) hP hD [n] (List.range n) rm_lastC ?_ (nd_of _ List.nodup_range) (fun i hi hj => ?_) hk hF hP1 hD1
  · unfold rm
    rw [List.map_map]
    apply List.map_congr_left
    intro i hi
    have hi := List.mem_range.mp hi
    show ((List.range n).map pr ++ [(q, e)])[i]? = some (pr i)
    rw [List.getElem?_append_left (by simpa using hi), List.getElem?_map, List.getElem?_range hi]; rfl
  · have := List.mem_range.mp hi
    rw [List.mem_singleton.mp hj] at this
    omega
end RMW
