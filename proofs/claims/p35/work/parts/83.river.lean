/-! WHAT IS MADE: a river. -/
section NV
variable {p : Program} {l : Launch} {e : Env} {R : Room} {s : State} {m : MethodId} {args : Array Value} {below : List Frame} {meth : Method} {c : Code} {H : Heap} {locs : List Loc} {cells slots : Nat} {Q : State → Prop}
variable {G : va_G} {lc : Nat → ClassId} {cc : ByteArray} {pc nL n : Nat} {ls : Array Slot} {rest st0 : List Value} {own : String} {A : Nat → Prop} {H0 : Heap} {a : Nat} {pr : Nat → Nat × va_E}
/-- what a spec says of the cells from b on, it says of the same cells elsewhere -/
def Mov (S : (Nat → Nat × va_E) → Nat → Prop) (mm : Nat) : Prop := ∀ (pr pr' : Nat → Nat × va_E) (b b' : Nat), (∀ j, j < mm → pr (b + j) = pr' (b' + j)) → S pr b → S pr' b'
theorem mrg_lo {pr1 : Nat → Nat × va_E} {j : Nat} (h : j < n) : mrg n pr pr1 j = pr j := if_pos h
theorem mrg_hi {pr1 : Nat → Nat × va_E} {j : Nat} : mrg n pr pr1 (n + j) = pr1 j := by
  unfold mrg
  rw [if_neg (by omega), Nat.add_sub_cancel_left]
theorem rmU_ne {x : Nat × va_E} {i j : Nat} (h : j ≠ i) : rmU pr i x j = pr j := if_neg h
theorem rmU_eq {x : Nat × va_E} {i : Nat} : rmU pr i x i = x := if_pos rfl
theorem row_mov (lc : Nat → ClassId) (N : Nat) : Mov (fun pr b => RowS lc pr b N) 2 := by
  intro pr pr' b b' h q
  have h0 := h 0 (by omega)
  have h1 := h 1 (by omega)
  simp only [Nat.add_zero] at h0
  unfold RowS at q ⊢
  rw [← h0, ← h1]
  exact q
/-- new, its constructor, and into a final field of the object itself -/
theorem st_newput {y : MethodName} {b : ByteArray} {nY d mc ms ci Nf mm i1 i2 i3 pc2 na : Nat} {C : String} {T : u_T} {fs0 : List Value} {av : List Value} {S : (Nat → Nat × va_E) → Nat → Prop} {tys : List (ClassId × FieldType)} (hM : CN l G lc y b nY d mc ms (.inr (ci, fs0)) av (fun pr => S pr 0) tys mm) (hMv : Mov S mm) (hmm : 0 < mm) (hF : CallFix p m c cc nL s args tw own) (hin2 : meth.name = "<init>") (hC : CL lc s) (hK : va_K G vwCl [] s) (hP : va_P G vwCl (rm n pr) H) (hD : va_D A (rm n pr)) (hS : va_S A s.heap H locs) (hA : ∀ q : Nat, s.heap.size ≤ q → A q) (hsz : ls.size = nL)
    (hc : vwCl[ci]? = some (C, T, Nf)) (hin : ∀ w ∈ u_ws C T Nf, w ∈ tw) (ty : Nat → FieldType) (hty : ∀ k, k < Nf → parseFieldDescriptor (T k).2.2.1 = some (ty k)) (hfs : ∀ j, j < Nf → defaultValue (ty j) = vp_V fs0 j)
    (w1 : Cond.classLink own i1 C ∈ tw) (w2 : Cond.instantiable C Nf ∈ tw) (w3 : Cond.initialized C ∈ tw) (w4 : Cond.methodLink own i2 y ∈ tw) (w5 : Cond.instanceMethod y ∈ tw) (w6 : Cond.code y b nY none ∈ tw) (hyc : y.cls = C) (hyn : y.name = "<init>")
    (hd : y.cls ≠ "java/lang/invoke/MethodHandle" ∧ y.cls ≠ "java/lang/invoke/VarHandle" ∧ (parseMethodDescriptor y.desc).map (fun d => d.parameters.length) = some na) (hna : av.length = na) (hR : d + 1 ≤ R.frames ∧ 8 + (nY + 11) + 40 * d ≤ R.locals) (hcells : cells + (1 + mc) ≤ R.cells) (hslots : slots + (Nf + ms) ≤ R.slots) (hW8 : (rest.map fun v => v.category).sum ≤ 5)
    {cj N k h0 : Nat} {C2 : String} {T2 : u_T} {fs : List Value} (hc2 : vwCl[cj]? = some (C2, T2, N)) (hin3 : ∀ w ∈ u_ws C2 T2 N, w ∈ tw) (ty2 : Nat → FieldType) (hty2 : ∀ k, k < N → parseFieldDescriptor (T2 k).2.2.1 = some (ty2 k)) (hnm2 : ∀ a, a < N → ∀ b, b < N → a ≠ b → (T2 a).2.1 ≠ (T2 b).2.1) (hn0 : 0 < n) (he : pr 0 = (h0, .inr (cj, fs))) (hk : k < N) (hlink : Cond.fieldLink own i3 (T2 k).1 (T2 k).2.1 (T2 k).2.2.1 ∈ tw) (hfin : (T2 k).2.2.2 = true) (hdecl : (T2 k).1 = own) {tyk : FieldType} (hdk : parseFieldDescriptor (T2 k).2.2.1 = some tyk) (hnr : ∀ q : Nat, narrow tyk (.ref q) = .ref q) (hft : ∀ q : Nat, fits tyk (.ref q) = true) (hlk : k < fs.length)
    (d1 : decode cc pc = .ok (.new i1, 3)) (d2 : decode cc (pc + 3) = .ok (.dup, 1)) (push : ∀ (H : Heap) (locs : List Loc) (k z : Nat) (st : List Value), W p l e R s m args below meth c H locs k z Q (F0 m pc2 ls (av.reverse ++ st)) → W p l e R s m args below meth c H locs k z Q (F0 m (pc + 4) ls st)) (d3 : decode cc pc2 = .ok (.invokespecial i2, 3)) (d4 : decode cc (pc2 + 3) = .ok (.putfield i3, 3))
    (kk : ∀ (pr' : Nat → Nat × va_E) (H : Heap) (locs : List Loc), pr' 0 = (h0, .inr (cj, fs.set k (.ref (pr' n).1))) → S pr' n → (∀ j, 0 < j → j < n → pr' j = pr j) → va_K G vwCl tys s → va_P G vwCl (rm (n + mm) pr') H → va_D A (rm (n + mm) pr') → va_S A s.heap H locs → W p l e R s m args below meth c H locs (cells + (1 + mc)) (slots + (Nf + ms)) Q (F0 m (pc2 + 3 + 3) ls rest)) : W p l e R s m args below meth c H locs cells slots Q (F0 m pc ls (.ref h0 :: rest)) := by
  refine st_new (rest := .ref h0 :: rest) hM hF hC hK hP hD hS hA hsz hc hin ty hty hfs w1 w2 w3 w4 w5 w6 hyc hyn hd hna hR hcells hslots ?_ d1 d2 push d3 (fun pr1 H locs hp hK1 hP hD hS => ?_)
  · rw [List.map_cons, List.sum_cons]
    have : (Value.ref h0).category = 1 := rfl
    omega
  have e0 : mrg n pr pr1 0 = (h0, .inr (cj, fs)) := (mrg_lo hn0).trans he
  refine st_put hF hin2 hc2 hin3 ty2 hty2 hnm2 hK hP hD hS (by omega) e0 hk hlink hfin hdecl hdk (hnr _) (hft _) hlk d4 (fun H locs hP hD hS => ?_)
  have en : rmU (mrg n pr pr1) 0 (h0, .inr (cj, fs.set k (.ref (pr1 0).1))) n = pr1 0 := (rmU_ne (by omega)).trans (mrg_hi (j := 0))
  refine kk _ H locs ?_ ?_ (fun j h1 h2 => (rmU_ne (by omega)).trans (mrg_lo h2)) hK1 hP hD hS
  · rw [rmU_eq, en]
  · exact hMv pr1 _ 0 n (fun j hj => by rw [Nat.zero_add, rmU_ne (by omega), mrg_hi]) hp
end NV
def arrQ (c n : Nat) (f : Nat → Option Nat) : va_E := .inl (c, n, .inr (.inr (.inr (.inr f))))
def RivS (lc : Nat → ClassId) (pr : Nat → Nat × va_E) (b : Nat) : Prop :=
  (pr b).2 = .inr (1, [.ref (pr (b + 1)).1, .ref (pr (b + 3)).1, .ref (pr (b + 5)).1, .ref (pr (b + 6)).1, .int 0, .int 0, .int 0]) ∧ RowS lc pr (b + 1) 12 ∧ RowS lc pr (b + 3) 12 ∧ (pr (b + 5)).2 = arrQ (lc 2) 12 (fun j => if j < 12 then some (pr (b + 8 + 2 * j)).1 else none) ∧ RowS lc pr (b + 6) 0 ∧ ∀ j, j < 12 → RowS lc pr (b + 8 + 2 * j) 23
theorem riv_mov (lc : Nat → ClassId) : Mov (fun pr b => RivS lc pr b) 32 := by
  intro pr pr' b b' h q
  obtain ⟨q1, q2, q3, q4, q5, q6⟩ := q
  have g : ∀ j, j < 32 → pr' (b' + j) = pr (b + j) := fun j hj => (h j hj).symm
  have g0 : pr' b' = pr b := g 0 (by omega)
  refine ⟨by rw [g0, g 1 (by omega), g 3 (by omega), g 5 (by omega), g 6 (by omega)]; exact q1, ?_, ?_, ?_, ?_, fun j hj => ?_⟩
  · exact row_mov lc 12 pr pr' _ _ (fun j hj => by rw [Nat.add_assoc, Nat.add_assoc]; exact h _ (by omega)) q2
  · exact row_mov lc 12 pr pr' _ _ (fun j hj => by rw [Nat.add_assoc, Nat.add_assoc]; exact h _ (by omega)) q3
  · rw [g 5 (by omega), q4]
    unfold arrQ
    have : (fun j => if j < 12 then some (pr (b + 8 + 2 * j)).1 else none) = (fun j => if j < 12 then some (pr' (b' + 8 + 2 * j)).1 else none) := by
      funext j
      by_cases c : j < 12
      · rw [if_pos c, if_pos c, Nat.add_assoc, Nat.add_assoc, g (8 + 2 * j) (by omega)]
      · rw [if_neg c, if_neg c]
    rw [this]
  · exact row_mov lc 0 pr pr' _ _ (fun j hj => by rw [Nat.add_assoc, Nat.add_assoc]; exact h _ (by omega)) q5
  · exact row_mov lc 23 pr pr' _ _ (fun i hi => by rw [Nat.add_assoc, Nat.add_assoc, Nat.add_assoc, Nat.add_assoc]; exact h _ (by omega)) (q6 j hj)
