/-! WHAT IS MADE: the reference's object. -/
def arrI (c n : Nat) : va_E := .inl (c, n, .inl (fun _ => 0))
section NM
variable {p : Program} {l : Launch} {e : Env} {R : Room} {s : State} {m : MethodId} {args : Array Value} {below : List Frame} {meth : Method} {c : Code} {H : Heap} {locs : List Loc} {cells slots : Nat} {Q : State → Prop}
variable {G : va_G} {lc : Nat → ClassId} {cc : ByteArray} {pc nL n : Nat} {ls : Array Slot} {rest st0 : List Value} {own : String} {A : Nat → Prop} {H0 : Heap} {a : Nat} {pr : Nat → Nat × va_E}
/-- a new array of numbers, into a final field of the reference itself -/
theorem st_arrput {atype : ArrayType} {ty : FieldType} {N i3 k h0 cx : Nat} {fs : List Value} (hty : newarray.typeOf atype = ty) (hdv : defaultValue ty = .int 0) (hcx : ∀ c, va_RA s c ty → c = cx) (wa : Cond.arrayClass (newarray.typeOf atype) ∈ tw) (hF : CallFix p m c cc nL s args tw RX5) (hin2 : meth.name = "<init>") (hK : va_K G vwCl [] s) (hP : va_P G vwCl (rm n pr) H) (hD : va_D A (rm n pr)) (hS : va_S A s.heap H locs) (hA : ∀ q : Nat, s.heap.size ≤ q → A q) (hN : N < 2 ^ 20) (hb4 : N * componentBytes ty ≤ 536870912) (hcells : cells + 1 ≤ R.cells) (hslots : slots + N ≤ R.slots) (hn0 : 0 < n) (he : pr 0 = (h0, .inr (5, fs))) (hk : k < 21) (hlink : Cond.fieldLink RX5 i3 (TX5 k).1 (TX5 k).2.1 (TX5 k).2.2.1 ∈ tw) (hfin : (TX5 k).2.2.2 = true) (hdecl : (TX5 k).1 = RX5) {tyk : FieldType} (hdk : parseFieldDescriptor (TX5 k).2.2.1 = some tyk) (hnr : ∀ q : Nat, narrow tyk (.ref q) = .ref q) (hft : ∀ q : Nat, fits tyk (.ref q) = true) (hlk : k < fs.length)
    (d1 : decode cc pc = .ok (.newarray atype, 2)) (d2 : decode cc (pc + 2) = .ok (.putfield i3, 3))
    (kk : ∀ (pr' : Nat → Nat × va_E) (H : Heap) (locs : List Loc), pr' 0 = (h0, .inr (5, fs.set k (.ref (pr' n).1))) → (pr' n).2 = arrI cx N → (∀ j, 0 < j → j < n → pr' j = pr j) → va_K G vwCl [(cx, ty)] s → va_P G vwCl (rm (n + 1) pr') H → va_D A (rm (n + 1) pr') → va_S A s.heap H locs → W p l e R s m args below meth c H locs (cells + 1) (slots + N) Q (F0 m (pc + 2 + 3) ls rest)) : W p l e R s m args below meth c H locs cells slots Q (F0 m pc ls (.int (nI N) :: .ref h0 :: rest)) := by
  refine va_newa (atype := atype) (ty := ty) (a0 := (N, .inl (fun _ => 0))) hF.1 hF.2.1 (hF.2.2.2.2 _ wa) hty hK hP hD hS hA (fun _ => by rw [hdv]; rfl) (nI_pos (by omega)) (nI_clamp (by omega)) hb4 hcells hslots d1 (fun q cA H hK1 hP hD hS => ?_)
  have ec : cA = cx := hcx cA (hK1.2 0 _ rfl).2
  subst ec
  rw [rm_push] at hP hD
  refine st_put (ci := 5) (C := RX5) (T := TX5) (N := 21) hF hin2 rfl twX5 tyX5 tyX5_ok nmX5 hK hP hD hS (by omega) ((rmU_ne (by omega)).trans he) hk hlink hfin hdecl hdk (hnr _) (hft _) hlk d2 (fun H locs hP hD hS => ?_)
  have en : rmU (rmU pr n (q, .inl (cA, N, .inl (fun _ => 0)))) 0 (h0, .inr (5, fs.set k (.ref q))) n = (q, .inl (cA, N, .inl (fun _ => 0))) := (rmU_ne (by omega)).trans rmU_eq
  refine kk _ H locs ?_ (by rw [en]; rfl) (fun j h1 h2 => (rmU_ne (by omega)).trans (rmU_ne (by omega))) hK1 hP hD hS
  rw [rmU_eq, en]
end NM
def MdS (lc : Nat → ClassId) (pr : Nat → Nat × va_E) : Prop :=
  (pr 0).2 = .inr (5, [.ref (pr 1).1, .ref (pr 2).1, .ref (pr 3).1, .ref (pr 4).1, .int 0, .int 0, .int 0, .int (-1), .int 0, .int 0, .int 0, .ref (pr 13).1, .ref (pr 14).1, .int 0, .ref (pr 15).1, .int 0, .int 0, .int 0, .int 0, .int 0, .int 0]) ∧ (pr 1).2 = arrI (lc 0) 304 ∧ (pr 2).2 = arrI (lc 0) 304 ∧ (pr 3).2 = arrI (lc 0) 304 ∧ (pr 4).2 = arrQ (lc 4) 8 (fun j => if j < 8 then some (pr (5 + j)).1 else none) ∧ (∀ j, j < 8 → (pr (5 + j)).2 = arrI (lc 0) 304) ∧ (pr 13).2 = arrI (lc 0) 46 ∧ (pr 14).2 = arrI (lc 1) 80 ∧ (pr 15).2 = arrI (lc 0) 70
theorem mna_rm {pr : Nat → Nat × va_E} {q cA cy : Nat} {r : Nat → Nat} {f : Nat → va_E} {x z : va_E} : (rm 4 pr ++ [(q, x)]) ++ va_pl ([] ++ (List.range 8).map r) (vr_up f ((List.range 8).map r) z) = rm 13 (fun j => if j < 4 then pr j else if j = 4 then (q, x) else (r (j - 5), z)) := by
  refine rm_ext (by simp [rm_len, va_pl]) (fun j hj => ?_)
  by_cases c : j < 4
  · rw [if_pos c, List.getElem?_append_left (by simp [rm_len]; omega), List.getElem?_append_left (by rw [rm_len]; exact c), rm_get c]
  · rw [if_neg c]
    by_cases c2 : j = 4
    · subst c2
      rw [if_pos rfl, List.getElem?_append_left (by simp [rm_len]), List.getElem?_append_right (by rw [rm_len]; exact Nat.le_refl _), rm_len]
      rfl
    · rw [if_neg c2, List.getElem?_append_right (by simp [rm_len]; omega)]
      have hl : (rm 4 pr ++ [(q, x)]).length = 5 := by simp [rm_len]
      have hi : j - 5 < 8 := by omega
      rw [hl, List.nil_append]
      unfold va_pl
      rw [List.getElem?_map, List.getElem?_map, List.getElem?_range hi]
      show some (r (j - 5), vr_up f ((List.range 8).map r) z (r (j - 5))) = _
      rw [vr_up_in (List.mem_map.mpr ⟨j - 5, List.mem_range.mpr hi, rfl⟩)]
set_option maxHeartbeats 4000000 in
set_option maxRecDepth 100000 in
theorem cn_model (l : Launch) (G : va_G) (lc : Nat → ClassId) : CN l G lc yX5_init cX5_init 1 1 15 3548 (.inr (5, [.null, .null, .null, .null, .int 0, .int 0, .int 0, .int 0, .int 0, .int 0, .int 0, .null, .null, .int 0, .null, .int 0, .int 0, .int 0, .int 0, .int 0, .int 0])) [] (fun pr => MdS lc pr) [(lc 0, .int), (lc 4, .array .int), (lc 1, .char)] 16 := by
  refine ofN (own := RX5) (by decide +kernel) rfl rfl (Nat.le_of_ble_eq_true rfl) (fun h0 p e s m args below meth c ls A hF hin hr hlocks hC hK hP hD hS hA hl => ?_)
  have hx := hF.1
  have hb := hF.2.1
  have hts := hF.2.2.2.2
  have hl : lv_has ls 1 [(0, .ref h0)] := hl
  refine lv_aload_n hx hb dX5_init_0 rfl (lv_at hl 0 rfl) ?_
  refine st_obj hF hl.1 wn_743 ⟨Nat.le_of_ble_eq_true rfl, Nat.le_of_ble_eq_true rfl⟩ (Nat.le_of_ble_eq_true rfl) dX5_init_1 ?_
  refine lv_aload_n hx hb dX5_init_4 rfl (lv_at hl 0 rfl) ?_
  refine lv_sipush (v := nI 304) hx hb dX5_init_5 (by decide) ?_
  refine st_arrput (atype := .int) (ty := .int) (N := 304) (k := 0) (i3 := 9) (cx := lc 0) (tyk := .array .int) rfl rfl hC.2.1 wn_106 hF hin hK hP hD hS hA (by omega) (Nat.le_of_ble_eq_true rfl) (Nat.le_of_ble_eq_true rfl) (Nat.le_of_ble_eq_true rfl) (by omega) rfl (by decide) wn_746 rfl rfl (by decide +kernel) (fun _ => rfl) (fun _ => rfl) (Nat.le_of_ble_eq_true rfl) dX5_init_8 dX5_init_10 (fun pr1 H locs e1 s1 k1 hKi hP hD hS => ?_)
  refine lv_aload_n hx hb dX5_init_13 rfl (lv_at hl 0 rfl) ?_
  refine lv_sipush (v := nI 304) hx hb dX5_init_14 (by decide) ?_
  refine st_arrput (atype := .int) (ty := .int) (N := 304) (k := 1) (i3 := 13) (cx := lc 0) (tyk := .array .int) rfl rfl hC.2.1 wn_106 hF hin hK hP hD hS hA (by omega) (Nat.le_of_ble_eq_true rfl) (Nat.le_of_ble_eq_true rfl) (Nat.le_of_ble_eq_true rfl) (by omega) e1 (by decide) wn_747 rfl rfl (by decide +kernel) (fun _ => rfl) (fun _ => rfl) (Nat.le_of_ble_eq_true rfl) dX5_init_17 dX5_init_19 (fun pr2 H locs e2 s2 k2 _ hP hD hS => ?_)
  refine lv_aload_n hx hb dX5_init_22 rfl (lv_at hl 0 rfl) ?_
  refine lv_sipush (v := nI 304) hx hb dX5_init_23 (by decide) ?_
  refine st_arrput (atype := .int) (ty := .int) (N := 304) (k := 2) (i3 := 16) (cx := lc 0) (tyk := .array .int) rfl rfl hC.2.1 wn_106 hF hin hK hP hD hS hA (by omega) (Nat.le_of_ble_eq_true rfl) (Nat.le_of_ble_eq_true rfl) (Nat.le_of_ble_eq_true rfl) (by omega) e2 (by decide) wn_748 rfl rfl (by decide +kernel) (fun _ => rfl) (fun _ => rfl) (Nat.le_of_ble_eq_true rfl) dX5_init_26 dX5_init_28 (fun pr3 H locs e3 s3 k3 _ hP hD hS => ?_)
  refine lv_aload_n hx hb dX5_init_31 rfl (lv_at hl 0 rfl) ?_
  refine lv_bipush (v := nI 8) hx hb dX5_init_32 (by decide) ?_
  refine lv_sipush (v := nI 304) hx hb dX5_init_34 (by decide) ?_
  refine va_mna (X := rm 4 pr3) (L := []) (f := fun _ => .inr (0, [])) (ty := .int) (cy := lc 0) (N' := 8) (K' := 304) (z := (304, .inl (fun _ => 0))) hx hb hF.2.2.2.1 (hts _ wn_744) hC.1.2.2 (hts _ wn_106) (hKi.2 0 _ rfl).2 hK ((List.append_nil (rm 4 pr3)).symm ▸ hP) ((List.append_nil (rm 4 pr3)).symm ▸ hD) hS hA (by decide) (by decide) (by decide) (by decide) (Nat.le_of_ble_eq_true rfl) (Nat.le_of_ble_eq_true rfl) (Nat.le_of_ble_eq_true rfl) rfl rfl (Nat.le_of_ble_eq_true rfl) (Nat.le_of_ble_eq_true rfl) (fun c => ?_) dX5_init_37 (fun q r cA H _ _ hKq hP hD hS => ?_)
  · show ({ cls := c, slots := Array.replicate 304 (defaultValue .int), vm := .none } : Cell) = _
    rw [arrV_new]
    rfl
  have ec : cA = lc 4 := hC.2.2.2.2.2 cA (hKq.2 0 _ rfl).2
  subst ec
  rw [mna_rm (cA := 0) (cy := 0)] at hP hD
  generalize hP4 : (fun j => if j < 4 then pr3 j else if j = 4 then (q, _) else (r (j - 5), _)) = pr4 at hP hD
  have p4 : ∀ j, j < 4 → pr4 j = pr3 j := fun j hj => by rw [← hP4]; exact if_pos hj
  have p44 : pr4 4 = (q, arrQ (lc 4) 8 (fun i => if i < 8 then some (r i) else none)) := by rw [← hP4]; rfl
  have p45 : ∀ j, pr4 (5 + j) = (r j, arrI (lc 0) 304) := fun j => by
    rw [← hP4]
    show (if 5 + j < 4 then _ else if 5 + j = 4 then _ else _) = _
    rw [if_neg (by omega), if_neg (by omega), Nat.add_sub_cancel_left]
    rfl
  refine st_put (ci := 5) (C := RX5) (T := TX5) (N := 21) (k := 3) (ty := .array (.array .int)) hF hin rfl twX5 tyX5 tyX5_ok nmX5 hK hP hD hS (by omega) ((p4 0 (by omega)).trans e3) (by decide) wn_749 rfl rfl (by decide +kernel) rfl rfl (Nat.le_of_ble_eq_true rfl) dX5_init_41 (fun H locs hP hD hS => ?_)
  refine lv_aload_n hx hb dX5_init_44 rfl (lv_at hl 0 rfl) ?_
  refine lv_iconst (v := (-1 : Int32)) hx hb dX5_init_45 (by decide) ?_
  refine st_putV (ci := 5) (C := RX5) (T := TX5) (N := 21) (k := 7) (ty := .int) hF rfl twX5 tyX5 tyX5_ok nmX5 hK hP hD hS (by omega) rmU_eq (by decide) wn_753 rfl (by decide +kernel) rfl rfl (Nat.le_of_ble_eq_true rfl) dX5_init_46 (fun H locs hP hD hS => ?_)
  refine lv_aload_n hx hb dX5_init_49 rfl (lv_at hl 0 rfl) ?_
  refine lv_bipush (v := nI 46) hx hb dX5_init_50 (by decide) ?_
  refine st_arrput (atype := .int) (ty := .int) (N := 46) (k := 11) (i3 := 28) (cx := lc 0) (tyk := .array .int) rfl rfl hC.2.1 wn_106 hF hin hK hP hD hS hA (by omega) (Nat.le_of_ble_eq_true rfl) (Nat.le_of_ble_eq_true rfl) (Nat.le_of_ble_eq_true rfl) (by omega) rmU_eq (by decide) wn_757 rfl rfl (by decide +kernel) (fun _ => rfl) (fun _ => rfl) (Nat.le_of_ble_eq_true rfl) dX5_init_52 dX5_init_54 (fun pr5 H locs e5 s5 k5 _ hP hD hS => ?_)
  refine lv_aload_n hx hb dX5_init_57 rfl (lv_at hl 0 rfl) ?_
  refine lv_bipush (v := nI 80) hx hb dX5_init_58 (by decide) ?_
  refine st_arrput (atype := .char) (ty := .char) (N := 80) (k := 12) (i3 := 31) (cx := lc 1) (tyk := .array .char) rfl rfl hC.2.2.1 wn_810 hF hin hK hP hD hS hA (by omega) (Nat.le_of_ble_eq_true rfl) (Nat.le_of_ble_eq_true rfl) (Nat.le_of_ble_eq_true rfl) (by omega) e5 (by decide) wn_758 rfl rfl (by decide +kernel) (fun _ => rfl) (fun _ => rfl) (Nat.le_of_ble_eq_true rfl) dX5_init_60 dX5_init_62 (fun pr6 H locs e6 s6 k6 hKc hP hD hS => ?_)
  refine lv_aload_n hx hb dX5_init_65 rfl (lv_at hl 0 rfl) ?_
  refine lv_bipush (v := nI 70) hx hb dX5_init_66 (by decide) ?_
  refine st_arrput (atype := .int) (ty := .int) (N := 70) (k := 14) (i3 := 35) (cx := lc 0) (tyk := .array .int) rfl rfl hC.2.1 wn_106 hF hin hK hP hD hS hA (by omega) (Nat.le_of_ble_eq_true rfl) (Nat.le_of_ble_eq_true rfl) (Nat.le_of_ble_eq_true rfl) (by omega) e6 (by decide) wn_760 rfl rfl (by decide +kernel) (fun _ => rfl) (fun _ => rfl) (Nat.le_of_ble_eq_true rfl) dX5_init_68 dX5_init_70 (fun pr7 H locs e7 s7 k7 _ hP hD hS => ?_)
  have a6 : ∀ j, 0 < j → j < 15 → pr7 j = pr6 j := k7
  have a5 : ∀ j, 0 < j → j < 14 → pr7 j = pr5 j := fun j h1 h2 => (a6 j h1 (by omega)).trans (k6 j h1 h2)
  have a4 : ∀ j, 0 < j → j < 13 → pr7 j = pr4 j := fun j h1 h2 => (a5 j h1 (by omega)).trans ((k5 j h1 h2).trans ((rmU_ne (by omega)).trans (rmU_ne (by omega))))
  have a3 : ∀ j, 0 < j → j < 4 → pr7 j = pr3 j := fun j h1 h2 => (a4 j h1 (by omega)).trans (p4 j h2)
  have a2 : ∀ j, 0 < j → j < 3 → pr7 j = pr2 j := fun j h1 h2 => (a3 j h1 (by omega)).trans (k3 j h1 h2)
  have a1 : ∀ j, 0 < j → j < 2 → pr7 j = pr1 j := fun j h1 h2 => (a2 j h1 (by omega)).trans (k2 j h1 h2)
  have b4 : pr7 4 = (q, arrQ (lc 4) 8 (fun i => if i < 8 then some (r i) else none)) := (a4 4 (by omega) (by omega)).trans p44
  have b5 : ∀ j, j < 8 → pr7 (5 + j) = (r j, arrI (lc 0) 304) := fun j hj => (a4 (5 + j) (by omega) (by omega)).trans (p45 j)
  refine W.widen (k := 15) (n := 3548) (by omega) (by omega) ?_
  refine wr_n (pr := pr7) hF hr hlocks ⟨⟨?_, by rw [a1 1 (by omega) (by omega)]; exact s1, by rw [a2 2 (by omega) (by omega)]; exact s2, by rw [a3 3 (by omega) (by omega)]; exact s3, ?_, fun j hj => by rw [b5 j hj], by rw [a5 13 (by omega) (by omega)]; exact s5, by rw [a6 14 (by omega) (by omega)]; exact s6, s7⟩, by rw [e7]⟩ ((hKi.app hKq).app hKc) hP hD hS dX5_init_73
  · rw [e7, a1 1 (by omega) (by omega), a2 2 (by omega) (by omega), a3 3 (by omega) (by omega), b4, a5 13 (by omega) (by omega), a6 14 (by omega) (by omega)]
    rfl
  · rw [b4]
    have : (fun j => if j < 8 then some (pr7 (5 + j)).1 else none) = (fun i => if i < 8 then some (r i) else none) := by
      funext j
      by_cases c : j < 8
      · rw [if_pos c, if_pos c, b5 j c]
      · rw [if_neg c, if_neg c]
    rw [this]
