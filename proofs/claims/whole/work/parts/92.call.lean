/-! THE LAW: a call of the class or of the reference, the other's world beside it. -/
section LC
variable {p : Program} {l : Launch} {e : Env} {R : Room} {s : State} {m : MethodId} {args : Array Value} {below : List Frame} {meth : Method} {c : Code} {H : Heap} {locs : List Loc} {cells slots : Nat} {Q : State → Prop}
variable {G : va_G} {Λ Λ' : Lay} {μ μ1 μ' : Mem} {cc : ByteArray} {pc nL : Nat} {ls : Array Slot} {rest st0 : List Value} {own : String}
variable {y : MethodName} {bytes : ByteArray} {maxL n index d : Nat} {ret : Option FieldType} {As : List Value}
theorem kk_law (hKK : KK G Λ s) (hS : va_S (fun q : Nat => s.heap.size ≤ q) s.heap H locs) {U : State} (hU : U.heap = H) (hW : s.WarmedH U.vm) : KK G Λ U :=
  hKK.at (H := H) (locs := []) ⟨hS.1, fun q h1 _ => hS.2.1 q h1 (Nat.not_le.mpr h1), fun _ h => absurd h List.not_mem_nil⟩ hU hW
theorem law_call {v : Int32} {b ci : Nat} {q : vw_C} (hF : CallFix p m c cc nL s args tw own) (hKK : KK G Λ s) (hLA : ∀ q, inL Λ q → s.heap.size ≤ q) (hdis : ∀ q, inL Λ q → ¬ inL Λ' q) (hW : Wd G Λ μ H) (hW' : Wd G Λ' μ' H) (hS : va_S (fun q : Nat => s.heap.size ≤ q) s.heap H locs) (hl : ls.size = nL) (hb : inK Λ b ci) (hi : ci ≤ 5) (hc : vwCl[ci]? = some q) (hM : CM l G Λ y bytes maxL ret d μ (.ref b :: As) (QI G Λ v μ1)) (cw : CallW R s args own q.1 index y bytes maxL ret (wsm y bytes maxL ret) (rmd d) 0 0 n)
    (hn : As.length = n) (hst : st0 = As.reverse ++ .ref b :: rest) (hW8 : (rest.map fun v => v.category).sum ≤ 8) (hdg : decode cc pc = .ok (.invokevirtual index, 3)) (hf : cells ≤ R.cells ∧ slots ≤ R.slots)
    (kk : ∀ (H : Heap) (locs : List Loc), Wd G Λ μ1 H → Wd G Λ' μ' H → va_S (fun q : Nat => s.heap.size ≤ q) s.heap H locs → W p l e R s m args below meth c H locs cells slots Q (F0 m (pc + 3) ls (.int v :: rest))) : W p l e R s m args below meth c H locs cells slots Q (F0 m pc ls st0) := by
  refine va_calli (va_runV hF hM cw ⟨pcw_blind, recv_w hKK hW hb hi hc, fun U hU hWm => ⟨rfl, kk_law hKK hS hU hWm, by rw [hU]; exact hW⟩⟩ rfl hn hl hst (lv_room hW8) hdg hf) hS (fun q _ h => hLA q h) (fun q h => hLA q h) (fun r u t H1 locs1 ht _ hp hB _ hk1 hS1 => ?_)
  have hp : r = v := hp
  subst hp
  refine kk H1 locs1 (by rw [← ht]; exact hB) ?_ hS1
  refine va_P.kept (H := H) hW' (fun k x hx => hk1 x.1 (hW' k x hx).lt (fun q => ?_))
  rw [List.nil_append, va_pl, List.getElem?_map] at hx
  cases h1 : (lyL Λ')[k]? with
  | none => rw [h1] at hx; cases hx
  | some z =>
    rw [h1] at hx
    cases hx
    exact hdis z q (List.mem_of_getElem? h1)
end LC
theorem and31 (x : Int32) : ∃ k, k < 32 ∧ x &&& 31 = nI k := pk_andE x 5 (by decide)
theorem gt_len {L i : Nat} (hL : L ≤ 2048) (hi : i ≤ 2052) : nI L - 4 < nI i ↔ L < i + 4 := by
  have e : (nI L - nI 4).toInt = (L : Int) - 4 := pk_sub_toInt (by omega) (by omega)
  rw [Int32.lt_iff_toInt_lt, show nI L - 4 = nI L - nI 4 from rfl, e, nI_toInt (by omega)]
  omega
