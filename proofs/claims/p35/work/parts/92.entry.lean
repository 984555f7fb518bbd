/-! printed by wip/gen35/build.py out of the decode rows: do not edit by hand -/

theorem tx_31 : ∀ i, i < 20 → txN.getD i 0 < 2 ^ 31 := by decide +kernel
theorem law_xt {s : State} {b : Nat} (hts : ∀ w ∈ lw_tbl, w.before #[Value.ref b] s = true) (hgv : (Jvm.Cond.and given_1 narrow_1).before #[Value.ref b] s = true) {A : Nat → Prop} (hA : ∀ a : Nat, a < s.heap.size → ¬ A a) : Xt A s := by
  have hs := flat_of_before _ hgv
  obtain ⟨adK, adV, h1, h2⟩ := vk_Sof (args := #[Value.ref b]) (s := s) (N := 20) (tm := tmS) (len := txN) (byt := txB) (A := A) tx_31
    (fun i hi => hs _ (mx_ex i hi)) (fun i hi => hs _ (mx_co i hi)) (fun i hi => hs _ (mx_ar i hi)) (fun i hi => hs _ (mx_le i hi)) (fun i hi j hj => hs _ (mx_el i hi j hj)) (fun i j hi hj hne => (mx_ne i hi j hj hne).elim (fun q => Or.inl (hs _ q)) (fun q => Or.inr (hs _ q))) hA
  obtain ⟨tx, h3, h4⟩ := va_Tof (args := #[Value.ref b]) (s := s) (tm := tmT) (ty := .object "java/lang/String") (N := 20) (f := fun j => .ref (adK j)) (A := A) (by omega) (hs _ mx_t1.1) (va_eqt (hs _ mx_t1.2.1)) (fun j hj => va_eqv (hs _ (mx_tx j hj)) (h2 j hj)) hA
  refine ⟨tx, adK, adV, ?_, h4, h1, ?_, ?_⟩
  · exact va_Zof (hts _ (List.mem_of_getElem? (i := 553) (by decide +kernel))) (hts _ (List.mem_of_getElem? (i := 16) (by decide +kernel))) h3 hA
  · exact va_Zof (hts _ (List.mem_of_getElem? (i := 470) (by decide +kernel))) (hts _ (List.mem_of_getElem? (i := 24) (by decide +kernel))) (va_eqt (hs _ mx_t1.2.2.1)) hA
  · exact va_Zqof (hts _ (List.mem_of_getElem? (i := 486) (by decide +kernel))) (hts _ (List.mem_of_getElem? (i := 26) (by decide +kernel))) (hs _ mx_t1.2.2.2) hA
theorem law_CL {s : State} {b : Nat} (hts : ∀ w ∈ lw_tbl, w.before #[Value.ref b] s = true) : ∃ lc, CL lc s := by
  refine ⟨fun i => if i = 0 then (s.vm.findClass ("[" ++ FieldType.int.toString)).getD 0 else if i = 2 then (s.vm.findClass ("[" ++ (FieldType.object RX2).toString)).getD 0 else (s.vm.findClass ("[" ++ (FieldType.object RX1).toString)).getD 0, ⟨va_AO.of (hts (.arrayOver (.object RX2)) (List.mem_of_getElem? (i := 57) (by decide +kernel))), va_AO.of (hts (.arrayOver (.object RX1)) (List.mem_of_getElem? (i := 87) (by decide +kernel))), trivial⟩, fun c h => ?_, trivial, fun c h => ?_, fun c h => ?_, trivial⟩
  · have h : s.vm.findClass ("[" ++ FieldType.int.toString) = some c := h
    show c = (s.vm.findClass ("[" ++ FieldType.int.toString)).getD 0
    rw [h]; rfl
  · obtain ⟨_, _, _, _, _, h⟩ := h
    show c = (s.vm.findClass ("[" ++ (FieldType.object RX2).toString)).getD 0
    rw [h]; rfl
  · obtain ⟨_, _, _, _, _, h⟩ := h
    show c = (s.vm.findClass ("[" ++ (FieldType.object RX1).toString)).getD 0
    rw [h]; rfl
theorem law_G {s : State} {b : Nat} (htw : ∀ w ∈ tw, w.before #[Value.ref b] s = true) : ∃ G : va_G, va_K G vwCl [] s := by
  obtain ⟨c0, i0, k0⟩ := u_known (C := RX0) (T := TX0) (N := 3) (n := 3) htw twX0 (htw _ wn_81)
  obtain ⟨c1, i1, k1⟩ := u_known (C := RX1) (T := TX1) (N := 7) (n := 7) htw twX1 (htw _ wn_38)
  obtain ⟨c2, i2, k2⟩ := u_known (C := RX2) (T := TX2) (N := 2) (n := 2) htw twX2 (htw _ wn_44)
  obtain ⟨c3, i3, k3⟩ := u_known (C := RX3) (T := TX3) (N := 5) (n := 5) htw twX3 (htw _ wn_102)
  obtain ⟨c4, i4, k4⟩ := u_known (C := RX4) (T := TX4) (N := 11) (n := 11) htw twX4 (htw _ wn_30)
  refine ⟨(fun k => if k = 0 then c0 else if k = 1 then c1 else if k = 2 then c2 else if k = 3 then c3 else c4, fun k => if k = 0 then i0 else if k = 1 then i1 else if k = 2 then i2 else if k = 3 then i3 else i4), fun k q hq => ?_, fun k q h => by simp at h⟩
  match k, hq with
  | 0, hq => cases hq; exact k0
  | 1, hq => cases hq; exact k1
  | 2, hq => cases hq; exact k2
  | 3, hq => cases hq; exact k3
  | 4, hq => cases hq; exact k4
  | k + 5, hq => simp [vwCl] at hq
theorem law_N {s : State} {b : Nat} (hts : ∀ w ∈ lw_tbl, w.before #[Value.ref b] s = true) : Nw s := ⟨va_Nw.of rfl (hts _ (List.mem_of_getElem? (i := 662) (by decide +kernel))), va_Nw.of rfl (hts _ (List.mem_of_getElem? (i := 278) (by decide +kernel))), va_Nw.of rfl (hts _ (List.mem_of_getElem? (i := 297) (by decide +kernel)))⟩
abbrev PcC (b L : Nat) (xs : Nat → Int32) (i : Nat) : Array Value → State → Prop := va_Pc [.ref b, .int (nI i)] (fun U => va_X b L xs U U.heap)
abbrev QcC (xs : Nat → Int32) (i : Nat) : Array Value → State → Outcome → State → Prop := va_Qi (fun r0 (_ : Unit) => r0 = xs i) (fun _ _ => True) (fun _ => False)
theorem pcc_blind {b L i : Nat} {xs : Nat → Int32} : FrameBlind (PcC b L xs i) := fun a U g mk q => ⟨q.1, va_X.moved (u := U) (U := U.calling g mk a) (Vm.Alike.refl U.vm) q.2⟩
set_option maxHeartbeats 4000000 in
set_option maxRecDepth 100000 in
theorem cc_cell (l : Launch) {b L i : Nat} {xs : Nat → Int32} (hi : i < L) (hL : L ≤ 260) : Met l yL_cell (wsm yL_cell cL_cell 2 (some .int)) (rmd 0) (PcC b L xs i) (QcC xs i) 0 0 (fun _ => False) := by
  refine va_MetF (cc := cL_cell) (maxL := 2) (ret := some .int) (by decide +kernel) rfl ?_
  intro p e s m args below meth c s₁ B hml hv
  obtain ⟨rfl, hX⟩ := hv
  have hts := atoms_spec (ws := wsm yL_cell cL_cell 2 (some .int)) B.pre
  have hl := lv_entry [.ref b, .int (nI i)] (n := 2) (Nat.le_of_ble_eq_true rfl)
  rw [lg_entry_eq]
  have hF : CallFix p m c cL_cell 2 s #[.ref b, .int (nI i)] tw RL := ⟨B.exec, B.bytes, hml, findClass_of_methodNamed B.named, fun w h => hts w (List.mem_cons_of_mem _ h)⟩
  have hr := B.returns
  have hlocks := B.notSynchronized
  have hx := hF.1
  have hb := hF.2.1
  generalize (lg_sl ([.ref b, .int (nI i)] : List Value) ++ List.replicate (2 - (lg_sl ([.ref b, .int (nI i)] : List Value)).length) Slot.unset).toArray = ls at hl ⊢
  have hl : lv_has ls 2 [(0, .ref b), (1, .int (nI i))] := hl
  have hbl : b < s.heap.size := by
    obtain ⟨scr, h1, -⟩ := hX
    exact (Array.getElem?_eq_some_iff.mp h1).1
  have hbA : ¬ (fun _ : Nat => False) b := fun z => z
  have hS : va_S (fun _ : Nat => False) s.heap s.heap [] := va_S.rf
  have e1 : nI i &&& (65535 : Int32) = nI i := by
    rw [show (65535 : Int32) = nI 65535 from rfl, nI_and]
    congr 1
    rw [show (65535 : Nat) = 2 ^ 16 - 1 from rfl, Nat.and_two_pow_sub_one_eq_mod]
    exact Nat.mod_eq_of_lt (by omega)
  have e2 : nI i - nI i / Int32.ofNat L * Int32.ofNat L = nI i := by
    have := pk_rem (a := i) (d := L) (by omega) (by omega) (by omega)
    rw [Nat.mod_eq_of_lt hi] at this
    exact this
  refine lv_aload_n hx hb dL_cell_0 rfl (lv_at hl 0 rfl) ?_
  refine va_slen hx hb hX hbl hbA hS dL_cell_1 ?_
  refine lv_if_ne (tgt := 13) hx hb dL_cell_2 (by decide) (fun _ => ?_) (fun z => absurd z (fun q => by have := (nI_eq (a := L) (b := 0) (by omega) (by omega)).mp q; omega))
  refine lv_aload_n hx hb dL_cell_13 rfl (lv_at hl 0 rfl) ?_
  refine lv_iload_n hx hb dL_cell_14 rfl (lv_at hl 1 rfl) ?_
  refine lv_ldc (v := (65535 : Int32)) hx hb hF.2.2.2.1 (hF.2.2.2.2 _ wd_457) dL_cell_15 ?_
  refine lv_iand hx hb dL_cell_17 ?_
  refine top_i e1.symm ?_
  refine lv_aload_n hx hb dL_cell_18 rfl (lv_at hl 0 rfl) ?_
  refine va_slen hx hb hX hbl hbA hS dL_cell_19 ?_
  refine lv_irem hx hb dL_cell_20 (fun q => by have := (nI_eq (a := L) (b := 0) (by omega) (by omega)).mp q; omega) ?_
  refine top_i e2.symm ?_
  refine va_sld hx hb hX hbl hbA hS (show vp_in (nI i) L from nI_in hi (by omega)) dL_cell_21 ?_
  rw [nI_clamp (by omega)]
  exact W.zret hx hb hr (vp_nar_int _) (fun t ht _ => ⟨⟨xs i, (), rfl, rfl, trivial⟩, hS.F ht⟩) hS.2.2 dL_cell_22 hlocks
theorem kw_cell {R : Room} {s : State} {args : Array Value} (hts : ∀ w ∈ tw, w.before args s = true) (hR : 0 + 1 ≤ R.frames ∧ 8 + (2 + 11) + 40 * 0 ≤ R.locals) : CallB R s args RL 164 yL_cell cL_cell 2 (some .int) (wsm yL_cell cL_cell 2 (some .int)) (rmd 0) 0 0 2 ∧ (Cond.static yL_cell).before args s = true := kwS 2 wd_456 wd_454 wd_455 wd_16 (by decide +kernel) hts hR
