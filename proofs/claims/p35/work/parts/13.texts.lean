/-! printed by wip/gen35/build.py out of the decode rows: do not edit by hand -/
/-! THE LAW'S TEXTS: what String says of them, and write. -/
def txL (k : Nat) : List Int32 := txB.getD k []
def appL (Λ : Lay) (a : Nat) : List Int32 → Mem → Option Mem
  | [], μ => some μ
  | x :: l, μ => (sX4_append Λ μ a x).bind (fun q => appL Λ a l q.2)
def sL_write (Λ : Lay) (μ : Mem) (a : Nat) (k : Nat) : Option Mem := appL Λ a (txL k) μ
theorem tx_len : ∀ k, k < 20 → txN.getD k 0 = (txL k).length := by decide +kernel
theorem tx_sm : ∀ k, k < 20 → (txL k).length ≤ 10 := by decide +kernel
theorem tx_sign : ∀ k, k < 20 → ∀ j, j < 10 → jchar ((txL k).getD j 0 &&& 255) = (txL k).getD j 0 := by decide +kernel
theorem tx_nar : ∀ k, k < 20 → ∀ j, j < 10 → narrow .char (.int ((txL k).getD j 0)) = .int ((txL k).getD j 0) := by decide +kernel
abbrev PX (G : va_G) (Λ : Lay) (μ : Mem) (tx : Nat) (q v : Nat → Nat) (av : List Value) : Array Value → State → Prop := va_Pc av (fun U => (KK G Λ U ∧ Wd G Λ μ U.heap) ∧ Xs (inL Λ) tx q v U)
abbrev CX (l : Launch) (G : va_G) (Λ : Lay) (y : MethodName) (b : ByteArray) (n : Nat) (r : Option FieldType) (d : Nat) (μ : Mem) (tx : Nat) (q v : Nat → Nat) (av : List Value) (Qc : Array Value → State → Outcome → State → Prop) : Prop := Met l y (wsm y b n r) (rmd d) (PX G Λ μ tx q v av) Qc 0 0 (inL Λ)
theorem px_blind {G : va_G} {Λ : Lay} {μ : Mem} {tx : Nat} {q v : Nat → Nat} {av : List Value} : FrameBlind (PX G Λ μ tx q v av) := fun a U g mk h => ⟨h.1, ⟨h.2.1.1.blind g mk a, h.2.1.2⟩, h.2.2.mv (s := U) (U := U.calling g mk a) (Vm.Alike.refl U.vm) (fun _ _ _ => rfl)⟩
section TX
variable {p : Program} {l : Launch} {e : Env} {R : Room} {s : State} {m : MethodId} {args : Array Value} {below : List Frame} {meth : Method} {c : Code} {H : Heap} {locs : List Loc} {cells slots : Nat} {Q : State → Prop}
variable {G : va_G} {Λ : Lay} {μ μ1 : Mem} {cc : ByteArray} {pc nL tx : Nat} {q v : Nat → Nat} {ls : Array Slot} {rest st0 : List Value} {own : String} {A : Nat → Prop} {H0 : Heap} {a k : Nat}
variable {y : MethodName} {bytes : ByteArray} {maxL n index d : Nat} {ret : Option FieldType} {As : List Value}
theorem ofX {y : MethodName} {ret : Option FieldType} {d : Nat} {av : List Value} {Qc : Array Value → State → Outcome → State → Prop} (hy : plainFor y = true) (how : y.cls = own) (hsl : (lg_sl av).length ≤ nL)
    (body : ∀ p e s m args below meth c ls, CallFix p m c cc nL s args tw own → KK G Λ s → Wd G Λ μ s.heap → Xs (inL Λ) tx q v s → meth.sig.returnType = ret → meth.locks = false → lv_has ls nL (lv_args 0 av) →
      W p l e (rmd d) s m args below meth c s.heap [] 0 0 (MQ below Qc args s 0 0 (inL Λ)) (F0 m 0 ls [])) : CX l G Λ y cc nL ret d μ tx q v av Qc := by
  refine va_MetF (cc := cc) (maxL := nL) (ret := ret) hy rfl ?_
  intro p e s m args below meth c s₁ B hml hv
  obtain ⟨rfl, ⟨hK, hW⟩, hX⟩ := hv
  have hts := atoms_spec (ws := wsm y cc nL ret) B.pre
  have hl := lv_entry av hsl
  rw [lg_entry_eq]
  exact body p e s m _ below meth c _ ⟨B.exec, B.bytes, hml, how ▸ findClass_of_methodNamed B.named, fun w h => hts w (List.mem_cons_of_mem _ h)⟩ hK hW hX B.returns B.notSynchronized hl
theorem xs_at {U : State} (hX : Xs (inL Λ) tx q v s) (hS : va_S A s.heap H locs) (hA : ∀ z, z < s.heap.size → A z → inL Λ z) (hU : U.heap = H) (hWm : s.WarmedH U.vm) : Xs (inL Λ) tx q v U := hX.mv hWm.alike (fun z h1 h2 => by rw [hU]; exact hS.2.1 z h1 (fun w => h2 (hA z h1 w)))
theorem runXV {Qc : Array Value → State → Outcome → State → Prop} (hF : CallFix p m c cc nL s args tw own) (hKK : KK G Λ s) (hW : Wd G Λ μ H) (hX : Xs (inL Λ) tx q v s) (hS : va_S (inL Λ) s.heap H locs) (hl : ls.size = nL) (hk : k < 20) (hM : CX l G Λ y bytes maxL ret d μ tx q v (.ref (q k) :: As) Qc) (cw : CallW R s args own "java/lang/String" index y bytes maxL ret (wsm y bytes maxL ret) (rmd d) 0 0 n)
    (hn : As.length = n) (hst : st0 = As.reverse ++ .ref (q k) :: rest) (hW8 : (rest.map fun v => v.category).sum ≤ 8) (hdg : decode cc pc = .ok (.invokevirtual index, 3)) (hf : cells ≤ R.cells ∧ slots ≤ R.slots) :
    va_Run p l e R s m args below meth c H locs cells slots 0 0 (F0 m pc ls st0) rest (Qc (Value.ref (q k) :: As).toArray) (inL Λ) :=
  va_runV hF hM cw ⟨px_blind, vk_recv hX.2.2.1 hk hS, fun U hU hWm => ⟨rfl, ⟨hKK.at hS hU hWm, by rw [hU]; exact hW⟩, xs_at hX hS (fun _ _ h => h) hU hWm⟩⟩ rfl hn hl hst (lv_room hW8) hdg hf
theorem runXS {Qc : Array Value → State → Outcome → State → Prop} (hF : CallFix p m c cc nL s args tw own) (hKK : KK G Λ s) (hW : Wd G Λ μ H) (hX : Xs (inL Λ) tx q v s) (hS : va_S (inL Λ) s.heap H locs) (hl : ls.size = nL) (hM : CX l G Λ y bytes maxL ret d μ tx q v As Qc) (cw : CallB R s args own index y bytes maxL ret (wsm y bytes maxL ret) (rmd d) 0 0 n ∧ (Cond.static y).before args s = true)
    (hn : As.length = n) (hst : st0 = As.reverse ++ rest) (hW8 : (rest.map fun v => v.category).sum ≤ 8) (hdg : decode cc pc = .ok (.invokestatic index, 3)) (hf : cells ≤ R.cells ∧ slots ≤ R.slots) :
    va_Run p l e R s m args below meth c H locs cells slots 0 0 (F0 m pc ls st0) rest (Qc As.toArray) (inL Λ) :=
  va_runS hF hM cw ⟨px_blind, fun U hU hWm => ⟨rfl, ⟨hKK.at hS hU hWm, by rw [hU]; exact hW⟩, xs_at hX hS (fun _ _ h => h) hU hWm⟩⟩ rfl hn hl hst (lv_room hW8) hdg hf
set_option maxHeartbeats 4000000 in
set_option maxRecDepth 100000 in
theorem cx_lat (l : Launch) (hk : k < 20) : CX l G Λ yJ0_isLatin1_aae02 cJ0_isLatin1_aae02 1 (some .boolean) 0 μ tx q v [.ref (q k)] (QI G Λ 1 μ) := by
  refine ofX (own := RJ0) (by decide +kernel) rfl (Nat.le_of_ble_eq_true rfl) (fun p e s m args below meth c ls hF hKK hW hX hr hlocks hl => ?_)
  have hx := hF.1
  have hb := hF.2.1
  have hS : va_S (inL Λ) s.heap s.heap [] := va_S.rf
  have hl : lv_has ls 1 [(0, .ref (q k))] := hl
  refine va_gets (C := "java/lang/String") (ref := "java/lang/String") hx hb hX.2.2.2.1 hS hF.2.2.2.1 (hF.2.2.2.2 _ wd_469) (fun _ h => h) dJ0_isLatin1_aae02_0 ?_
  refine lv_if_eq (tgt := 17) hx hb dJ0_isLatin1_aae02_3 (by decide) (fun z => absurd z (by decide)) (fun _ => ?_)
  refine lv_aload_n hx hb dJ0_isLatin1_aae02_6 rfl (lv_at hl 0 rfl) ?_
  refine vk_getf (ref := "java/lang/String") hx hb (hX.2.2.1.1 k hk).2.1 hS hF.2.2.2.1 (hF.2.2.2.2 _ wd_775) (fun _ h => h) dJ0_isLatin1_aae02_7 ?_
  refine lv_if_ne (tgt := 17) hx hb dJ0_isLatin1_aae02_10 (by decide) (fun z => absurd rfl z) (fun _ => ?_)
  refine lv_iconst (v := (1 : Int32)) hx hb dJ0_isLatin1_aae02_13 (by decide) ?_
  refine lv_goto (tgt := 18) hx hb dJ0_isLatin1_aae02_14 (by decide) ?_
  exact wr_i hF hr hlocks (isB_nar (Or.inr rfl)) hW hS dJ0_isLatin1_aae02_18
set_option maxHeartbeats 4000000 in
set_option maxRecDepth 100000 in
theorem cx_cod (l : Launch) (hk : k < 20) : CX l G Λ yJ0_coder_7d493 cJ0_coder_7d493 1 (some .byte) 0 μ tx q v [.ref (q k)] (QI G Λ 0 μ) := by
  refine ofX (own := RJ0) (by decide +kernel) rfl (Nat.le_of_ble_eq_true rfl) (fun p e s m args below meth c ls hF hKK hW hX hr hlocks hl => ?_)
  have hx := hF.1
  have hb := hF.2.1
  have hS : va_S (inL Λ) s.heap s.heap [] := va_S.rf
  have hl : lv_has ls 1 [(0, .ref (q k))] := hl
  refine va_gets (C := "java/lang/String") (ref := "java/lang/String") hx hb hX.2.2.2.1 hS hF.2.2.2.1 (hF.2.2.2.2 _ wd_469) (fun _ h => h) dJ0_coder_7d493_0 ?_
  refine lv_if_eq (tgt := 13) hx hb dJ0_coder_7d493_3 (by decide) (fun z => absurd z (by decide)) (fun _ => ?_)
  refine lv_aload_n hx hb dJ0_coder_7d493_6 rfl (lv_at hl 0 rfl) ?_
  refine vk_getf (ref := "java/lang/String") hx hb (hX.2.2.1.1 k hk).2.1 hS hF.2.2.2.1 (hF.2.2.2.2 _ wd_775) (fun _ h => h) dJ0_coder_7d493_7 ?_
  refine lv_goto (tgt := 14) hx hb dJ0_coder_7d493_10 (by decide) ?_
  exact wr_i hF hr hlocks (by decide) hW hS dJ0_coder_7d493_14
set_option maxHeartbeats 4000000 in
set_option maxRecDepth 100000 in
theorem cx_len (l : Launch) (hk : k < 20) : CX l G Λ yJ0_length_8abf5 cJ0_length_8abf5 1 (some .int) 1 μ tx q v [.ref (q k)] (QI G Λ (nI (txL k).length) μ) := by
  refine ofX (own := RJ0) (by decide +kernel) rfl (Nat.le_of_ble_eq_true rfl) (fun p e s m args below meth c ls hF hKK hW hX hr hlocks hl => ?_)
  have hx := hF.1
  have hb := hF.2.1
  have hS : va_S (inL Λ) s.heap s.heap [] := va_S.rf
  have hl : lv_has ls 1 [(0, .ref (q k))] := hl
  have hT : va_T .byte (v k) (txN.getD k 0) (fun j => .int ((txB.getD k []).getD j 0)) (inL Λ) s s.heap := (hX.2.2.1.1 k hk).2.2.2
  have hsm := tx_sm k hk
  refine lv_aload_n hx hb dJ0_length_8abf5_0 rfl (lv_at hl 0 rfl) ?_
  refine vk_getf (ref := "java/lang/String") hx hb (hX.2.2.1.1 k hk).2.2.1 hS hF.2.2.2.1 (hF.2.2.2.2 _ wd_774) (fun _ h => h) dJ0_length_8abf5_1 ?_
  refine va_tlen (v := nI (txL k).length) hx hb hT hS (by rw [tx_len k hk]; rfl) dJ0_length_8abf5_4 ?_
  refine lv_aload_n hx hb dJ0_length_8abf5_5 rfl (lv_at hl 0 rfl) ?_
  refine end_i (runXV (rest := [.int (nI (txL k).length)]) (As := []) hF hKK hW hX hS hl.1 hk (cx_cod l hk) (kwV 0 wd_468 wd_465 wd_466 wd_467 wd_24 (by decide +kernel) hF.2.2.2.2 ⟨Nat.le_of_ble_eq_true rfl, Nat.le_of_ble_eq_true rfl⟩) rfl rfl (Nat.le_of_ble_eq_true rfl) dJ0_length_8abf5_6 ⟨Nat.zero_le _, Nat.zero_le _⟩) hS (fun H locs hW hS => ?_)
  refine lv_ishr hx hb dJ0_length_8abf5_9 ?_
  have e0 : nI (txL k).length >>> ((0 : Int32) &&& 31) = nI (txL k).length := by
    have : ∀ n, n < 11 → nI n >>> ((0 : Int32) &&& 31) = nI n := by decide +kernel
    exact this _ (by omega)
  rw [e0]
  exact wr_i hF hr hlocks rfl hW hS dJ0_length_8abf5_10
set_option maxHeartbeats 4000000 in
set_option maxRecDepth 100000 in
theorem cx_pchN (l : Launch) {j N : Nat} {b : Nat} (hj : j < N) (hN : N ≤ 10) : CX l G Λ yJ3_checkIndex_8e157 cJ3_checkIndex_8e157 3 (some .int) 0 μ tx q v [.int (nI j), .int (nI N), .null] (QI G Λ (nI j) μ) := by
  refine ofX (own := RJ3) (by decide +kernel) rfl (Nat.le_of_ble_eq_true rfl) (fun p e s m args below meth c ls hF hKK hW hX hr hlocks hl => ?_)
  have hx := hF.1
  have hb := hF.2.1
  have hS : va_S (inL Λ) s.heap s.heap [] := va_S.rf
  have hl : lv_has ls 3 [(0, .int (nI j)), (1, .int (nI N)), (2, .null)] := hl
  refine lv_iload_n hx hb dJ3_checkIndex_8e157_0 rfl (lv_at hl 0 rfl) ?_
  refine lv_if_lt (tgt := 9) hx hb dJ3_checkIndex_8e157_1 (by decide) (fun z => absurd z (nI_pos (by omega))) (fun _ => ?_)
  refine lv_iload_n hx hb dJ3_checkIndex_8e157_4 rfl (lv_at hl 0 rfl) ?_
  refine lv_iload_n hx hb dJ3_checkIndex_8e157_5 rfl (lv_at hl 1 rfl) ?_
  refine lv_icmp_lt (tgt := 16) hx hb dJ3_checkIndex_8e157_6 (by decide) (fun _ => ?_) (fun z => absurd (by rw [nI_ltI (by omega) (by omega)]; exact hj) z)
  refine lv_iload_n hx hb dJ3_checkIndex_8e157_16 rfl (lv_at hl 0 rfl) ?_
  exact wr_i hF hr hlocks rfl hW hS dJ3_checkIndex_8e157_17
set_option maxHeartbeats 4000000 in
set_option maxRecDepth 100000 in
theorem cx_pchR (l : Launch) {j N : Nat} {b : Nat} (hj : j < N) (hN : N ≤ 10) : CX l G Λ yJ3_checkIndex_8e157 cJ3_checkIndex_8e157 3 (some .int) 0 μ tx q v [.int (nI j), .int (nI N), (.ref b)] (QI G Λ (nI j) μ) := by
  refine ofX (own := RJ3) (by decide +kernel) rfl (Nat.le_of_ble_eq_true rfl) (fun p e s m args below meth c ls hF hKK hW hX hr hlocks hl => ?_)
  have hx := hF.1
  have hb := hF.2.1
  have hS : va_S (inL Λ) s.heap s.heap [] := va_S.rf
  have hl : lv_has ls 3 [(0, .int (nI j)), (1, .int (nI N)), (2, (.ref b))] := hl
  refine lv_iload_n hx hb dJ3_checkIndex_8e157_0 rfl (lv_at hl 0 rfl) ?_
  refine lv_if_lt (tgt := 9) hx hb dJ3_checkIndex_8e157_1 (by decide) (fun z => absurd z (nI_pos (by omega))) (fun _ => ?_)
  refine lv_iload_n hx hb dJ3_checkIndex_8e157_4 rfl (lv_at hl 0 rfl) ?_
  refine lv_iload_n hx hb dJ3_checkIndex_8e157_5 rfl (lv_at hl 1 rfl) ?_
  refine lv_icmp_lt (tgt := 16) hx hb dJ3_checkIndex_8e157_6 (by decide) (fun _ => ?_) (fun z => absurd (by rw [nI_ltI (by omega) (by omega)]; exact hj) z)
  refine lv_iload_n hx hb dJ3_checkIndex_8e157_16 rfl (lv_at hl 0 rfl) ?_
  exact wr_i hF hr hlocks rfl hW hS dJ3_checkIndex_8e157_17
set_option maxHeartbeats 4000000 in
set_option maxRecDepth 100000 in
theorem cx_chk (l : Launch) {j N : Nat} (hj : j < N) (hN : N ≤ 10) : CX l G Λ yJ0_checkIndex_df160 cJ0_checkIndex_df160 2 none 1 μ tx q v [.int (nI j), .int (nI N)] (QV G Λ μ) := by
  refine ofX (own := RJ0) (by decide +kernel) rfl (Nat.le_of_ble_eq_true rfl) (fun p e s m args below meth c ls hF hKK hW hX hr hlocks hl => ?_)
  have hx := hF.1
  have hb := hF.2.1
  have hS : va_S (inL Λ) s.heap s.heap [] := va_S.rf
  have hl : lv_has ls 2 [(0, .int (nI j)), (1, .int (nI N))] := hl
  refine lv_iload_n hx hb dJ0_checkIndex_df160_0 rfl (lv_at hl 0 rfl) ?_
  refine lv_iload_n hx hb dJ0_checkIndex_df160_1 rfl (lv_at hl 1 rfl) ?_
  rcases hX.2.2.2.2 with hZ | ⟨b, hZ⟩
  · refine va_gets (C := "jdk/internal/util/Preconditions") (ref := "jdk/internal/util/Preconditions") hx hb hZ hS hF.2.2.2.1 (hF.2.2.2.2 _ wd_485) (fun _ h => h) dJ0_checkIndex_df160_2 ?_
    refine end_i (runXS (rest := []) (As := [.int (nI j), .int (nI N), .null]) hF hKK hW hX hS hl.1 (cx_pchN (b := 0) l hj hN) (kwS 3 wd_489 wd_487 wd_488 wd_26 (by decide +kernel) hF.2.2.2.2 ⟨Nat.le_of_ble_eq_true rfl, Nat.le_of_ble_eq_true rfl⟩) rfl rfl (Nat.le_of_ble_eq_true rfl) dJ0_checkIndex_df160_5 ⟨Nat.zero_le _, Nat.zero_le _⟩) hS (fun H locs hW hS => ?_)
    refine lv_pop hx hb dJ0_checkIndex_df160_8 rfl ?_
    exact wr_v hF hr hlocks hW hS dJ0_checkIndex_df160_9
  · refine va_gets (C := "jdk/internal/util/Preconditions") (ref := "jdk/internal/util/Preconditions") hx hb hZ hS hF.2.2.2.1 (hF.2.2.2.2 _ wd_485) (fun _ h => h) dJ0_checkIndex_df160_2 ?_
    refine end_i (runXS (rest := []) (As := [.int (nI j), .int (nI N), .ref b]) hF hKK hW hX hS hl.1 (cx_pchR l hj hN) (kwS 3 wd_489 wd_487 wd_488 wd_26 (by decide +kernel) hF.2.2.2.2 ⟨Nat.le_of_ble_eq_true rfl, Nat.le_of_ble_eq_true rfl⟩) rfl rfl (Nat.le_of_ble_eq_true rfl) dJ0_checkIndex_df160_5 ⟨Nat.zero_le _, Nat.zero_le _⟩) hS (fun H locs hW hS => ?_)
    refine lv_pop hx hb dJ0_checkIndex_df160_8 rfl ?_
    exact wr_v hF hr hlocks hW hS dJ0_checkIndex_df160_9
set_option maxHeartbeats 4000000 in
set_option maxRecDepth 100000 in
theorem cx_lch (l : Launch) (hk : k < 20) {j : Nat} (hj : j < (txL k).length) : CX l G Λ yJ1_charAt_3b067 cJ1_charAt_3b067 2 (some .char) 2 μ tx q v [.ref (v k), .int (nI j)] (QI G Λ ((txL k).getD j 0) μ) := by
  refine ofX (own := RJ1) (by decide +kernel) rfl (Nat.le_of_ble_eq_true rfl) (fun p e s m args below meth c ls hF hKK hW hX hr hlocks hl => ?_)
  have hx := hF.1
  have hb := hF.2.1
  have hS : va_S (inL Λ) s.heap s.heap [] := va_S.rf
  have hl : lv_has ls 2 [(0, .ref (v k)), (1, .int (nI j))] := hl
  have hT : va_T .byte (v k) (txN.getD k 0) (fun j => .int ((txB.getD k []).getD j 0)) (inL Λ) s s.heap := (hX.2.2.1.1 k hk).2.2.2
  have hsm := tx_sm k hk
  refine lv_iload_n hx hb dJ1_charAt_3b067_0 rfl (lv_at hl 1 rfl) ?_
  refine lv_aload_n hx hb dJ1_charAt_3b067_1 rfl (lv_at hl 0 rfl) ?_
  refine va_tlen (v := nI (txL k).length) hx hb hT hS (by rw [tx_len k hk]; rfl) dJ1_charAt_3b067_2 ?_
  refine end_v (runXS (rest := []) (As := [.int (nI j), .int (nI (txL k).length)]) hF hKK hW hX hS hl.1 (cx_chk l hj hsm) (kwS 2 wd_484 wd_482 wd_483 wd_24 (by decide +kernel) hF.2.2.2.2 ⟨Nat.le_of_ble_eq_true rfl, Nat.le_of_ble_eq_true rfl⟩) rfl rfl (Nat.le_of_ble_eq_true rfl) dJ1_charAt_3b067_3 ⟨Nat.zero_le _, Nat.zero_le _⟩) hS (fun H locs hW hS => ?_)
  refine lv_aload_n hx hb dJ1_charAt_3b067_6 rfl (lv_at hl 0 rfl) ?_
  refine lv_iload_n hx hb dJ1_charAt_3b067_7 rfl (lv_at hl 1 rfl) ?_
  refine va_tb (v := .int ((txL k).getD j 0)) hx hb hT hS (i := nI j) (show inb (nI j) _ by rw [tx_len k hk]; exact nI_in hj (by omega)) (by rw [nI_clamp (by omega)]; rfl) dJ1_charAt_3b067_8 ?_
  refine lv_sipush (v := (255 : Int32)) hx hb dJ1_charAt_3b067_9 (by decide) ?_
  refine lv_iand hx hb dJ1_charAt_3b067_12 ?_
  refine lv_i2c (v := (txL k).getD j 0) hx hb dJ1_charAt_3b067_13 (tx_sign k hk j (by omega)) ?_
  exact wr_i hF hr hlocks (tx_nar k hk j (by omega)) hW hS dJ1_charAt_3b067_14
set_option maxHeartbeats 4000000 in
set_option maxRecDepth 100000 in
theorem cx_cha (l : Launch) (hk : k < 20) {j : Nat} (hj : j < (txL k).length) : CX l G Λ yJ0_charAt_5068e cJ0_charAt_5068e 2 (some .char) 3 μ tx q v [.ref (q k), .int (nI j)] (QI G Λ ((txL k).getD j 0) μ) := by
  refine ofX (own := RJ0) (by decide +kernel) rfl (Nat.le_of_ble_eq_true rfl) (fun p e s m args below meth c ls hF hKK hW hX hr hlocks hl => ?_)
  have hx := hF.1
  have hb := hF.2.1
  have hS : va_S (inL Λ) s.heap s.heap [] := va_S.rf
  have hl : lv_has ls 2 [(0, .ref (q k)), (1, .int (nI j))] := hl
  have hsm := tx_sm k hk
  refine lv_aload_n hx hb dJ0_charAt_5068e_0 rfl (lv_at hl 0 rfl) ?_
  refine end_i (runXV (rest := []) (As := []) hF hKK hW hX hS hl.1 hk (cx_lat l hk) (kwV 0 wd_478 wd_475 wd_476 wd_477 wd_24 (by decide +kernel) hF.2.2.2.2 ⟨Nat.le_of_ble_eq_true rfl, Nat.le_of_ble_eq_true rfl⟩) rfl rfl (Nat.le_of_ble_eq_true rfl) dJ0_charAt_5068e_1 ⟨Nat.zero_le _, Nat.zero_le _⟩) hS (fun H locs hW hS => ?_)
  refine lv_if_eq (tgt := 16) hx hb dJ0_charAt_5068e_4 (by decide) (fun z => absurd z (by decide)) (fun _ => ?_)
  refine lv_aload_n hx hb dJ0_charAt_5068e_7 rfl (lv_at hl 0 rfl) ?_
  refine vk_getf (ref := "java/lang/String") hx hb (hX.2.2.1.1 k hk).2.2.1 hS hF.2.2.2.1 (hF.2.2.2.2 _ wd_774) (fun _ h => h) dJ0_charAt_5068e_8 ?_
  refine lv_iload_n hx hb dJ0_charAt_5068e_11 rfl (lv_at hl 1 rfl) ?_
  refine end_i (runXS (rest := []) (As := [.ref (v k), .int (nI j)]) hF hKK hW hX hS hl.1 (cx_lch l hk hj) (kwS 2 wd_481 wd_479 wd_480 wd_25 (by decide +kernel) hF.2.2.2.2 ⟨Nat.le_of_ble_eq_true rfl, Nat.le_of_ble_eq_true rfl⟩) rfl rfl (Nat.le_of_ble_eq_true rfl) dJ0_charAt_5068e_12 ⟨Nat.zero_le _, Nat.zero_le _⟩) hS (fun H locs hW hS => ?_)
  exact wr_i hF hr hlocks (tx_nar k hk j (by omega)) hW hS dJ0_charAt_5068e_15
set_option maxHeartbeats 4000000 in
set_option maxRecDepth 100000 in
theorem cx_wriL {r : Mem} (hOK : LayOK Λ) (hk : k < 20) (ka : inK Λ a 4) (hF : CallFix p m c cL_write 3 s args tw RL) (hKK : KK G Λ s) (hX : Xs (inL Λ) tx q v s) (hr : meth.sig.returnType = some (.object "FerryRounds")) (hlocks : meth.locks = false) : ∀ (n j : Nat) (μ : Mem) (H : Heap) (locs : List Loc) (ls : Array Slot), j + n = (txL k).length → appL Λ a ((txL k).drop j) μ = some r → Wd G Λ μ H → va_S (inL Λ) s.heap H locs → lv_has ls 3 [(0, .ref a), (1, .ref (q k)), (2, .int (nI j))] → W p l e (rmd 4) s m args below meth c H locs 0 0 (MQ below (QR G Λ a 4 r) args s 0 0 (inL Λ)) (F0 m 2 ls []) := by
  have hx := hF.1
  have hb := hF.2.1
  have hsm := tx_sm k hk
  intro n
  induction n with
  | zero =>
    intro j μ H locs ls hj hs hW hS hl
    rw [List.drop_of_length_le (by omega)] at hs
    have h9 := Option.some.inj hs
    refine lv_iload_n hx hb dL_write_2 rfl (lv_at hl 2 rfl) ?_
    refine lv_aload_n hx hb dL_write_3 rfl (lv_at hl 1 rfl) ?_
    refine end_i (runXV (rest := [.int (nI j)]) (As := []) hF hKK hW hX hS hl.1 hk (cx_len l hk) (kwV 0 wd_464 wd_461 wd_462 wd_463 wd_24 (by decide +kernel) hF.2.2.2.2 ⟨Nat.le_of_ble_eq_true rfl, Nat.le_of_ble_eq_true rfl⟩) rfl rfl (Nat.le_of_ble_eq_true rfl) dL_write_4 ⟨Nat.zero_le _, Nat.zero_le _⟩) hS (fun H locs hW hS => ?_)
    refine lv_icmp_ge (tgt := 26) hx hb dL_write_7 (by decide) (fun _ => ?_) (fun z => absurd (by rw [nI_leI (by omega) (by omega)]; omega) z)
    refine lv_aload_n hx hb dL_write_26 rfl (lv_at hl 0 rfl) ?_
    rw [← h9]
    exact wr_a hF hr hlocks ka hW hS dL_write_27
  | succ n ih =>
    intro j μ H locs ls hj hs hW hS hl
    have hjl : j < (txL k).length := by omega
    rw [List.drop_eq_getElem_cons hjl] at hs
    obtain ⟨q1, hq1, hs⟩ := obind_e (show (sX4_append Λ μ a (txL k)[j]).bind (fun q => appL Λ a ((txL k).drop (j + 1)) q.2) = some r from hs)
    refine lv_iload_n hx hb dL_write_2 rfl (lv_at hl 2 rfl) ?_
    refine lv_aload_n hx hb dL_write_3 rfl (lv_at hl 1 rfl) ?_
    refine end_i (runXV (rest := [.int (nI j)]) (As := []) hF hKK hW hX hS hl.1 hk (cx_len l hk) (kwV 0 wd_464 wd_461 wd_462 wd_463 wd_24 (by decide +kernel) hF.2.2.2.2 ⟨Nat.le_of_ble_eq_true rfl, Nat.le_of_ble_eq_true rfl⟩) rfl rfl (Nat.le_of_ble_eq_true rfl) dL_write_4 ⟨Nat.zero_le _, Nat.zero_le _⟩) hS (fun H locs hW hS => ?_)
    refine lv_icmp_ge (tgt := 26) hx hb dL_write_7 (by decide) (fun z => absurd z (by rw [nI_leI (by omega) (by omega)]; omega)) (fun _ => ?_)
    refine lv_aload_n hx hb dL_write_10 rfl (lv_at hl 0 rfl) ?_
    refine lv_aload_n hx hb dL_write_11 rfl (lv_at hl 1 rfl) ?_
    refine lv_iload_n hx hb dL_write_12 rfl (lv_at hl 2 rfl) ?_
    refine end_i (runXV (rest := [.ref a]) (As := [.int (nI j)]) hF hKK hW hX hS hl.1 hk (cx_cha l hk hjl) (kwV 1 wd_474 wd_471 wd_472 wd_473 wd_24 (by decide +kernel) hF.2.2.2.2 ⟨Nat.le_of_ble_eq_true rfl, Nat.le_of_ble_eq_true rfl⟩) rfl rfl (Nat.le_of_ble_eq_true rfl) dL_write_13 ⟨Nat.zero_le _, Nat.zero_le _⟩) hS (fun H locs hW hS => ?_)
    have e1 : (txL k).getD j 0 = (txL k)[j] := by rw [List.getD_eq_getElem?_getD, List.getElem?_eq_getElem hjl]; rfl
    rw [e1]
    refine end_i (run_V (rest := []) (As := [.int (txL k)[j]]) (q := (RX4, TX4, 11)) (ci := 4) hF hKK hW hS hl.1 ka (by decide) rfl (c_X4_append l hOK ka hq1) (kw_L_18 hF.2.2.2.2 ⟨Nat.le_of_ble_eq_true rfl, Nat.le_of_ble_eq_true rfl⟩) rfl rfl (Nat.le_of_ble_eq_true rfl) dL_write_16 ⟨Nat.zero_le _, Nat.zero_le _⟩) hS (fun H locs hW hS => ?_)
    refine lv_pop hx hb dL_write_19 rfl ?_
    refine lv_iinc (v := nI (j + 1)) (lv' := [(2, .int (nI (j + 1))), (0, .ref a), (1, .ref (q k))]) hx hb dL_write_20 hl (k := 2) rfl (show nI j + nI 1 = nI (j + 1) by rw [nI_add]) (by decide) rfl (fun ls hl => ?_)
    refine lv_goto (tgt := 2) hx hb dL_write_23 (by decide) ?_
    exact ih (j + 1) q1.2 _ _ _ (by omega) hs hW hS (lv_sub hl [1, 2, 0] rfl)
set_option maxHeartbeats 4000000 in
set_option maxRecDepth 100000 in
theorem cx_wri (l : Launch) {r : Mem} (hOK : LayOK Λ) (hk : k < 20) (ka : inK Λ a 4) (hs : sL_write Λ μ a k = some r) : CX l G Λ yL_write cL_write 3 (some (.object "FerryRounds")) 4 μ tx q v [.ref a, .ref (q k)] (QR G Λ a 4 r) := by
  refine ofX (own := RL) (by decide +kernel) rfl (Nat.le_of_ble_eq_true rfl) (fun p e s m args below meth c ls hF hKK hW hX hr hlocks hl => ?_)
  have hx := hF.1
  have hb := hF.2.1
  have hS : va_S (inL Λ) s.heap s.heap [] := va_S.rf
  have hl : lv_has ls 3 [(0, .ref a), (1, .ref (q k))] := hl
  refine lv_iconst (v := (0 : Int32)) hx hb dL_write_0 (by decide) ?_
  refine lv_istore_n (lv' := [(2, .int 0), (0, .ref a), (1, .ref (q k))]) hx hb dL_write_1 rfl hl (by decide) rfl (fun ls hl => ?_)
  exact cx_wriL hOK hk ka hF hKK hX hr hlocks (txL k).length 0 μ _ _ _ (by omega) (by rw [List.drop_zero]; exact hs) hW hS (lv_sub hl [1, 2, 0] rfl)
theorem kw_wri {R : Room} {s : State} {args : Array Value} (hts : ∀ w ∈ tw, w.before args s = true) (hR : 4 + 1 ≤ R.frames ∧ 8 + (3 + 11) + 40 * 4 ≤ R.locals) : CallB R s args RL 52 yL_write cL_write 3 (some (.object "FerryRounds")) (wsm yL_write cL_write 3 (some (.object "FerryRounds"))) (rmd 4) 0 0 2 ∧ (Cond.static yL_write).before args s = true := kwS 2 wd_460 wd_458 wd_459 wd_16 (by decide +kernel) hts hR
theorem row_write {r : Mem} (hOK : LayOK Λ) (hF : CallFix p m c cc nL s args tw RL) (hKK : KK G Λ s) (hX : Xs (inL Λ) tx q v s) (hW : Wd G Λ μ H) (hS : va_S (inL Λ) s.heap H locs) (hl : ls.size = nL) (ka : inK Λ a 4) (hk : k < 20) (hs : sL_write Λ μ a k = some r) (hW8 : (rest.map fun v => v.category).sum ≤ 8) (hR : 4 + 1 ≤ R.frames ∧ 8 + (3 + 11) + 40 * 4 ≤ R.locals) (hf : cells ≤ R.cells ∧ slots ≤ R.slots) (hdg : decode cc pc = .ok (.invokestatic 52, 3))
    (kk : ∀ (H : Heap) (locs : List Loc), Wd G Λ r H → va_S (inL Λ) s.heap H locs → W p l e R s m args below meth c H locs cells slots Q (F0 m (pc + 3) ls (.ref a :: rest))) : W p l e R s m args below meth c H locs cells slots Q (F0 m pc ls (.ref (q k) :: .ref a :: rest)) :=
  end_r (runXS (rest := rest) (As := [.ref a, .ref (q k)]) hF hKK hW hX hS hl (cx_wri l hOK hk ka hs) (kw_wri hF.2.2.2.2 hR) rfl rfl hW8 hdg hf) hS (fun H locs _ hW hS => kk H locs hW hS)
theorem row_writeN {r : Mem} (hOK : LayOK Λ) (hF : CallFix p m c cc nL s args tw RL) (hKK : KK G Λ s) (hX : Xs (inL Λ) tx q v s) (hW : Wd G Λ μ H) (hS : va_S (AN Λ s.heap.size) s.heap H locs) (hl : ls.size = nL) (ka : inK Λ a 4) (hk : k < 20) (hs : sL_write Λ μ a k = some r) (hW8 : (rest.map fun v => v.category).sum ≤ 8) (hR : 4 + 1 ≤ R.frames ∧ 8 + (3 + 11) + 40 * 4 ≤ R.locals) (hf : cells ≤ R.cells ∧ slots ≤ R.slots) (hdg : decode cc pc = .ok (.invokestatic 52, 3))
    (kk : ∀ (H : Heap) (locs : List Loc), Wd G Λ r H → va_S (AN Λ s.heap.size) s.heap H locs → W p l e R s m args below meth c H locs cells slots Q (F0 m (pc + 3) ls (.ref a :: rest))) : W p l e R s m args below meth c H locs cells slots Q (F0 m pc ls (.ref (q k) :: .ref a :: rest)) :=
  end_rN (va_runS (As := [.ref a, .ref (q k)]) (rest := rest) hF (cx_wri l hOK hk ka hs) (kw_wri hF.2.2.2.2 hR) ⟨px_blind, fun U hU hWm => ⟨rfl, ⟨hKK.atN hS hU hWm, by rw [hU]; exact hW⟩, xs_at hX hS (fun z h1 h => h.elim id (fun w => absurd h1 (Nat.not_lt.mpr w))) hU hWm⟩⟩ rfl rfl hl rfl (lv_room hW8) hdg hf) hS (fun H locs _ hW hS => kk H locs hW hS)
end TX
