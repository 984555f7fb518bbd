/-! THE TEXT CONSTANT: what String says of it, and indexOf over it. -/
theorem ws_71 : Cond.initialized "java/lang/Math" ∈ tw := tw_mem (i := 71) (by decide +kernel) (by decide +kernel)
theorem ws_73 : Cond.initialized RJ0 ∈ tw := tw_mem (i := 73) (by decide +kernel) (by decide +kernel)
theorem ws_74 : Cond.initialized RJ1 ∈ tw := tw_mem (i := 74) (by decide +kernel) (by decide +kernel)
theorem ws_1071 : Cond.methodLink RX5 213 yJ0_indexOf_0f7a4 ∈ tw := tw_mem (i := 1071) (by decide +kernel) (by decide +kernel)
theorem ws_1072 : Cond.instanceMethod yJ0_indexOf_0f7a4 ∈ tw := tw_mem (i := 1072) (by decide +kernel) (by decide +kernel)
theorem ws_1073 : Cond.selects RJ0 yJ0_indexOf_0f7a4 yJ0_indexOf_0f7a4 ∈ tw := tw_mem (i := 1073) (by decide +kernel) (by decide +kernel)
theorem ws_1074 : Cond.code yJ0_indexOf_0f7a4 cJ0_indexOf_0f7a4 2 (some .int) ∈ tw := tw_mem (i := 1074) (by decide +kernel) (by decide +kernel)
theorem ws_1075 : Cond.methodLink RJ0 633 yJ0_indexOf_7cf53 ∈ tw := tw_mem (i := 1075) (by decide +kernel) (by decide +kernel)
theorem ws_1076 : Cond.instanceMethod yJ0_indexOf_7cf53 ∈ tw := tw_mem (i := 1076) (by decide +kernel) (by decide +kernel)
theorem ws_1077 : Cond.selects RJ0 yJ0_indexOf_7cf53 yJ0_indexOf_7cf53 ∈ tw := tw_mem (i := 1077) (by decide +kernel) (by decide +kernel)
theorem ws_1078 : Cond.code yJ0_indexOf_7cf53 cJ0_indexOf_7cf53 3 (some .int) ∈ tw := tw_mem (i := 1078) (by decide +kernel) (by decide +kernel)
theorem ws_1079 : Cond.methodLink RJ0 492 yJ0_isLatin1_aae02 ∈ tw := tw_mem (i := 1079) (by decide +kernel) (by decide +kernel)
theorem ws_1080 : Cond.instanceMethod yJ0_isLatin1_aae02 ∈ tw := tw_mem (i := 1080) (by decide +kernel) (by decide +kernel)
theorem ws_1081 : Cond.selects RJ0 yJ0_isLatin1_aae02 yJ0_isLatin1_aae02 ∈ tw := tw_mem (i := 1081) (by decide +kernel) (by decide +kernel)
theorem ws_1082 : Cond.code yJ0_isLatin1_aae02 cJ0_isLatin1_aae02 1 (some .boolean) ∈ tw := tw_mem (i := 1082) (by decide +kernel) (by decide +kernel)
theorem ws_1083 : Cond.fieldLink RJ0 38 "java/lang/String" "COMPACT_STRINGS" "Z" ∈ tw := tw_mem (i := 1083) (by decide +kernel) (by decide +kernel)
theorem ws_1085 : Cond.methodLink RJ0 505 yJ0_length_8abf5 ∈ tw := tw_mem (i := 1085) (by decide +kernel) (by decide +kernel)
theorem ws_1086 : Cond.instanceMethod yJ0_length_8abf5 ∈ tw := tw_mem (i := 1086) (by decide +kernel) (by decide +kernel)
theorem ws_1087 : Cond.selects RJ0 yJ0_length_8abf5 yJ0_length_8abf5 ∈ tw := tw_mem (i := 1087) (by decide +kernel) (by decide +kernel)
theorem ws_1088 : Cond.code yJ0_length_8abf5 cJ0_length_8abf5 1 (some .int) ∈ tw := tw_mem (i := 1088) (by decide +kernel) (by decide +kernel)
theorem ws_1089 : Cond.methodLink RJ0 335 yJ0_coder_7d493 ∈ tw := tw_mem (i := 1089) (by decide +kernel) (by decide +kernel)
theorem ws_1090 : Cond.instanceMethod yJ0_coder_7d493 ∈ tw := tw_mem (i := 1090) (by decide +kernel) (by decide +kernel)
theorem ws_1091 : Cond.selects RJ0 yJ0_coder_7d493 yJ0_coder_7d493 ∈ tw := tw_mem (i := 1091) (by decide +kernel) (by decide +kernel)
theorem ws_1092 : Cond.code yJ0_coder_7d493 cJ0_coder_7d493 1 (some .byte) ∈ tw := tw_mem (i := 1092) (by decide +kernel) (by decide +kernel)
theorem ws_1093 : Cond.methodLink RJ0 637 yJ1_indexOf_4cfef ∈ tw := tw_mem (i := 1093) (by decide +kernel) (by decide +kernel)
theorem ws_1094 : Cond.static yJ1_indexOf_4cfef ∈ tw := tw_mem (i := 1094) (by decide +kernel) (by decide +kernel)
theorem ws_1095 : Cond.code yJ1_indexOf_4cfef cJ1_indexOf_4cfef 4 (some .int) ∈ tw := tw_mem (i := 1095) (by decide +kernel) (by decide +kernel)
theorem ws_1096 : Cond.methodLink RJ1 88 yJ1_canEncode_9a6ad ∈ tw := tw_mem (i := 1096) (by decide +kernel) (by decide +kernel)
theorem ws_1097 : Cond.static yJ1_canEncode_9a6ad ∈ tw := tw_mem (i := 1097) (by decide +kernel) (by decide +kernel)
theorem ws_1098 : Cond.code yJ1_canEncode_9a6ad cJ1_canEncode_9a6ad 1 (some .boolean) ∈ tw := tw_mem (i := 1098) (by decide +kernel) (by decide +kernel)
theorem ws_1099 : Cond.methodLink RJ1 92 Lib.Math.max.name ∈ tw := tw_mem (i := 1099) (by decide +kernel) (by decide +kernel)
theorem ws_1100 : Cond.methodLink RJ1 38 Lib.Math.min.name ∈ tw := tw_mem (i := 1100) (by decide +kernel) (by decide +kernel)
theorem ws_1101 : Cond.methodLink RJ1 95 yJ1_indexOfChar_4cfef ∈ tw := tw_mem (i := 1101) (by decide +kernel) (by decide +kernel)
theorem ws_1102 : Cond.static yJ1_indexOfChar_4cfef ∈ tw := tw_mem (i := 1102) (by decide +kernel) (by decide +kernel)
theorem ws_1103 : Cond.code yJ1_indexOfChar_4cfef cJ1_indexOfChar_4cfef 6 (some .int) ∈ tw := tw_mem (i := 1103) (by decide +kernel) (by decide +kernel)
theorem ws_1238 : Cond.fieldLink RJ0 15 "java/lang/String" "coder" "B" ∈ tw := tw_mem (i := 1238) (by decide +kernel) (by decide +kernel)
theorem ws_1239 : Cond.fieldLink RJ0 9 "java/lang/String" "value" "[B" ∈ tw := tw_mem (i := 1239) (by decide +kernel) (by decide +kernel)

def Str (Λ : Lay) (q v : Nat) (U : State) : Prop := vk_S 1 [6] strB (fun _ => q) (fun _ => v) (inL Λ) U U.heap ∧ va_Z "java/lang/String" "COMPACT_STRINGS" "Z" (.int 1) (inL Λ) U U.heap
abbrev PS (G : va_G) (Λ : Lay) (μ : Mem) (q v : Nat) (av : List Value) : Array Value → State → Prop := va_Pc av (fun U => (KK G Λ U ∧ Wd G Λ μ U.heap) ∧ Str Λ q v U)
abbrev CS (l : Launch) (G : va_G) (Λ : Lay) (y : MethodName) (b : ByteArray) (n : Nat) (r : Option FieldType) (d : Nat) (μ : Mem) (q v : Nat) (av : List Value) (Qc : Array Value → State → Outcome → State → Prop) : Prop := Met l y (wsm y b n r) (rmd d) (PS G Λ μ q v av) Qc 0 0 (inL Λ)
theorem Str.blind {Λ : Lay} {q v : Nat} {U : State} (h : Str Λ q v U) (g : JFrame) (mk : MethodId) (a : Array Value) : Str Λ q v (U.calling g mk a) :=
  ⟨vk_S.moved (u := U) (U := U.calling g mk a) (Vm.Alike.refl U.vm) h.1, va_Z.moved (u := U) (U := U.calling g mk a) (Vm.Alike.refl U.vm) h.2⟩
theorem Str.at {Λ : Lay} {q v : Nat} {s U : State} {H : Heap} {locs : List Loc} (h : Str Λ q v s) (hS : va_S (inL Λ) s.heap H locs) (hU : U.heap = H) (hW : s.WarmedH U.vm) : Str Λ q v U := by
  have hk : ∀ a : Nat, a < s.heap.size → ¬ inL Λ a → U.heap[a]? = s.heap[a]? := fun a h1 h2 => by rw [hU]; exact hS.2.1 a h1 h2
  exact ⟨(vk_S.moved hW.alike h.1).kept hk, (va_Z.moved hW.alike h.2).kept hk⟩
theorem ps_blind {G : va_G} {Λ : Lay} {μ : Mem} {q v : Nat} {av : List Value} : FrameBlind (PS G Λ μ q v av) := fun a _ g mk h => ⟨h.1, ⟨h.2.1.1.blind g mk a, h.2.1.2⟩, h.2.2.blind g mk a⟩
section SR
variable {p : Program} {l : Launch} {e : Env} {R : Room} {s : State} {m : MethodId} {args : Array Value} {below : List Frame} {meth : Method} {c : Code} {H : Heap} {locs : List Loc} {cells slots : Nat} {Q : State → Prop}
variable {G : va_G} {Λ : Lay} {μ μ1 : Mem} {cc : ByteArray} {pc nL q v : Nat} {ls : Array Slot} {rest st0 : List Value} {own : String} {A : Nat → Prop} {H0 : Heap} {a : Nat}
variable {y : MethodName} {bytes : ByteArray} {maxL n index d : Nat} {ret : Option FieldType} {As : List Value}
theorem ofS {y : MethodName} {ret : Option FieldType} {d : Nat} {av : List Value} {Qc : Array Value → State → Outcome → State → Prop} (hy : plainFor y = true) (how : y.cls = own) (hsl : (lg_sl av).length ≤ nL)
    (body : ∀ p e s m args below meth c ls, CallFix p m c cc nL s args tw own → KK G Λ s → Wd G Λ μ s.heap → Str Λ q v s → meth.sig.returnType = ret → meth.locks = false → lv_has ls nL (lv_args 0 av) →
      W p l e (rmd d) s m args below meth c s.heap [] 0 0 (MQ below Qc args s 0 0 (inL Λ)) (F0 m 0 ls [])) : CS l G Λ y cc nL ret d μ q v av Qc := by
  refine va_MetF (cc := cc) (maxL := nL) (ret := ret) hy rfl ?_
  intro p e s m args below meth c s₁ B hml hv
  obtain ⟨rfl, ⟨hK, hW⟩, hX⟩ := hv
  have hts := atoms_spec (ws := wsm y cc nL ret) B.pre
  have hl := lv_entry av hsl
  rw [lg_entry_eq]
  exact body p e s m _ below meth c _ ⟨B.exec, B.bytes, hml, how ▸ findClass_of_methodNamed B.named, fun w h => hts w (List.mem_cons_of_mem _ h)⟩ hK hW hX B.returns B.notSynchronized hl
theorem str_recv (hX : Str Λ q v s) (hS : va_S (inL Λ) s.heap H locs) : ∃ cell : Cell, H[q]? = some cell ∧ cell.vm.isStatics = false ∧ s.vm.findClass "java/lang/String" = some cell.cls := vk_recv (i := 0) hX.1 (by decide) hS
theorem runQ {Qc : Array Value → State → Outcome → State → Prop} (hF : CallFix p m c cc nL s args tw own) (hKK : KK G Λ s) (hW : Wd G Λ μ H) (hX : Str Λ q v s) (hS : va_S (inL Λ) s.heap H locs) (hl : ls.size = nL) (hM : CS l G Λ y bytes maxL ret d μ q v (.ref q :: As) Qc) (cw : CallW R s args own "java/lang/String" index y bytes maxL ret (wsm y bytes maxL ret) (rmd d) 0 0 n)
    (hn : As.length = n) (hst : st0 = As.reverse ++ .ref q :: rest) (hW8 : (rest.map fun v => v.category).sum ≤ 8) (hdg : decode cc pc = .ok (.invokevirtual index, 3)) (hf : cells ≤ R.cells ∧ slots ≤ R.slots) :
    va_Run p l e R s m args below meth c H locs cells slots 0 0 (F0 m pc ls st0) rest (Qc (Value.ref q :: As).toArray) (inL Λ) :=
  va_runV hF hM cw ⟨ps_blind, str_recv hX hS, fun U hU hWm => ⟨rfl, ⟨hKK.at hS hU hWm, by rw [hU]; exact hW⟩, hX.at hS hU hWm⟩⟩ rfl hn hl hst (lv_room hW8) hdg hf
theorem runR {Qc : Array Value → State → Outcome → State → Prop} (hF : CallFix p m c cc nL s args tw own) (hKK : KK G Λ s) (hW : Wd G Λ μ H) (hX : Str Λ q v s) (hS : va_S (inL Λ) s.heap H locs) (hl : ls.size = nL) (hM : CS l G Λ y bytes maxL ret d μ q v As Qc) (cw : CallB R s args own index y bytes maxL ret (wsm y bytes maxL ret) (rmd d) 0 0 n ∧ (Cond.static y).before args s = true)
    (hn : As.length = n) (hst : st0 = As.reverse ++ rest) (hW8 : (rest.map fun v => v.category).sum ≤ 8) (hdg : decode cc pc = .ok (.invokestatic index, 3)) (hf : cells ≤ R.cells ∧ slots ≤ R.slots) :
    va_Run p l e R s m args below meth c H locs cells slots 0 0 (F0 m pc ls st0) rest (Qc As.toArray) (inL Λ) :=
  va_runS hF hM cw ⟨ps_blind, fun U hU hWm => ⟨rfl, ⟨hKK.at hS hU hWm, by rw [hU]; exact hW⟩, hX.at hS hU hWm⟩⟩ rfl hn hl hst (lv_room hW8) hdg hf
theorem i8_eq : ∀ n, n < 256 → ∀ j, j < 6 → ((nI n).toInt8.toInt32 = (strB.getD 0 []).getD j 0 ↔ nI n = (strB.getD 0 []).getD j 0) := by decide +kernel
theorem bw_none {x : Int32} (h : ∀ j, j < 6 → x ≠ (strB.getD 0 []).getD j 0) : bwIdx x = -1 := by
  unfold bwIdx
  rw [if_neg (show x ≠ 98 from h 0 (by decide)), if_neg (show x ≠ 119 from h 1 (by decide)), if_neg (show x ≠ 106 from h 2 (by decide)), if_neg (show x ≠ 99 from h 3 (by decide)), if_neg (show x ≠ 116 from h 4 (by decide)), if_neg (show x ≠ 117 from h 5 (by decide))]
set_option maxHeartbeats 4000000 in
set_option maxRecDepth 100000 in
/-- indexOfChar over the constant's bytes -/
theorem cS_ioc (l : Launch) {n : Nat} (hn : n < 256) : CS l G Λ yJ1_indexOfChar_4cfef cJ1_indexOfChar_4cfef 6 (some .int) 0 μ q v [.ref v, .int (nI n), .int 0, .int 6] (QI G Λ (bwIdx (nI n)) μ) := by
  refine ofS (own := RJ1) (by decide +kernel) rfl (Nat.le_of_ble_eq_true rfl) (fun p e s m args below meth c ls hF hKK hW hX hr hlocks hl => ?_)
  have hx := hF.1
  have hb := hF.2.1
  have hS : va_S (inL Λ) s.heap s.heap [] := va_S.rf
  have hl : lv_has ls 6 [(0, .ref v), (1, .int (nI n)), (2, .int 0), (3, .int 6)] := hl
  have hT : va_T .byte v 6 (fun j => .int ((strB.getD 0 []).getD j 0)) (inL Λ) s s.heap := (hX.1.1 0 (by decide)).2.2.2
  refine lv_iload_n hx hb dJ1_indexOfChar_4cfef_0 rfl (lv_at hl 1 rfl) ?_
  refine lv_i2b (v := (nI n).toInt8.toInt32) hx hb dJ1_indexOfChar_4cfef_1 rfl ?_
  refine lv_istore (lv' := [(4, .int (nI n).toInt8.toInt32), (0, .ref v), (1, .int (nI n)), (2, .int 0), (3, .int 6)]) hx hb dJ1_indexOfChar_4cfef_2 hl (by decide) rfl (fun ls hl => ?_)
  refine lv_iload_n hx hb dJ1_indexOfChar_4cfef_4 rfl (lv_at hl 3 rfl) ?_
  refine lv_istore (lv' := [(5, .int 0), (4, .int (nI n).toInt8.toInt32), (0, .ref v), (1, .int (nI n)), (2, .int 0), (3, .int 6)]) hx hb dJ1_indexOfChar_4cfef_5 hl (by decide) rfl (fun ls hl => ?_)
  refine lv_iload hx hb dJ1_indexOfChar_4cfef_7 (lv_at hl 0 rfl) ?_
  refine lv_iload_n hx hb dJ1_indexOfChar_4cfef_9 rfl (lv_at hl 5 rfl) ?_
  refine lv_icmp_ge (tgt := 31) hx hb dJ1_indexOfChar_4cfef_10 (by decide) (fun z => absurd z (by decide)) (fun _ => ?_)
  refine lv_aload_n hx hb dJ1_indexOfChar_4cfef_13 rfl (lv_at hl 2 rfl) ?_
  refine lv_iload hx hb dJ1_indexOfChar_4cfef_14 (lv_at hl 0 rfl) ?_
  refine va_tb (v := .int 98) hx hb hT hS (i := 0) (show inb 0 6 by decide) (congrArg Value.int (by decide +kernel)) dJ1_indexOfChar_4cfef_16 ?_
  refine lv_iload hx hb dJ1_indexOfChar_4cfef_17 (lv_at hl 1 rfl) ?_
  refine lv_icmp_ne (tgt := 25) hx hb dJ1_indexOfChar_4cfef_19 (by decide) (fun e0 => ?_) (fun e0 => ?_)
  rotate_left
  · refine lv_iload hx hb dJ1_indexOfChar_4cfef_22 (lv_at hl 0 rfl) ?_
    have e : nI n = 98 := (i8_eq n hn 0 (by decide)).mp e0.symm
    have e2 : bwIdx (nI n) = 0 := by rw [e]; decide
    rw [e2]
    exact wr_i hF hr hlocks rfl hW hS dJ1_indexOfChar_4cfef_24
  refine lv_iinc (v := 1) (lv' := [(5, .int 1), (4, .int (nI n).toInt8.toInt32), (0, .ref v), (1, .int (nI n)), (2, .int 0), (3, .int 6)]) hx hb dJ1_indexOfChar_4cfef_25 hl (k := 0) rfl (by decide) (by decide) rfl (fun ls hl => ?_)
  refine lv_goto (tgt := 7) hx hb dJ1_indexOfChar_4cfef_28 (by decide) ?_
  refine lv_iload hx hb dJ1_indexOfChar_4cfef_7 (lv_at hl 0 rfl) ?_
  refine lv_iload_n hx hb dJ1_indexOfChar_4cfef_9 rfl (lv_at hl 5 rfl) ?_
  refine lv_icmp_ge (tgt := 31) hx hb dJ1_indexOfChar_4cfef_10 (by decide) (fun z => absurd z (by decide)) (fun _ => ?_)
  refine lv_aload_n hx hb dJ1_indexOfChar_4cfef_13 rfl (lv_at hl 2 rfl) ?_
  refine lv_iload hx hb dJ1_indexOfChar_4cfef_14 (lv_at hl 0 rfl) ?_
  refine va_tb (v := .int 119) hx hb hT hS (i := 1) (show inb 1 6 by decide) (congrArg Value.int (by decide +kernel)) dJ1_indexOfChar_4cfef_16 ?_
  refine lv_iload hx hb dJ1_indexOfChar_4cfef_17 (lv_at hl 1 rfl) ?_
  refine lv_icmp_ne (tgt := 25) hx hb dJ1_indexOfChar_4cfef_19 (by decide) (fun e1 => ?_) (fun e1 => ?_)
  rotate_left
  · refine lv_iload hx hb dJ1_indexOfChar_4cfef_22 (lv_at hl 0 rfl) ?_
    have e : nI n = 119 := (i8_eq n hn 1 (by decide)).mp e1.symm
    have e2 : bwIdx (nI n) = 1 := by rw [e]; decide
    rw [e2]
    exact wr_i hF hr hlocks rfl hW hS dJ1_indexOfChar_4cfef_24
  refine lv_iinc (v := 2) (lv' := [(5, .int 2), (4, .int (nI n).toInt8.toInt32), (0, .ref v), (1, .int (nI n)), (2, .int 0), (3, .int 6)]) hx hb dJ1_indexOfChar_4cfef_25 hl (k := 0) rfl (by decide) (by decide) rfl (fun ls hl => ?_)
  refine lv_goto (tgt := 7) hx hb dJ1_indexOfChar_4cfef_28 (by decide) ?_
  refine lv_iload hx hb dJ1_indexOfChar_4cfef_7 (lv_at hl 0 rfl) ?_
  refine lv_iload_n hx hb dJ1_indexOfChar_4cfef_9 rfl (lv_at hl 5 rfl) ?_
  refine lv_icmp_ge (tgt := 31) hx hb dJ1_indexOfChar_4cfef_10 (by decide) (fun z => absurd z (by decide)) (fun _ => ?_)
  refine lv_aload_n hx hb dJ1_indexOfChar_4cfef_13 rfl (lv_at hl 2 rfl) ?_
  refine lv_iload hx hb dJ1_indexOfChar_4cfef_14 (lv_at hl 0 rfl) ?_
  refine va_tb (v := .int 106) hx hb hT hS (i := 2) (show inb 2 6 by decide) (congrArg Value.int (by decide +kernel)) dJ1_indexOfChar_4cfef_16 ?_
  refine lv_iload hx hb dJ1_indexOfChar_4cfef_17 (lv_at hl 1 rfl) ?_
  refine lv_icmp_ne (tgt := 25) hx hb dJ1_indexOfChar_4cfef_19 (by decide) (fun e2 => ?_) (fun e2 => ?_)
  rotate_left
  · refine lv_iload hx hb dJ1_indexOfChar_4cfef_22 (lv_at hl 0 rfl) ?_
    have e : nI n = 106 := (i8_eq n hn 2 (by decide)).mp e2.symm
    have e2 : bwIdx (nI n) = 2 := by rw [e]; decide
    rw [e2]
    exact wr_i hF hr hlocks rfl hW hS dJ1_indexOfChar_4cfef_24
  refine lv_iinc (v := 3) (lv' := [(5, .int 3), (4, .int (nI n).toInt8.toInt32), (0, .ref v), (1, .int (nI n)), (2, .int 0), (3, .int 6)]) hx hb dJ1_indexOfChar_4cfef_25 hl (k := 0) rfl (by decide) (by decide) rfl (fun ls hl => ?_)
  refine lv_goto (tgt := 7) hx hb dJ1_indexOfChar_4cfef_28 (by decide) ?_
  refine lv_iload hx hb dJ1_indexOfChar_4cfef_7 (lv_at hl 0 rfl) ?_
  refine lv_iload_n hx hb dJ1_indexOfChar_4cfef_9 rfl (lv_at hl 5 rfl) ?_
  refine lv_icmp_ge (tgt := 31) hx hb dJ1_indexOfChar_4cfef_10 (by decide) (fun z => absurd z (by decide)) (fun _ => ?_)
  refine lv_aload_n hx hb dJ1_indexOfChar_4cfef_13 rfl (lv_at hl 2 rfl) ?_
  refine lv_iload hx hb dJ1_indexOfChar_4cfef_14 (lv_at hl 0 rfl) ?_
  refine va_tb (v := .int 99) hx hb hT hS (i := 3) (show inb 3 6 by decide) (congrArg Value.int (by decide +kernel)) dJ1_indexOfChar_4cfef_16 ?_
  refine lv_iload hx hb dJ1_indexOfChar_4cfef_17 (lv_at hl 1 rfl) ?_
  refine lv_icmp_ne (tgt := 25) hx hb dJ1_indexOfChar_4cfef_19 (by decide) (fun e3 => ?_) (fun e3 => ?_)
  rotate_left
  · refine lv_iload hx hb dJ1_indexOfChar_4cfef_22 (lv_at hl 0 rfl) ?_
    have e : nI n = 99 := (i8_eq n hn 3 (by decide)).mp e3.symm
    have e2 : bwIdx (nI n) = 3 := by rw [e]; decide
    rw [e2]
    exact wr_i hF hr hlocks rfl hW hS dJ1_indexOfChar_4cfef_24
  refine lv_iinc (v := 4) (lv' := [(5, .int 4), (4, .int (nI n).toInt8.toInt32), (0, .ref v), (1, .int (nI n)), (2, .int 0), (3, .int 6)]) hx hb dJ1_indexOfChar_4cfef_25 hl (k := 0) rfl (by decide) (by decide) rfl (fun ls hl => ?_)
  refine lv_goto (tgt := 7) hx hb dJ1_indexOfChar_4cfef_28 (by decide) ?_
  refine lv_iload hx hb dJ1_indexOfChar_4cfef_7 (lv_at hl 0 rfl) ?_
  refine lv_iload_n hx hb dJ1_indexOfChar_4cfef_9 rfl (lv_at hl 5 rfl) ?_
  refine lv_icmp_ge (tgt := 31) hx hb dJ1_indexOfChar_4cfef_10 (by decide) (fun z => absurd z (by decide)) (fun _ => ?_)
  refine lv_aload_n hx hb dJ1_indexOfChar_4cfef_13 rfl (lv_at hl 2 rfl) ?_
  refine lv_iload hx hb dJ1_indexOfChar_4cfef_14 (lv_at hl 0 rfl) ?_
  refine va_tb (v := .int 116) hx hb hT hS (i := 4) (show inb 4 6 by decide) (congrArg Value.int (by decide +kernel)) dJ1_indexOfChar_4cfef_16 ?_
  refine lv_iload hx hb dJ1_indexOfChar_4cfef_17 (lv_at hl 1 rfl) ?_
  refine lv_icmp_ne (tgt := 25) hx hb dJ1_indexOfChar_4cfef_19 (by decide) (fun e4 => ?_) (fun e4 => ?_)
  rotate_left
  · refine lv_iload hx hb dJ1_indexOfChar_4cfef_22 (lv_at hl 0 rfl) ?_
    have e : nI n = 116 := (i8_eq n hn 4 (by decide)).mp e4.symm
    have e2 : bwIdx (nI n) = 4 := by rw [e]; decide
    rw [e2]
    exact wr_i hF hr hlocks rfl hW hS dJ1_indexOfChar_4cfef_24
  refine lv_iinc (v := 5) (lv' := [(5, .int 5), (4, .int (nI n).toInt8.toInt32), (0, .ref v), (1, .int (nI n)), (2, .int 0), (3, .int 6)]) hx hb dJ1_indexOfChar_4cfef_25 hl (k := 0) rfl (by decide) (by decide) rfl (fun ls hl => ?_)
  refine lv_goto (tgt := 7) hx hb dJ1_indexOfChar_4cfef_28 (by decide) ?_
  refine lv_iload hx hb dJ1_indexOfChar_4cfef_7 (lv_at hl 0 rfl) ?_
  refine lv_iload_n hx hb dJ1_indexOfChar_4cfef_9 rfl (lv_at hl 5 rfl) ?_
  refine lv_icmp_ge (tgt := 31) hx hb dJ1_indexOfChar_4cfef_10 (by decide) (fun z => absurd z (by decide)) (fun _ => ?_)
  refine lv_aload_n hx hb dJ1_indexOfChar_4cfef_13 rfl (lv_at hl 2 rfl) ?_
  refine lv_iload hx hb dJ1_indexOfChar_4cfef_14 (lv_at hl 0 rfl) ?_
  refine va_tb (v := .int 117) hx hb hT hS (i := 5) (show inb 5 6 by decide) (congrArg Value.int (by decide +kernel)) dJ1_indexOfChar_4cfef_16 ?_
  refine lv_iload hx hb dJ1_indexOfChar_4cfef_17 (lv_at hl 1 rfl) ?_
  refine lv_icmp_ne (tgt := 25) hx hb dJ1_indexOfChar_4cfef_19 (by decide) (fun e5 => ?_) (fun e5 => ?_)
  rotate_left
  · refine lv_iload hx hb dJ1_indexOfChar_4cfef_22 (lv_at hl 0 rfl) ?_
    have e : nI n = 117 := (i8_eq n hn 5 (by decide)).mp e5.symm
    have e2 : bwIdx (nI n) = 5 := by rw [e]; decide
    rw [e2]
    exact wr_i hF hr hlocks rfl hW hS dJ1_indexOfChar_4cfef_24
  refine lv_iinc (v := 6) (lv' := [(5, .int 6), (4, .int (nI n).toInt8.toInt32), (0, .ref v), (1, .int (nI n)), (2, .int 0), (3, .int 6)]) hx hb dJ1_indexOfChar_4cfef_25 hl (k := 0) rfl (by decide) (by decide) rfl (fun ls hl => ?_)
  refine lv_goto (tgt := 7) hx hb dJ1_indexOfChar_4cfef_28 (by decide) ?_
  refine lv_iload hx hb dJ1_indexOfChar_4cfef_7 (lv_at hl 0 rfl) ?_
  refine lv_iload_n hx hb dJ1_indexOfChar_4cfef_9 rfl (lv_at hl 5 rfl) ?_
  refine lv_icmp_ge (tgt := 31) hx hb dJ1_indexOfChar_4cfef_10 (by decide) (fun _ => ?_) (fun z => absurd (by decide) z)
  refine lv_iconst (v := (-1 : Int32)) hx hb dJ1_indexOfChar_4cfef_31 (by decide) ?_
  have e2 : bwIdx (nI n) = -1 := bw_none (fun j hj e => by
    have w := (i8_eq n hn j hj).mpr e
    have : j = 0 ∨ j = 1 ∨ j = 2 ∨ j = 3 ∨ j = 4 ∨ j = 5 := by omega
    rcases this with z | z | z | z | z | z
    · subst z; exact e0 w.symm
    · subst z; exact e1 w.symm
    · subst z; exact e2 w.symm
    · subst z; exact e3 w.symm
    · subst z; exact e4 w.symm
    · subst z; exact e5 w.symm)
  rw [e2]
  exact wr_i hF hr hlocks rfl hW hS dJ1_indexOfChar_4cfef_32
set_option maxHeartbeats 4000000 in
set_option maxRecDepth 100000 in
theorem cS_can (l : Launch) (x : Int32) : CS l G Λ yJ1_canEncode_9a6ad cJ1_canEncode_9a6ad 1 (some .boolean) 0 μ q v [.int x] (QI G Λ (if x < 0 then 0 else if (255 : Int32) < x then 0 else 1) μ) := by
  refine ofS (own := RJ1) (by decide +kernel) rfl (Nat.le_of_ble_eq_true rfl) (fun p e s m args below meth c ls hF hKK hW hX hr hlocks hl => ?_)
  have hx := hF.1
  have hb := hF.2.1
  have hS : va_S (inL Λ) s.heap s.heap [] := va_S.rf
  have hl : lv_has ls 1 [(0, .int x)] := hl
  refine lv_iload_n hx hb dJ1_canEncode_9a6ad_0 rfl (lv_at hl 0 rfl) ?_
  refine lv_if_lt (tgt := 15) hx hb dJ1_canEncode_9a6ad_1 (by decide) (fun z => ?_) (fun z => ?_)
  · refine lv_iconst (v := (0 : Int32)) hx hb dJ1_canEncode_9a6ad_15 (by decide) ?_
    rw [if_pos z]
    exact wr_i hF hr hlocks (isB_nar (Or.inl rfl)) hW hS dJ1_canEncode_9a6ad_16
  · rw [if_neg z]
    refine lv_iload_n hx hb dJ1_canEncode_9a6ad_4 rfl (lv_at hl 0 rfl) ?_
    refine lv_sipush (v := (255 : Int32)) hx hb dJ1_canEncode_9a6ad_5 (by decide) ?_
    refine lv_icmp_gt (tgt := 15) hx hb dJ1_canEncode_9a6ad_8 (by decide) (fun z => ?_) (fun z => ?_)
    · refine lv_iconst (v := (0 : Int32)) hx hb dJ1_canEncode_9a6ad_15 (by decide) ?_
      rw [if_pos (show (255 : Int32) < x from z)]
      exact wr_i hF hr hlocks (isB_nar (Or.inl rfl)) hW hS dJ1_canEncode_9a6ad_16
    · refine lv_iconst (v := (1 : Int32)) hx hb dJ1_canEncode_9a6ad_11 (by decide) ?_
      refine lv_goto (tgt := 16) hx hb dJ1_canEncode_9a6ad_12 (by decide) ?_
      rw [if_neg (show ¬ (255 : Int32) < x from z)]
      exact wr_i hF hr hlocks (isB_nar (Or.inr rfl)) hW hS dJ1_canEncode_9a6ad_16
set_option maxHeartbeats 4000000 in
set_option maxRecDepth 100000 in
theorem cS_ix (l : Launch) (x : Int32) : CS l G Λ yJ1_indexOf_4cfef cJ1_indexOf_4cfef 4 (some .int) 1 μ q v [.ref v, .int x, .int 0, .int 6] (QI G Λ (bwIdx x) μ) := by
  refine ofS (own := RJ1) (by decide +kernel) rfl (Nat.le_of_ble_eq_true rfl) (fun p e s m args below meth c ls hF hKK hW hX hr hlocks hl => ?_)
  have hx := hF.1
  have hb := hF.2.1
  have hS : va_S (inL Λ) s.heap s.heap [] := va_S.rf
  have hl : lv_has ls 4 [(0, .ref v), (1, .int x), (2, .int 0), (3, .int 6)] := hl
  have hT : va_T .byte v 6 (fun j => .int ((strB.getD 0 []).getD j 0)) (inL Λ) s s.heap := (hX.1.1 0 (by decide)).2.2.2
  have neg : (x < 0 ∨ (255 : Int32) < x) → bwIdx x = -1 := fun z => bw_none (fun j hj e => by
    have : j = 0 ∨ j = 1 ∨ j = 2 ∨ j = 3 ∨ j = 4 ∨ j = 5 := by omega
    rcases this with w | w | w | w | w | w <;> subst w <;> subst e <;> rcases z with z | z <;> revert z <;> decide)
  refine lv_iload_n hx hb dJ1_indexOf_4cfef_0 rfl (lv_at hl 1 rfl) ?_
  refine end_i (runR (rest := []) hF hKK hW hX hS hl.1 (cS_can l x) (kwS 1 ws_1098 ws_1096 ws_1097 ws_74 (by decide +kernel) hF.2.2.2.2 ⟨Nat.le_of_ble_eq_true rfl, Nat.le_of_ble_eq_true rfl⟩) rfl rfl (Nat.le_of_ble_eq_true rfl) dJ1_indexOf_4cfef_1 ⟨Nat.zero_le _, Nat.zero_le _⟩) hS (fun H locs hW hS => ?_)
  refine lv_if_ne (tgt := 9) hx hb dJ1_indexOf_4cfef_4 (by decide) (fun z => ?_) (fun z => ?_)
  · have h1 : ¬ x < 0 := fun w => z (if_pos w)
    have h2 : ¬ (255 : Int32) < x := fun w => z (by rw [if_neg h1, if_pos w])
    obtain ⟨n, hn, rfl⟩ : ∃ n, n < 256 ∧ x = nI n := by
      obtain ⟨j, hj, ej⟩ := nI_of h1
      refine ⟨j, ?_, ej⟩
      rw [ej, show (255 : Int32) = nI 255 from rfl, nI_ltI (by omega) hj] at h2
      omega
    refine lv_iload_n hx hb dJ1_indexOf_4cfef_9 rfl (lv_at hl 2 rfl) ?_
    refine lv_iconst (v := (0 : Int32)) hx hb dJ1_indexOf_4cfef_10 (by decide) ?_
    refine va_mmax hx hb (hF.2.2.1.trans hl.1.symm) hF.2.2.2.1 (hF.2.2.2.2 _ ws_1099) (hF.2.2.2.2 _ wd_426) (hF.2.2.2.2 _ ws_71) (hF.2.2.2.2 _ wd_427) (Nat.le_of_ble_eq_true rfl) (Nat.le_of_ble_eq_true rfl) (Nat.zero_le _) (Nat.zero_le _) dJ1_indexOf_4cfef_11 ?_
    refine lv_istore_n (lv' := [(2, .int 0), (0, .ref v), (1, .int (nI n)), (3, .int 6)]) hx hb dJ1_indexOf_4cfef_14 rfl hl (by decide) rfl (fun ls hl => ?_)
    refine lv_iload_n hx hb dJ1_indexOf_4cfef_15 rfl (lv_at hl 3 rfl) ?_
    refine lv_aload_n hx hb dJ1_indexOf_4cfef_16 rfl (lv_at hl 1 rfl) ?_
    refine va_tlen (v := (6 : Int32)) hx hb hT hS (by decide) dJ1_indexOf_4cfef_17 ?_
    refine va_mmin hx hb (hF.2.2.1.trans hl.1.symm) hF.2.2.2.1 (hF.2.2.2.2 _ ws_1100) (hF.2.2.2.2 _ wd_267) (hF.2.2.2.2 _ ws_71) (hF.2.2.2.2 _ wd_268) (Nat.le_of_ble_eq_true rfl) (Nat.le_of_ble_eq_true rfl) (Nat.zero_le _) (Nat.zero_le _) dJ1_indexOf_4cfef_18 ?_
    refine lv_istore_n (lv' := [(3, .int 6), (2, .int 0), (0, .ref v), (1, .int (nI n))]) hx hb dJ1_indexOf_4cfef_21 rfl hl (by decide) rfl (fun ls hl => ?_)
    refine lv_iload_n hx hb dJ1_indexOf_4cfef_22 rfl (lv_at hl 1 rfl) ?_
    refine lv_iload_n hx hb dJ1_indexOf_4cfef_23 rfl (lv_at hl 0 rfl) ?_
    refine lv_icmp_lt (tgt := 29) hx hb dJ1_indexOf_4cfef_24 (by decide) (fun _ => ?_) (fun z => absurd (by decide) z)
    refine lv_aload_n hx hb dJ1_indexOf_4cfef_29 rfl (lv_at hl 2 rfl) ?_
    refine lv_iload_n hx hb dJ1_indexOf_4cfef_30 rfl (lv_at hl 3 rfl) ?_
    refine lv_iload_n hx hb dJ1_indexOf_4cfef_31 rfl (lv_at hl 1 rfl) ?_
    refine lv_iload_n hx hb dJ1_indexOf_4cfef_32 rfl (lv_at hl 0 rfl) ?_
    refine end_i (runR (rest := []) hF hKK hW hX hS hl.1 (cS_ioc l hn) (kwS 4 ws_1103 ws_1101 ws_1102 ws_74 (by decide +kernel) hF.2.2.2.2 ⟨Nat.le_of_ble_eq_true rfl, Nat.le_of_ble_eq_true rfl⟩) rfl rfl (Nat.le_of_ble_eq_true rfl) dJ1_indexOf_4cfef_33 ⟨Nat.zero_le _, Nat.zero_le _⟩) hS (fun H locs hW hS => ?_)
    exact wr_i hF hr hlocks rfl hW hS dJ1_indexOf_4cfef_36
  · have e : bwIdx x = -1 := by
      by_cases h1 : x < 0
      · exact neg (Or.inl h1)
      · rw [if_neg h1] at z
        by_cases h2 : (255 : Int32) < x
        · exact neg (Or.inr h2)
        · rw [if_neg h2] at z
          exact absurd z (by decide)
    refine lv_iconst (v := (-1 : Int32)) hx hb dJ1_indexOf_4cfef_7 (by decide) ?_
    rw [e]
    exact wr_i hF hr hlocks rfl hW hS dJ1_indexOf_4cfef_8
set_option maxHeartbeats 4000000 in
set_option maxRecDepth 100000 in
theorem cS_lat (l : Launch) : CS l G Λ yJ0_isLatin1_aae02 cJ0_isLatin1_aae02 1 (some .boolean) 0 μ q v [.ref q] (QI G Λ 1 μ) := by
  refine ofS (own := RJ0) (by decide +kernel) rfl (Nat.le_of_ble_eq_true rfl) (fun p e s m args below meth c ls hF hKK hW hX hr hlocks hl => ?_)
  have hx := hF.1
  have hb := hF.2.1
  have hS : va_S (inL Λ) s.heap s.heap [] := va_S.rf
  have hl : lv_has ls 1 [(0, .ref q)] := hl
  refine va_gets (C := "java/lang/String") (ref := "java/lang/String") hx hb hX.2 hS hF.2.2.2.1 (hF.2.2.2.2 _ ws_1083) (fun _ h => h) dJ0_isLatin1_aae02_0 ?_
  refine lv_if_eq (tgt := 17) hx hb dJ0_isLatin1_aae02_3 (by decide) (fun z => absurd z (by decide)) (fun _ => ?_)
  refine lv_aload_n hx hb dJ0_isLatin1_aae02_6 rfl (lv_at hl 0 rfl) ?_
  refine vk_getf (ref := "java/lang/String") hx hb (hX.1.1 0 (by decide)).2.1 hS hF.2.2.2.1 (hF.2.2.2.2 _ ws_1238) (fun _ h => h) dJ0_isLatin1_aae02_7 ?_
  refine lv_if_ne (tgt := 17) hx hb dJ0_isLatin1_aae02_10 (by decide) (fun z => absurd rfl z) (fun _ => ?_)
  refine lv_iconst (v := (1 : Int32)) hx hb dJ0_isLatin1_aae02_13 (by decide) ?_
  refine lv_goto (tgt := 18) hx hb dJ0_isLatin1_aae02_14 (by decide) ?_
  exact wr_i hF hr hlocks (isB_nar (Or.inr rfl)) hW hS dJ0_isLatin1_aae02_18
set_option maxHeartbeats 4000000 in
set_option maxRecDepth 100000 in
theorem cS_cod (l : Launch) : CS l G Λ yJ0_coder_7d493 cJ0_coder_7d493 1 (some .byte) 0 μ q v [.ref q] (QI G Λ 0 μ) := by
  refine ofS (own := RJ0) (by decide +kernel) rfl (Nat.le_of_ble_eq_true rfl) (fun p e s m args below meth c ls hF hKK hW hX hr hlocks hl => ?_)
  have hx := hF.1
  have hb := hF.2.1
  have hS : va_S (inL Λ) s.heap s.heap [] := va_S.rf
  have hl : lv_has ls 1 [(0, .ref q)] := hl
  refine va_gets (C := "java/lang/String") (ref := "java/lang/String") hx hb hX.2 hS hF.2.2.2.1 (hF.2.2.2.2 _ ws_1083) (fun _ h => h) dJ0_coder_7d493_0 ?_
  refine lv_if_eq (tgt := 13) hx hb dJ0_coder_7d493_3 (by decide) (fun z => absurd z (by decide)) (fun _ => ?_)
  refine lv_aload_n hx hb dJ0_coder_7d493_6 rfl (lv_at hl 0 rfl) ?_
  refine vk_getf (ref := "java/lang/String") hx hb (hX.1.1 0 (by decide)).2.1 hS hF.2.2.2.1 (hF.2.2.2.2 _ ws_1238) (fun _ h => h) dJ0_coder_7d493_7 ?_
  refine lv_goto (tgt := 14) hx hb dJ0_coder_7d493_10 (by decide) ?_
  exact wr_i hF hr hlocks (by decide) hW hS dJ0_coder_7d493_14
set_option maxHeartbeats 4000000 in
set_option maxRecDepth 100000 in
theorem cS_len (l : Launch) : CS l G Λ yJ0_length_8abf5 cJ0_length_8abf5 1 (some .int) 1 μ q v [.ref q] (QI G Λ 6 μ) := by
  refine ofS (own := RJ0) (by decide +kernel) rfl (Nat.le_of_ble_eq_true rfl) (fun p e s m args below meth c ls hF hKK hW hX hr hlocks hl => ?_)
  have hx := hF.1
  have hb := hF.2.1
  have hS : va_S (inL Λ) s.heap s.heap [] := va_S.rf
  have hl : lv_has ls 1 [(0, .ref q)] := hl
  have hT : va_T .byte v 6 (fun j => .int ((strB.getD 0 []).getD j 0)) (inL Λ) s s.heap := (hX.1.1 0 (by decide)).2.2.2
  refine lv_aload_n hx hb dJ0_length_8abf5_0 rfl (lv_at hl 0 rfl) ?_
  refine vk_getf (ref := "java/lang/String") hx hb (hX.1.1 0 (by decide)).2.2.1 hS hF.2.2.2.1 (hF.2.2.2.2 _ ws_1239) (fun _ h => h) dJ0_length_8abf5_1 ?_
  refine va_tlen (v := (6 : Int32)) hx hb hT hS (by decide) dJ0_length_8abf5_4 ?_
  refine lv_aload_n hx hb dJ0_length_8abf5_5 rfl (lv_at hl 0 rfl) ?_
  refine end_i (runQ (rest := [.int 6]) (As := []) hF hKK hW hX hS hl.1 (cS_cod l) (kwV 0 ws_1092 ws_1089 ws_1090 ws_1091 ws_73 (by decide +kernel) hF.2.2.2.2 ⟨Nat.le_of_ble_eq_true rfl, Nat.le_of_ble_eq_true rfl⟩) rfl rfl (Nat.le_of_ble_eq_true rfl) dJ0_length_8abf5_6 ⟨Nat.zero_le _, Nat.zero_le _⟩) hS (fun H locs hW hS => ?_)
  refine lv_ishr hx hb dJ0_length_8abf5_9 ?_
  exact wr_i hF hr hlocks rfl hW hS dJ0_length_8abf5_10
set_option maxHeartbeats 4000000 in
set_option maxRecDepth 100000 in
theorem cS_idx2 (l : Launch) (x : Int32) : CS l G Λ yJ0_indexOf_7cf53 cJ0_indexOf_7cf53 3 (some .int) 2 μ q v [.ref q, .int x, .int 0] (QI G Λ (bwIdx x) μ) := by
  refine ofS (own := RJ0) (by decide +kernel) rfl (Nat.le_of_ble_eq_true rfl) (fun p e s m args below meth c ls hF hKK hW hX hr hlocks hl => ?_)
  have hx := hF.1
  have hb := hF.2.1
  have hS : va_S (inL Λ) s.heap s.heap [] := va_S.rf
  have hl : lv_has ls 3 [(0, .ref q), (1, .int x), (2, .int 0)] := hl
  refine lv_aload_n hx hb dJ0_indexOf_7cf53_0 rfl (lv_at hl 0 rfl) ?_
  refine end_i (runQ (rest := []) (As := []) hF hKK hW hX hS hl.1 (cS_lat l) (kwV 0 ws_1082 ws_1079 ws_1080 ws_1081 ws_73 (by decide +kernel) hF.2.2.2.2 ⟨Nat.le_of_ble_eq_true rfl, Nat.le_of_ble_eq_true rfl⟩) rfl rfl (Nat.le_of_ble_eq_true rfl) dJ0_indexOf_7cf53_1 ⟨Nat.zero_le _, Nat.zero_le _⟩) hS (fun H locs hW hS => ?_)
  refine lv_if_eq (tgt := 23) hx hb dJ0_indexOf_7cf53_4 (by decide) (fun z => absurd z (by decide)) (fun _ => ?_)
  refine lv_aload_n hx hb dJ0_indexOf_7cf53_7 rfl (lv_at hl 0 rfl) ?_
  refine vk_getf (ref := "java/lang/String") hx hb (hX.1.1 0 (by decide)).2.2.1 hS hF.2.2.2.1 (hF.2.2.2.2 _ ws_1239) (fun _ h => h) dJ0_indexOf_7cf53_8 ?_
  refine lv_iload_n hx hb dJ0_indexOf_7cf53_11 rfl (lv_at hl 1 rfl) ?_
  refine lv_iload_n hx hb dJ0_indexOf_7cf53_12 rfl (lv_at hl 2 rfl) ?_
  refine lv_aload_n hx hb dJ0_indexOf_7cf53_13 rfl (lv_at hl 0 rfl) ?_
  refine end_i (runQ (rest := [.int 0, .int x, .ref v]) (As := []) hF hKK hW hX hS hl.1 (cS_len l) (kwV 0 ws_1088 ws_1085 ws_1086 ws_1087 ws_73 (by decide +kernel) hF.2.2.2.2 ⟨Nat.le_of_ble_eq_true rfl, Nat.le_of_ble_eq_true rfl⟩) rfl rfl (Nat.le_of_ble_eq_true rfl) dJ0_indexOf_7cf53_14 ⟨Nat.zero_le _, Nat.zero_le _⟩) hS (fun H locs hW hS => ?_)
  refine end_i (runR (rest := []) hF hKK hW hX hS hl.1 (cS_ix l x) (kwS 4 ws_1095 ws_1093 ws_1094 ws_74 (by decide +kernel) hF.2.2.2.2 ⟨Nat.le_of_ble_eq_true rfl, Nat.le_of_ble_eq_true rfl⟩) rfl rfl (Nat.le_of_ble_eq_true rfl) dJ0_indexOf_7cf53_17 ⟨Nat.zero_le _, Nat.zero_le _⟩) hS (fun H locs hW hS => ?_)
  refine lv_goto (tgt := 36) hx hb dJ0_indexOf_7cf53_20 (by decide) ?_
  exact wr_i hF hr hlocks rfl hW hS dJ0_indexOf_7cf53_36
set_option maxHeartbeats 4000000 in
set_option maxRecDepth 100000 in
theorem cS_idx1 (l : Launch) (x : Int32) : CS l G Λ yJ0_indexOf_0f7a4 cJ0_indexOf_0f7a4 2 (some .int) 3 μ q v [.ref q, .int x] (QI G Λ (bwIdx x) μ) := by
  refine ofS (own := RJ0) (by decide +kernel) rfl (Nat.le_of_ble_eq_true rfl) (fun p e s m args below meth c ls hF hKK hW hX hr hlocks hl => ?_)
  have hx := hF.1
  have hb := hF.2.1
  have hS : va_S (inL Λ) s.heap s.heap [] := va_S.rf
  have hl : lv_has ls 2 [(0, .ref q), (1, .int x)] := hl
  refine lv_aload_n hx hb dJ0_indexOf_0f7a4_0 rfl (lv_at hl 0 rfl) ?_
  refine lv_iload_n hx hb dJ0_indexOf_0f7a4_1 rfl (lv_at hl 1 rfl) ?_
  refine lv_iconst (v := (0 : Int32)) hx hb dJ0_indexOf_0f7a4_2 (by decide) ?_
  refine end_i (runQ (rest := []) (As := [.int x, .int 0]) hF hKK hW hX hS hl.1 (cS_idx2 l x) (kwV 2 ws_1078 ws_1075 ws_1076 ws_1077 ws_73 (by decide +kernel) hF.2.2.2.2 ⟨Nat.le_of_ble_eq_true rfl, Nat.le_of_ble_eq_true rfl⟩) rfl rfl (Nat.le_of_ble_eq_true rfl) dJ0_indexOf_0f7a4_3 ⟨Nat.zero_le _, Nat.zero_le _⟩) hS (fun H locs hW hS => ?_)
  exact wr_i hF hr hlocks rfl hW hS dJ0_indexOf_0f7a4_6
theorem row_ldcS (hF : CallFix p m c cc nL s args tw RX5) (hKK : KK G Λ s) (hdg : decode cc pc = .ok (.ldc 211, 2)) (kk : ∀ q : Nat, Xs q s → W p l e R s m args below meth c H locs cells slots Q (F0 m (pc + 2) ls (.ref q :: rest))) : W p l e R s m args below meth c H locs cells slots Q (F0 m pc ls rest) := by
  obtain ⟨q, v, h1, -, -⟩ := hKK.2.2
  exact va_ldcS hF.1 hF.2.1 hF.2.2.2.1 h1 hdg (kk q h1)
theorem row_indexOf {q : Nat} {x : Int32} (hF : CallFix p m c cc nL s args tw RX5) (hKK : KK G Λ s) (hW : Wd G Λ μ H) (hS : va_S (inL Λ) s.heap H locs) (hq : Xs q s) (hl : ls.size = nL) (hW8 : (rest.map fun v => v.category).sum ≤ 8) (hR : 3 + 1 ≤ R.frames ∧ 8 + (2 + 11) + 40 * 3 ≤ R.locals) (hf : cells ≤ R.cells ∧ slots ≤ R.slots) (hdg : decode cc pc = .ok (.invokevirtual 213, 3)) (kk : ∀ (H : Heap) (locs : List Loc), Wd G Λ μ H → va_S (inL Λ) s.heap H locs → W p l e R s m args below meth c H locs cells slots Q (F0 m (pc + 3) ls (.int (bwIdx x) :: rest))) : W p l e R s m args below meth c H locs cells slots Q (F0 m pc ls (.int x :: .ref q :: rest)) := by
  obtain ⟨q', v, h1, h2, h3⟩ := hKK.2.2
  have e : q' = q := by
    have := h1.2.symm.trans hq.2
    injection this with this
    injection this
  subst e
  exact end_i (runQ (rest := rest) (As := [.int x]) hF hKK hW ⟨h2, h3⟩ hS hl (cS_idx1 l x) (kwV 1 ws_1074 ws_1071 ws_1072 ws_1073 ws_73 (by decide +kernel) hF.2.2.2.2 hR) rfl rfl hW8 hdg hf) hS kk
end SR
