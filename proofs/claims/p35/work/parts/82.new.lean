/-! WHAT IS MADE: constructors, their judgement; a new row. -/
theorem wn_16 : Cond.initialized "FerryRoundsLaw" ∈ tw := tw_mem (i := 16) (by decide +kernel) (by decide +kernel)
theorem wn_17 : Cond.initialized RX4 ∈ tw := tw_mem (i := 17) (by decide +kernel) (by decide +kernel)
theorem wn_18 : Cond.initialized RX1 ∈ tw := tw_mem (i := 18) (by decide +kernel) (by decide +kernel)
theorem wn_19 : Cond.initialized RX2 ∈ tw := tw_mem (i := 19) (by decide +kernel) (by decide +kernel)
theorem wn_20 : Cond.initialized RX0 ∈ tw := tw_mem (i := 20) (by decide +kernel) (by decide +kernel)
theorem wn_21 : Cond.initialized RX3 ∈ tw := tw_mem (i := 21) (by decide +kernel) (by decide +kernel)
theorem wn_29 : Cond.classLink "FerryRoundsLaw" 19 RX4 ∈ tw := tw_mem (i := 29) (by decide +kernel) (by decide +kernel)
theorem wn_30 : Cond.instantiable RX4 11 ∈ tw := tw_mem (i := 30) (by decide +kernel) (by decide +kernel)
theorem wn_31 : Cond.methodLink "FerryRoundsLaw" 163 yX4_init ∈ tw := tw_mem (i := 31) (by decide +kernel) (by decide +kernel)
theorem wn_32 : Cond.instanceMethod yX4_init ∈ tw := tw_mem (i := 32) (by decide +kernel) (by decide +kernel)
theorem wn_33 : Cond.code yX4_init cX4_init 1 none ∈ tw := tw_mem (i := 33) (by decide +kernel) (by decide +kernel)
theorem wn_34 : Cond.methodLink RX4 3 Lib.objectInit ∈ tw := tw_mem (i := 34) (by decide +kernel) (by decide +kernel)
theorem wn_35 : Cond.instanceMethod Lib.objectInit ∈ tw := tw_mem (i := 35) (by decide +kernel) (by decide +kernel)
theorem wn_36 : Cond.code Lib.objectInit ⟨#[0xb1]⟩ 1 none ∈ tw := tw_mem (i := 36) (by decide +kernel) (by decide +kernel)
theorem wn_37 : Cond.classLink RX4 9 RX1 ∈ tw := tw_mem (i := 37) (by decide +kernel) (by decide +kernel)
theorem wn_38 : Cond.instantiable RX1 7 ∈ tw := tw_mem (i := 38) (by decide +kernel) (by decide +kernel)
theorem wn_39 : Cond.methodLink RX4 11 yX1_init ∈ tw := tw_mem (i := 39) (by decide +kernel) (by decide +kernel)
theorem wn_40 : Cond.instanceMethod yX1_init ∈ tw := tw_mem (i := 40) (by decide +kernel) (by decide +kernel)
theorem wn_41 : Cond.code yX1_init cX1_init 2 none ∈ tw := tw_mem (i := 41) (by decide +kernel) (by decide +kernel)
theorem wn_42 : Cond.methodLink RX1 3 Lib.objectInit ∈ tw := tw_mem (i := 42) (by decide +kernel) (by decide +kernel)
theorem wn_43 : Cond.classLink RX1 9 RX2 ∈ tw := tw_mem (i := 43) (by decide +kernel) (by decide +kernel)
theorem wn_44 : Cond.instantiable RX2 2 ∈ tw := tw_mem (i := 44) (by decide +kernel) (by decide +kernel)
theorem wn_45 : Cond.methodLink RX1 11 yX2_init ∈ tw := tw_mem (i := 45) (by decide +kernel) (by decide +kernel)
theorem wn_46 : Cond.instanceMethod yX2_init ∈ tw := tw_mem (i := 46) (by decide +kernel) (by decide +kernel)
theorem wn_47 : Cond.code yX2_init cX2_init 2 none ∈ tw := tw_mem (i := 47) (by decide +kernel) (by decide +kernel)
theorem wn_48 : Cond.methodLink RX2 3 Lib.objectInit ∈ tw := tw_mem (i := 48) (by decide +kernel) (by decide +kernel)
theorem wn_56 : Cond.arrayClass .int ∈ tw := tw_mem (i := 56) (by decide +kernel) (by decide +kernel)
theorem wn_80 : Cond.classLink RX4 19 RX0 ∈ tw := tw_mem (i := 80) (by decide +kernel) (by decide +kernel)
theorem wn_81 : Cond.instantiable RX0 3 ∈ tw := tw_mem (i := 81) (by decide +kernel) (by decide +kernel)
theorem wn_82 : Cond.methodLink RX4 21 yX0_init ∈ tw := tw_mem (i := 82) (by decide +kernel) (by decide +kernel)
theorem wn_83 : Cond.instanceMethod yX0_init ∈ tw := tw_mem (i := 83) (by decide +kernel) (by decide +kernel)
theorem wn_84 : Cond.code yX0_init cX0_init 2 none ∈ tw := tw_mem (i := 84) (by decide +kernel) (by decide +kernel)
theorem wn_85 : Cond.methodLink RX0 3 Lib.objectInit ∈ tw := tw_mem (i := 85) (by decide +kernel) (by decide +kernel)
theorem wn_86 : Cond.classLink RX0 11 RX1 ∈ tw := tw_mem (i := 86) (by decide +kernel) (by decide +kernel)
theorem wn_88 : Cond.methodLink RX0 17 yX1_init ∈ tw := tw_mem (i := 88) (by decide +kernel) (by decide +kernel)
theorem wn_99 : Cond.classLink RX4 26 RX2 ∈ tw := tw_mem (i := 99) (by decide +kernel) (by decide +kernel)
theorem wn_100 : Cond.methodLink RX4 28 yX2_init ∈ tw := tw_mem (i := 100) (by decide +kernel) (by decide +kernel)
theorem wn_101 : Cond.classLink RX4 38 RX3 ∈ tw := tw_mem (i := 101) (by decide +kernel) (by decide +kernel)
theorem wn_102 : Cond.instantiable RX3 5 ∈ tw := tw_mem (i := 102) (by decide +kernel) (by decide +kernel)
theorem wn_103 : Cond.methodLink RX4 40 yX3_init ∈ tw := tw_mem (i := 103) (by decide +kernel) (by decide +kernel)
theorem wn_104 : Cond.instanceMethod yX3_init ∈ tw := tw_mem (i := 104) (by decide +kernel) (by decide +kernel)
theorem wn_105 : Cond.code yX3_init cX3_init 1 none ∈ tw := tw_mem (i := 105) (by decide +kernel) (by decide +kernel)
theorem wn_106 : Cond.methodLink RX3 3 Lib.objectInit ∈ tw := tw_mem (i := 106) (by decide +kernel) (by decide +kernel)
theorem wn_107 : Cond.classLink RX3 9 RX2 ∈ tw := tw_mem (i := 107) (by decide +kernel) (by decide +kernel)
theorem wn_108 : Cond.methodLink RX3 11 yX2_init ∈ tw := tw_mem (i := 108) (by decide +kernel) (by decide +kernel)
theorem wn_777 : Cond.arrayClass .byte ∈ tw := tw_mem (i := 777) (by decide +kernel) (by decide +kernel)
theorem wn_49 : Cond.fieldLink RX2 9 "FerryRounds$Row" "numbers" "[I" ∈ tw := tw_mem (i := 49) (by decide +kernel) (by decide +kernel)
theorem wn_50 : Cond.fieldLink RX2 15 "FerryRounds$Row" "length" "I" ∈ tw := tw_mem (i := 50) (by decide +kernel) (by decide +kernel)
theorem wn_58 : Cond.fieldLink RX1 14 "FerryRounds$River" "weights" "LFerryRounds$Row;" ∈ tw := tw_mem (i := 58) (by decide +kernel) (by decide +kernel)
theorem wn_59 : Cond.fieldLink RX1 20 "FerryRounds$River" "ropes" "LFerryRounds$Row;" ∈ tw := tw_mem (i := 59) (by decide +kernel) (by decide +kernel)
theorem wn_60 : Cond.fieldLink RX1 23 "FerryRounds$River" "rounds" "[LFerryRounds$Row;" ∈ tw := tw_mem (i := 60) (by decide +kernel) (by decide +kernel)
theorem wn_61 : Cond.fieldLink RX1 27 "FerryRounds$River" "noRound" "LFerryRounds$Row;" ∈ tw := tw_mem (i := 61) (by decide +kernel) (by decide +kernel)
theorem wn_62 : Cond.fieldLink RX1 38 "FerryRounds$River" "joins" "I" ∈ tw := tw_mem (i := 62) (by decide +kernel) (by decide +kernel)
theorem wn_63 : Cond.fieldLink RX1 42 "FerryRounds$River" "cuts" "I" ∈ tw := tw_mem (i := 63) (by decide +kernel) (by decide +kernel)
theorem wn_64 : Cond.fieldLink RX1 45 "FerryRounds$River" "turns" "I" ∈ tw := tw_mem (i := 64) (by decide +kernel) (by decide +kernel)
theorem wn_89 : Cond.fieldLink RX0 13 "FerryRounds$Past" "states" "[LFerryRounds$River;" ∈ tw := tw_mem (i := 89) (by decide +kernel) (by decide +kernel)
theorem wn_90 : Cond.fieldLink RX0 22 "FerryRounds$Past" "next" "I" ∈ tw := tw_mem (i := 90) (by decide +kernel) (by decide +kernel)
theorem wn_91 : Cond.fieldLink RX0 18 "FerryRounds$Past" "count" "I" ∈ tw := tw_mem (i := 91) (by decide +kernel) (by decide +kernel)
theorem wn_109 : Cond.fieldLink RX3 14 "FerryRounds$Script" "kinds" "LFerryRounds$Row;" ∈ tw := tw_mem (i := 109) (by decide +kernel) (by decide +kernel)
theorem wn_110 : Cond.fieldLink RX3 20 "FerryRounds$Script" "firsts" "LFerryRounds$Row;" ∈ tw := tw_mem (i := 110) (by decide +kernel) (by decide +kernel)
theorem wn_111 : Cond.fieldLink RX3 23 "FerryRounds$Script" "seconds" "LFerryRounds$Row;" ∈ tw := tw_mem (i := 111) (by decide +kernel) (by decide +kernel)
theorem wn_112 : Cond.fieldLink RX3 37 "FerryRounds$Script" "at" "I" ∈ tw := tw_mem (i := 112) (by decide +kernel) (by decide +kernel)
theorem wn_113 : Cond.fieldLink RX3 52 "FerryRounds$Script" "number" "I" ∈ tw := tw_mem (i := 113) (by decide +kernel) (by decide +kernel)
theorem wn_125 : Cond.fieldLink RX4 12 "FerryRounds" "river" "LFerryRounds$River;" ∈ tw := tw_mem (i := 125) (by decide +kernel) (by decide +kernel)
theorem wn_126 : Cond.fieldLink RX4 16 "FerryRounds" "snapshot" "LFerryRounds$River;" ∈ tw := tw_mem (i := 126) (by decide +kernel) (by decide +kernel)
theorem wn_127 : Cond.fieldLink RX4 22 "FerryRounds" "past" "LFerryRounds$Past;" ∈ tw := tw_mem (i := 127) (by decide +kernel) (by decide +kernel)
theorem wn_128 : Cond.fieldLink RX4 31 "FerryRounds" "line" "LFerryRounds$Row;" ∈ tw := tw_mem (i := 128) (by decide +kernel) (by decide +kernel)
theorem wn_129 : Cond.fieldLink RX4 35 "FerryRounds" "text" "LFerryRounds$Row;" ∈ tw := tw_mem (i := 129) (by decide +kernel) (by decide +kernel)
theorem wn_130 : Cond.fieldLink RX4 41 "FerryRounds" "script" "LFerryRounds$Script;" ∈ tw := tw_mem (i := 130) (by decide +kernel) (by decide +kernel)
theorem wn_131 : Cond.fieldLink RX4 250 "FerryRounds" "isSaved" "Z" ∈ tw := tw_mem (i := 131) (by decide +kernel) (by decide +kernel)
theorem wn_132 : Cond.fieldLink RX4 196 "FerryRounds" "reason" "I" ∈ tw := tw_mem (i := 132) (by decide +kernel) (by decide +kernel)
theorem wn_133 : Cond.fieldLink RX4 199 "FerryRounds" "reasonDetail" "I" ∈ tw := tw_mem (i := 133) (by decide +kernel) (by decide +kernel)
theorem wn_134 : Cond.fieldLink RX4 202 "FerryRounds" "reasonCommand" "I" ∈ tw := tw_mem (i := 134) (by decide +kernel) (by decide +kernel)
theorem wn_135 : Cond.fieldLink RX4 45 "FerryRounds" "commandNow" "I" ∈ tw := tw_mem (i := 135) (by decide +kernel) (by decide +kernel)
/-- which classes the arrays have: told by their names -/
def CL (lc : Nat → ClassId) (U : State) : Prop := (va_AO RX2 U ∧ va_AO RX1 U ∧ True) ∧ (∀ c, va_RA U c .int → c = lc 0) ∧ True ∧ (∀ c, va_RA U c (.object RX2) → c = lc 2) ∧ (∀ c, va_RA U c (.object RX1) → c = lc 3) ∧ True
theorem CL.moved {lc : Nat → ClassId} {u U : State} (hvm : u.vm.Alike U.vm) (h : CL lc u) : CL lc U :=
  ⟨⟨va_AO.moved hvm h.1.1, va_AO.moved hvm h.1.2.1, trivial⟩, fun c q => h.2.1 c (q.moved hvm.symm), trivial, fun c q => h.2.2.2.1 c (q.moved hvm.symm), fun c q => h.2.2.2.2.1 c (q.moved hvm.symm), trivial⟩
abbrev NP (G : va_G) (lc : Nat → ClassId) (h0 : Nat) (e0 : va_E) (sz : Nat) (U : State) : Prop := U.heap.size = sz ∧ va_P G vwCl [(h0, e0)] U.heap ∧ va_K G vwCl [] U ∧ va_D (fun _ => True) [(h0, e0)] ∧ CL lc U
abbrev NQ (G : va_G) (tys : List (ClassId × FieldType)) (A : Nat → Prop) (n : Nat) (pr : Nat → Nat × va_E) (t : State) : Prop := va_P G vwCl (rm n pr) t.heap ∧ va_K G vwCl tys t ∧ va_D A (rm n pr)
abbrev CN (l : Launch) (G : va_G) (lc : Nat → ClassId) (y : MethodName) (b : ByteArray) (nY d mc ms : Nat) (e0 : va_E) (av : List Value) (post : (Nat → Nat × va_E) → Prop) (tys : List (ClassId × FieldType)) (mm : Nat) : Prop :=
  ∀ h0 sz : Nat, Met l y (wsm y b nY none) (nrm d mc ms) (va_Pc (.ref h0 :: av) (NP G lc h0 e0 sz)) (va_Qv (fun pr => post pr ∧ (pr 0).1 = h0) (NQ G tys (va_A [(h0, e0)] sz) mm) (va_A [(h0, e0)] sz)) mc ms (va_A [(h0, e0)] sz)
section NW
variable {p : Program} {l : Launch} {e : Env} {R : Room} {s : State} {m : MethodId} {args : Array Value} {below : List Frame} {meth : Method} {c : Code} {H : Heap} {locs : List Loc} {cells slots : Nat} {Q : State → Prop}
variable {G : va_G} {lc : Nat → ClassId} {cc : ByteArray} {pc nL n : Nat} {ls : Array Slot} {rest st0 : List Value} {own : String} {A : Nat → Prop} {H0 : Heap} {a : Nat} {pr : Nat → Nat × va_E}
theorem ofN {y : MethodName} {d mc ms : Nat} {e0 : va_E} {av : List Value} {post : (Nat → Nat × va_E) → Prop} {tys : List (ClassId × FieldType)} {mm : Nat} (hy : plainFor y = true) (how : y.cls = own) (hyn : y.name = "<init>") (hsl : (lg_sl (Value.ref 0 :: av)).length ≤ nL)
    (body : ∀ h0 p e s m args below meth c ls A, CallFix p m c cc nL s args tw own → meth.name = "<init>" → meth.sig.returnType = none → meth.locks = false → CL lc s → va_K G vwCl [] s → va_P G vwCl (rm 1 (fun _ => (h0, e0))) s.heap → va_D A (rm 1 (fun _ => (h0, e0))) → va_S A s.heap s.heap [] → (∀ q : Nat, s.heap.size ≤ q → A q) → lv_has ls nL (lv_args 0 (.ref h0 :: av)) →
      W p l e (nrm d mc ms) s m args below meth c s.heap [] 0 0 (MQ below (va_Qv (fun pr => post pr ∧ (pr 0).1 = h0) (NQ G tys A mm) A) args s mc ms A) (F0 m 0 ls [])) : CN l G lc y cc nL d mc ms e0 av post tys mm := by
  intro h0 sz
  refine va_MetF (cc := cc) (maxL := nL) (ret := none) hy rfl ?_
  intro p e s m args below meth c s₁ B hml hv
  obtain ⟨rfl, hsz, hP, hK, hD0, hC⟩ := hv
  have hts := atoms_spec (ws := wsm y cc nL none) B.pre
  have hl := lv_entry (.ref h0 :: av) (n := nL) hsl
  rw [lg_entry_eq]
  subst hsz
  have hD := hD0.self (sz := s.heap.size)
  have hin : meth.name = "<init>" := (name_of_methodNamed B.named B.method).1.trans hyn
  exact body h0 p e s m _ below meth c _ _ ⟨B.exec, B.bytes, hml, how ▸ findClass_of_methodNamed B.named, fun w h => hts w (List.mem_cons_of_mem _ h)⟩ hin B.returns B.notSynchronized hC hK hP hD va_S.rf (fun q h => Or.inr h) hl
theorem wr_n {post : (Nat → Nat × va_E) → Prop} {tys : List (ClassId × FieldType)} {mm : Nat} (hF : CallFix p m c cc nL s args tw own) (hr : meth.sig.returnType = none) (hlocks : meth.locks = false) (hpost : post pr) (hK : va_K G vwCl tys s) (hP : va_P G vwCl (rm mm pr) H) (hD : va_D A (rm mm pr)) (hS : va_S A s.heap H locs) (hdg : decode cc pc = .ok (.return_, 1)) : W p l e R s m args below meth c H locs cells slots (MQ below (va_Qv post (NQ G tys A mm) A) args s cells slots A) (F0 m pc ls []) :=
  W.vret hF.1 hF.2.1 hr (fun t ht hW => ⟨⟨pr, rfl, hpost, by rw [ht]; exact hP, va_K.moved hW.alike hK, hD⟩, hS.F ht⟩) hS.2.2 hdg hlocks
/-- Object's constructor -/
theorem st_obj {index : Nat} (hF : CallFix p m c cc nL s args tw own) (hl : ls.size = nL) (hlink : Cond.methodLink own index Lib.objectInit ∈ tw) (hR : 1 ≤ R.frames ∧ 20 ≤ R.locals) (hW8 : (rest.map fun v => v.category).sum ≤ 8) (hdg : decode cc pc = .ok (.invokespecial index, 3))
    (kk : W p l e R s m args below meth c H locs cells slots Q (F0 m (pc + 3) ls rest)) : W p l e R s m args below meth c H locs cells slots Q (F0 m pc ls (.ref a :: rest)) := by
  refine W.objInit hF.1 hF.2.1 hF.2.2.2.1 (hF.2.2.2.2 _ hlink) (hF.2.2.2.2 _ wn_35) (hF.2.2.2.2 _ wn_36) rfl ?_ rfl hdg hR.1 ?_ kk
  · exact hl.trans hF.2.2.1.symm
  · show 2 * 0 + _ + 12 ≤ _
    omega
/-- a final field of the object itself, in its constructor -/
theorem st_put {ci N k index h0 : Nat} {C : String} {T : u_T} {fs : List Value} {v : Value} (hF : CallFix p m c cc nL s args tw own) (hin2 : meth.name = "<init>") (hc : vwCl[ci]? = some (C, T, N)) (hin : ∀ w ∈ u_ws C T N, w ∈ tw) (ty0 : Nat → FieldType) (hty : ∀ k, k < N → parseFieldDescriptor (T k).2.2.1 = some (ty0 k)) (hnm : ∀ a, a < N → ∀ b, b < N → a ≠ b → (T a).2.1 ≠ (T b).2.1) (hK : va_K G vwCl [] s) (hP : va_P G vwCl (rm n pr) H) (hD : va_D A (rm n pr)) (hS : va_S A H0 H locs) (hn0 : 0 < n) (he : pr 0 = (h0, .inr (ci, fs))) (hk : k < N) (hlink : Cond.fieldLink own index (T k).1 (T k).2.1 (T k).2.2.1 ∈ tw) (hfin : (T k).2.2.2 = true) (hdecl : (T k).1 = own) {ty : FieldType} (hd : parseFieldDescriptor (T k).2.2.1 = some ty) (hn : narrow ty v = v) (hfit : fits ty v = true) (hl : k < fs.length) (hdg : decode cc pc = .ok (.putfield index, 3))
    (kk : ∀ (H : Heap) (locs : List Loc), va_P G vwCl (rm n (rmU pr 0 (h0, .inr (ci, fs.set k v)))) H → va_D A (rm n (rmU pr 0 (h0, .inr (ci, fs.set k v)))) → va_S A H0 H locs → W p l e R s m args below meth c H locs cells slots Q (F0 m (pc + 3) ls rest)) : W p l e R s m args below meth c H locs cells slots Q (F0 m pc ls (v :: .ref h0 :: rest)) := by
  refine va_putF hF.1 hF.2.1 hF.2.2.2.2 hin ty0 hty hnm hF.2.2.2.1 hK hP hD hS 0 (by rw [rm_get hn0, he]) hc k hk (hF.2.2.2.2 _ hlink) (fun _ h => h) hfin hin2 hdecl hd hn hfit hl hdg (fun H1 locs1 g1 g2 g3 => ?_)
  rw [rm_set hn0] at g1 g2
  exact kk H1 locs1 g1 g2 g3
theorem st_putV {ci N k index h0 : Nat} {C : String} {T : u_T} {fs : List Value} {v : Value} (hF : CallFix p m c cc nL s args tw own) (hc : vwCl[ci]? = some (C, T, N)) (hin : ∀ w ∈ u_ws C T N, w ∈ tw) (ty0 : Nat → FieldType) (hty : ∀ k, k < N → parseFieldDescriptor (T k).2.2.1 = some (ty0 k)) (hnm : ∀ a, a < N → ∀ b, b < N → a ≠ b → (T a).2.1 ≠ (T b).2.1) (hK : va_K G vwCl [] s) (hP : va_P G vwCl (rm n pr) H) (hD : va_D A (rm n pr)) (hS : va_S A H0 H locs) (hn0 : 0 < n) (he : pr 0 = (h0, .inr (ci, fs))) (hk : k < N) (hlink : Cond.fieldLink own index (T k).1 (T k).2.1 (T k).2.2.1 ∈ tw) (hfin : (T k).2.2.2 = false) {ty : FieldType} (hd : parseFieldDescriptor (T k).2.2.1 = some ty) (hn : narrow ty v = v) (hfit : fits ty v = true) (hl : k < fs.length) (hdg : decode cc pc = .ok (.putfield index, 3))
    (kk : ∀ (H : Heap) (locs : List Loc), va_P G vwCl (rm n (rmU pr 0 (h0, .inr (ci, fs.set k v)))) H → va_D A (rm n (rmU pr 0 (h0, .inr (ci, fs.set k v)))) → va_S A H0 H locs → W p l e R s m args below meth c H locs cells slots Q (F0 m (pc + 3) ls rest)) : W p l e R s m args below meth c H locs cells slots Q (F0 m pc ls (v :: .ref h0 :: rest)) := by
  refine va_put hF.1 hF.2.1 hF.2.2.2.2 hin ty0 hty hnm hF.2.2.2.1 hK hP hD hS 0 (by rw [rm_get hn0, he]) hc k hk (hF.2.2.2.2 _ hlink) (fun _ h => h) hfin hd hn hfit hl hdg (fun H1 locs1 g1 g2 g3 => ?_)
  rw [rm_set hn0] at g1 g2
  exact kk H1 locs1 g1 g2 g3
/-- new, and its constructor: the made cells come behind -/
theorem st_new {y : MethodName} {b : ByteArray} {nY d mc ms ci Nf mm i1 i2 pc2 na : Nat} {C : String} {T : u_T} {fs0 : List Value} {av : List Value} {post : (Nat → Nat × va_E) → Prop} {tys : List (ClassId × FieldType)} (hM : CN l G lc y b nY d mc ms (.inr (ci, fs0)) av post tys mm) (hF : CallFix p m c cc nL s args tw own) (hC : CL lc s) (hK : va_K G vwCl [] s) (hP : va_P G vwCl (rm n pr) H) (hD : va_D A (rm n pr)) (hS : va_S A s.heap H locs) (hA : ∀ q : Nat, s.heap.size ≤ q → A q) (hsz : ls.size = nL)
    (hc : vwCl[ci]? = some (C, T, Nf)) (hin : ∀ w ∈ u_ws C T Nf, w ∈ tw) (ty : Nat → FieldType) (hty : ∀ k, k < Nf → parseFieldDescriptor (T k).2.2.1 = some (ty k)) (hfs : ∀ j, j < Nf → defaultValue (ty j) = vp_V fs0 j)
    (w1 : Cond.classLink own i1 C ∈ tw) (w2 : Cond.instantiable C Nf ∈ tw) (w3 : Cond.initialized C ∈ tw) (w4 : Cond.methodLink own i2 y ∈ tw) (w5 : Cond.instanceMethod y ∈ tw) (w6 : Cond.code y b nY none ∈ tw) (hyc : y.cls = C) (hyn : y.name = "<init>")
    (hd : y.cls ≠ "java/lang/invoke/MethodHandle" ∧ y.cls ≠ "java/lang/invoke/VarHandle" ∧ (parseMethodDescriptor y.desc).map (fun d => d.parameters.length) = some na) (hna : av.length = na) (hR : d + 1 ≤ R.frames ∧ 8 + (nY + 11) + 40 * d ≤ R.locals) (hcells : cells + (1 + mc) ≤ R.cells) (hslots : slots + (Nf + ms) ≤ R.slots) (hW8 : (rest.map fun v => v.category).sum ≤ 6)
    (d1 : decode cc pc = .ok (.new i1, 3)) (d2 : decode cc (pc + 3) = .ok (.dup, 1)) (push : ∀ (H : Heap) (locs : List Loc) (k z : Nat) (st : List Value), W p l e R s m args below meth c H locs k z Q (F0 m pc2 ls (av.reverse ++ st)) → W p l e R s m args below meth c H locs k z Q (F0 m (pc + 4) ls st)) (d3 : decode cc pc2 = .ok (.invokespecial i2, 3))
    (kk : ∀ (pr1 : Nat → Nat × va_E) (H : Heap) (locs : List Loc), post pr1 → va_K G vwCl tys s → va_P G vwCl (rm (n + mm) (mrg n pr pr1)) H → va_D A (rm (n + mm) (mrg n pr pr1)) → va_S A s.heap H locs → W p l e R s m args below meth c H locs (cells + (1 + mc)) (slots + (Nf + ms)) Q (F0 m (pc2 + 3) ls (.ref (pr1 0).1 :: rest))) : W p l e R s m args below meth c H locs cells slots Q (F0 m pc ls rest) := by
  have hts := hF.2.2.2.2
  refine va_new (ci := ci) (fs := fs0) (C := C) (T := T) (N := Nf) hF.1 hF.2.1 hts hin ty hty hF.2.2.2.1 (hts _ w1) (hts _ w2) (hts _ w3) hK hP hD hS hA hc hfs (by omega) (by omega) d1 (fun q H hP hD hS => ?_)
  refine lv_dup hF.1 hF.2.1 d2 rfl ?_
  refine push H locs _ _ _ ?_
  have hPc := rm_lastP hP
  have hDc := rm_lastD hD
  have hFc := va_free (wc := [(q, .inr (ci, fs0))]) hD hS hA [n] rm_lastC
  refine va_callv (va_runI (As := av) (rest := .ref q :: rest) hF (hM q H.size) (cwI na hts (tw_in w6) rfl rfl rfl (hts _ (hyc ▸ w3)) (hts _ w4) (hts _ w5) hyn hd hR) ⟨fun a U g mk z => ⟨z.1, z.2.1, z.2.2.1, va_K.moved (u := U) (U := U.calling g mk a) (Vm.Alike.refl U.vm) z.2.2.2.1, z.2.2.2.2.1, CL.moved (u := U) (U := U.calling g mk a) (Vm.Alike.refl U.vm) z.2.2.2.2.2⟩, fun U hU hW => ⟨rfl, by rw [hU], by rw [hU]; exact hPc, va_K.moved hW.alike hK, hDc.weaken (fun _ _ _ _ => trivial), CL.moved hW.alike hC⟩⟩ rfl hna hsz rfl (lv_room (by
    show (List.map (fun v => v.category) (Value.ref q :: rest)).sum ≤ 8
    rw [List.map_cons, List.sum_cons]
    have : (Value.ref q).category = 1 := rfl
    omega)) d3 ⟨by omega, by omega⟩) hS (fun q _ h => hFc q h) hFc (fun u t H1 locs ht hvm hw hB hz1 hk1 hS => ?_)
  obtain ⟨hP1, hK1, hD1⟩ := hB
  rw [ht] at hP1
  obtain ⟨hP2, hD2⟩ := rm_join hP hD hk1 hFc hP1 hD1
  have e1 : cells + (1 + mc) = cells + 1 + mc := by omega
  have e2 : slots + (Nf + ms) = slots + Nf + ms := by omega
  rw [← e1, ← e2, ← hw.2]
  exact kk u H1 locs hw.1 (va_K.moved hvm.symm hK1) hP2 hD2 hS
end NW
/-- a made row -/
def RowS (lc : Nat → ClassId) (pr : Nat → Nat × va_E) (b n : Nat) : Prop := (pr b).2 = .inr (2, [.ref (pr (b + 1)).1, .int 0]) ∧ (pr (b + 1)).2 = .inl (lc 0, n, .inl (fun _ => 0))
set_option maxHeartbeats 4000000 in
set_option maxRecDepth 100000 in
theorem cn_row (l : Launch) (G : va_G) (lc : Nat → ClassId) {N : Nat} (hN : N ≤ 100) : CN l G lc yX2_init cX2_init 2 1 1 N (.inr (2, [.null, .int 0])) [.int (nI N)] (fun pr => RowS lc pr 0 N) [(lc 0, .int)] 2 := by
  refine ofN (own := RX2) (by decide +kernel) rfl rfl (Nat.le_of_ble_eq_true rfl) (fun h0 p e s m args below meth c ls A hF hin hr hlocks hC hK hP hD hS hA hl => ?_)
  have hx := hF.1
  have hb := hF.2.1
  have hl : lv_has ls 2 [(0, .ref h0), (1, .int (nI N))] := hl
  refine lv_aload_n hx hb dX2_init_0 rfl (lv_at hl 0 rfl) ?_
  refine st_obj hF hl.1 wn_48 ⟨Nat.le_of_ble_eq_true rfl, Nat.le_of_ble_eq_true rfl⟩ (Nat.le_of_ble_eq_true rfl) dX2_init_1 ?_
  refine lv_aload_n hx hb dX2_init_4 rfl (lv_at hl 0 rfl) ?_
  refine lv_iload_n hx hb dX2_init_5 rfl (lv_at hl 1 rfl) ?_
  refine lv_if_ge (tgt := 13) hx hb dX2_init_6 (by decide) (fun _ => ?_) (fun z => absurd (nI_pos' (by omega)) z)
  refine lv_iload_n hx hb dX2_init_13 rfl (lv_at hl 1 rfl) ?_
  refine va_newa (atype := .int) (ty := .int) (a0 := (N, .inl (fun _ => 0))) hx hb (hF.2.2.2.2 _ wn_56) rfl hK hP hD hS hA (fun _ => rfl) (nI_pos (by omega)) (nI_clamp (by omega)) (by show N * 4 ≤ _; omega) (Nat.le_refl _) (by show 0 + N ≤ N; omega) dX2_init_14 (fun q cA H hK1 hP hD hS => ?_)
  have ec : cA = lc 0 := hC.2.1 cA (hK1.2 0 _ rfl).2
  subst ec
  rw [rm_push] at hP hD
  refine st_put (ci := 2) (C := RX2) (T := TX2) (N := 2) (k := 0) (ty := .array .int) hF hin rfl twX2 tyX2 tyX2_ok nmX2 hK hP hD hS (by omega) rfl (by decide) wn_49 rfl rfl (by decide +kernel) rfl rfl (Nat.le_of_ble_eq_true rfl) dX2_init_16 (fun H locs hP hD hS => ?_)
  refine W.widen (k := 1) (n := N) (by omega) (by omega) ?_
  exact wr_n hF hr hlocks ⟨⟨rfl, rfl⟩, rfl⟩ hK1 hP hD hS dX2_init_19
