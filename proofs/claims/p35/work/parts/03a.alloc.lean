/-! METHODS THAT MAKE A ROW OF THEIR OWN: what they may touch is the world and all that is new. -/
def AN (Λ : Lay) (sz : Nat) : Nat → Prop := fun q => inL Λ q ∨ sz ≤ q
abbrev QL (G : va_G) (Λ : Lay) (v : Int64) (μ : Mem) : Array Value → State → Outcome → State → Prop := va_Ql (fun r0 (_ : Unit) => r0 = v) (fun _ t => Wd G Λ μ t.heap) (inL Λ)
abbrev QA (G : va_G) (Λ : Lay) (v : Int32) (μ : Mem) (sz : Nat) : Array Value → State → Outcome → State → Prop := va_Qi (fun r0 (_ : Unit) => r0 = v) (fun _ t => Wd G Λ μ t.heap) (AN Λ sz)
abbrev PcA (G : va_G) (Λ : Lay) (μ : Mem) (sz : Nat) (av : List Value) : Array Value → State → Prop := va_Pc av (fun U => U.heap.size = sz ∧ KK G Λ U ∧ Wd G Λ μ U.heap)
abbrev nrm (d mc ms : Nat) : Room := { frames := d, cells := mc, slots := ms, locals := 40 * d }
abbrev CA (l : Launch) (G : va_G) (Λ : Lay) (y : MethodName) (b : ByteArray) (n : Nat) (r : Option FieldType) (d mc ms : Nat) (μ : Mem) (av : List Value) (v : Int32) (μ1 : Mem) : Prop := ∀ sz : Nat, Met l y (wsm y b n r) (nrm d mc ms) (PcA G Λ μ sz av) (QA G Λ v μ1 sz) mc ms (AN Λ sz)
theorem pca_blind {G : va_G} {Λ : Lay} {μ : Mem} {sz : Nat} {av : List Value} : FrameBlind (PcA G Λ μ sz av) := fun a _ g mk q => ⟨q.1, q.2.1, q.2.2.1.blind g mk a, q.2.2.2⟩
theorem kj1 {α β : Type} {f k : α → β} (e : k = f) {a : α} {r : β} (h : k a = r) : f a = r := e ▸ h
theorem kj2 {α γ β : Type} {f k : α → γ → β} (e : k = f) {a : α} {b : γ} {r : β} (h : k a b = r) : f a b = r := e ▸ h
theorem kj3 {α γ δ β : Type} {f k : α → γ → δ → β} (e : k = f) {a : α} {b : γ} {c : δ} {r : β} (h : k a b c = r) : f a b c = r := e ▸ h
theorem clamp_s {x v : Int32} (h : inb x 12) (e : v = x + 1) : v.toNatClampNeg = x.toNatClampNeg + 1 := by
  have h1 : ¬ x < 0 := fun q => h (Or.inl q)
  have h2 := inb_lt h
  obtain ⟨j, hj, ej⟩ := nI_of h1
  rw [ej, nI_clamp hj] at h2
  rw [e, ej, show (1 : Int32) = nI 1 from rfl, nI_add, nI_clamp (by omega), nI_clamp hj]
section AR
variable {p : Program} {l : Launch} {e : Env} {R : Room} {s : State} {m : MethodId} {args : Array Value} {below : List Frame} {meth : Method} {c : Code} {H : Heap} {locs : List Loc} {cells slots : Nat} {Q : State → Prop}
variable {G : va_G} {Λ : Lay} {μ μ1 : Mem} {cc : ByteArray} {pc nL : Nat} {ls : Array Slot} {rest st0 : List Value} {own : String} {A : Nat → Prop} {H0 : Heap} {a : Nat}
variable {y : MethodName} {bytes : ByteArray} {maxL n index d mc ms : Nat} {ret : Option FieldType} {As : List Value}
theorem top_l {x y : Int64} (h : y = x) (k : W p l e R s m args below meth c H locs cells slots Q (F0 m pc ls (.long y :: rest))) : W p l e R s m args below meth c H locs cells slots Q (F0 m pc ls (.long x :: rest)) := h ▸ k
theorem W_cs {g : JFrame} {k n : Nat} (h1 : k = cells) (h2 : n = slots) (kk : W p l e R s m args below meth c H locs k n Q g) : W p l e R s m args below meth c H locs cells slots Q g := by subst h1; subst h2; exact kk
theorem KK.atN {U : State} (h : KK G Λ s) (hS : va_S (AN Λ s.heap.size) s.heap H locs) (hU : U.heap = H) (hW : s.WarmedH U.vm) : KK G Λ U :=
  ⟨va_K.moved hW.alike h.1, ⟨va_Nw.warmM hW h.2.1.1, va_Nw.warmM hW h.2.1.2.1, va_Nw.warmM hW h.2.1.2.2⟩, h.2.2.at hW (fun q h1 h2 => by rw [hU]; exact hS.2.1 q h1 (fun z => z.elim h2 (fun w => absurd h1 (Nat.not_lt.mpr w))))⟩
theorem pre_VN {b ci : Nat} {q : vw_C} (hKK : KK G Λ s) (hW : Wd G Λ μ H) (hS : va_S (AN Λ s.heap.size) s.heap H locs) (hb : inK Λ b ci) (hi : ci ≤ 4) (hc : vwCl[ci]? = some q) : PreV s H q.1 b (PcW G Λ μ (.ref b :: As)) As :=
  ⟨pcw_blind, recv_w hKK hW hb hi hc, fun U hU hWm => ⟨rfl, hKK.atN hS hU hWm, by rw [hU]; exact hW⟩⟩
theorem pre_SN (hKK : KK G Λ s) (hW : Wd G Λ μ H) (hS : va_S (AN Λ s.heap.size) s.heap H locs) : PreS s H (PcW G Λ μ As) As :=
  ⟨pcw_blind, fun U hU hWm => ⟨rfl, hKK.atN hS hU hWm, by rw [hU]; exact hW⟩⟩
theorem pre_SA (hKK : KK G Λ s) (hW : Wd G Λ μ H) (hS : va_S (AN Λ s.heap.size) s.heap H locs) : PreS s H (PcA G Λ μ H.size As) As :=
  ⟨pca_blind, fun U hU hWm => ⟨rfl, by rw [hU], hKK.atN hS hU hWm, by rw [hU]; exact hW⟩⟩
theorem run_VN {b ci : Nat} {q : vw_C} {Qc : Array Value → State → Outcome → State → Prop} (hF : CallFix p m c cc nL s args tw own) (hKK : KK G Λ s) (hW : Wd G Λ μ H) (hS : va_S (AN Λ s.heap.size) s.heap H locs) (hl : ls.size = nL) (hb : inK Λ b ci) (hi : ci ≤ 4) (hc : vwCl[ci]? = some q) (hM : CM l G Λ y bytes maxL ret d μ (.ref b :: As) Qc) (cw : CallW R s args own q.1 index y bytes maxL ret (wsm y bytes maxL ret) (rmd d) 0 0 n)
    (hn : As.length = n) (hst : st0 = As.reverse ++ .ref b :: rest) (hW8 : (rest.map fun v => v.category).sum ≤ 8) (hdg : decode cc pc = .ok (.invokevirtual index, 3)) (hf : cells ≤ R.cells ∧ slots ≤ R.slots) :
    va_Run p l e R s m args below meth c H locs cells slots 0 0 (F0 m pc ls st0) rest (Qc (Value.ref b :: As).toArray) (inL Λ) :=
  va_runV hF hM cw (pre_VN hKK hW hS hb hi hc) rfl hn hl hst (lv_room hW8) hdg hf
theorem run_SN {Qc : Array Value → State → Outcome → State → Prop} (hF : CallFix p m c cc nL s args tw own) (hKK : KK G Λ s) (hW : Wd G Λ μ H) (hS : va_S (AN Λ s.heap.size) s.heap H locs) (hl : ls.size = nL) (hM : CM l G Λ y bytes maxL ret d μ As Qc) (cw : CallB R s args own index y bytes maxL ret (wsm y bytes maxL ret) (rmd d) 0 0 n ∧ (Cond.static y).before args s = true)
    (hn : As.length = n) (hst : st0 = As.reverse ++ rest) (hW8 : (rest.map fun v => v.category).sum ≤ 8) (hdg : decode cc pc = .ok (.invokestatic index, 3)) (hf : cells ≤ R.cells ∧ slots ≤ R.slots) :
    va_Run p l e R s m args below meth c H locs cells slots 0 0 (F0 m pc ls st0) rest (Qc As.toArray) (inL Λ) :=
  va_runS hF hM cw (pre_SN hKK hW hS) rfl hn hl hst (lv_room hW8) hdg hf
theorem kwA (n : Nat) (h4 : Cond.code y bytes maxL ret ∈ tw) (h1 : Cond.methodLink own index y ∈ tw) (h2 : Cond.static y ∈ tw) (h5 : Cond.initialized y.cls ∈ tw)
    (hd : y.cls ≠ "java/lang/invoke/MethodHandle" ∧ y.cls ≠ "java/lang/invoke/VarHandle" ∧ (parseMethodDescriptor y.desc).map (fun d => d.parameters.length) = some n) (hts : ∀ w ∈ tw, w.before args s = true) (hR : d + 1 ≤ R.frames ∧ 8 + (maxL + 11) + 40 * d ≤ R.locals) :
    CallB R s args own index y bytes maxL ret (wsm y bytes maxL ret) (nrm d mc ms) mc ms n ∧ (Cond.static y).before args s = true :=
  ⟨callB_of n hts (tw_in h4) rfl rfl rfl (hts _ h5) (hts _ h1) hd hR, hts _ h2⟩
/-- a call of a method that makes cells -/
theorem run_SA {v : Int32} (hF : CallFix p m c cc nL s args tw own) (hKK : KK G Λ s) (hW : Wd G Λ μ H) (hS : va_S (AN Λ s.heap.size) s.heap H locs) (hl : ls.size = nL) (hM : CA l G Λ y bytes maxL ret d mc ms μ As v μ1) (cw : CallB R s args own index y bytes maxL ret (wsm y bytes maxL ret) (nrm d mc ms) mc ms n ∧ (Cond.static y).before args s = true)
    (hn : As.length = n) (hst : st0 = As.reverse ++ rest) (hW8 : (rest.map fun v => v.category).sum ≤ 8) (hdg : decode cc pc = .ok (.invokestatic index, 3)) (hf : cells + mc ≤ R.cells ∧ slots + ms ≤ R.slots)
    (kk : ∀ (H : Heap) (locs : List Loc), Wd G Λ μ1 H → va_S (AN Λ s.heap.size) s.heap H locs → W p l e R s m args below meth c H locs (cells + mc) (slots + ms) Q (F0 m (pc + 3) ls (.int v :: rest))) : W p l e R s m args below meth c H locs cells slots Q (F0 m pc ls st0) :=
  va_calli (va_runS hF (hM H.size) cw (pre_SA hKK hW hS) rfl hn hl hst (lv_room hW8) hdg hf) hS (fun q h1 h => h.elim Or.inl (fun w => absurd h1 (Nat.not_lt.mpr w))) (fun q h => h.elim Or.inl (fun w => Or.inr (Nat.le_trans hS.1 w))) (fun r _ t H1 locs1 ht _ hp hB _ _ hS1 => by
    have hp : r = v := hp
    subst hp
    exact kk H1 locs1 (by rw [← ht]; exact hB) hS1)
theorem end_iN {v : Int32} {a : Array Value} (hr : va_Run p l e R s m args below meth c H locs cells slots 0 0 (F0 m pc ls st0) rest (QI G Λ v μ1 a) (inL Λ)) (hS : va_S (AN Λ H0.size) H0 H locs)
    (kk : ∀ (H : Heap) (locs : List Loc), Wd G Λ μ1 H → va_S (AN Λ H0.size) H0 H locs → W p l e R s m args below meth c H locs cells slots Q (F0 m (pc + 3) ls (.int v :: rest))) : W p l e R s m args below meth c H locs cells slots Q (F0 m pc ls st0) :=
  va_calli hr hS (fun _ _ h => Or.inl h) (fun _ h => Or.inl h) (fun r _ t H1 locs1 ht _ hp hB _ _ hS1 => by
    have hp : r = v := hp
    subst hp
    exact kk H1 locs1 (by rw [← ht]; exact hB) hS1)
theorem end_lN {v : Int64} {a : Array Value} (hr : va_Run p l e R s m args below meth c H locs cells slots 0 0 (F0 m pc ls st0) rest (QL G Λ v μ1 a) (inL Λ)) (hS : va_S (AN Λ H0.size) H0 H locs)
    (kk : ∀ (H : Heap) (locs : List Loc), Wd G Λ μ1 H → va_S (AN Λ H0.size) H0 H locs → W p l e R s m args below meth c H locs cells slots Q (F0 m (pc + 3) ls (.long v :: rest))) : W p l e R s m args below meth c H locs cells slots Q (F0 m pc ls st0) :=
  va_calll hr hS (fun _ _ h => Or.inl h) (fun _ h => Or.inl h) (fun r _ t H1 locs1 ht _ hp hB _ _ hS1 => by
    have hp : r = v := hp
    subst hp
    exact kk H1 locs1 (by rw [← ht]; exact hB) hS1)
theorem end_l {v : Int64} {a : Array Value} (hr : va_Run p l e R s m args below meth c H locs cells slots 0 0 (F0 m pc ls st0) rest (QL G Λ v μ1 a) (inL Λ)) (hS : va_S (inL Λ) H0 H locs)
    (kk : ∀ (H : Heap) (locs : List Loc), Wd G Λ μ1 H → va_S (inL Λ) H0 H locs → W p l e R s m args below meth c H locs cells slots Q (F0 m (pc + 3) ls (.long v :: rest))) : W p l e R s m args below meth c H locs cells slots Q (F0 m pc ls st0) :=
  va_calll hr hS (fun _ _ h => h) (fun _ h => h) (fun r _ t H1 locs1 ht _ hp hB _ _ hS1 => by
    have hp : r = v := hp
    subst hp
    exact kk H1 locs1 (by rw [← ht]; exact hB) hS1)
theorem end_rN {v k : Nat} {a : Array Value} (hr : va_Run p l e R s m args below meth c H locs cells slots 0 0 (F0 m pc ls st0) rest (QR G Λ v k μ1 a) (inL Λ)) (hS : va_S (AN Λ H0.size) H0 H locs)
    (kk : ∀ (H : Heap) (locs : List Loc), inK Λ v k → Wd G Λ μ1 H → va_S (AN Λ H0.size) H0 H locs → W p l e R s m args below meth c H locs cells slots Q (F0 m (pc + 3) ls (.ref v :: rest))) : W p l e R s m args below meth c H locs cells slots Q (F0 m pc ls st0) :=
  va_callr hr hS (fun _ _ h => Or.inl h) (fun _ h => Or.inl h) (fun _ ra t H1 locs1 ht _ hp hB _ _ hS1 => by
    obtain ⟨rfl, hB⟩ := hB
    exact kk H1 locs1 hp (by rw [← ht]; exact hB) hS1)
theorem wr_l {v : Int64} (hF : CallFix p m c cc nL s args tw own) (hr : meth.sig.returnType = some .long) (hlocks : meth.locks = false) (hW : Wd G Λ μ H) (hS : va_S (inL Λ) s.heap H locs) (hdg : decode cc pc = .ok (.lreturn, 1)) : W p l e R s m args below meth c H locs cells slots (MQ below (QL G Λ v μ) args s cells slots (inL Λ)) (F0 m pc ls [.long v]) :=
  W.lret hF.1 hF.2.1 hr (fun t ht _ => ⟨⟨v, (), rfl, rfl, (show Wd G Λ μ t.heap by rw [ht]; exact hW)⟩, hS.F ht⟩) hS.2.2 hdg hlocks
theorem wr_iN {ty : FieldType} {v : Int32} {mc ms : Nat} (hF : CallFix p m c cc nL s args tw own) (hr : meth.sig.returnType = some ty) (hlocks : meth.locks = false) (hn : narrow ty (.int v) = .int v) (hW : Wd G Λ μ H) (hS : va_S (AN Λ s.heap.size) s.heap H locs) (h1 : cells ≤ mc) (h2 : slots ≤ ms) (hdg : decode cc pc = .ok (.ireturn, 1)) : W p l e R s m args below meth c H locs cells slots (MQ below (QA G Λ v μ s.heap.size) args s mc ms (AN Λ s.heap.size)) (F0 m pc ls [.int v]) :=
  W.widen h1 h2 (W.zret hF.1 hF.2.1 hr hn (fun t ht _ => ⟨⟨v, (), rfl, rfl, (show Wd G Λ μ t.heap by rw [ht]; exact hW)⟩, hS.F ht⟩) hS.2.2 hdg hlocks)
theorem ofA {v : Int32} {av : List Value} (hy : plainFor y = true) (how : y.cls = own) (hsl : (lg_sl av).length ≤ nL)
    (body : ∀ p e s m args below meth c ls, CallFix p m c cc nL s args tw own → KK G Λ s → Wd G Λ μ s.heap → meth.sig.returnType = ret → meth.locks = false → lv_has ls nL (lv_args 0 av) →
      W p l e (nrm d mc ms) s m args below meth c s.heap [] 0 0 (MQ below (QA G Λ v μ1 s.heap.size) args s mc ms (AN Λ s.heap.size)) (F0 m 0 ls [])) : CA l G Λ y cc nL ret d mc ms μ av v μ1 := by
  intro sz
  refine va_MetF (cc := cc) (maxL := nL) (ret := ret) hy rfl ?_
  intro p e s m args below meth c s₁ B hml hv
  obtain ⟨rfl, hsz, hK, hW⟩ := hv
  subst hsz
  have hts := atoms_spec (ws := wsm y cc nL ret) B.pre
  have hl := lv_entry av hsl
  rw [lg_entry_eq]
  exact body p e s m _ below meth c _ ⟨B.exec, B.bytes, hml, how ▸ findClass_of_methodNamed B.named, fun w h => hts w (List.mem_cons_of_mem _ h)⟩ hK hW B.returns B.notSynchronized hl
/-! a row of booleans of the method's own -/
def WdB (G : va_G) (Λ : Lay) (μ : Mem) (s : State) (b : Nat) (f : Nat → Int32) (H : Heap) : Prop := Wd G Λ μ H ∧ ¬ inL Λ b ∧ s.heap.size ≤ b ∧ ∃ cA : ClassId, va_K G vwCl (tysOf Λ ++ [(cA, .boolean)]) s ∧ va_P G vwCl (([] ++ va_pl (lyL Λ) (enc Λ μ)) ++ [(b, .inl (cA, 144, .inl f))]) H
theorem wdb_last {b cA : Nat} {f : Nat → Int32} : (([] ++ va_pl (lyL Λ) (enc Λ μ)) ++ [((b, .inl (cA, 144, .inl f)) : Nat × va_E)])[([] ++ va_pl (lyL Λ) (enc Λ μ)).length]? = some (b, .inl (cA, 144, .inl f)) := by
  rw [List.getElem?_append_right (Nat.le_refl _), Nat.sub_self]; rfl
theorem wdb_sub {ws : va_W} {x : Nat × va_E} (h : va_P G vwCl (ws ++ [x]) H) : va_P G vwCl ws H := fun k q hk => h k q (by rw [List.getElem?_append_left (List.getElem?_eq_some_iff.mp hk).1]; exact hk)
theorem wdb_join {ws : va_W} {x : Nat × va_E} (h : va_P G vwCl ws H) (h1 : va_P G vwCl [x] H) : va_P G vwCl (ws ++ [x]) H := fun k q hk => by
  by_cases c : k < ws.length
  · rw [List.getElem?_append_left c] at hk
    exact h k q hk
  · rw [List.getElem?_append_right (by omega)] at hk
    exact h1 _ q hk
theorem wd_DN {b cA : Nat} {f : Nat → Int32} (hOK : LayOK Λ) (hb : ¬ inL Λ b) (hs : s.heap.size ≤ b) : va_D (AN Λ s.heap.size) (([] ++ va_pl (lyL Λ) (enc Λ μ)) ++ [(b, .inl (cA, 144, .inl f))]) := by
  have hD : va_D (AN Λ s.heap.size) ([] ++ va_pl (lyL Λ) (enc Λ μ)) := wd_D hOK (fun q h => Or.inl h)
  have hne : ∀ (k : Nat) (q : Nat × va_E), ([] ++ va_pl (lyL Λ) (enc Λ μ))[k]? = some q → q.1 ≠ b := fun k q hk e => by
    rw [List.nil_append, va_pl, List.getElem?_map] at hk
    cases h1 : (lyL Λ)[k]? with
    | none => rw [h1] at hk; cases hk
    | some a =>
      rw [h1] at hk
      cases hk
      exact hb (e ▸ List.mem_of_getElem? h1)
  generalize hws : ([] ++ va_pl (lyL Λ) (enc Λ μ)) = ws at hD hne
  have cs : ∀ (k : Nat) (q : Nat × va_E), (ws ++ [((b, .inl (cA, 144, .inl f)) : Nat × va_E)])[k]? = some q → (k < ws.length ∧ ws[k]? = some q) ∨ (k = ws.length ∧ q.1 = b) := fun k q hk => by
    by_cases c : k < ws.length
    · rw [List.getElem?_append_left c] at hk
      exact Or.inl ⟨c, hk⟩
    · rw [List.getElem?_append_right (by omega)] at hk
      have hz : k - ws.length < 1 := (List.getElem?_eq_some_iff.mp hk).1
      rw [show k - ws.length = 0 by omega] at hk
      cases hk
      exact Or.inr ⟨by omega, rfl⟩
  refine ⟨fun i j p q hi hj e => ?_, fun k q hk => ?_⟩
  · rcases cs i p hi with ⟨c1, g1⟩ | ⟨c1, g1⟩ <;> rcases cs j q hj with ⟨c2, g2⟩ | ⟨c2, g2⟩
    · exact hD.1 i j p q g1 g2 e
    · exact absurd (e.trans g2) (hne i p g1)
    · exact absurd (e.symm.trans g1) (hne j q g2)
    · omega
  · rcases cs k q hk with ⟨c1, g1⟩ | ⟨c1, g1⟩
    · exact hD.2 k q g1
    · rw [g1]; exact Or.inr hs
theorem gz_new {n : Int32} (hOK : LayOK Λ) (hF : CallFix p m c cc nL s args tw own) (hw : Cond.arrayClass .boolean ∈ tw) (hKK : KK G Λ s) (hW : Wd G Λ μ H) (hS : va_S (AN Λ s.heap.size) s.heap H locs) (hn : n = 144) (hc : cells + 1 ≤ R.cells) (hs : slots + 144 ≤ R.slots) (hdg : decode cc pc = .ok (.newarray .boolean, 2))
    (kk : ∀ (b : Nat) (H : Heap), WdB G Λ μ s b (fun _ => 0) H → va_S (AN Λ s.heap.size) s.heap H locs → W p l e R s m args below meth c H locs (cells + 1) (slots + 144) Q (F0 m (pc + 2) ls (.ref b :: rest))) : W p l e R s m args below meth c H locs cells slots Q (F0 m pc ls (.int n :: rest)) := by
  subst hn
  have hD : va_D (AN Λ s.heap.size) ([] ++ va_pl (lyL Λ) (enc Λ μ)) := wd_D hOK (fun q h => Or.inl h)
  have hsz : ∀ q, inL Λ q → q < H.size := fun q hq => by
    obtain ⟨q0, h0⟩ := va_pl_get (X := []) (f := enc Λ μ) hq
    exact (hW q0 _ h0).lt
  refine va_newa (atype := .boolean) (ty := .boolean) (a0 := (144, .inl (fun _ => 0))) hF.1 hF.2.1 (hF.2.2.2.2 _ hw) rfl hKK.1 hW hD hS (fun q h => Or.inr h) (fun _ => rfl) (by decide) (by decide) (Nat.le_of_ble_eq_true rfl) hc hs hdg (fun q cA H1 hK1 hP hD1 hS1 => kk q H1 ⟨wdb_sub hP, fun hq => ?_, ?_, cA, hK1, hP⟩ hS1)
  · obtain ⟨i, hi⟩ := va_pl_get (X := []) (f := enc Λ μ) hq
    have := hD1.1 i _ (q, enc Λ μ q) (q, .inl (cA, 144, .inl (fun _ => 0))) (by rw [List.getElem?_append_left (List.getElem?_eq_some_iff.mp hi).1]; exact hi) wdb_last rfl
    have hl := (List.getElem?_eq_some_iff.mp hi).1
    omega
  · have := hD1.2 _ _ (wdb_last (cA := cA))
    rcases this with h | h
    · exfalso
      obtain ⟨i, hi⟩ := va_pl_get (X := []) (f := enc Λ μ) h
      have := hD1.1 i _ (q, enc Λ μ q) (q, .inl (cA, 144, .inl (fun _ => 0))) (by rw [List.getElem?_append_left (List.getElem?_eq_some_iff.mp hi).1]; exact hi) wdb_last rfl
      have hl := (List.getElem?_eq_some_iff.mp hi).1
      omega
    · exact h
theorem gz_ld {b : Nat} {f : Nat → Int32} (hF : CallFix p m c cc nL s args tw own) (hW : WdB G Λ μ s b f H) {i : Int32} (hin : inb i 144) (hdg : decode cc pc = .ok (.baload, 1))
    (kk : W p l e R s m args below meth c H locs cells slots Q (F0 m (pc + 1) ls (.int (f i.toNatClampNeg) :: rest))) : W p l e R s m args below meth c H locs cells slots Q (F0 m pc ls (.int i :: .ref b :: rest)) := by
  obtain ⟨hW0, hb, hs, cA, hK, hP⟩ := hW
  exact va_zald hF.1 hF.2.1 hK hP _ 3 wdb_last rfl hin hdg kk
theorem gz_st {b : Nat} {f f1 : Nat → Int32} (hOK : LayOK Λ) (hF : CallFix p m c cc nL s args tw own) (hW : WdB G Λ μ s b f H) (hS : va_S (AN Λ s.heap.size) s.heap H locs) {i : Int32} (hin : inb i 144) (hf : f1 = upd f i.toNatClampNeg 1) (hdg : decode cc pc = .ok (.bastore, 1))
    (kk : ∀ (H : Heap) (locs : List Loc), WdB G Λ μ s b f1 H → va_S (AN Λ s.heap.size) s.heap H locs → W p l e R s m args below meth c H locs cells slots Q (F0 m (pc + 1) ls rest)) : W p l e R s m args below meth c H locs cells slots Q (F0 m pc ls (.int 1 :: .int i :: .ref b :: rest)) := by
  obtain ⟨hW0, hb, hs, cA, hK, hP⟩ := hW
  have hD : va_D (AN Λ s.heap.size) (([] ++ va_pl (lyL Λ) (enc Λ μ)) ++ [(b, .inl (cA, 144, .inl f))]) := wd_DN hOK hb hs
  refine va_zast hF.1 hF.2.1 hK hP hD hS _ 3 wdb_last rfl hin hdg (fun H1 locs1 hP1 hD1 hS1 => kk H1 locs1 ?_ hS1)
  have e1 : vp_nar .boolean 1 = 1 := by decide
  rw [e1, List.set_append_right _ _ (Nat.le_refl _), Nat.sub_self] at hP1
  rw [hf]
  exact ⟨wdb_sub hP1, hb, hs, cA, hK, hP1⟩
theorem end_iB {b : Nat} {f : Nat → Int32} {v : Int32} {a : Array Value} (hW0 : WdB G Λ μ s b f H) (hr : va_Run p l e R s m args below meth c H locs cells slots 0 0 (F0 m pc ls st0) rest (QI G Λ v μ a) (inL Λ)) (hS : va_S (AN Λ s.heap.size) s.heap H locs)
    (kk : ∀ (H : Heap) (locs : List Loc), WdB G Λ μ s b f H → va_S (AN Λ s.heap.size) s.heap H locs → W p l e R s m args below meth c H locs cells slots Q (F0 m (pc + 3) ls (.int v :: rest))) : W p l e R s m args below meth c H locs cells slots Q (F0 m pc ls st0) := by
  obtain ⟨hW1, hb, hs, cA, hK, hP⟩ := hW0
  refine va_calli hr hS (fun _ _ h => Or.inl h) (fun _ h => Or.inl h) (fun r _ t H1 locs1 ht _ hp hB hz hk hS1 => ?_)
  have hp : r = v := hp
  subst hp
  rw [ht] at hB
  have h0 := hP _ _ wdb_last
  refine kk H1 locs1 ⟨hB, hb, hs, cA, hK, wdb_join hB (fun k q hkq => ?_)⟩ hS1
  have hz1 : k < 1 := (List.getElem?_eq_some_iff.mp hkq).1
  rw [show k = 0 by omega] at hkq
  cases hkq
  show H1[b]? = some (vp_cell _ _)
  rw [hk b h0.lt hb]
  exact h0
end AR
