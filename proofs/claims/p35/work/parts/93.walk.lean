/-! THE LAW: its walk, from its end to its start. -/
theorem va_Z.mn {C n d : String} {v : Value} {A B : Nat → Prop} {U : State} {H : Heap} (h : va_Z C n d v A U H) (k : ∀ q : Nat, q < H.size → B q → A q) : va_Z C n d v B U H := by
  obtain ⟨cf, kf, fi, f, a, cell, h1, h2, h3, h4, h5, h6, h7, h8⟩ := h
  exact ⟨cf, kf, fi, f, a, cell, h1, h2, h3, h4, h5, h6, h7, fun z => h8 (k a (Array.getElem?_eq_some_iff.mp h5).1 z)⟩
theorem va_T.mn {ty : FieldType} {t N : Nat} {f : Nat → Value} {A B : Nat → Prop} {U : State} {H : Heap} (h : va_T ty t N f A U H) (k : ∀ q : Nat, q < H.size → B q → A q) : va_T ty t N f B U H := by
  obtain ⟨cell, h1, h2, h3, h4, h5, h6, h7⟩ := h
  exact ⟨cell, h1, h2, h3, h4, h5, h6, fun z => h7 (k t (Array.getElem?_eq_some_iff.mp h1).1 z)⟩
def LawB (p : Program) (l : Launch) (e : Env) (s : State) (m : MethodId) (below : List Frame) (meth : Method) (c : Code) (G : va_G) (Λ : Lay) (a b L : Nat) (xs : Nat → Int32) : Prop :=
  CallFix p m c code 9 s #[.ref b] tw RL ∧ meth.sig.returnType = ret ∧ meth.locks = false ∧ va_X b L xs s s.heap ∧ b < s.heap.size ∧ L ≤ 260 ∧ KK G Λ s ∧ LayOK Λ ∧ inK Λ a 4 ∧ (∀ q, inL Λ q → s.heap.size ≤ q) ∧ FrApart Λ a ∧ ∃ (tx : Nat) (qa va : Nat → Nat), Xs (inL Λ) tx qa va s ∧ va_Z RL "TEXTS" "[Ljava/lang/String;" (.ref tx) (AN Λ s.heap.size) s s.heap ∧ va_T (.object "java/lang/String") tx 20 (fun j => .ref (qa j)) (AN Λ s.heap.size) s s.heap
theorem Res.any {Λ : Lay} {a : Nat} {V : Pic} {h : List Pic} {sv : Option Pic} {f : Option (Int32 × Mem)} (k : Res Λ a V h sv f) : ∃ x μ1 V' h' r', f = some (x, μ1) ∧ St Λ μ1 a V' h' sv r' [] := by
  rcases k with ⟨c, μ1, r, e, -, S⟩ | ⟨n, μ1, V', r, e, hn, S⟩
  · exact ⟨c, μ1, V, h, r, e, S⟩
  · exact ⟨nI n, μ1, V', push h V, r, e, S⟩
section WK
variable {p : Program} {l : Launch} {e : Env} {s : State} {m : MethodId} {below : List Frame} {meth : Method} {c : Code} {H : Heap} {locs : List Loc} {cells slots : Nat}
variable {G : va_G} {Λ : Lay} {μ : Mem} {a b L : Nat} {xs : Nat → Int32} {ls : Array Slot} {V : Pic} {h : List Pic} {sv : Option Pic} {r0 : Int32} {pc : Nat}
theorem rj_bank (B : LawB p l e s m below meth c G Λ a b L xs) (PC : FrApart Λ a) (S : St Λ μ a V h sv r0 []) (hW : Wd G Λ μ H) (hS : va_S (AN Λ s.heap.size) s.heap H locs) (hl : ls.size = 9) {x : Int32} (hdg : decode code pc = .ok (.invokevirtual 24, 3)) (hf : cells ≤ room_1.cells ∧ slots ≤ room_1.slots)
    (kk : ∀ (v : Int32) (μ1 : Mem) (V' : Pic) (h' : List Pic) (r' : Int32) (H : Heap) (locs : List Loc), St Λ μ1 a V' h' sv r' [] → Wd G Λ μ1 H → va_S (AN Λ s.heap.size) s.heap H locs → W p l e room_1 s m #[.ref b] below meth c H locs cells slots (lw_Z below #[.ref b] s) (F0 m (pc + 3) ls [.int v])) : W p l e room_1 s m #[.ref b] below meth c H locs cells slots (lw_Z below #[.ref b] s) (F0 m pc ls (.int x :: .ref a :: [])) := by
  obtain ⟨hF, hr, hlocks, hX, hbl, hL, K, hOK, ka, A1, -, tx, qa, va, hXs, hXn⟩ := id B
  obtain ⟨v, μ1, V', h', r', e1, S1⟩ := (op_bank PC S x).any
  exact end_iN (run_VN (q := (RX4, TX4, 11)) (ci := 4) (rest := []) hF K hW hS hl ka (by decide) rfl (c_X4_bank l hOK ka e1) (kw_L_24 hF.2.2.2.2 ⟨Nat.le_of_ble_eq_true rfl, Nat.le_of_ble_eq_true rfl⟩) rfl rfl (Nat.le_of_ble_eq_true rfl) hdg hf) hS (fun H locs hW hS => kk v μ1 V' h' r' H locs S1 hW hS)
theorem rj_join (B : LawB p l e s m below meth c G Λ a b L xs) (PC : FrApart Λ a) (S : St Λ μ a V h sv r0 []) (hW : Wd G Λ μ H) (hS : va_S (AN Λ s.heap.size) s.heap H locs) (hl : ls.size = 9) {x y : Int32} (hdg : decode code pc = .ok (.invokevirtual 27, 3)) (hf : cells ≤ room_1.cells ∧ slots ≤ room_1.slots)
    (kk : ∀ (v : Int32) (μ1 : Mem) (V' : Pic) (h' : List Pic) (r' : Int32) (H : Heap) (locs : List Loc), St Λ μ1 a V' h' sv r' [] → Wd G Λ μ1 H → va_S (AN Λ s.heap.size) s.heap H locs → W p l e room_1 s m #[.ref b] below meth c H locs cells slots (lw_Z below #[.ref b] s) (F0 m (pc + 3) ls [.int v])) : W p l e room_1 s m #[.ref b] below meth c H locs cells slots (lw_Z below #[.ref b] s) (F0 m pc ls (.int y :: .int x :: .ref a :: [])) := by
  obtain ⟨hF, hr, hlocks, hX, hbl, hL, K, hOK, ka, A1, -, tx, qa, va, hXs, hXn⟩ := id B
  obtain ⟨v, μ1, V', h', r', e1, S1⟩ := (op_join PC S x y).any
  exact end_iN (run_VN (q := (RX4, TX4, 11)) (ci := 4) (rest := []) hF K hW hS hl ka (by decide) rfl (c_X4_join l hOK ka e1) (kw_L_27 hF.2.2.2.2 ⟨Nat.le_of_ble_eq_true rfl, Nat.le_of_ble_eq_true rfl⟩) rfl rfl (Nat.le_of_ble_eq_true rfl) hdg hf) hS (fun H locs hW hS => kk v μ1 V' h' r' H locs S1 hW hS)
theorem rj_cut (B : LawB p l e s m below meth c G Λ a b L xs) (PC : FrApart Λ a) (S : St Λ μ a V h sv r0 []) (hW : Wd G Λ μ H) (hS : va_S (AN Λ s.heap.size) s.heap H locs) (hl : ls.size = 9) {x y : Int32} (hdg : decode code pc = .ok (.invokevirtual 31, 3)) (hf : cells ≤ room_1.cells ∧ slots ≤ room_1.slots)
    (kk : ∀ (v : Int32) (μ1 : Mem) (V' : Pic) (h' : List Pic) (r' : Int32) (H : Heap) (locs : List Loc), St Λ μ1 a V' h' sv r' [] → Wd G Λ μ1 H → va_S (AN Λ s.heap.size) s.heap H locs → W p l e room_1 s m #[.ref b] below meth c H locs cells slots (lw_Z below #[.ref b] s) (F0 m (pc + 3) ls [.int v])) : W p l e room_1 s m #[.ref b] below meth c H locs cells slots (lw_Z below #[.ref b] s) (F0 m pc ls (.int y :: .int x :: .ref a :: [])) := by
  obtain ⟨hF, hr, hlocks, hX, hbl, hL, K, hOK, ka, A1, -, tx, qa, va, hXs, hXn⟩ := id B
  obtain ⟨v, μ1, V', h', r', e1, S1⟩ := (op_cut PC S x y).any
  exact end_iN (run_VN (q := (RX4, TX4, 11)) (ci := 4) (rest := []) hF K hW hS hl ka (by decide) rfl (c_X4_cut l hOK ka e1) (kw_L_31 hF.2.2.2.2 ⟨Nat.le_of_ble_eq_true rfl, Nat.le_of_ble_eq_true rfl⟩) rfl rfl (Nat.le_of_ble_eq_true rfl) hdg hf) hS (fun H locs hW hS => kk v μ1 V' h' r' H locs S1 hW hS)
theorem rj_turn (B : LawB p l e s m below meth c G Λ a b L xs) (PC : FrApart Λ a) (S : St Λ μ a V h sv r0 []) (hW : Wd G Λ μ H) (hS : va_S (AN Λ s.heap.size) s.heap H locs) (hl : ls.size = 9) {x : Int32} (hdg : decode code pc = .ok (.invokevirtual 37, 3)) (hf : cells ≤ room_1.cells ∧ slots ≤ room_1.slots)
    (kk : ∀ (v : Int32) (μ1 : Mem) (V' : Pic) (h' : List Pic) (r' : Int32) (H : Heap) (locs : List Loc), St Λ μ1 a V' h' sv r' [] → Wd G Λ μ1 H → va_S (AN Λ s.heap.size) s.heap H locs → W p l e room_1 s m #[.ref b] below meth c H locs cells slots (lw_Z below #[.ref b] s) (F0 m (pc + 3) ls [.int v])) : W p l e room_1 s m #[.ref b] below meth c H locs cells slots (lw_Z below #[.ref b] s) (F0 m pc ls (.int x :: .ref a :: [])) := by
  obtain ⟨hF, hr, hlocks, hX, hbl, hL, K, hOK, ka, A1, -, tx, qa, va, hXs, hXn⟩ := id B
  obtain ⟨v, μ1, V', h', r', e1, S1⟩ := (op_turn PC S x).any
  exact end_iN (run_VN (q := (RX4, TX4, 11)) (ci := 4) (rest := []) hF K hW hS hl ka (by decide) rfl (c_X4_turn l hOK ka e1) (kw_L_37 hF.2.2.2.2 ⟨Nat.le_of_ble_eq_true rfl, Nat.le_of_ble_eq_true rfl⟩) rfl rfl (Nat.le_of_ble_eq_true rfl) hdg hf) hS (fun H locs hW hS => kk v μ1 V' h' r' H locs S1 hW hS)
theorem rj_rise (B : LawB p l e s m below meth c G Λ a b L xs) (PC : FrApart Λ a) (S : St Λ μ a V h sv r0 []) (hW : Wd G Λ μ H) (hS : va_S (AN Λ s.heap.size) s.heap H locs) (hl : ls.size = 9) {x y : Int32} (hdg : decode code pc = .ok (.invokevirtual 43, 3)) (hf : cells ≤ room_1.cells ∧ slots ≤ room_1.slots)
    (kk : ∀ (v : Int32) (μ1 : Mem) (V' : Pic) (h' : List Pic) (r' : Int32) (H : Heap) (locs : List Loc), St Λ μ1 a V' h' sv r' [] → Wd G Λ μ1 H → va_S (AN Λ s.heap.size) s.heap H locs → W p l e room_1 s m #[.ref b] below meth c H locs cells slots (lw_Z below #[.ref b] s) (F0 m (pc + 3) ls [.int v])) : W p l e room_1 s m #[.ref b] below meth c H locs cells slots (lw_Z below #[.ref b] s) (F0 m pc ls (.int y :: .int x :: .ref a :: [])) := by
  obtain ⟨hF, hr, hlocks, hX, hbl, hL, K, hOK, ka, A1, -, tx, qa, va, hXs, hXn⟩ := id B
  obtain ⟨v, μ1, V', h', r', e1, S1⟩ := (op_rise PC S x y).any
  exact end_iN (run_VN (q := (RX4, TX4, 11)) (ci := 4) (rest := []) hF K hW hS hl ka (by decide) rfl (c_X4_rise l hOK ka e1) (kw_L_43 hF.2.2.2.2 ⟨Nat.le_of_ble_eq_true rfl, Nat.le_of_ble_eq_true rfl⟩) rfl rfl (Nat.le_of_ble_eq_true rfl) hdg hf) hS (fun H locs hW hS => kk v μ1 V' h' r' H locs S1 hW hS)
set_option maxHeartbeats 4000000 in
set_option maxRecDepth 100000 in
theorem wk_end (B : LawB p l e s m below meth c G Λ a b L xs) {U : Pic} (S : St Λ μ a V h (some U) r0 []) (hW : Wd G Λ μ H) (hS : va_S (AN Λ s.heap.size) s.heap H locs) (hl : lv_has ls 9 [(6, .int (nI U.w.length)), (4, .long (dg U)), (3, .int (1 : Int32)), (1, .ref a)]) : W p l e room_1 s m #[.ref b] below meth c H locs (822) (69890) (lw_Z below #[.ref b] s) (F0 m 331 ls []) := by
  obtain ⟨hF, hr, hlocks, hX, hbl, hL, K, hOK, ka, A1, PC, tx, qa, va, hXs, hXn⟩ := id B
  have hx := hF.1
  have hb := hF.2.1
  refine lv_iload_n hx hb dL_law_331 rfl (lv_at hl 2 rfl) ?_
  refine lv_if_eq (tgt := 367) hx hb dL_law_332 (by decide) (fun z => absurd z z10) (fun _ => ?_)
  refine lv_aload_n hx hb dL_law_335 rfl (lv_at hl 3 rfl) ?_
  obtain ⟨μ1, e1, S1⟩ := op_restore PC S
  refine end_iN (run_VN (q := (RX4, TX4, 11)) (ci := 4) (rest := []) hF K hW hS hl.1 ka (by decide) rfl (c_X4_restore l hOK ka e1) (kw_L_62 hF.2.2.2.2 ⟨Nat.le_of_ble_eq_true rfl, Nat.le_of_ble_eq_true rfl⟩) rfl rfl (Nat.le_of_ble_eq_true rfl) dL_law_336 ⟨(by show 822 ≤ 600000; omega), (by show 69890 ≤ 7302250; omega)⟩) hS (fun H locs (hW : Wd G Λ μ1 H) hS => ?_)
  refine lv_iload hx hb dL_law_339 (lv_at hl 0 rfl) ?_
  refine lv_icmp_ne (tgt := 367) hx hb dL_law_341 (by decide) (fun z => absurd rfl z) (fun _ => ?_)
  refine lv_aload_n hx hb dL_law_344 rfl (lv_at hl 3 rfl) ?_
  refine end_lN (run_SN (rest := []) hF K hW hS hl.1 (c_L_digest l hOK ka (lw_digest S1.now S1.ok)) (kw_L_156 hF.2.2.2.2 ⟨Nat.le_of_ble_eq_true rfl, Nat.le_of_ble_eq_true rfl⟩) rfl rfl (Nat.le_of_ble_eq_true rfl) dL_law_345 ⟨(by show 822 ≤ 600000; omega), (by show 69890 ≤ 7302250; omega)⟩) hS (fun H locs hW hS => ?_)
  refine lv_lload hx hb dL_law_348 (lv_at hl 1 rfl) ?_
  refine W.lcmp hx hb dL_law_350 ?_
  refine lv_if_ne (tgt := 367) hx hb dL_law_351 (by decide) (fun z => absurd (lg_same _) z) (fun _ => ?_)
  refine lv_aload_n hx hb dL_law_354 rfl (lv_at hl 3 rfl) ?_
  refine end_iN (run_VN (q := (RX4, TX4, 11)) (ci := 4) (rest := []) hF K hW hS hl.1 ka (by decide) rfl (c_X4_undo l hOK ka (op_undo0 S1)) (kw_L_65 hF.2.2.2.2 ⟨Nat.le_of_ble_eq_true rfl, Nat.le_of_ble_eq_true rfl⟩) rfl rfl (Nat.le_of_ble_eq_true rfl) dL_law_355 ⟨(by show 822 ≤ 600000; omega), (by show 69890 ≤ 7302250; omega)⟩) hS (fun H locs (hW : Wd G Λ μ1 H) hS => ?_)
  refine lv_bipush (v := (-4 : Int32)) hx hb dL_law_358 (by decide) ?_
  refine lv_icmp_ne (tgt := 367) hx hb dL_law_360 (by decide) (fun z => absurd rfl z) (fun _ => ?_)
  refine lv_iconst (v := (1 : Int32)) hx hb dL_law_363 (by decide) ?_
  refine lv_goto (tgt := 368) hx hb dL_law_364 (by decide) ?_
  refine va_forget (fun q hq => (hS.2.2 q hq).elim (A1 _) id) ?_
  refine W.widen (k := 600000) (n := 7302250) (by decide) (by decide) ?_
  exact lw_ret (Drawn.sameBut.refl s.drawn lw_cs) hx hb hr hlocks dL_law_368
set_option maxHeartbeats 4000000 in
set_option maxRecDepth 100000 in
theorem wk_turns (B : LawB p l e s m below meth c G Λ a b L xs) {U : Pic} : ∀ (n k : Nat) (μ : Mem) (V : Pic) (h : List Pic) (r0 : Int32) (H : Heap) (locs : List Loc) (ls : Array Slot), k + n = 5 → St Λ μ a V h (some U) r0 [] → Wd G Λ μ H → va_S (AN Λ s.heap.size) s.heap H locs → lv_has ls 9 [(7, .int (nI k)), (6, .int (nI U.w.length)), (4, .long (dg U)), (3, .int (1 : Int32)), (1, .ref a)] → W p l e room_1 s m #[.ref b] below meth c H locs (762 + 12 * k) (61250 + 1728 * k) (lw_Z below #[.ref b] s) (F0 m 260 ls []) := by
  obtain ⟨hF, hr, hlocks, hX, hbl, hL, K, hOK, ka, A1, PC, tx, qa, va, hXs, hXn⟩ := id B
  have hx := hF.1
  have hb := hF.2.1
  intro n
  induction n with
  | zero =>
    intro k μ V h r0 H locs ls hk S hW hS hl
    have e5 : k = 5 := by omega
    subst e5
    refine lv_iload_n hx hb dL_law_260 rfl (lv_at hl 3 rfl) ?_
    refine lv_if_eq (tgt := 331) hx hb dL_law_261 (by decide) (fun z => absurd z z10) (fun _ => ?_)
    refine lv_iload hx hb dL_law_264 (lv_at hl 0 rfl) ?_
    refine lv_iconst (v := (5 : Int32)) hx hb dL_law_266 (by decide) ?_
    refine lv_icmp_ge (tgt := 331) hx hb dL_law_267 (by decide) (fun _ => ?_) (fun z => absurd (show (5 : Int32) ≤ nI 5 by decide) z)
    refine W_cs (k := 822) (n := 69890) rfl rfl ?_
    exact wk_end B S hW hS (lv_sub hl [1, 2, 3, 4] rfl)
  | succ n ih =>
    intro k μ V h r0 H locs ls hk S hW hS hl
    refine lv_iload_n hx hb dL_law_260 rfl (lv_at hl 3 rfl) ?_
    refine lv_if_eq (tgt := 331) hx hb dL_law_261 (by decide) (fun z => absurd z z10) (fun _ => ?_)
    refine lv_iload hx hb dL_law_264 (lv_at hl 0 rfl) ?_
    refine lv_iconst (v := (5 : Int32)) hx hb dL_law_266 (by decide) ?_
    refine lv_icmp_ge (tgt := 331) hx hb dL_law_267 (by decide) (fun z => absurd ((nI_leI (a := 5) (b := k) (by omega) (by omega)).mp z) (by omega)) (fun _ => ?_)
    refine lv_aload_n hx hb dL_law_270 rfl (lv_at hl 4 rfl) ?_
    refine lv_iload hx hb dL_law_271 (lv_at hl 0 rfl) ?_
    refine lv_iload hx hb dL_law_273 (lv_at hl 0 rfl) ?_
    refine lv_iconst (v := (1 : Int32)) hx hb dL_law_275 (by decide) ?_
    refine lv_iadd hx hb dL_law_276 ?_
    refine rj_cut B PC S hW hS hl.1 dL_law_277 ⟨(by show 762 + 12 * k ≤ 600000; omega), (by show 61250 + 1728 * k ≤ 7302250; omega)⟩ (fun v1 μ V1 h1 r1 H locs S hW hS => ?_)
    refine lv_pop hx hb dL_law_280 rfl ?_
    refine lv_aload_n hx hb dL_law_281 rfl (lv_at hl 4 rfl) ?_
    refine lv_iload hx hb dL_law_282 (lv_at hl 0 rfl) ?_
    refine lv_iconst (v := (3 : Int32)) hx hb dL_law_284 (by decide) ?_
    refine lv_iload hx hb dL_law_285 (lv_at hl 0 rfl) ?_
    refine lv_imul hx hb dL_law_287 ?_
    refine lv_iconst (v := (2 : Int32)) hx hb dL_law_288 (by decide) ?_
    refine lv_iadd hx hb dL_law_289 ?_
    refine lv_bipush (v := (6 : Int32)) hx hb dL_law_290 (by decide) ?_
    refine lv_irem hx hb dL_law_292 (by decide) ?_
    refine rj_join B PC S hW hS hl.1 dL_law_293 ⟨(by show 762 + 12 * k ≤ 600000; omega), (by show 61250 + 1728 * k ≤ 7302250; omega)⟩ (fun v2 μ V2 h2 r2 H locs S hW hS => ?_)
    refine lv_pop hx hb dL_law_296 rfl ?_
    refine lv_aload_n hx hb dL_law_297 rfl (lv_at hl 4 rfl) ?_
    refine lv_iconst (v := (5 : Int32)) hx hb dL_law_298 (by decide) ?_
    refine lv_iload hx hb dL_law_299 (lv_at hl 0 rfl) ?_
    refine lv_isub hx hb dL_law_301 ?_
    refine rj_turn B PC S hW hS hl.1 dL_law_302 ⟨(by show 762 + 12 * k ≤ 600000; omega), (by show 61250 + 1728 * k ≤ 7302250; omega)⟩ (fun v3 μ V3 h3 r3 H locs S hW hS => ?_)
    refine lv_pop hx hb dL_law_305 rfl ?_
    refine lv_aload_n hx hb dL_law_306 rfl (lv_at hl 4 rfl) ?_
    refine lv_iload hx hb dL_law_307 (lv_at hl 0 rfl) ?_
    refine lv_bipush (v := (7 : Int32)) hx hb dL_law_309 (by decide) ?_
    refine lv_iconst (v := (3 : Int32)) hx hb dL_law_311 (by decide) ?_
    refine lv_iload hx hb dL_law_312 (lv_at hl 0 rfl) ?_
    refine lv_imul hx hb dL_law_314 ?_
    refine lv_isub hx hb dL_law_315 ?_
    refine rj_rise B PC S hW hS hl.1 dL_law_316 ⟨(by show 762 + 12 * k ≤ 600000; omega), (by show 61250 + 1728 * k ≤ 7302250; omega)⟩ (fun v4 μ V4 h4 r4 H locs S hW hS => ?_)
    refine lv_pop hx hb dL_law_319 rfl ?_
    refine lv_aload_n hx hb dL_law_320 rfl (lv_at hl 4 rfl) ?_
    refine run_SA (rest := []) hF K hW hS hl.1 (c_L_isFit l hOK ka (lw_fit S.now S.ok)) (kw_L_172 hF.2.2.2.2 ⟨Nat.le_of_ble_eq_true rfl, Nat.le_of_ble_eq_true rfl⟩) rfl rfl (Nat.le_of_ble_eq_true rfl) dL_law_321 ⟨(by show 762 + 12 * k + 12 ≤ 600000; omega), (by show 61250 + 1728 * k + 1728 ≤ 7302250; omega)⟩ (fun H locs (hW : Wd G Λ μ H) hS => ?_)
    refine lv_istore_n (lv' := [(3, .int (1 : Int32)), (7, .int (nI k)), (6, .int (nI U.w.length)), (4, .long (dg U)), (1, .ref a)]) hx hb dL_law_324 rfl hl (by decide) rfl (fun ls hl => ?_)
    refine lv_iinc (v := nI (k + 1)) (lv' := [(7, .int (nI (k + 1))), (3, .int (1 : Int32)), (6, .int (nI U.w.length)), (4, .long (dg U)), (1, .ref a)]) hx hb dL_law_325 hl (k := 1) rfl (nI_add k 1) (by decide) rfl (fun ls hl => ?_)
    refine lv_goto (tgt := 260) hx hb dL_law_328 (by decide) ?_
    refine W_cs (k := 762 + 12 * (k + 1)) (n := 61250 + 1728 * (k + 1)) (by omega) (by omega) ?_
    exact ih (k + 1) μ V4 h4 r4 H locs ls (by omega) S hW hS (lv_sub hl [0, 2, 3, 1, 4] rfl)
set_option maxHeartbeats 4000000 in
set_option maxRecDepth 100000 in
theorem wk_told (B : LawB p l e s m below meth c G Λ a b L xs) {U : Pic} {k : Nat} (hk : k < 20) (S : St Λ μ a U h (some U) r0 []) (hW : Wd G Λ μ H) (hS : va_S (AN Λ s.heap.size) s.heap H locs) (hl : lv_has ls 9 [(7, .int (nI k)), (6, .int (nI U.w.length)), (4, .long (dg U)), (3, .int (1 : Int32)), (1, .ref a)]) (kk : ∀ (H : Heap) (locs : List Loc) (ls : Array Slot), St Λ μ a U h (some U) r0 [] → Wd G Λ μ H → va_S (AN Λ s.heap.size) s.heap H locs → lv_has ls 9 [(7, .int (nI (k + 1))), (6, .int (nI U.w.length)), (4, .long (dg U)), (3, .int (1 : Int32)), (1, .ref a)] → W p l e room_1 s m #[.ref b] below meth c H locs (522 + 12 * (k + 1)) (26690 + 1728 * (k + 1)) (lw_Z below #[.ref b] s) (F0 m 178 ls [])) : W p l e room_1 s m #[.ref b] below meth c H locs (522 + 12 * (k + 1)) (26690 + 1728 * (k + 1)) (lw_Z below #[.ref b] s) (F0 m 235 ls []) := by
  obtain ⟨hF, hr, hlocks, hX, hbl, hL, K, hOK, ka, A1, PC, tx, qa, va, hXs, hXn⟩ := id B
  have hx := hF.1
  have hb := hF.2.1
  refine lv_aload_n hx hb dL_law_235 rfl (lv_at hl 4 rfl) ?_
  refine end_lN (run_SN (rest := []) hF K hW hS hl.1 (c_L_digest l hOK ka (lw_digest S.now S.ok)) (kw_L_156 hF.2.2.2.2 ⟨Nat.le_of_ble_eq_true rfl, Nat.le_of_ble_eq_true rfl⟩) rfl rfl (Nat.le_of_ble_eq_true rfl) dL_law_236 ⟨(by show 522 + 12 * (k + 1) ≤ 600000; omega), (by show 26690 + 1728 * (k + 1) ≤ 7302250; omega)⟩) hS (fun H locs hW hS => ?_)
  refine lv_lload hx hb dL_law_239 (lv_at hl 2 rfl) ?_
  refine W.lcmp hx hb dL_law_241 ?_
  refine lv_if_ne (tgt := 249) hx hb dL_law_242 (by decide) (fun z => absurd (lg_same _) z) (fun _ => ?_)
  refine lv_iconst (v := (1 : Int32)) hx hb dL_law_245 (by decide) ?_
  refine lv_goto (tgt := 250) hx hb dL_law_246 (by decide) ?_
  refine lv_istore_n (lv' := [(3, .int (1 : Int32)), (7, .int (nI k)), (6, .int (nI U.w.length)), (4, .long (dg U)), (1, .ref a)]) hx hb dL_law_250 rfl hl (by decide) rfl (fun ls hl => ?_)
  refine lv_iinc (v := nI (k + 1)) (lv' := [(7, .int (nI (k + 1))), (3, .int (1 : Int32)), (6, .int (nI U.w.length)), (4, .long (dg U)), (1, .ref a)]) hx hb dL_law_251 hl (k := 1) rfl (nI_add k 1) (by decide) rfl (fun ls hl => ?_)
  refine lv_goto (tgt := 178) hx hb dL_law_254 (by decide) ?_
  exact kk H locs ls S hW hS (lv_sub hl [0, 2, 3, 1, 4] rfl)
set_option maxHeartbeats 4000000 in
set_option maxRecDepth 100000 in
theorem wk_texts (B : LawB p l e s m below meth c G Λ a b L xs) {U : Pic} : ∀ (n k : Nat) (μ : Mem) (h : List Pic) (r0 : Int32) (H : Heap) (locs : List Loc) (ls : Array Slot), k + n = 20 → St Λ μ a U h (some U) r0 [] → Wd G Λ μ H → va_S (AN Λ s.heap.size) s.heap H locs → lv_has ls 9 [(7, .int (nI k)), (6, .int (nI U.w.length)), (4, .long (dg U)), (3, .int (1 : Int32)), (1, .ref a)] → W p l e room_1 s m #[.ref b] below meth c H locs (522 + 12 * k) (26690 + 1728 * k) (lw_Z below #[.ref b] s) (F0 m 178 ls []) := by
  obtain ⟨hF, hr, hlocks, hX, hbl, hL, K, hOK, ka, A1, PC, tx, qa, va, hXs, hXn⟩ := id B
  have hx := hF.1
  have hb := hF.2.1
  intro n
  induction n with
  | zero =>
    intro k μ h r0 H locs ls hk S hW hS hl
    have e5 : k = 20 := by omega
    subst e5
    refine lv_iload_n hx hb dL_law_178 rfl (lv_at hl 3 rfl) ?_
    refine lv_if_eq (tgt := 257) hx hb dL_law_179 (by decide) (fun z => absurd z z10) (fun _ => ?_)
    refine lv_iload hx hb dL_law_182 (lv_at hl 0 rfl) ?_
    refine va_gets (C := RL) (ref := RL) hx hb hXn.1 hS hF.2.2.2.1 (hF.2.2.2.2 _ wd_552) (fun _ h => h) dL_law_184 ?_
    refine va_tlen (v := (20 : Int32)) hx hb hXn.2 hS (by decide) dL_law_187 ?_
    refine lv_icmp_ge (tgt := 257) hx hb dL_law_188 (by decide) (fun _ => ?_) (fun z => absurd (show (20 : Int32) ≤ nI 20 by decide) z)
    refine lv_iconst (v := (0 : Int32)) hx hb dL_law_257 (by decide) ?_
    refine lv_istore (lv' := [(7, .int (nI 0)), (6, .int (nI U.w.length)), (4, .long (dg U)), (3, .int (1 : Int32)), (1, .ref a)]) hx hb dL_law_258 hl (by decide) rfl (fun ls hl => ?_)
    refine W_cs (k := 762 + 12 * 0) (n := 61250 + 1728 * 0) rfl rfl ?_
    exact wk_turns B 5 0 μ U h r0 H locs ls (by omega) S hW hS (lv_sub hl [0, 1, 2, 3, 4] rfl)
  | succ n ih =>
    intro k μ h r0 H locs ls hk S hW hS hl
    have hk20 : k < 20 := by omega
    refine lv_iload_n hx hb dL_law_178 rfl (lv_at hl 3 rfl) ?_
    refine lv_if_eq (tgt := 257) hx hb dL_law_179 (by decide) (fun z => absurd z z10) (fun _ => ?_)
    refine lv_iload hx hb dL_law_182 (lv_at hl 0 rfl) ?_
    refine va_gets (C := RL) (ref := RL) hx hb hXn.1 hS hF.2.2.2.1 (hF.2.2.2.2 _ wd_552) (fun _ h => h) dL_law_184 ?_
    refine va_tlen (v := (20 : Int32)) hx hb hXn.2 hS (by decide) dL_law_187 ?_
    refine lv_icmp_ge (tgt := 257) hx hb dL_law_188 (by decide) (fun z => absurd ((nI_leI (a := 20) (b := k) (by omega) (by omega)).mp z) (by omega)) (fun _ => ?_)
    refine lv_aload_n hx hb dL_law_191 rfl (lv_at hl 4 rfl) ?_
    refine va_gets (C := RL) (ref := RL) hx hb hXn.1 hS hF.2.2.2.1 (hF.2.2.2.2 _ wd_552) (fun _ h => h) dL_law_192 ?_
    refine lv_iload hx hb dL_law_195 (lv_at hl 0 rfl) ?_
    refine vb_tq hx hb hXn.2 hS (nI_in hk20 (by omega)) (by show Value.ref (qa (nI k).toNatClampNeg) = Value.ref (qa k); rw [nI_clamp (by omega)]) dL_law_197 ?_
    obtain ⟨μ1, e1, R1⟩ := op_text PC S hk20
    refine row_writeN (rest := []) hOK hF K hXs hW hS hl.1 ka hk20 e1 (Nat.le_of_ble_eq_true rfl) ⟨Nat.le_of_ble_eq_true rfl, Nat.le_of_ble_eq_true rfl⟩ ⟨(by show 522 + 12 * k ≤ 600000; omega), (by show 26690 + 1728 * k ≤ 7302250; omega)⟩ dL_law_198 (fun H locs hW hS => ?_)
    have kk : ∀ (μ : Mem) (h : List Pic) (r0 : Int32) (H : Heap) (locs : List Loc) (ls : Array Slot), St Λ μ a U h (some U) r0 [] → Wd G Λ μ H → va_S (AN Λ s.heap.size) s.heap H locs → lv_has ls 9 [(7, .int (nI k)), (6, .int (nI U.w.length)), (4, .long (dg U)), (3, .int (1 : Int32)), (1, .ref a)] → W p l e room_1 s m #[.ref b] below meth c H locs (522 + 12 * (k + 1)) (26690 + 1728 * (k + 1)) (lw_Z below #[.ref b] s) (F0 m 235 ls []) := fun μ h r0 H locs ls S hW hS hl => wk_told B hk20 S hW hS hl (fun H locs ls S hW hS hl => ih (k + 1) μ h r0 H locs ls (by omega) S hW hS hl)
    rcases R1 with ⟨x, μ2, r2, e2, hx3, S2⟩ | ⟨n2, μ2, V2, r2, e2, hn2, S2⟩
    · have hx0 : ¬ (0 : Int32) ≤ x := by rcases hx3 with q | q | q <;> subst q <;> decide
      have hx4 : ¬ x < (-3 : Int32) := by rcases hx3 with q | q | q <;> subst q <;> decide
      refine end_iN (run_VN (q := (RX4, TX4, 11)) (ci := 4) (rest := []) hF K hW hS hl.1 ka (by decide) rfl (c_X4_read l hOK ka e2) (kw_L_56 hF.2.2.2.2 ⟨Nat.le_of_ble_eq_true rfl, Nat.le_of_ble_eq_true rfl⟩) rfl rfl (Nat.le_of_ble_eq_true rfl) dL_law_201 ⟨(by show 522 + 12 * k ≤ 600000; omega), (by show 26690 + 1728 * k ≤ 7302250; omega)⟩) hS (fun H locs (hW : Wd G Λ μ2 H) hS => ?_)
      refine lv_istore (lv' := [(8, .int x), (7, .int (nI k)), (6, .int (nI U.w.length)), (4, .long (dg U)), (3, .int (1 : Int32)), (1, .ref a)]) hx hb dL_law_204 hl (by decide) rfl (fun ls hl => ?_)
      refine lv_iload hx hb dL_law_206 (lv_at hl 0 rfl) ?_
      refine lv_if_ge (tgt := 221) hx hb dL_law_208 (by decide) (fun z => absurd z hx0) (fun _ => ?_)
      refine lv_iload hx hb dL_law_211 (lv_at hl 0 rfl) ?_
      refine lv_bipush (v := (-3 : Int32)) hx hb dL_law_213 (by decide) ?_
      refine lv_icmp_lt (tgt := 249) hx hb dL_law_215 (by decide) (fun z => absurd z hx4) (fun _ => ?_)
      refine lv_goto (tgt := 235) hx hb dL_law_218 (by decide) ?_
      refine W.widen (k := 522 + 12 * (k + 1)) (n := 26690 + 1728 * (k + 1)) (by omega) (by omega) ?_
      exact kk μ2 h r2 H locs ls S2 hW hS (lv_sub hl [1, 2, 3, 4, 5] rfl)
    · have hx0 : (0 : Int32) ≤ nI n2 := (nI_leI (a := 0) (b := n2) (by omega) hn2).mpr (Nat.zero_le _)
      obtain ⟨h0, eh⟩ := push_end h U
      rw [eh] at S2
      refine end_iN (run_VN (q := (RX4, TX4, 11)) (ci := 4) (rest := []) hF K hW hS hl.1 ka (by decide) rfl (c_X4_read l hOK ka e2) (kw_L_56 hF.2.2.2.2 ⟨Nat.le_of_ble_eq_true rfl, Nat.le_of_ble_eq_true rfl⟩) rfl rfl (Nat.le_of_ble_eq_true rfl) dL_law_201 ⟨(by show 522 + 12 * k ≤ 600000; omega), (by show 26690 + 1728 * k ≤ 7302250; omega)⟩) hS (fun H locs (hW : Wd G Λ μ2 H) hS => ?_)
      refine lv_istore (lv' := [(8, .int (nI n2)), (7, .int (nI k)), (6, .int (nI U.w.length)), (4, .long (dg U)), (3, .int (1 : Int32)), (1, .ref a)]) hx hb dL_law_204 hl (by decide) rfl (fun ls hl => ?_)
      refine lv_iload hx hb dL_law_206 (lv_at hl 0 rfl) ?_
      refine lv_if_ge (tgt := 221) hx hb dL_law_208 (by decide) (fun _ => ?_) (fun z => absurd hx0 z)
      refine lv_aload_n hx hb dL_law_221 rfl (lv_at hl 5 rfl) ?_
      refine run_SA (rest := []) hF K hW hS hl.1 (c_L_areParts l hOK ka (lw_parts S2.now S2.ok)) (kw_L_131 hF.2.2.2.2 ⟨Nat.le_of_ble_eq_true rfl, Nat.le_of_ble_eq_true rfl⟩) rfl rfl (Nat.le_of_ble_eq_true rfl) dL_law_222 ⟨(by show 522 + 12 * k + 12 ≤ 600000; omega), (by show 26690 + 1728 * k + 1728 ≤ 7302250; omega)⟩ (fun H locs (hW : Wd G Λ μ2 H) hS => ?_)
      refine lv_if_eq (tgt := 249) hx hb dL_law_225 (by decide) (fun z => absurd z z10) (fun _ => ?_)
      obtain ⟨μ3, e3, hn3, S3⟩ := op_undo PC S2
      refine lv_aload_n hx hb dL_law_228 rfl (lv_at hl 5 rfl) ?_
      refine end_iN (run_VN (q := (RX4, TX4, 11)) (ci := 4) (rest := []) hF K hW hS hl.1 ka (by decide) rfl (c_X4_undo l hOK ka e3) (kw_L_65 hF.2.2.2.2 ⟨Nat.le_of_ble_eq_true rfl, Nat.le_of_ble_eq_true rfl⟩) rfl rfl (Nat.le_of_ble_eq_true rfl) dL_law_229 ⟨(by show 522 + 12 * k + 12 ≤ 600000; omega), (by show 26690 + 1728 * k + 1728 ≤ 7302250; omega)⟩) hS (fun H locs (hW : Wd G Λ μ3 H) hS => ?_)
      refine lv_if_lt (tgt := 249) hx hb dL_law_232 (by decide) (fun z => absurd z (nI_pos hn3)) (fun _ => ?_)
      refine W_cs (k := 522 + 12 * (k + 1)) (n := 26690 + 1728 * (k + 1)) (by omega) (by omega) ?_
      exact kk μ3 h0 r2 H locs ls S3 hW hS (lv_sub hl [1, 2, 3, 4, 5] rfl)
set_option maxHeartbeats 4000000 in
set_option maxRecDepth 100000 in
theorem wk_read (B : LawB p l e s m below meth c G Λ a b L xs) (S : St Λ μ a V h sv r0 []) (hW : Wd G Λ μ H) (hS : va_S (AN Λ s.heap.size) s.heap H locs) (hl : lv_has ls 9 [(3, .int (1 : Int32)), (1, .ref a)]) : W p l e room_1 s m #[.ref b] below meth c H locs (522) (26690) (lw_Z below #[.ref b] s) (F0 m 158 ls []) := by
  obtain ⟨hF, hr, hlocks, hX, hbl, hL, K, hOK, ka, A1, PC, tx, qa, va, hXs, hXn⟩ := id B
  have hx := hF.1
  have hb := hF.2.1
  refine lv_aload_n hx hb dL_law_158 rfl (lv_at hl 1 rfl) ?_
  obtain ⟨μ1, e1, S1⟩ := op_read0 PC S
  refine end_iN (run_VN (q := (RX4, TX4, 11)) (ci := 4) (rest := []) hF K hW hS hl.1 ka (by decide) rfl (c_X4_read l hOK ka e1) (kw_L_56 hF.2.2.2.2 ⟨Nat.le_of_ble_eq_true rfl, Nat.le_of_ble_eq_true rfl⟩) rfl rfl (Nat.le_of_ble_eq_true rfl) dL_law_159 ⟨(by show 522 ≤ 600000; omega), (by show 26690 ≤ 7302250; omega)⟩) hS (fun H locs (hW : Wd G Λ μ1 H) hS => ?_)
  refine lv_pop hx hb dL_law_162 rfl ?_
  refine lv_aload_n hx hb dL_law_163 rfl (lv_at hl 1 rfl) ?_
  refine end_lN (run_SN (rest := []) hF K hW hS hl.1 (c_L_digest l hOK ka (lw_digest S1.now S1.ok)) (kw_L_156 hF.2.2.2.2 ⟨Nat.le_of_ble_eq_true rfl, Nat.le_of_ble_eq_true rfl⟩) rfl rfl (Nat.le_of_ble_eq_true rfl) dL_law_164 ⟨(by show 522 ≤ 600000; omega), (by show 26690 ≤ 7302250; omega)⟩) hS (fun H locs hW hS => ?_)
  refine lv_lstore (lv' := [(4, .long (dg V)), (3, .int (1 : Int32)), (1, .ref a)]) hx hb dL_law_167 hl (by decide) rfl (fun ls hl => ?_)
  refine lv_aload_n hx hb dL_law_169 rfl (lv_at hl 2 rfl) ?_
  obtain ⟨μ2, e2, S2⟩ := op_save PC S1
  refine end_iN (run_VN (q := (RX4, TX4, 11)) (ci := 4) (rest := []) hF K hW hS hl.1 ka (by decide) rfl (c_X4_save l hOK ka e2) (kw_L_59 hF.2.2.2.2 ⟨Nat.le_of_ble_eq_true rfl, Nat.le_of_ble_eq_true rfl⟩) rfl rfl (Nat.le_of_ble_eq_true rfl) dL_law_170 ⟨(by show 522 ≤ 600000; omega), (by show 26690 ≤ 7302250; omega)⟩) hS (fun H locs (hW : Wd G Λ μ2 H) hS => ?_)
  refine lv_istore (lv' := [(6, .int (nI V.w.length)), (4, .long (dg V)), (3, .int (1 : Int32)), (1, .ref a)]) hx hb dL_law_173 hl (by decide) rfl (fun ls hl => ?_)
  refine lv_iconst (v := (0 : Int32)) hx hb dL_law_175 (by decide) ?_
  refine lv_istore (lv' := [(7, .int (nI 0)), (6, .int (nI V.w.length)), (4, .long (dg V)), (3, .int (1 : Int32)), (1, .ref a)]) hx hb dL_law_176 hl (by decide) rfl (fun ls hl => ?_)
  refine W_cs (k := 522 + 12 * 0) (n := 26690 + 1728 * 0) rfl rfl ?_
  exact wk_texts B 20 0 μ2 h r0 H locs ls (by omega) S2 hW hS (lv_sub hl [0, 1, 2, 3, 4] rfl)
set_option maxHeartbeats 4000000 in
set_option maxRecDepth 100000 in
theorem wk_tied (B : LawB p l e s m below meth c G Λ a b L xs) : ∀ (n k : Nat) (μ : Mem) (V : Pic) (h : List Pic) (r0 : Int32) (H : Heap) (locs : List Loc) (ls : Array Slot), k + n = 12 → St Λ μ a V h sv r0 [] → Wd G Λ μ H → va_S (AN Λ s.heap.size) s.heap H locs → lv_has ls 9 [(4, .int (nI k)), (3, .int (1 : Int32)), (1, .ref a)] → W p l e room_1 s m #[.ref b] below meth c H locs (378 + 12 * k) (5954 + 1728 * k) (lw_Z below #[.ref b] s) (F0 m 120 ls []) := by
  obtain ⟨hF, hr, hlocks, hX, hbl, hL, K, hOK, ka, A1, PC, tx, qa, va, hXs, hXn⟩ := id B
  have hx := hF.1
  have hb := hF.2.1
  intro n
  induction n with
  | zero =>
    intro k μ V h r0 H locs ls hk S hW hS hl
    have e5 : k = 12 := by omega
    subst e5
    refine lv_iload_n hx hb dL_law_120 rfl (lv_at hl 1 rfl) ?_
    refine lv_if_eq (tgt := 158) hx hb dL_law_121 (by decide) (fun z => absurd z z10) (fun _ => ?_)
    refine lv_iload hx hb dL_law_124 (lv_at hl 0 rfl) ?_
    refine lv_bipush (v := (12 : Int32)) hx hb dL_law_126 (by decide) ?_
    refine lv_icmp_ge (tgt := 158) hx hb dL_law_128 (by decide) (fun _ => ?_) (fun z => absurd (show (12 : Int32) ≤ nI 12 by decide) z)
    refine W_cs (k := 522) (n := 26690) rfl rfl ?_
    exact wk_read B S hW hS (lv_sub hl [1, 2] rfl)
  | succ n ih =>
    intro k μ V h r0 H locs ls hk S hW hS hl
    have e4 : nI k - nI k / (4 : Int32) * (4 : Int32) = nI (k % 4) := pk_rem (a := k) (d := 4) (by omega) (by omega) (by omega)
    have d4 : nI k / (4 : Int32) = nI (k / 4) := pk_div (a := k) (d := 4) (by omega) (by omega) (by omega)
    have e6 : (nI k + 1 + nI k / (4 : Int32)) - (nI k + 1 + nI k / (4 : Int32)) / (6 : Int32) * (6 : Int32) = nI ((k + 1 + k / 4) % 6) := by
      rw [d4, show (1 : Int32) = nI 1 from rfl, nI_add, nI_add]
      exact pk_rem (a := k + 1 + k / 4) (d := 6) (by omega) (by omega) (by omega)
    obtain ⟨μ1, h1, r1, e1, S1⟩ := lw_tied PC S (k % 4) ((k + 1 + k / 4) % 6)
    refine lv_iload_n hx hb dL_law_120 rfl (lv_at hl 1 rfl) ?_
    refine lv_if_eq (tgt := 158) hx hb dL_law_121 (by decide) (fun z => absurd z z10) (fun _ => ?_)
    refine lv_iload hx hb dL_law_124 (lv_at hl 0 rfl) ?_
    refine lv_bipush (v := (12 : Int32)) hx hb dL_law_126 (by decide) ?_
    refine lv_icmp_ge (tgt := 158) hx hb dL_law_128 (by decide) (fun z => absurd ((nI_leI (a := 12) (b := k) (by omega) (by omega)).mp z) (by omega)) (fun _ => ?_)
    refine lv_aload_n hx hb dL_law_131 rfl (lv_at hl 2 rfl) ?_
    refine lv_iload hx hb dL_law_132 (lv_at hl 0 rfl) ?_
    refine lv_iconst (v := (4 : Int32)) hx hb dL_law_134 (by decide) ?_
    refine lv_irem hx hb dL_law_135 (by decide) ?_
    refine top_i e4.symm ?_
    refine lv_iload hx hb dL_law_136 (lv_at hl 0 rfl) ?_
    refine lv_iconst (v := (1 : Int32)) hx hb dL_law_138 (by decide) ?_
    refine lv_iadd hx hb dL_law_139 ?_
    refine lv_iload hx hb dL_law_140 (lv_at hl 0 rfl) ?_
    refine lv_iconst (v := (4 : Int32)) hx hb dL_law_142 (by decide) ?_
    refine lv_idiv hx hb dL_law_143 (by decide) ?_
    refine lv_iadd hx hb dL_law_144 ?_
    refine lv_bipush (v := (6 : Int32)) hx hb dL_law_145 (by decide) ?_
    refine lv_irem hx hb dL_law_147 (by decide) ?_
    refine top_i e6.symm ?_
    refine run_SA (rest := []) hF K hW hS hl.1 (c_L_isTiedAgain l hOK ka e1) (kw_L_175 hF.2.2.2.2 ⟨Nat.le_of_ble_eq_true rfl, Nat.le_of_ble_eq_true rfl⟩) rfl rfl (Nat.le_of_ble_eq_true rfl) dL_law_148 ⟨(by show 378 + 12 * k + 12 ≤ 600000; omega), (by show 5954 + 1728 * k + 1728 ≤ 7302250; omega)⟩ (fun H locs (hW : Wd G Λ μ1 H) hS => ?_)
    refine top_i (y := (1 : Int32)) rfl ?_
    refine lv_istore_n (lv' := [(3, .int (1 : Int32)), (4, .int (nI k)), (1, .ref a)]) hx hb dL_law_151 rfl hl (by decide) rfl (fun ls hl => ?_)
    refine lv_iinc (v := nI (k + 1)) (lv' := [(4, .int (nI (k + 1))), (3, .int (1 : Int32)), (1, .ref a)]) hx hb dL_law_152 hl (k := 1) rfl (nI_add k 1) (by decide) rfl (fun ls hl => ?_)
    refine lv_goto (tgt := 120) hx hb dL_law_155 (by decide) ?_
    refine W_cs (k := 378 + 12 * (k + 1)) (n := 5954 + 1728 * (k + 1)) (by omega) (by omega) ?_
    exact ih (k + 1) μ1 V h1 r1 H locs ls (by omega) S1 hW hS (lv_sub hl [0, 1, 2] rfl)
set_option maxHeartbeats 4000000 in
set_option maxRecDepth 100000 in
theorem wk_fit (B : LawB p l e s m below meth c G Λ a b L xs) (S : St Λ μ a V h sv r0 []) (hW : Wd G Λ μ H) (hS : va_S (AN Λ s.heap.size) s.heap H locs) (hl : lv_has ls 9 [(1, .ref a)]) : W p l e room_1 s m #[.ref b] below meth c H locs (366) (4226) (lw_Z below #[.ref b] s) (F0 m 112 ls []) := by
  obtain ⟨hF, hr, hlocks, hX, hbl, hL, K, hOK, ka, A1, PC, tx, qa, va, hXs, hXn⟩ := id B
  have hx := hF.1
  have hb := hF.2.1
  refine lv_aload_n hx hb dL_law_112 rfl (lv_at hl 0 rfl) ?_
  refine run_SA (rest := []) hF K hW hS hl.1 (c_L_isFit l hOK ka (lw_fit S.now S.ok)) (kw_L_172 hF.2.2.2.2 ⟨Nat.le_of_ble_eq_true rfl, Nat.le_of_ble_eq_true rfl⟩) rfl rfl (Nat.le_of_ble_eq_true rfl) dL_law_113 ⟨(by show 366 + 12 ≤ 600000; omega), (by show 4226 + 1728 ≤ 7302250; omega)⟩ (fun H locs (hW : Wd G Λ μ H) hS => ?_)
  refine lv_istore_n (lv' := [(3, .int (1 : Int32)), (1, .ref a)]) hx hb dL_law_116 rfl hl (by decide) rfl (fun ls hl => ?_)
  refine lv_iconst (v := (0 : Int32)) hx hb dL_law_117 (by decide) ?_
  refine lv_istore (lv' := [(4, .int (nI 0)), (3, .int (1 : Int32)), (1, .ref a)]) hx hb dL_law_118 hl (by decide) rfl (fun ls hl => ?_)
  refine W_cs (k := 378 + 12 * 0) (n := 5954 + 1728 * 0) rfl rfl ?_
  exact wk_tied B 12 0 μ V h r0 H locs ls (by omega) S hW hS (lv_sub hl [0, 1, 2] rfl)
theorem rw_cell (B : LawB p l e s m below meth c G Λ a b L xs) {i : Nat} (hi : i < L) (hW : Wd G Λ μ H) (hS : va_S (AN Λ s.heap.size) s.heap H locs) (hl : ls.size = 9) {rest : List Value} (hW8 : (rest.map fun v => v.category).sum ≤ 8) (hf : cells ≤ room_1.cells ∧ slots ≤ room_1.slots) (hdg : decode code pc = .ok (.invokestatic 164, 3)) (kk : ∀ (H : Heap) (locs : List Loc), Wd G Λ μ H → va_S (AN Λ s.heap.size) s.heap H locs → W p l e room_1 s m #[.ref b] below meth c H locs cells slots (lw_Z below #[.ref b] s) (F0 m (pc + 3) ls (.int (xs i) :: rest))) : W p l e room_1 s m #[.ref b] below meth c H locs cells slots (lw_Z below #[.ref b] s) (F0 m pc ls (.int (nI i) :: .ref b :: rest)) := by
  obtain ⟨hF, hr, hlocks, hX, hbl, hL, K, hOK, ka, A1, PC, tx, qa, va, hXs, hXn⟩ := id B
  have hbA : ¬ AN Λ s.heap.size b := fun z => z.elim (fun w => Nat.not_le.mpr hbl (A1 b w)) (fun w => Nat.not_le.mpr hbl w)
  refine va_calli (va_runS (As := [.ref b, .int (nI i)]) (rest := rest) hF (cc_cell l (xs := xs) hi hL) (kw_cell hF.2.2.2.2 ⟨Nat.le_of_ble_eq_true rfl, Nat.le_of_ble_eq_true rfl⟩) ⟨pcc_blind, fun U hU hWm => ⟨rfl, ?_⟩⟩ rfl rfl hl rfl (lv_room hW8) hdg hf) hS (fun _ _ z => z.elim) (fun _ z => z.elim) (fun r _ t H1 locs1 ht _ hp _ _ hk1 hS1 => ?_)
  · refine va_X.moved hWm.alike ?_
    rw [hU]
    exact hX.kept (hS.2.1 b hbl hbA)
  · have hp : r = xs i := hp
    subst hp
    exact kk H1 locs1 (va_P.kept (H := H) hW (fun k q hx => hk1 q.1 (hW k q hx).lt id)) hS1
set_option maxHeartbeats 4000000 in
set_option maxRecDepth 100000 in
theorem wk_acts (B : LawB p l e s m below meth c G Λ a b L xs) {N : Nat} (hN : N ≤ L) : ∀ (n k : Nat) (μ : Mem) (V : Pic) (h : List Pic) (sv : Option Pic) (r0 : Int32) (H : Heap) (locs : List Loc) (ls : Array Slot), k + n = N → St Λ μ a V h sv r0 [] → Wd G Λ μ H → va_S (AN Λ s.heap.size) s.heap H locs → lv_has ls 9 [(3, .int (nI k)), (2, .int (nI N)), (1, .ref a), (0, .ref b)] → W p l e room_1 s m #[.ref b] below meth c H locs (366) (4226) (lw_Z below #[.ref b] s) (F0 m 71 ls []) := by
  obtain ⟨hF, hr, hlocks, hX, hbl, hL, K, hOK, ka, A1, PC, tx, qa, va, hXs, hXn⟩ := id B
  have hx := hF.1
  have hb := hF.2.1
  intro n
  induction n with
  | zero =>
    intro k μ V h sv r0 H locs ls hk S hW hS hl
    refine lv_iload_n hx hb dL_law_71 rfl (lv_at hl 0 rfl) ?_
    refine lv_iload_n hx hb dL_law_72 rfl (lv_at hl 1 rfl) ?_
    refine lv_icmp_ge (tgt := 112) hx hb dL_law_73 (by decide) (fun _ => ?_) (fun z => absurd ((nI_leI (a := N) (b := k) (by omega) (by omega)).mpr (by omega)) z)
    exact wk_fit B S hW hS (lv_sub hl [2] rfl)
  | succ n ih =>
    intro k μ V h sv r0 H locs ls hk S hW hS hl
    have hkL : k < L := by omega
    obtain ⟨x, μ1, V1, h1, sv1, r1, e1, S1, hV⟩ := lw_act PC S (xs k)
    refine lv_iload_n hx hb dL_law_71 rfl (lv_at hl 0 rfl) ?_
    refine lv_iload_n hx hb dL_law_72 rfl (lv_at hl 1 rfl) ?_
    refine lv_icmp_ge (tgt := 112) hx hb dL_law_73 (by decide) (fun z => absurd ((nI_leI (a := N) (b := k) (by omega) (by omega)).mp z) (by omega)) (fun _ => ?_)
    refine lv_aload_n hx hb dL_law_76 rfl (lv_at hl 2 rfl) ?_
    refine end_lN (run_SN (rest := []) hF K hW hS hl.1 (c_L_digest l hOK ka (lw_digest S.now S.ok)) (kw_L_156 hF.2.2.2.2 ⟨Nat.le_of_ble_eq_true rfl, Nat.le_of_ble_eq_true rfl⟩) rfl rfl (Nat.le_of_ble_eq_true rfl) dL_law_77 ⟨(by show 366 ≤ 600000; omega), (by show 4226 ≤ 7302250; omega)⟩) hS (fun H locs hW hS => ?_)
    refine lv_lstore (lv' := [(4, .long (dg V)), (3, .int (nI k)), (2, .int (nI N)), (1, .ref a), (0, .ref b)]) hx hb dL_law_80 hl (by decide) rfl (fun ls hl => ?_)
    refine lv_aload_n hx hb dL_law_82 rfl (lv_at hl 3 rfl) ?_
    refine lv_aload_n hx hb dL_law_83 rfl (lv_at hl 4 rfl) ?_
    refine lv_iload_n hx hb dL_law_84 rfl (lv_at hl 1 rfl) ?_
    refine rw_cell B hkL hW hS hl.1 (rest := [.ref a]) (Nat.le_of_ble_eq_true rfl) ⟨(by show 366 ≤ 600000; omega), (by show 4226 ≤ 7302250; omega)⟩ dL_law_85 (fun H locs hW hS => ?_)
    refine end_iN (run_SN (rest := []) hF K hW hS hl.1 (c_L_act l hOK ka e1) (kw_L_168 hF.2.2.2.2 ⟨Nat.le_of_ble_eq_true rfl, Nat.le_of_ble_eq_true rfl⟩) rfl rfl (Nat.le_of_ble_eq_true rfl) dL_law_88 ⟨(by show 366 ≤ 600000; omega), (by show 4226 ≤ 7302250; omega)⟩) hS (fun H locs (hW : Wd G Λ μ1 H) hS => ?_)
    refine top_i (y := x) rfl ?_
    have kk : ∀ (H : Heap) (locs : List Loc) (ls : Array Slot), Wd G Λ μ1 H → va_S (AN Λ s.heap.size) s.heap H locs → lv_has ls 9 [(4, .long (dg V)), (3, .int (nI k)), (2, .int (nI N)), (1, .ref a), (0, .ref b)] → W p l e room_1 s m #[.ref b] below meth c H locs (366) (4226) (lw_Z below #[.ref b] s) (F0 m 106 ls []) := by
      intro H locs ls hW hS hl
      refine lv_iinc (v := nI (k + 1)) (lv' := [(3, .int (nI (k + 1))), (4, .long (dg V)), (2, .int (nI N)), (1, .ref a), (0, .ref b)]) hx hb dL_law_106 hl (k := 1) rfl (nI_add k 1) (by decide) rfl (fun ls hl => ?_)
      refine lv_goto (tgt := 71) hx hb dL_law_109 (by decide) ?_
      exact ih (k + 1) μ1 V1 h1 sv1 r1 H locs ls (by omega) S1 hW hS (lv_sub hl [0, 2, 3, 4] rfl)
    refine lv_if_ge (tgt := 106) hx hb dL_law_91 (by decide) (fun _ => kk H locs ls hW hS hl) (fun hx0 => ?_)
    have eV : V1 = V := hV (by rcases Int32.lt_or_le x 0 with q | q; exact q; exact absurd q hx0)
    subst eV
    refine lv_aload_n hx hb dL_law_94 rfl (lv_at hl 3 rfl) ?_
    refine end_lN (run_SN (rest := []) hF K hW hS hl.1 (c_L_digest l hOK ka (lw_digest S1.now S1.ok)) (kw_L_156 hF.2.2.2.2 ⟨Nat.le_of_ble_eq_true rfl, Nat.le_of_ble_eq_true rfl⟩) rfl rfl (Nat.le_of_ble_eq_true rfl) dL_law_95 ⟨(by show 366 ≤ 600000; omega), (by show 4226 ≤ 7302250; omega)⟩) hS (fun H locs hW hS => ?_)
    refine lv_lload hx hb dL_law_98 (lv_at hl 0 rfl) ?_
    refine W.lcmp hx hb dL_law_100 ?_
    refine lv_if_eq (tgt := 106) hx hb dL_law_101 (by decide) (fun _ => kk H locs ls hW hS hl) (fun z => absurd (lg_same _) z)
set_option maxHeartbeats 4000000 in
set_option maxRecDepth 100000 in
theorem wk_count (B : LawB p l e s m below meth c G Λ a b L xs) (S : St Λ μ a V h sv r0 []) (hW : Wd G Λ μ H) (hS : va_S (AN Λ s.heap.size) s.heap H locs) (hl : lv_has ls 9 [(1, .ref a), (0, .ref b)]) : W p l e room_1 s m #[.ref b] below meth c H locs (366) (4226) (lw_Z below #[.ref b] s) (F0 m 54 ls []) := by
  obtain ⟨hF, hr, hlocks, hX, hbl, hL, K, hOK, ka, A1, PC, tx, qa, va, hXs, hXn⟩ := id B
  have hx := hF.1
  have hb := hF.2.1
  have hbA : ¬ AN Λ s.heap.size b := fun z => z.elim (fun w => Nat.not_le.mpr hbl (A1 b w)) (fun w => Nat.not_le.mpr hbl w)
  have kk : ∀ (N : Nat) (H : Heap) (locs : List Loc) (ls : Array Slot), N ≤ L → Wd G Λ μ H → va_S (AN Λ s.heap.size) s.heap H locs → lv_has ls 9 [(1, .ref a), (0, .ref b)] → W p l e room_1 s m #[.ref b] below meth c H locs (366) (4226) (lw_Z below #[.ref b] s) (F0 m 68 ls [.int (nI N)]) := by
    intro N H locs ls hN hW hS hl
    refine lv_istore_n (lv' := [(2, .int (nI N)), (1, .ref a), (0, .ref b)]) hx hb dL_law_68 rfl hl (by decide) rfl (fun ls hl => ?_)
    refine lv_iconst (v := (0 : Int32)) hx hb dL_law_69 (by decide) ?_
    refine lv_istore_n (lv' := [(3, .int (nI 0)), (2, .int (nI N)), (1, .ref a), (0, .ref b)]) hx hb dL_law_70 rfl hl (by decide) rfl (fun ls hl => ?_)
    exact wk_acts B hN N 0 μ V h sv r0 H locs ls (by omega) S hW hS (lv_sub hl [0, 1, 2, 3] rfl)
  refine lv_aload_n hx hb dL_law_54 rfl (lv_at hl 1 rfl) ?_
  refine va_slen hx hb hX hbl hbA hS dL_law_55 ?_
  refine lv_bipush (v := (40 : Int32)) hx hb dL_law_56 (by decide) ?_
  refine lv_icmp_ge (tgt := 66) hx hb dL_law_58 (by decide) (fun z => ?_) (fun _ => ?_)
  · refine lv_bipush (v := nI 40) hx hb dL_law_66 (by decide) ?_
    exact kk 40 H locs ls ((nI_leI (a := 40) (b := L) (by omega) (by omega)).mp z) hW hS hl
  · refine lv_aload_n hx hb dL_law_61 rfl (lv_at hl 1 rfl) ?_
    refine va_slen hx hb hX hbl hbA hS dL_law_62 ?_
    refine lv_goto (tgt := 68) hx hb dL_law_63 (by decide) ?_
    exact kk L H locs ls (Nat.le_refl _) hW hS hl
set_option maxHeartbeats 4000000 in
set_option maxRecDepth 100000 in
theorem wk_joins (B : LawB p l e s m below meth c G Λ a b L xs) (S : St Λ μ a V h sv r0 []) (hW : Wd G Λ μ H) (hS : va_S (AN Λ s.heap.size) s.heap H locs) (hl : lv_has ls 9 [(1, .ref a), (0, .ref b)]) : W p l e room_1 s m #[.ref b] below meth c H locs (366) (4226) (lw_Z below #[.ref b] s) (F0 m 33 ls []) := by
  obtain ⟨hF, hr, hlocks, hX, hbl, hL, K, hOK, ka, A1, PC, tx, qa, va, hXs, hXn⟩ := id B
  have hx := hF.1
  have hb := hF.2.1
  refine lv_aload_n hx hb dL_law_33 rfl (lv_at hl 0 rfl) ?_
  refine lv_iconst (v := (0 : Int32)) hx hb dL_law_34 (by decide) ?_
  refine lv_iconst (v := (1 : Int32)) hx hb dL_law_35 (by decide) ?_
  refine rj_join B PC S hW hS hl.1 dL_law_36 ⟨(by show 366 ≤ 600000; omega), (by show 4226 ≤ 7302250; omega)⟩ (fun v1 μ V1 h1 r1 H locs S hW hS => ?_)
  refine lv_pop hx hb dL_law_39 rfl ?_
  refine lv_aload_n hx hb dL_law_40 rfl (lv_at hl 0 rfl) ?_
  refine lv_iconst (v := (0 : Int32)) hx hb dL_law_41 (by decide) ?_
  refine lv_iconst (v := (2 : Int32)) hx hb dL_law_42 (by decide) ?_
  refine rj_join B PC S hW hS hl.1 dL_law_43 ⟨(by show 366 ≤ 600000; omega), (by show 4226 ≤ 7302250; omega)⟩ (fun v2 μ V2 h2 r2 H locs S hW hS => ?_)
  refine lv_pop hx hb dL_law_46 rfl ?_
  refine lv_aload_n hx hb dL_law_47 rfl (lv_at hl 0 rfl) ?_
  refine lv_iconst (v := (2 : Int32)) hx hb dL_law_48 (by decide) ?_
  refine lv_iconst (v := (3 : Int32)) hx hb dL_law_49 (by decide) ?_
  refine rj_join B PC S hW hS hl.1 dL_law_50 ⟨(by show 366 ≤ 600000; omega), (by show 4226 ≤ 7302250; omega)⟩ (fun v3 μ V3 h3 r3 H locs S hW hS => ?_)
  refine lv_pop hx hb dL_law_53 rfl ?_
  exact wk_count B S hW hS hl
set_option maxHeartbeats 4000000 in
set_option maxRecDepth 100000 in
theorem wk_banks (B : LawB p l e s m below meth c G Λ a b L xs) : ∀ (n k : Nat) (μ : Mem) (V : Pic) (h : List Pic) (r0 : Int32) (H : Heap) (locs : List Loc) (ls : Array Slot), k + n = 6 → St Λ μ a V h sv r0 [] → Wd G Λ μ H → va_S (AN Λ s.heap.size) s.heap H locs → lv_has ls 9 [(2, .int (nI k)), (1, .ref a), (0, .ref b)] → W p l e room_1 s m #[.ref b] below meth c H locs (366) (4226) (lw_Z below #[.ref b] s) (F0 m 10 ls []) := by
  obtain ⟨hF, hr, hlocks, hX, hbl, hL, K, hOK, ka, A1, PC, tx, qa, va, hXs, hXn⟩ := id B
  have hx := hF.1
  have hb := hF.2.1
  intro n
  induction n with
  | zero =>
    intro k μ V h r0 H locs ls hk S hW hS hl
    refine lv_iload_n hx hb dL_law_10 rfl (lv_at hl 0 rfl) ?_
    refine lv_bipush (v := (6 : Int32)) hx hb dL_law_11 (by decide) ?_
    refine lv_icmp_ge (tgt := 33) hx hb dL_law_13 (by decide) (fun _ => ?_) (fun z => absurd ((nI_leI (a := 6) (b := k) (by omega) (by omega)).mpr (by omega)) z)
    exact wk_joins B S hW hS (lv_sub hl [1, 2] rfl)
  | succ n ih =>
    intro k μ V h r0 H locs ls hk S hW hS hl
    refine lv_iload_n hx hb dL_law_10 rfl (lv_at hl 0 rfl) ?_
    refine lv_bipush (v := (6 : Int32)) hx hb dL_law_11 (by decide) ?_
    refine lv_icmp_ge (tgt := 33) hx hb dL_law_13 (by decide) (fun z => absurd ((nI_leI (a := 6) (b := k) (by omega) (by omega)).mp z) (by omega)) (fun _ => ?_)
    refine lv_aload_n hx hb dL_law_16 rfl (lv_at hl 1 rfl) ?_
    refine lv_bipush (v := (10 : Int32)) hx hb dL_law_17 (by decide) ?_
    refine lv_iload_n hx hb dL_law_19 rfl (lv_at hl 0 rfl) ?_
    refine lv_imul hx hb dL_law_20 ?_
    refine lv_iconst (v := (5 : Int32)) hx hb dL_law_21 (by decide) ?_
    refine lv_iadd hx hb dL_law_22 ?_
    refine rj_bank B PC S hW hS hl.1 dL_law_23 ⟨(by show 366 ≤ 600000; omega), (by show 4226 ≤ 7302250; omega)⟩ (fun v1 μ V1 h1 r1 H locs S hW hS => ?_)
    refine lv_pop hx hb dL_law_26 rfl ?_
    refine lv_iinc (v := nI (k + 1)) (lv' := [(2, .int (nI (k + 1))), (1, .ref a), (0, .ref b)]) hx hb dL_law_27 hl (k := 0) rfl (nI_add k 1) (by decide) rfl (fun ls hl => ?_)
    refine lv_goto (tgt := 10) hx hb dL_law_30 (by decide) ?_
    exact ih (k + 1) μ V1 h1 r1 H locs ls (by omega) S hW hS (lv_sub hl [0, 1, 2] rfl)
end WK
