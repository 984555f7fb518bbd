set_option maxHeartbeats 4000000 in
set_option maxRecDepth 100000 in
/-- from the entry to the first loop -/
theorem whole_start {p : Program} {e : Env} {s : State} {m : MethodId} {below : List Frame} {meth : Method} {c : Code} (l : Launch) (hflags : l.flags = flags0) {b L : Nat} {xs : Nat → Int32} (hL : L ≤ 260) (C0 : lw_At p s m meth c b L xs) : W p l e room_1 s m #[Value.ref b] below meth c s.heap [] 0 0 (lw_Z below #[Value.ref b] s) (entryFrame m ([Value.ref b] : List Value).toArray 9) := by
  obtain ⟨hx, hb, hr, hml, hown, hts, hX, hbl, hlocks, hgv⟩ := id C0
  have htw : ∀ w ∈ tw, w.before #[Value.ref b] s = true := fun w h => hts w (List.mem_filter.mp h).1
  have hF : CallFix p m c code 9 s #[.ref b] tw RL := ⟨hx, hb, hml, hown, htw⟩
  obtain ⟨G, hK⟩ := law_G htw
  obtain ⟨lc, hC⟩ := law_CL hts
  have hA : ∀ q : Nat, s.heap.size ≤ q → (fun q : Nat => s.heap.size ≤ q) q := fun _ h => h
  have hS : va_S (fun q : Nat => s.heap.size ≤ q) s.heap s.heap [] := va_S.rf
  have hP : va_P G vwCl (rm 0 (fun _ => (0, .inr (0, [])))) s.heap := fun k q h => by simp [rm] at h
  have hD : va_D (fun q : Nat => s.heap.size ≤ q) (rm 0 (fun _ => (0, .inr (0, [])))) := ⟨fun i j p q h => by simp [rm] at h, fun k q h => by simp [rm] at h⟩
  have hl := lv_entry ([.ref b]) (n := 9) (Nat.le_of_ble_eq_true rfl)
  rw [lg_entry_eq]
  generalize (lg_sl ([.ref b]) ++ List.replicate (9 - (lg_sl ([.ref b])).length) Slot.unset).toArray = ls at hl ⊢
  have hl : lv_has ls 9 [(0, .ref b)] := hl
  refine st_new (n := 0) (i1 := 19) (i2 := 163) (pc2 := 4) (C := RX4) (T := TX4) (Nf := 11) (rest := []) (cn_ferry l G lc) hF hC hK hP hD hS hA hl.1 rfl twX4 tyX4 tyX4_ok (fun j hj => by rcases (show j = 0 ∨ j = 1 ∨ j = 2 ∨ j = 3 ∨ j = 4 ∨ j = 5 ∨ j = 6 ∨ j = 7 ∨ j = 8 ∨ j = 9 ∨ j = 10 by omega) with rfl | rfl | rfl | rfl | rfl | rfl | rfl | rfl | rfl | rfl | rfl <;> rfl) wn_29 wn_30 wn_17 wn_31 wn_32 wn_33 rfl rfl (by decide +kernel) rfl ⟨Nat.le_of_ble_eq_true rfl, Nat.le_of_ble_eq_true rfl⟩ (Nat.le_of_ble_eq_true rfl) (Nat.le_of_ble_eq_true rfl) (Nat.le_of_ble_eq_true rfl) dL_law_0 dL_law_3 (fun H locs k z st w => w) dL_law_4 (fun pr1 H locs F1 hKa hP hD hS => ?_)
  refine lv_astore_n (lv' := [(1, .ref (pr1 0).1), (0, .ref b)]) hx hb dL_law_7 rfl hl (by decide) rfl (fun ls hl => ?_)
  refine lv_iconst (v := nI 0) hx hb dL_law_8 (by decide) ?_
  refine lv_istore_n (lv' := [(2, .int (nI 0)), (1, .ref (pr1 0).1), (0, .ref b)]) hx hb dL_law_9 rfl hl (by decide) rfl (fun ls hl => ?_)
  rw [← rm_app] at hP hD
  have e0 : rm 0 (fun _ => ((0, .inr (0, [])) : Nat × va_E)) = [] := rfl
  rw [e0, List.nil_append] at hP hD
  have at1 : ∀ k, k < 366 → (rm 366 pr1)[k]? = some (pr1 k) := fun k hk => rm_get hk
  have J1 : Inj 366 pr1 := fun i j hi hj q => hD.1 i j _ _ (at1 i hi) (at1 j hj) q
  have g1 := (fr_made J1 F1).1
  have in1 : ∀ q, inL (layOf 366 pr1 frK lc) q → ∃ i, i < 366 ∧ q = (pr1 i).1 := fun q h => by
    obtain ⟨i, hi, e⟩ := List.mem_map.mp (show q ∈ (List.range 366).map (fun i => (pr1 i).1) from h)
    exact ⟨i, List.mem_range.mp hi, e.symm⟩
  have A1 : ∀ q, inL (layOf 366 pr1 frK lc) q → s.heap.size ≤ q := fun q h => by
    obtain ⟨i, hi, e⟩ := in1 q h
    rw [e]; exact hD.2 _ _ (at1 i hi)
  have hSN : va_S (AN (layOf 366 pr1 frK lc) s.heap.size) s.heap H locs := ⟨hS.1, fun q h1 h2 => hS.2.1 q h1 (fun w => h2 (Or.inr w)), fun q hq => Or.inr (hS.2.2 q hq)⟩
  obtain ⟨tx, qa, va, hXs⟩ := law_xt hts hgv (A := inL (layOf 366 pr1 frK lc)) (fun a ha q => Nat.not_le.mpr ha (A1 a q))
  have hAN : ∀ q : Nat, q < s.heap.size → AN (layOf 366 pr1 frK lc) s.heap.size q → inL (layOf 366 pr1 frK lc) q := fun q h1 h => h.elim id (fun w => absurd h1 (Nat.not_lt.mpr w))
  have K1 : KK G (layOf 366 pr1 frK lc) s := ⟨hKa, law_N hts, tx, qa, va, hXs⟩
  have B : LawB p l e s m below meth c G (layOf 366 pr1 frK lc) (pr1 0).1 b L xs := ⟨hF, hr, hlocks, hX, hbl, hL, K1, lay_ok J1 g1, lay_in J1 (by omega) (by decide), A1, fr_apart J1 F1, tx, qa, va, hXs, hXs.1.mn hAN, hXs.2.1.mn hAN⟩
  refine W.widen (k := 366) (n := 4226) (by decide) (by decide) ?_
  exact wk_banks B 6 0 _ _ _ _ H locs ls (by omega) ⟨0, 0, 0, [], fr_init J1 F1⟩ (lay_Wd g1 hP) hSN hl
