/-! THE LAW, from its entry. -/
theorem law_xt {s : State} {b : Nat} (hts : ∀ w ∈ lw_tbl, w.before #[Value.ref b] s = true) (hgv : (Jvm.Cond.and given_1 narrow_1).before #[Value.ref b] s = true) {A : Nat → Prop} (hA : ∀ a : Nat, a < s.heap.size → ¬ A a) : Xt A s := by
  have hs := flat_of_before _ hgv
  obtain ⟨adK, adV, h1, h2⟩ := vk_Sof (args := #[Value.ref b]) (s := s) (N := 1) (tm := fun _ => .string "FerryRoundsModel" 211) (len := [6]) (byt := strB) (A := A)
    (fun i hi => by
      have : i = 0 := by omega
      subst this
      decide)
    (fun i hi => hs _ (by decide +kernel)) (fun i hi => hs _ (by decide +kernel)) (fun i hi => hs _ (by decide +kernel))
    (fun i hi => by
      have : i = 0 := by omega
      subst this
      exact hs _ (by decide +kernel))
    (fun i hi j hj => by
      have : i = 0 := by omega
      subst this
      have hj : j < 6 := hj
      have : j = 0 ∨ j = 1 ∨ j = 2 ∨ j = 3 ∨ j = 4 ∨ j = 5 := by omega
      rcases this with q | q | q | q | q | q <;> subst q <;> exact hs _ (by decide +kernel))
    (fun i j hi hj hne => absurd (show i = j by omega) hne) hA
  refine ⟨adK 0, adV 0, vk_R.of (hts _ (List.mem_of_getElem? (i := 1070) (by decide +kernel))) (h2 0 (by omega)), ⟨fun i hi => ?_, fun i j hi hj _ => by omega⟩, ?_⟩
  · have := h1.1 0 (by omega)
    have e : i = 0 := by omega
    subst e
    exact this
  · exact va_Zof (hts _ (List.mem_of_getElem? (i := 1084) (by decide +kernel))) (hts _ (List.mem_of_getElem? (i := 73) (by decide +kernel))) (va_eqt (hs _ (by decide +kernel))) hA
theorem law_CL {s : State} {b : Nat} (hts : ∀ w ∈ lw_tbl, w.before #[Value.ref b] s = true) : ∃ lc, CL lc s := by
  refine ⟨fun i => if i = 0 then (s.vm.findClass ("[" ++ FieldType.int.toString)).getD 0 else if i = 1 then (s.vm.findClass ("[" ++ FieldType.char.toString)).getD 0 else if i = 2 then (s.vm.findClass ("[" ++ (FieldType.object RX2).toString)).getD 0 else if i = 3 then (s.vm.findClass ("[" ++ (FieldType.object RX1).toString)).getD 0 else (s.vm.findClass ("[" ++ (FieldType.array .int).toString)).getD 0, ⟨va_AO.of (hts (.arrayOver (.object RX2)) (List.mem_of_getElem? (i := 107) (by decide +kernel))), va_AO.of (hts (.arrayOver (.object RX1)) (List.mem_of_getElem? (i := 137) (by decide +kernel))), va_AOA.of (hts (.arrayOver (.array .int)) (List.mem_of_getElem? (i := 745) (by decide +kernel)))⟩, fun c h => ?_, fun c h => ?_, fun c h => ?_, fun c h => ?_, fun c h => ?_⟩
  · have h : s.vm.findClass ("[" ++ FieldType.int.toString) = some c := h
    show c = (s.vm.findClass ("[" ++ FieldType.int.toString)).getD 0
    rw [h]; rfl
  · have h : s.vm.findClass ("[" ++ FieldType.char.toString) = some c := h
    show c = (s.vm.findClass ("[" ++ FieldType.char.toString)).getD 0
    rw [h]; rfl
  · obtain ⟨_, _, _, _, _, h⟩ := h
    show c = (s.vm.findClass ("[" ++ (FieldType.object RX2).toString)).getD 0
    rw [h]; rfl
  · obtain ⟨_, _, _, _, _, h⟩ := h
    show c = (s.vm.findClass ("[" ++ (FieldType.object RX1).toString)).getD 0
    rw [h]; rfl
  · have h : s.vm.findClass ("[" ++ (FieldType.array .int).toString) = some c := h
    show c = (s.vm.findClass ("[" ++ (FieldType.array .int).toString)).getD 0
    rw [h]; rfl
theorem law_G {s : State} {b : Nat} (htw : ∀ w ∈ tw, w.before #[Value.ref b] s = true) : ∃ G : va_G, va_K G vwCl [] s := by
  obtain ⟨c0, i0, k0⟩ := u_known (C := RX0) (T := TX0) (N := 3) (n := 3) htw twX0 (htw _ wn_131)
  obtain ⟨c1, i1, k1⟩ := u_known (C := RX1) (T := TX1) (N := 7) (n := 7) htw twX1 (htw _ wn_88)
  obtain ⟨c2, i2, k2⟩ := u_known (C := RX2) (T := TX2) (N := 2) (n := 2) htw twX2 (htw _ wn_94)
  obtain ⟨c3, i3, k3⟩ := u_known (C := RX3) (T := TX3) (N := 5) (n := 5) htw twX3 (htw _ wn_152)
  obtain ⟨c4, i4, k4⟩ := u_known (C := RX4) (T := TX4) (N := 11) (n := 11) htw twX4 (htw _ wn_80)
  obtain ⟨c5, i5, k5⟩ := u_known (C := RX5) (T := TX5) (N := 21) (n := 21) htw twX5 (htw _ wn_739)
  refine ⟨(fun k => if k = 0 then c0 else if k = 1 then c1 else if k = 2 then c2 else if k = 3 then c3 else if k = 4 then c4 else c5, fun k => if k = 0 then i0 else if k = 1 then i1 else if k = 2 then i2 else if k = 3 then i3 else if k = 4 then i4 else i5), fun k q hq => ?_, fun k q h => by simp at h⟩
  match k, hq with
  | 0, hq => cases hq; exact k0
  | 1, hq => cases hq; exact k1
  | 2, hq => cases hq; exact k2
  | 3, hq => cases hq; exact k3
  | 4, hq => cases hq; exact k4
  | 5, hq => cases hq; exact k5
  | k + 6, hq => simp [vwCl] at hq
set_option maxHeartbeats 4000000 in
set_option maxRecDepth 100000 in
/-- from the entry to the loop -/
theorem whole_start {p : Program} {e : Env} {s : State} {m : MethodId} {below : List Frame} {meth : Method} {c : Code} (l : Launch) (hflags : l.flags = flags0) {b L : Nat} {xs : Nat → Int32} (hL : L ≤ 2048) (C0 : lw_At p s m meth c b L xs) : W p l e room_1 s m #[Value.ref b] below meth c s.heap [] 0 0 (lw_Z below #[Value.ref b] s) (entryFrame m ([Value.ref b] : List Value).toArray 4) := by
  obtain ⟨hx, hb, hr, hml, hown, hts, hX, hbl, hlocks, hgv⟩ := id C0
  have htw : ∀ w ∈ tw, w.before #[Value.ref b] s = true := fun w h => hts w (List.mem_filter.mp h).1
  have hF : CallFix p m c code 4 s #[.ref b] tw "FerryRoundsLaw" := ⟨hx, hb, hml, hown, htw⟩
  obtain ⟨G, hK⟩ := law_G htw
  obtain ⟨lc, hC⟩ := law_CL hts
  have hA : ∀ q : Nat, s.heap.size ≤ q → (fun q : Nat => s.heap.size ≤ q) q := fun _ h => h
  have hS : va_S (fun q : Nat => s.heap.size ≤ q) s.heap s.heap [] := va_S.rf
  have hP : va_P G vwCl (rm 0 (fun _ => (0, .inr (0, [])))) s.heap := fun k q h => by simp [rm] at h
  have hD : va_D (fun q : Nat => s.heap.size ≤ q) (rm 0 (fun _ => (0, .inr (0, [])))) := ⟨fun i j p q h => by simp [rm] at h, fun k q h => by simp [rm] at h⟩
  have hl := lv_entry ([.ref b]) (n := 4) (Nat.le_of_ble_eq_true rfl)
  rw [lg_entry_eq]
  generalize (lg_sl ([.ref b]) ++ List.replicate (4 - (lg_sl ([.ref b])).length) Slot.unset).toArray = ls at hl ⊢
  have hl : lv_has ls 4 [(0, .ref b)] := hl
  refine st_new (n := 0) (i1 := 7) (i2 := 9) (pc2 := 4) (C := RX4) (T := TX4) (Nf := 11) (rest := []) (cn_ferry l G lc) hF hC hK hP hD hS hA hl.1 rfl twX4 tyX4 tyX4_ok (fun j hj => by rcases (show j = 0 ∨ j = 1 ∨ j = 2 ∨ j = 3 ∨ j = 4 ∨ j = 5 ∨ j = 6 ∨ j = 7 ∨ j = 8 ∨ j = 9 ∨ j = 10 by omega) with rfl | rfl | rfl | rfl | rfl | rfl | rfl | rfl | rfl | rfl | rfl <;> rfl) wn_79 wn_80 wn_65 wn_81 wn_82 wn_83 rfl rfl (by decide +kernel) rfl ⟨Nat.le_of_ble_eq_true rfl, Nat.le_of_ble_eq_true rfl⟩ (Nat.le_of_ble_eq_true rfl) (Nat.le_of_ble_eq_true rfl) (Nat.le_of_ble_eq_true rfl) dL_law_0 dL_law_3 (fun H locs k z st w => w) dL_law_4 (fun pr1 H locs F1 hKa hP hD hS => ?_)
  refine lv_astore_n (lv' := [(1, .ref (pr1 0).1), (0, .ref b)]) hx hb dL_law_7 rfl hl (by decide) rfl (fun ls hl => ?_)
  refine st_new (i1 := 10) (i2 := 12) (pc2 := 12) (C := RX5) (T := TX5) (Nf := 21) (rest := []) (cn_model l G lc) hF hC hK hP hD hS hA hl.1 rfl twX5 tyX5 tyX5_ok (fun j hj => by rcases (show j = 0 ∨ j = 1 ∨ j = 2 ∨ j = 3 ∨ j = 4 ∨ j = 5 ∨ j = 6 ∨ j = 7 ∨ j = 8 ∨ j = 9 ∨ j = 10 ∨ j = 11 ∨ j = 12 ∨ j = 13 ∨ j = 14 ∨ j = 15 ∨ j = 16 ∨ j = 17 ∨ j = 18 ∨ j = 19 ∨ j = 20 by omega) with rfl | rfl | rfl | rfl | rfl | rfl | rfl | rfl | rfl | rfl | rfl | rfl | rfl | rfl | rfl | rfl | rfl | rfl | rfl | rfl | rfl <;> rfl) wn_738 wn_739 wn_70 wn_740 wn_741 wn_742 rfl rfl (by decide +kernel) rfl ⟨Nat.le_of_ble_eq_true rfl, Nat.le_of_ble_eq_true rfl⟩ (Nat.le_of_ble_eq_true rfl) (Nat.le_of_ble_eq_true rfl) (Nat.le_of_ble_eq_true rfl) dL_law_8 dL_law_11 (fun H locs k z st w => w) dL_law_12 (fun pr2 H locs F2 hKb hP hD hS => ?_)
  refine lv_astore_n (lv' := [(2, .ref (pr2 0).1), (1, .ref (pr1 0).1), (0, .ref b)]) hx hb dL_law_15 rfl hl (by decide) rfl (fun ls hl => ?_)
  refine lv_iconst (v := nI 0) hx hb dL_law_16 (by decide) ?_
  refine lv_istore_n (lv' := [(3, .int (nI 0)), (2, .ref (pr2 0).1), (1, .ref (pr1 0).1), (0, .ref b)]) hx hb dL_law_17 rfl hl (by decide) rfl (fun ls hl => ?_)
  rw [← rm_app, ← rm_app] at hP hD
  have e0 : rm 0 (fun _ => ((0, .inr (0, [])) : Nat × va_E)) = [] := rfl
  rw [e0, List.nil_append] at hP hD
  have at1 : ∀ k, k < 366 → (rm 366 pr1 ++ rm 16 pr2)[k]? = some (pr1 k) := fun k hk => by rw [List.getElem?_append_left (by rw [rm_len]; exact hk), rm_get hk]
  have at2 : ∀ k, k < 16 → (rm 366 pr1 ++ rm 16 pr2)[366 + k]? = some (pr2 k) := fun k hk => by rw [List.getElem?_append_right (by rw [rm_len]; omega), rm_len, Nat.add_sub_cancel_left, rm_get hk]
  have hP1 : va_P G vwCl (rm 366 pr1) H := fun k q h => by
    by_cases hk : k < 366
    · rw [rm_get hk] at h
      cases h
      exact hP k _ (at1 k hk)
    · rw [rm_none (by omega)] at h; cases h
  have hP2 : va_P G vwCl (rm 16 pr2) H := fun k q h => by
    by_cases hk : k < 16
    · rw [rm_get hk] at h
      cases h
      exact hP _ _ (at2 k hk)
    · rw [rm_none (by omega)] at h; cases h
  have J1 : Inj 366 pr1 := fun i j hi hj q => hD.1 i j _ _ (at1 i hi) (at1 j hj) q
  have J2 : Inj 16 pr2 := fun i j hi hj q => by
    have := hD.1 _ _ _ _ (at2 i hi) (at2 j hj) q
    omega
  have J12 : ∀ i j, i < 366 → j < 16 → (pr1 i).1 ≠ (pr2 j).1 := fun i j hi hj q => by
    have := hD.1 _ _ _ _ (at1 i hi) (at2 j hj) q
    omega
  have g1 := (fr_made J1 F1).1
  obtain ⟨g2, PM, M0⟩ := md_made J2 F2
  have in1 : ∀ q, inL (layOf 366 pr1 frK lc) q → ∃ i, i < 366 ∧ q = (pr1 i).1 := fun q h => by
    obtain ⟨i, hi, e⟩ := List.mem_map.mp (show q ∈ (List.range 366).map (fun i => (pr1 i).1) from h)
    exact ⟨i, List.mem_range.mp hi, e.symm⟩
  have in2 : ∀ q, inL (layOf 16 pr2 mdK lc) q → ∃ i, i < 16 ∧ q = (pr2 i).1 := fun q h => by
    obtain ⟨i, hi, e⟩ := List.mem_map.mp (show q ∈ (List.range 16).map (fun i => (pr2 i).1) from h)
    exact ⟨i, List.mem_range.mp hi, e.symm⟩
  have A1 : ∀ q, inL (layOf 366 pr1 frK lc) q → s.heap.size ≤ q := fun q h => by
    obtain ⟨i, hi, e⟩ := in1 q h
    rw [e]; exact hD.2 _ _ (at1 i hi)
  have A2 : ∀ q, inL (layOf 16 pr2 mdK lc) q → s.heap.size ≤ q := fun q h => by
    obtain ⟨i, hi, e⟩ := in2 q h
    rw [e]; exact hD.2 _ _ (at2 i hi)
  have D12 : ∀ q, inL (layOf 366 pr1 frK lc) q → ¬ inL (layOf 16 pr2 mdK lc) q := fun q h h' => by
    obtain ⟨i, hi, ei⟩ := in1 q h
    obtain ⟨j, hj, ej⟩ := in2 q h'
    exact J12 i j hi hj (ei.symm.trans ej)
  have hN : Nw s := ⟨va_Nw.of rfl (hts _ (List.mem_of_getElem? (i := 440) (by decide +kernel))), va_Nw.of rfl (hts _ (List.mem_of_getElem? (i := 348) (by decide +kernel))), va_Nw.of rfl (hts _ (List.mem_of_getElem? (i := 363) (by decide +kernel)))⟩
  have hKt : va_K G vwCl [(lc 0, .int), (lc 1, .char), (lc 2, .object RX2), (lc 3, .object RX1), (lc 4, .array .int)] s := (hKa.app hKb).sub [0, 5, 1, 2, 4] rfl
  have K1 : KK G (layOf 366 pr1 frK lc) s := ⟨hKt, hN, law_xt hts hgv (fun a ha q => Nat.not_le.mpr ha (A1 a q))⟩
  have K2 : KK G (layOf 16 pr2 mdK lc) s := ⟨hKt, hN, law_xt hts hgv (fun a ha q => Nat.not_le.mpr ha (A2 a q))⟩
  have B : LawB p l e s m below meth c G (layOf 366 pr1 frK lc) (layOf 16 pr2 mdK lc) (pr1 0).1 (pr2 0).1 b L xs := ⟨hF, hr, hlocks, hX, hbl, hL, K1, K2, lay_ok J1 g1, lay_ok J2 g2, lay_in J1 (by omega) (by decide), lay_in J2 (by omega) (by decide), A1, A2, D12, fun q h h' => D12 q h' h, fr_apart J1 F1, PM⟩
  refine W.widen (k := 382) (n := 7795) (by decide) (by decide) ?_
  exact law_loop B (L + 1) 0 _ _ _ _ _ (by omega) (by omega) (lay_Wd g1 hP1) (lay_Wd g2 hP2) ⟨0, picD, [], none, 0, 0, 0, -1, [], [], fr_init J1 F1, M0, ⟨fun h => absurd rfl h, fun z hz => by cases hz⟩⟩ hS hl
