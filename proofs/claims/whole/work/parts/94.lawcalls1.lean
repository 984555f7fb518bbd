/-! THE LAW: the first half of its calls. -/
section LW1
variable {p : Program} {l : Launch} {e : Env} {s : State} {m : MethodId} {below : List Frame} {meth : Method} {c : Code} {H : Heap} {locs : List Loc}
variable {G : va_G} {Λ Λ' : Lay} {μ μ' : Mem} {a b z L i : Nat} {xs : Nat → Int32} {ls : Array Slot}
set_option maxHeartbeats 4000000 in
set_option maxRecDepth 100000 in
theorem law_bank (B : LawB p l e s m below meth c G Λ Λ' a b z L xs) (hi : i + 4 ≤ L) (I : Inv Λ μ a Λ' μ' b) (hW : Wd G Λ μ H) (hW' : Wd G Λ' μ' H) (hS : va_S (fun q : Nat => s.heap.size ≤ q) s.heap H locs) (hl : lv_has ls 4 [(3, .int (nI i)), (2, .ref b), (1, .ref a), (0, .ref z)]) (ag : LawA p l e s m below meth c G Λ Λ' a b z i) : W p l e room_1 s m #[.ref z] below meth c H locs 382 7795 (lw_Z below #[.ref z] s) (F0 m 176 ls []) := by
  obtain ⟨hF, hr, hlocks, hX, hbl, hL, K1, K2, O1, O2, ka, kb, A1, A2, D12, D21, PC, PM⟩ := B
  have hx := hF.1
  have hb := hF.2.1
  have hbA : ¬ (fun q : Nat => s.heap.size ≤ q) z := Nat.not_le.mpr hbl
  have i1 : vp_in (nI i + nI 1) L := by rw [nI_add]; exact vp_in_nI (by omega) (by omega)
  obtain ⟨r, μ1, μ1', e1, e2, I1⟩ := op_bank PC PM I (xs (nI i + nI 1).toNatClampNeg)
  refine lv_aload_n hx hb dL_law_176 rfl (lv_at hl 2 rfl) ?_
  refine lv_aload_n hx hb dL_law_177 rfl (lv_at hl 3 rfl) ?_
  refine lv_iload_n hx hb dL_law_178 rfl (lv_at hl 0 rfl) ?_
  refine lv_iconst (v := nI 1) hx hb dL_law_179 (by decide) ?_
  refine lv_iadd hx hb dL_law_180 ?_
  refine va_sld hx hb hX hbl hbA hS (i1) dL_law_181 ?_
  refine law_call (q := (RX4, TX4, 11)) (ci := 4) (rest := []) hF K1 A1 D12 hW hW' hS hl.1 ka (by decide) rfl (c_X4_bank l O1 ka e1) (kwV 1 wl_212 wl_209 wl_210 wl_211 wl_65 (by decide +kernel) hF.2.2.2.2 ⟨Nat.le_of_ble_eq_true rfl, Nat.le_of_ble_eq_true rfl⟩) rfl rfl (Nat.le_of_ble_eq_true rfl) dL_law_182 ⟨Nat.le_of_ble_eq_true rfl, Nat.le_of_ble_eq_true rfl⟩ (fun H locs hW hW' hS => ?_)
  refine lv_aload_n hx hb dL_law_185 rfl (lv_at hl 1 rfl) ?_
  refine lv_aload_n hx hb dL_law_186 rfl (lv_at hl 3 rfl) ?_
  refine lv_iload_n hx hb dL_law_187 rfl (lv_at hl 0 rfl) ?_
  refine lv_iconst (v := nI 1) hx hb dL_law_188 (by decide) ?_
  refine lv_iadd hx hb dL_law_189 ?_
  refine va_sld hx hb hX hbl hbA hS (i1) dL_law_190 ?_
  refine law_call (q := (RX5, TX5, 21)) (ci := 5) (rest := [.int r]) hF K2 A2 D21 hW' hW hS hl.1 kb (by decide) rfl (c_X5_bank l O2 kb e2) (kwV 1 wl_814 wl_811 wl_812 wl_813 wl_70 (by decide +kernel) hF.2.2.2.2 ⟨Nat.le_of_ble_eq_true rfl, Nat.le_of_ble_eq_true rfl⟩) rfl rfl (Nat.le_of_ble_eq_true rfl) dL_law_191 ⟨Nat.le_of_ble_eq_true rfl, Nat.le_of_ble_eq_true rfl⟩ (fun H locs hW' hW hS => ?_)
  refine lv_icmp_eq (tgt := 1012) hx hb dL_law_194 (by decide) (fun _ => ?_) (fun q => absurd rfl q)
  exact ag _ _ _ _ _ hW hW' I1 hS hl
set_option maxHeartbeats 4000000 in
set_option maxRecDepth 100000 in
theorem law_weigh (B : LawB p l e s m below meth c G Λ Λ' a b z L xs) (hi : i + 4 ≤ L) (I : Inv Λ μ a Λ' μ' b) (hW : Wd G Λ μ H) (hW' : Wd G Λ' μ' H) (hS : va_S (fun q : Nat => s.heap.size ≤ q) s.heap H locs) (hl : lv_has ls 4 [(3, .int (nI i)), (2, .ref b), (1, .ref a), (0, .ref z)]) (ag : LawA p l e s m below meth c G Λ Λ' a b z i) : W p l e room_1 s m #[.ref z] below meth c H locs 382 7795 (lw_Z below #[.ref z] s) (F0 m 199 ls []) := by
  obtain ⟨hF, hr, hlocks, hX, hbl, hL, K1, K2, O1, O2, ka, kb, A1, A2, D12, D21, PC, PM⟩ := B
  have hx := hF.1
  have hb := hF.2.1
  have hbA : ¬ (fun q : Nat => s.heap.size ≤ q) z := Nat.not_le.mpr hbl
  have i1 : vp_in (nI i + nI 1) L := by rw [nI_add]; exact vp_in_nI (by omega) (by omega)
  have i2 : vp_in (nI i + nI 2) L := by rw [nI_add]; exact vp_in_nI (by omega) (by omega)
  obtain ⟨r, μ1, μ1', e1, e2, I1⟩ := op_weigh PC PM I (xs (nI i + nI 1).toNatClampNeg) (xs (nI i + nI 2).toNatClampNeg)
  refine lv_aload_n hx hb dL_law_199 rfl (lv_at hl 2 rfl) ?_
  refine lv_aload_n hx hb dL_law_200 rfl (lv_at hl 3 rfl) ?_
  refine lv_iload_n hx hb dL_law_201 rfl (lv_at hl 0 rfl) ?_
  refine lv_iconst (v := nI 1) hx hb dL_law_202 (by decide) ?_
  refine lv_iadd hx hb dL_law_203 ?_
  refine va_sld hx hb hX hbl hbA hS (i1) dL_law_204 ?_
  refine lv_aload_n hx hb dL_law_205 rfl (lv_at hl 3 rfl) ?_
  refine lv_iload_n hx hb dL_law_206 rfl (lv_at hl 0 rfl) ?_
  refine lv_iconst (v := nI 2) hx hb dL_law_207 (by decide) ?_
  refine lv_iadd hx hb dL_law_208 ?_
  refine va_sld hx hb hX hbl hbA hS (i2) dL_law_209 ?_
  refine law_call (q := (RX4, TX4, 11)) (ci := 4) (rest := []) hF K1 A1 D12 hW hW' hS hl.1 ka (by decide) rfl (c_X4_weigh l O1 ka e1) (kwV 2 wl_272 wl_269 wl_270 wl_271 wl_65 (by decide +kernel) hF.2.2.2.2 ⟨Nat.le_of_ble_eq_true rfl, Nat.le_of_ble_eq_true rfl⟩) rfl rfl (Nat.le_of_ble_eq_true rfl) dL_law_210 ⟨Nat.le_of_ble_eq_true rfl, Nat.le_of_ble_eq_true rfl⟩ (fun H locs hW hW' hS => ?_)
  refine lv_aload_n hx hb dL_law_213 rfl (lv_at hl 1 rfl) ?_
  refine lv_aload_n hx hb dL_law_214 rfl (lv_at hl 3 rfl) ?_
  refine lv_iload_n hx hb dL_law_215 rfl (lv_at hl 0 rfl) ?_
  refine lv_iconst (v := nI 1) hx hb dL_law_216 (by decide) ?_
  refine lv_iadd hx hb dL_law_217 ?_
  refine va_sld hx hb hX hbl hbA hS (i1) dL_law_218 ?_
  refine lv_aload_n hx hb dL_law_219 rfl (lv_at hl 3 rfl) ?_
  refine lv_iload_n hx hb dL_law_220 rfl (lv_at hl 0 rfl) ?_
  refine lv_iconst (v := nI 2) hx hb dL_law_221 (by decide) ?_
  refine lv_iadd hx hb dL_law_222 ?_
  refine va_sld hx hb hX hbl hbA hS (i2) dL_law_223 ?_
  refine law_call (q := (RX5, TX5, 21)) (ci := 5) (rest := [.int r]) hF K2 A2 D21 hW' hW hS hl.1 kb (by decide) rfl (c_X5_weigh l O2 kb e2) (kwV 2 wl_852 wl_849 wl_850 wl_851 wl_70 (by decide +kernel) hF.2.2.2.2 ⟨Nat.le_of_ble_eq_true rfl, Nat.le_of_ble_eq_true rfl⟩) rfl rfl (Nat.le_of_ble_eq_true rfl) dL_law_224 ⟨Nat.le_of_ble_eq_true rfl, Nat.le_of_ble_eq_true rfl⟩ (fun H locs hW' hW hS => ?_)
  refine lv_icmp_eq (tgt := 1012) hx hb dL_law_227 (by decide) (fun _ => ?_) (fun q => absurd rfl q)
  exact ag _ _ _ _ _ hW hW' I1 hS hl
set_option maxHeartbeats 4000000 in
set_option maxRecDepth 100000 in
theorem law_join (B : LawB p l e s m below meth c G Λ Λ' a b z L xs) (hi : i + 4 ≤ L) (I : Inv Λ μ a Λ' μ' b) (hW : Wd G Λ μ H) (hW' : Wd G Λ' μ' H) (hS : va_S (fun q : Nat => s.heap.size ≤ q) s.heap H locs) (hl : lv_has ls 4 [(3, .int (nI i)), (2, .ref b), (1, .ref a), (0, .ref z)]) (ag : LawA p l e s m below meth c G Λ Λ' a b z i) : W p l e room_1 s m #[.ref z] below meth c H locs 382 7795 (lw_Z below #[.ref z] s) (F0 m 232 ls []) := by
  obtain ⟨hF, hr, hlocks, hX, hbl, hL, K1, K2, O1, O2, ka, kb, A1, A2, D12, D21, PC, PM⟩ := B
  have hx := hF.1
  have hb := hF.2.1
  have hbA : ¬ (fun q : Nat => s.heap.size ≤ q) z := Nat.not_le.mpr hbl
  have i1 : vp_in (nI i + nI 1) L := by rw [nI_add]; exact vp_in_nI (by omega) (by omega)
  have i2 : vp_in (nI i + nI 2) L := by rw [nI_add]; exact vp_in_nI (by omega) (by omega)
  obtain ⟨r, μ1, μ1', e1, e2, I1⟩ := op_join PC PM I (xs (nI i + nI 1).toNatClampNeg) (xs (nI i + nI 2).toNatClampNeg)
  refine lv_aload_n hx hb dL_law_232 rfl (lv_at hl 2 rfl) ?_
  refine lv_aload_n hx hb dL_law_233 rfl (lv_at hl 3 rfl) ?_
  refine lv_iload_n hx hb dL_law_234 rfl (lv_at hl 0 rfl) ?_
  refine lv_iconst (v := nI 1) hx hb dL_law_235 (by decide) ?_
  refine lv_iadd hx hb dL_law_236 ?_
  refine va_sld hx hb hX hbl hbA hS (i1) dL_law_237 ?_
  refine lv_aload_n hx hb dL_law_238 rfl (lv_at hl 3 rfl) ?_
  refine lv_iload_n hx hb dL_law_239 rfl (lv_at hl 0 rfl) ?_
  refine lv_iconst (v := nI 2) hx hb dL_law_240 (by decide) ?_
  refine lv_iadd hx hb dL_law_241 ?_
  refine va_sld hx hb hX hbl hbA hS (i2) dL_law_242 ?_
  refine law_call (q := (RX4, TX4, 11)) (ci := 4) (rest := []) hF K1 A1 D12 hW hW' hS hl.1 ka (by decide) rfl (c_X4_join l O1 ka e1) (kwV 2 wl_297 wl_294 wl_295 wl_296 wl_65 (by decide +kernel) hF.2.2.2.2 ⟨Nat.le_of_ble_eq_true rfl, Nat.le_of_ble_eq_true rfl⟩) rfl rfl (Nat.le_of_ble_eq_true rfl) dL_law_243 ⟨Nat.le_of_ble_eq_true rfl, Nat.le_of_ble_eq_true rfl⟩ (fun H locs hW hW' hS => ?_)
  refine lv_aload_n hx hb dL_law_246 rfl (lv_at hl 1 rfl) ?_
  refine lv_aload_n hx hb dL_law_247 rfl (lv_at hl 3 rfl) ?_
  refine lv_iload_n hx hb dL_law_248 rfl (lv_at hl 0 rfl) ?_
  refine lv_iconst (v := nI 1) hx hb dL_law_249 (by decide) ?_
  refine lv_iadd hx hb dL_law_250 ?_
  refine va_sld hx hb hX hbl hbA hS (i1) dL_law_251 ?_
  refine lv_aload_n hx hb dL_law_252 rfl (lv_at hl 3 rfl) ?_
  refine lv_iload_n hx hb dL_law_253 rfl (lv_at hl 0 rfl) ?_
  refine lv_iconst (v := nI 2) hx hb dL_law_254 (by decide) ?_
  refine lv_iadd hx hb dL_law_255 ?_
  refine va_sld hx hb hX hbl hbA hS (i2) dL_law_256 ?_
  refine law_call (q := (RX5, TX5, 21)) (ci := 5) (rest := [.int r]) hF K2 A2 D21 hW' hW hS hl.1 kb (by decide) rfl (c_X5_join l O2 kb e2) (kwV 2 wl_864 wl_861 wl_862 wl_863 wl_70 (by decide +kernel) hF.2.2.2.2 ⟨Nat.le_of_ble_eq_true rfl, Nat.le_of_ble_eq_true rfl⟩) rfl rfl (Nat.le_of_ble_eq_true rfl) dL_law_257 ⟨Nat.le_of_ble_eq_true rfl, Nat.le_of_ble_eq_true rfl⟩ (fun H locs hW' hW hS => ?_)
  refine lv_icmp_eq (tgt := 1012) hx hb dL_law_260 (by decide) (fun _ => ?_) (fun q => absurd rfl q)
  exact ag _ _ _ _ _ hW hW' I1 hS hl
set_option maxHeartbeats 4000000 in
set_option maxRecDepth 100000 in
theorem law_cut (B : LawB p l e s m below meth c G Λ Λ' a b z L xs) (hi : i + 4 ≤ L) (I : Inv Λ μ a Λ' μ' b) (hW : Wd G Λ μ H) (hW' : Wd G Λ' μ' H) (hS : va_S (fun q : Nat => s.heap.size ≤ q) s.heap H locs) (hl : lv_has ls 4 [(3, .int (nI i)), (2, .ref b), (1, .ref a), (0, .ref z)]) (ag : LawA p l e s m below meth c G Λ Λ' a b z i) : W p l e room_1 s m #[.ref z] below meth c H locs 382 7795 (lw_Z below #[.ref z] s) (F0 m 265 ls []) := by
  obtain ⟨hF, hr, hlocks, hX, hbl, hL, K1, K2, O1, O2, ka, kb, A1, A2, D12, D21, PC, PM⟩ := B
  have hx := hF.1
  have hb := hF.2.1
  have hbA : ¬ (fun q : Nat => s.heap.size ≤ q) z := Nat.not_le.mpr hbl
  have i1 : vp_in (nI i + nI 1) L := by rw [nI_add]; exact vp_in_nI (by omega) (by omega)
  have i2 : vp_in (nI i + nI 2) L := by rw [nI_add]; exact vp_in_nI (by omega) (by omega)
  obtain ⟨r, μ1, μ1', e1, e2, I1⟩ := op_cut PC PM I (xs (nI i + nI 1).toNatClampNeg) (xs (nI i + nI 2).toNatClampNeg)
  refine lv_aload_n hx hb dL_law_265 rfl (lv_at hl 2 rfl) ?_
  refine lv_aload_n hx hb dL_law_266 rfl (lv_at hl 3 rfl) ?_
  refine lv_iload_n hx hb dL_law_267 rfl (lv_at hl 0 rfl) ?_
  refine lv_iconst (v := nI 1) hx hb dL_law_268 (by decide) ?_
  refine lv_iadd hx hb dL_law_269 ?_
  refine va_sld hx hb hX hbl hbA hS (i1) dL_law_270 ?_
  refine lv_aload_n hx hb dL_law_271 rfl (lv_at hl 3 rfl) ?_
  refine lv_iload_n hx hb dL_law_272 rfl (lv_at hl 0 rfl) ?_
  refine lv_iconst (v := nI 2) hx hb dL_law_273 (by decide) ?_
  refine lv_iadd hx hb dL_law_274 ?_
  refine va_sld hx hb hX hbl hbA hS (i2) dL_law_275 ?_
  refine law_call (q := (RX4, TX4, 11)) (ci := 4) (rest := []) hF K1 A1 D12 hW hW' hS hl.1 ka (by decide) rfl (c_X4_cut l O1 ka e1) (kwV 2 wl_373 wl_370 wl_371 wl_372 wl_65 (by decide +kernel) hF.2.2.2.2 ⟨Nat.le_of_ble_eq_true rfl, Nat.le_of_ble_eq_true rfl⟩) rfl rfl (Nat.le_of_ble_eq_true rfl) dL_law_276 ⟨Nat.le_of_ble_eq_true rfl, Nat.le_of_ble_eq_true rfl⟩ (fun H locs hW hW' hS => ?_)
  refine lv_aload_n hx hb dL_law_279 rfl (lv_at hl 1 rfl) ?_
  refine lv_aload_n hx hb dL_law_280 rfl (lv_at hl 3 rfl) ?_
  refine lv_iload_n hx hb dL_law_281 rfl (lv_at hl 0 rfl) ?_
  refine lv_iconst (v := nI 1) hx hb dL_law_282 (by decide) ?_
  refine lv_iadd hx hb dL_law_283 ?_
  refine va_sld hx hb hX hbl hbA hS (i1) dL_law_284 ?_
  refine lv_aload_n hx hb dL_law_285 rfl (lv_at hl 3 rfl) ?_
  refine lv_iload_n hx hb dL_law_286 rfl (lv_at hl 0 rfl) ?_
  refine lv_iconst (v := nI 2) hx hb dL_law_287 (by decide) ?_
  refine lv_iadd hx hb dL_law_288 ?_
  refine va_sld hx hb hX hbl hbA hS (i2) dL_law_289 ?_
  refine law_call (q := (RX5, TX5, 21)) (ci := 5) (rest := [.int r]) hF K2 A2 D21 hW' hW hS hl.1 kb (by decide) rfl (c_X5_cut l O2 kb e2) (kwV 2 wl_900 wl_897 wl_898 wl_899 wl_70 (by decide +kernel) hF.2.2.2.2 ⟨Nat.le_of_ble_eq_true rfl, Nat.le_of_ble_eq_true rfl⟩) rfl rfl (Nat.le_of_ble_eq_true rfl) dL_law_290 ⟨Nat.le_of_ble_eq_true rfl, Nat.le_of_ble_eq_true rfl⟩ (fun H locs hW' hW hS => ?_)
  refine lv_icmp_eq (tgt := 1012) hx hb dL_law_293 (by decide) (fun _ => ?_) (fun q => absurd rfl q)
  exact ag _ _ _ _ _ hW hW' I1 hS hl
set_option maxHeartbeats 4000000 in
set_option maxRecDepth 100000 in
theorem law_turn (B : LawB p l e s m below meth c G Λ Λ' a b z L xs) (hi : i + 4 ≤ L) (I : Inv Λ μ a Λ' μ' b) (hW : Wd G Λ μ H) (hW' : Wd G Λ' μ' H) (hS : va_S (fun q : Nat => s.heap.size ≤ q) s.heap H locs) (hl : lv_has ls 4 [(3, .int (nI i)), (2, .ref b), (1, .ref a), (0, .ref z)]) (ag : LawA p l e s m below meth c G Λ Λ' a b z i) : W p l e room_1 s m #[.ref z] below meth c H locs 382 7795 (lw_Z below #[.ref z] s) (F0 m 298 ls []) := by
  obtain ⟨hF, hr, hlocks, hX, hbl, hL, K1, K2, O1, O2, ka, kb, A1, A2, D12, D21, PC, PM⟩ := B
  have hx := hF.1
  have hb := hF.2.1
  have hbA : ¬ (fun q : Nat => s.heap.size ≤ q) z := Nat.not_le.mpr hbl
  have i1 : vp_in (nI i + nI 1) L := by rw [nI_add]; exact vp_in_nI (by omega) (by omega)
  obtain ⟨r, μ1, μ1', e1, e2, I1⟩ := op_turn PC PM I (xs (nI i + nI 1).toNatClampNeg)
  refine lv_aload_n hx hb dL_law_298 rfl (lv_at hl 2 rfl) ?_
  refine lv_aload_n hx hb dL_law_299 rfl (lv_at hl 3 rfl) ?_
  refine lv_iload_n hx hb dL_law_300 rfl (lv_at hl 0 rfl) ?_
  refine lv_iconst (v := nI 1) hx hb dL_law_301 (by decide) ?_
  refine lv_iadd hx hb dL_law_302 ?_
  refine va_sld hx hb hX hbl hbA hS (i1) dL_law_303 ?_
  refine law_call (q := (RX4, TX4, 11)) (ci := 4) (rest := []) hF K1 A1 D12 hW hW' hS hl.1 ka (by decide) rfl (c_X4_turn l O1 ka e1) (kwV 1 wl_403 wl_400 wl_401 wl_402 wl_65 (by decide +kernel) hF.2.2.2.2 ⟨Nat.le_of_ble_eq_true rfl, Nat.le_of_ble_eq_true rfl⟩) rfl rfl (Nat.le_of_ble_eq_true rfl) dL_law_304 ⟨Nat.le_of_ble_eq_true rfl, Nat.le_of_ble_eq_true rfl⟩ (fun H locs hW hW' hS => ?_)
  refine lv_aload_n hx hb dL_law_307 rfl (lv_at hl 1 rfl) ?_
  refine lv_aload_n hx hb dL_law_308 rfl (lv_at hl 3 rfl) ?_
  refine lv_iload_n hx hb dL_law_309 rfl (lv_at hl 0 rfl) ?_
  refine lv_iconst (v := nI 1) hx hb dL_law_310 (by decide) ?_
  refine lv_iadd hx hb dL_law_311 ?_
  refine va_sld hx hb hX hbl hbA hS (i1) dL_law_312 ?_
  refine law_call (q := (RX5, TX5, 21)) (ci := 5) (rest := [.int r]) hF K2 A2 D21 hW' hW hS hl.1 kb (by decide) rfl (c_X5_turn l O2 kb e2) (kwV 1 wl_920 wl_917 wl_918 wl_919 wl_70 (by decide +kernel) hF.2.2.2.2 ⟨Nat.le_of_ble_eq_true rfl, Nat.le_of_ble_eq_true rfl⟩) rfl rfl (Nat.le_of_ble_eq_true rfl) dL_law_313 ⟨Nat.le_of_ble_eq_true rfl, Nat.le_of_ble_eq_true rfl⟩ (fun H locs hW' hW hS => ?_)
  refine lv_icmp_eq (tgt := 1012) hx hb dL_law_316 (by decide) (fun _ => ?_) (fun q => absurd rfl q)
  exact ag _ _ _ _ _ hW hW' I1 hS hl
set_option maxHeartbeats 4000000 in
set_option maxRecDepth 100000 in
theorem law_rise (B : LawB p l e s m below meth c G Λ Λ' a b z L xs) (hi : i + 4 ≤ L) (I : Inv Λ μ a Λ' μ' b) (hW : Wd G Λ μ H) (hW' : Wd G Λ' μ' H) (hS : va_S (fun q : Nat => s.heap.size ≤ q) s.heap H locs) (hl : lv_has ls 4 [(3, .int (nI i)), (2, .ref b), (1, .ref a), (0, .ref z)]) (ag : LawA p l e s m below meth c G Λ Λ' a b z i) : W p l e room_1 s m #[.ref z] below meth c H locs 382 7795 (lw_Z below #[.ref z] s) (F0 m 321 ls []) := by
  obtain ⟨hF, hr, hlocks, hX, hbl, hL, K1, K2, O1, O2, ka, kb, A1, A2, D12, D21, PC, PM⟩ := B
  have hx := hF.1
  have hb := hF.2.1
  have hbA : ¬ (fun q : Nat => s.heap.size ≤ q) z := Nat.not_le.mpr hbl
  have i1 : vp_in (nI i + nI 1) L := by rw [nI_add]; exact vp_in_nI (by omega) (by omega)
  have i2 : vp_in (nI i + nI 2) L := by rw [nI_add]; exact vp_in_nI (by omega) (by omega)
  obtain ⟨r, μ1, μ1', e1, e2, I1⟩ := op_rise PC PM I (xs (nI i + nI 1).toNatClampNeg) (xs (nI i + nI 2).toNatClampNeg)
  refine lv_aload_n hx hb dL_law_321 rfl (lv_at hl 2 rfl) ?_
  refine lv_aload_n hx hb dL_law_322 rfl (lv_at hl 3 rfl) ?_
  refine lv_iload_n hx hb dL_law_323 rfl (lv_at hl 0 rfl) ?_
  refine lv_iconst (v := nI 1) hx hb dL_law_324 (by decide) ?_
  refine lv_iadd hx hb dL_law_325 ?_
  refine va_sld hx hb hX hbl hbA hS (i1) dL_law_326 ?_
  refine lv_aload_n hx hb dL_law_327 rfl (lv_at hl 3 rfl) ?_
  refine lv_iload_n hx hb dL_law_328 rfl (lv_at hl 0 rfl) ?_
  refine lv_iconst (v := nI 2) hx hb dL_law_329 (by decide) ?_
  refine lv_iadd hx hb dL_law_330 ?_
  refine va_sld hx hb hX hbl hbA hS (i2) dL_law_331 ?_
  refine law_call (q := (RX4, TX4, 11)) (ci := 4) (rest := []) hF K1 A1 D12 hW hW' hS hl.1 ka (by decide) rfl (c_X4_rise l O1 ka e1) (kwV 2 wl_415 wl_412 wl_413 wl_414 wl_65 (by decide +kernel) hF.2.2.2.2 ⟨Nat.le_of_ble_eq_true rfl, Nat.le_of_ble_eq_true rfl⟩) rfl rfl (Nat.le_of_ble_eq_true rfl) dL_law_332 ⟨Nat.le_of_ble_eq_true rfl, Nat.le_of_ble_eq_true rfl⟩ (fun H locs hW hW' hS => ?_)
  refine lv_aload_n hx hb dL_law_335 rfl (lv_at hl 1 rfl) ?_
  refine lv_aload_n hx hb dL_law_336 rfl (lv_at hl 3 rfl) ?_
  refine lv_iload_n hx hb dL_law_337 rfl (lv_at hl 0 rfl) ?_
  refine lv_iconst (v := nI 1) hx hb dL_law_338 (by decide) ?_
  refine lv_iadd hx hb dL_law_339 ?_
  refine va_sld hx hb hX hbl hbA hS (i1) dL_law_340 ?_
  refine lv_aload_n hx hb dL_law_341 rfl (lv_at hl 3 rfl) ?_
  refine lv_iload_n hx hb dL_law_342 rfl (lv_at hl 0 rfl) ?_
  refine lv_iconst (v := nI 2) hx hb dL_law_343 (by decide) ?_
  refine lv_iadd hx hb dL_law_344 ?_
  refine va_sld hx hb hX hbl hbA hS (i2) dL_law_345 ?_
  refine law_call (q := (RX5, TX5, 21)) (ci := 5) (rest := [.int r]) hF K2 A2 D21 hW' hW hS hl.1 kb (by decide) rfl (c_X5_rise l O2 kb e2) (kwV 2 wl_924 wl_921 wl_922 wl_923 wl_70 (by decide +kernel) hF.2.2.2.2 ⟨Nat.le_of_ble_eq_true rfl, Nat.le_of_ble_eq_true rfl⟩) rfl rfl (Nat.le_of_ble_eq_true rfl) dL_law_346 ⟨Nat.le_of_ble_eq_true rfl, Nat.le_of_ble_eq_true rfl⟩ (fun H locs hW' hW hS => ?_)
  refine lv_icmp_eq (tgt := 1012) hx hb dL_law_349 (by decide) (fun _ => ?_) (fun q => absurd rfl q)
  exact ag _ _ _ _ _ hW hW' I1 hS hl
set_option maxHeartbeats 4000000 in
set_option maxRecDepth 100000 in
theorem law_areJoined (B : LawB p l e s m below meth c G Λ Λ' a b z L xs) (hi : i + 4 ≤ L) (I : Inv Λ μ a Λ' μ' b) (hW : Wd G Λ μ H) (hW' : Wd G Λ' μ' H) (hS : va_S (fun q : Nat => s.heap.size ≤ q) s.heap H locs) (hl : lv_has ls 4 [(3, .int (nI i)), (2, .ref b), (1, .ref a), (0, .ref z)]) (ag : LawA p l e s m below meth c G Λ Λ' a b z i) : W p l e room_1 s m #[.ref z] below meth c H locs 382 7795 (lw_Z below #[.ref z] s) (F0 m 354 ls []) := by
  obtain ⟨hF, hr, hlocks, hX, hbl, hL, K1, K2, O1, O2, ka, kb, A1, A2, D12, D21, PC, PM⟩ := B
  have hx := hF.1
  have hb := hF.2.1
  have hbA : ¬ (fun q : Nat => s.heap.size ≤ q) z := Nat.not_le.mpr hbl
  have i1 : vp_in (nI i + nI 1) L := by rw [nI_add]; exact vp_in_nI (by omega) (by omega)
  have i2 : vp_in (nI i + nI 2) L := by rw [nI_add]; exact vp_in_nI (by omega) (by omega)
  obtain ⟨r, e1, e2⟩ := as_joined I (xs (nI i + nI 1).toNatClampNeg) (xs (nI i + nI 2).toNatClampNeg)
  refine lv_aload_n hx hb dL_law_354 rfl (lv_at hl 2 rfl) ?_
  refine lv_aload_n hx hb dL_law_355 rfl (lv_at hl 3 rfl) ?_
  refine lv_iload_n hx hb dL_law_356 rfl (lv_at hl 0 rfl) ?_
  refine lv_iconst (v := nI 1) hx hb dL_law_357 (by decide) ?_
  refine lv_iadd hx hb dL_law_358 ?_
  refine va_sld hx hb hX hbl hbA hS (i1) dL_law_359 ?_
  refine lv_aload_n hx hb dL_law_360 rfl (lv_at hl 3 rfl) ?_
  refine lv_iload_n hx hb dL_law_361 rfl (lv_at hl 0 rfl) ?_
  refine lv_iconst (v := nI 2) hx hb dL_law_362 (by decide) ?_
  refine lv_iadd hx hb dL_law_363 ?_
  refine va_sld hx hb hX hbl hbA hS (i2) dL_law_364 ?_
  refine law_call (q := (RX4, TX4, 11)) (ci := 4) (rest := []) hF K1 A1 D12 hW hW' hS hl.1 ka (by decide) rfl (c_X4_areJoined l O1 ka e1) (kwV 2 wl_431 wl_428 wl_429 wl_430 wl_65 (by decide +kernel) hF.2.2.2.2 ⟨Nat.le_of_ble_eq_true rfl, Nat.le_of_ble_eq_true rfl⟩) rfl rfl (Nat.le_of_ble_eq_true rfl) dL_law_365 ⟨Nat.le_of_ble_eq_true rfl, Nat.le_of_ble_eq_true rfl⟩ (fun H locs hW hW' hS => ?_)
  refine lv_aload_n hx hb dL_law_368 rfl (lv_at hl 1 rfl) ?_
  refine lv_aload_n hx hb dL_law_369 rfl (lv_at hl 3 rfl) ?_
  refine lv_iload_n hx hb dL_law_370 rfl (lv_at hl 0 rfl) ?_
  refine lv_iconst (v := nI 1) hx hb dL_law_371 (by decide) ?_
  refine lv_iadd hx hb dL_law_372 ?_
  refine va_sld hx hb hX hbl hbA hS (i1) dL_law_373 ?_
  refine lv_aload_n hx hb dL_law_374 rfl (lv_at hl 3 rfl) ?_
  refine lv_iload_n hx hb dL_law_375 rfl (lv_at hl 0 rfl) ?_
  refine lv_iconst (v := nI 2) hx hb dL_law_376 (by decide) ?_
  refine lv_iadd hx hb dL_law_377 ?_
  refine va_sld hx hb hX hbl hbA hS (i2) dL_law_378 ?_
  refine law_call (q := (RX5, TX5, 21)) (ci := 5) (rest := [.int r]) hF K2 A2 D21 hW' hW hS hl.1 kb (by decide) rfl (c_X5_areJoined l O2 kb e2) (kwV 2 wl_932 wl_929 wl_930 wl_931 wl_70 (by decide +kernel) hF.2.2.2.2 ⟨Nat.le_of_ble_eq_true rfl, Nat.le_of_ble_eq_true rfl⟩) rfl rfl (Nat.le_of_ble_eq_true rfl) dL_law_379 ⟨Nat.le_of_ble_eq_true rfl, Nat.le_of_ble_eq_true rfl⟩ (fun H locs hW' hW hS => ?_)
  refine lv_icmp_eq (tgt := 1012) hx hb dL_law_382 (by decide) (fun _ => ?_) (fun q => absurd rfl q)
  exact ag _ _ _ _ _ hW hW' I hS hl
set_option maxHeartbeats 4000000 in
set_option maxRecDepth 100000 in
theorem law_areJoinedAgain (B : LawB p l e s m below meth c G Λ Λ' a b z L xs) (hi : i + 4 ≤ L) (I : Inv Λ μ a Λ' μ' b) (hW : Wd G Λ μ H) (hW' : Wd G Λ' μ' H) (hS : va_S (fun q : Nat => s.heap.size ≤ q) s.heap H locs) (hl : lv_has ls 4 [(3, .int (nI i)), (2, .ref b), (1, .ref a), (0, .ref z)]) (ag : LawA p l e s m below meth c G Λ Λ' a b z i) : W p l e room_1 s m #[.ref z] below meth c H locs 382 7795 (lw_Z below #[.ref z] s) (F0 m 387 ls []) := by
  obtain ⟨hF, hr, hlocks, hX, hbl, hL, K1, K2, O1, O2, ka, kb, A1, A2, D12, D21, PC, PM⟩ := B
  have hx := hF.1
  have hb := hF.2.1
  have hbA : ¬ (fun q : Nat => s.heap.size ≤ q) z := Nat.not_le.mpr hbl
  have i1 : vp_in (nI i + nI 1) L := by rw [nI_add]; exact vp_in_nI (by omega) (by omega)
  have i2 : vp_in (nI i + nI 2) L := by rw [nI_add]; exact vp_in_nI (by omega) (by omega)
  obtain ⟨r, e1, e2⟩ := as_joinedAgain I (xs (nI i + nI 1).toNatClampNeg) (xs (nI i + nI 2).toNatClampNeg)
  refine lv_aload_n hx hb dL_law_387 rfl (lv_at hl 2 rfl) ?_
  refine lv_aload_n hx hb dL_law_388 rfl (lv_at hl 3 rfl) ?_
  refine lv_iload_n hx hb dL_law_389 rfl (lv_at hl 0 rfl) ?_
  refine lv_iconst (v := nI 1) hx hb dL_law_390 (by decide) ?_
  refine lv_iadd hx hb dL_law_391 ?_
  refine va_sld hx hb hX hbl hbA hS (i1) dL_law_392 ?_
  refine lv_aload_n hx hb dL_law_393 rfl (lv_at hl 3 rfl) ?_
  refine lv_iload_n hx hb dL_law_394 rfl (lv_at hl 0 rfl) ?_
  refine lv_iconst (v := nI 2) hx hb dL_law_395 (by decide) ?_
  refine lv_iadd hx hb dL_law_396 ?_
  refine va_sld hx hb hX hbl hbA hS (i2) dL_law_397 ?_
  refine law_call (q := (RX4, TX4, 11)) (ci := 4) (rest := []) hF K1 A1 D12 hW hW' hS hl.1 ka (by decide) rfl (c_X4_areJoinedAgain l O1 ka e1) (kwV 2 wl_435 wl_432 wl_433 wl_434 wl_65 (by decide +kernel) hF.2.2.2.2 ⟨Nat.le_of_ble_eq_true rfl, Nat.le_of_ble_eq_true rfl⟩) rfl rfl (Nat.le_of_ble_eq_true rfl) dL_law_398 ⟨Nat.le_of_ble_eq_true rfl, Nat.le_of_ble_eq_true rfl⟩ (fun H locs hW hW' hS => ?_)
  refine lv_aload_n hx hb dL_law_401 rfl (lv_at hl 1 rfl) ?_
  refine lv_aload_n hx hb dL_law_402 rfl (lv_at hl 3 rfl) ?_
  refine lv_iload_n hx hb dL_law_403 rfl (lv_at hl 0 rfl) ?_
  refine lv_iconst (v := nI 1) hx hb dL_law_404 (by decide) ?_
  refine lv_iadd hx hb dL_law_405 ?_
  refine va_sld hx hb hX hbl hbA hS (i1) dL_law_406 ?_
  refine lv_aload_n hx hb dL_law_407 rfl (lv_at hl 3 rfl) ?_
  refine lv_iload_n hx hb dL_law_408 rfl (lv_at hl 0 rfl) ?_
  refine lv_iconst (v := nI 2) hx hb dL_law_409 (by decide) ?_
  refine lv_iadd hx hb dL_law_410 ?_
  refine va_sld hx hb hX hbl hbA hS (i2) dL_law_411 ?_
  refine law_call (q := (RX5, TX5, 21)) (ci := 5) (rest := [.int r]) hF K2 A2 D21 hW' hW hS hl.1 kb (by decide) rfl (c_X5_areJoinedAgain l O2 kb e2) (kwV 2 wl_936 wl_933 wl_934 wl_935 wl_70 (by decide +kernel) hF.2.2.2.2 ⟨Nat.le_of_ble_eq_true rfl, Nat.le_of_ble_eq_true rfl⟩) rfl rfl (Nat.le_of_ble_eq_true rfl) dL_law_412 ⟨Nat.le_of_ble_eq_true rfl, Nat.le_of_ble_eq_true rfl⟩ (fun H locs hW' hW hS => ?_)
  refine lv_icmp_eq (tgt := 1012) hx hb dL_law_415 (by decide) (fun _ => ?_) (fun q => absurd rfl q)
  exact ag _ _ _ _ _ hW hW' I hS hl
set_option maxHeartbeats 4000000 in
set_option maxRecDepth 100000 in
theorem law_bankOf (B : LawB p l e s m below meth c G Λ Λ' a b z L xs) (hi : i + 4 ≤ L) (I : Inv Λ μ a Λ' μ' b) (hW : Wd G Λ μ H) (hW' : Wd G Λ' μ' H) (hS : va_S (fun q : Nat => s.heap.size ≤ q) s.heap H locs) (hl : lv_has ls 4 [(3, .int (nI i)), (2, .ref b), (1, .ref a), (0, .ref z)]) (ag : LawA p l e s m below meth c G Λ Λ' a b z i) : W p l e room_1 s m #[.ref z] below meth c H locs 382 7795 (lw_Z below #[.ref z] s) (F0 m 420 ls []) := by
  obtain ⟨hF, hr, hlocks, hX, hbl, hL, K1, K2, O1, O2, ka, kb, A1, A2, D12, D21, PC, PM⟩ := B
  have hx := hF.1
  have hb := hF.2.1
  have hbA : ¬ (fun q : Nat => s.heap.size ≤ q) z := Nat.not_le.mpr hbl
  have i1 : vp_in (nI i + nI 1) L := by rw [nI_add]; exact vp_in_nI (by omega) (by omega)
  have i2 : vp_in (nI i + nI 2) L := by rw [nI_add]; exact vp_in_nI (by omega) (by omega)
  obtain ⟨r, e1, e2⟩ := as_bankOf I (xs (nI i + nI 1).toNatClampNeg) (xs (nI i + nI 2).toNatClampNeg)
  refine lv_aload_n hx hb dL_law_420 rfl (lv_at hl 2 rfl) ?_
  refine lv_aload_n hx hb dL_law_421 rfl (lv_at hl 3 rfl) ?_
  refine lv_iload_n hx hb dL_law_422 rfl (lv_at hl 0 rfl) ?_
  refine lv_iconst (v := nI 1) hx hb dL_law_423 (by decide) ?_
  refine lv_iadd hx hb dL_law_424 ?_
  refine va_sld hx hb hX hbl hbA hS (i1) dL_law_425 ?_
  refine lv_aload_n hx hb dL_law_426 rfl (lv_at hl 3 rfl) ?_
  refine lv_iload_n hx hb dL_law_427 rfl (lv_at hl 0 rfl) ?_
  refine lv_iconst (v := nI 2) hx hb dL_law_428 (by decide) ?_
  refine lv_iadd hx hb dL_law_429 ?_
  refine va_sld hx hb hX hbl hbA hS (i2) dL_law_430 ?_
  refine law_call (q := (RX4, TX4, 11)) (ci := 4) (rest := []) hF K1 A1 D12 hW hW' hS hl.1 ka (by decide) rfl (c_X4_bankOf l O1 ka e1) (kwV 2 wl_447 wl_444 wl_445 wl_446 wl_65 (by decide +kernel) hF.2.2.2.2 ⟨Nat.le_of_ble_eq_true rfl, Nat.le_of_ble_eq_true rfl⟩) rfl rfl (Nat.le_of_ble_eq_true rfl) dL_law_431 ⟨Nat.le_of_ble_eq_true rfl, Nat.le_of_ble_eq_true rfl⟩ (fun H locs hW hW' hS => ?_)
  refine lv_aload_n hx hb dL_law_434 rfl (lv_at hl 1 rfl) ?_
  refine lv_aload_n hx hb dL_law_435 rfl (lv_at hl 3 rfl) ?_
  refine lv_iload_n hx hb dL_law_436 rfl (lv_at hl 0 rfl) ?_
  refine lv_iconst (v := nI 1) hx hb dL_law_437 (by decide) ?_
  refine lv_iadd hx hb dL_law_438 ?_
  refine va_sld hx hb hX hbl hbA hS (i1) dL_law_439 ?_
  refine lv_aload_n hx hb dL_law_440 rfl (lv_at hl 3 rfl) ?_
  refine lv_iload_n hx hb dL_law_441 rfl (lv_at hl 0 rfl) ?_
  refine lv_iconst (v := nI 2) hx hb dL_law_442 (by decide) ?_
  refine lv_iadd hx hb dL_law_443 ?_
  refine va_sld hx hb hX hbl hbA hS (i2) dL_law_444 ?_
  refine law_call (q := (RX5, TX5, 21)) (ci := 5) (rest := [.int r]) hF K2 A2 D21 hW' hW hS hl.1 kb (by decide) rfl (c_X5_bankOf l O2 kb e2) (kwV 2 wl_941 wl_938 wl_939 wl_940 wl_70 (by decide +kernel) hF.2.2.2.2 ⟨Nat.le_of_ble_eq_true rfl, Nat.le_of_ble_eq_true rfl⟩) rfl rfl (Nat.le_of_ble_eq_true rfl) dL_law_445 ⟨Nat.le_of_ble_eq_true rfl, Nat.le_of_ble_eq_true rfl⟩ (fun H locs hW' hW hS => ?_)
  refine lv_icmp_eq (tgt := 1012) hx hb dL_law_448 (by decide) (fun _ => ?_) (fun q => absurd rfl q)
  exact ag _ _ _ _ _ hW hW' I hS hl
set_option maxHeartbeats 4000000 in
set_option maxRecDepth 100000 in
theorem law_belowAgain (B : LawB p l e s m below meth c G Λ Λ' a b z L xs) (hi : i + 4 ≤ L) (I : Inv Λ μ a Λ' μ' b) (hW : Wd G Λ μ H) (hW' : Wd G Λ' μ' H) (hS : va_S (fun q : Nat => s.heap.size ≤ q) s.heap H locs) (hl : lv_has ls 4 [(3, .int (nI i)), (2, .ref b), (1, .ref a), (0, .ref z)]) (ag : LawA p l e s m below meth c G Λ Λ' a b z i) : W p l e room_1 s m #[.ref z] below meth c H locs 382 7795 (lw_Z below #[.ref z] s) (F0 m 453 ls []) := by
  obtain ⟨hF, hr, hlocks, hX, hbl, hL, K1, K2, O1, O2, ka, kb, A1, A2, D12, D21, PC, PM⟩ := B
  have hx := hF.1
  have hb := hF.2.1
  have hbA : ¬ (fun q : Nat => s.heap.size ≤ q) z := Nat.not_le.mpr hbl
  have i1 : vp_in (nI i + nI 1) L := by rw [nI_add]; exact vp_in_nI (by omega) (by omega)
  obtain ⟨r, e1, e2⟩ := as_belowAgain I (xs (nI i + nI 1).toNatClampNeg)
  refine lv_aload_n hx hb dL_law_453 rfl (lv_at hl 2 rfl) ?_
  refine lv_aload_n hx hb dL_law_454 rfl (lv_at hl 3 rfl) ?_
  refine lv_iload_n hx hb dL_law_455 rfl (lv_at hl 0 rfl) ?_
  refine lv_iconst (v := nI 1) hx hb dL_law_456 (by decide) ?_
  refine lv_iadd hx hb dL_law_457 ?_
  refine va_sld hx hb hX hbl hbA hS (i1) dL_law_458 ?_
  refine law_call (q := (RX4, TX4, 11)) (ci := 4) (rest := []) hF K1 A1 D12 hW hW' hS hl.1 ka (by decide) rfl (c_X4_belowAgain l O1 ka e1) (kwV 1 wl_477 wl_474 wl_475 wl_476 wl_65 (by decide +kernel) hF.2.2.2.2 ⟨Nat.le_of_ble_eq_true rfl, Nat.le_of_ble_eq_true rfl⟩) rfl rfl (Nat.le_of_ble_eq_true rfl) dL_law_459 ⟨Nat.le_of_ble_eq_true rfl, Nat.le_of_ble_eq_true rfl⟩ (fun H locs hW hW' hS => ?_)
  refine lv_aload_n hx hb dL_law_462 rfl (lv_at hl 1 rfl) ?_
  refine lv_aload_n hx hb dL_law_463 rfl (lv_at hl 3 rfl) ?_
  refine lv_iload_n hx hb dL_law_464 rfl (lv_at hl 0 rfl) ?_
  refine lv_iconst (v := nI 1) hx hb dL_law_465 (by decide) ?_
  refine lv_iadd hx hb dL_law_466 ?_
  refine va_sld hx hb hX hbl hbA hS (i1) dL_law_467 ?_
  refine law_call (q := (RX5, TX5, 21)) (ci := 5) (rest := [.int r]) hF K2 A2 D21 hW' hW hS hl.1 kb (by decide) rfl (c_X5_belowAgain l O2 kb e2) (kwV 1 wl_969 wl_966 wl_967 wl_968 wl_70 (by decide +kernel) hF.2.2.2.2 ⟨Nat.le_of_ble_eq_true rfl, Nat.le_of_ble_eq_true rfl⟩) rfl rfl (Nat.le_of_ble_eq_true rfl) dL_law_468 ⟨Nat.le_of_ble_eq_true rfl, Nat.le_of_ble_eq_true rfl⟩ (fun H locs hW' hW hS => ?_)
  refine lv_icmp_eq (tgt := 1012) hx hb dL_law_471 (by decide) (fun _ => ?_) (fun q => absurd rfl q)
  exact ag _ _ _ _ _ hW hW' I hS hl
set_option maxHeartbeats 4000000 in
set_option maxRecDepth 100000 in
theorem law_inRound (B : LawB p l e s m below meth c G Λ Λ' a b z L xs) (hi : i + 4 ≤ L) (I : Inv Λ μ a Λ' μ' b) (hW : Wd G Λ μ H) (hW' : Wd G Λ' μ' H) (hS : va_S (fun q : Nat => s.heap.size ≤ q) s.heap H locs) (hl : lv_has ls 4 [(3, .int (nI i)), (2, .ref b), (1, .ref a), (0, .ref z)]) (ag : LawA p l e s m below meth c G Λ Λ' a b z i) : W p l e room_1 s m #[.ref z] below meth c H locs 382 7795 (lw_Z below #[.ref z] s) (F0 m 476 ls []) := by
  obtain ⟨hF, hr, hlocks, hX, hbl, hL, K1, K2, O1, O2, ka, kb, A1, A2, D12, D21, PC, PM⟩ := B
  have hx := hF.1
  have hb := hF.2.1
  have hbA : ¬ (fun q : Nat => s.heap.size ≤ q) z := Nat.not_le.mpr hbl
  have i1 : vp_in (nI i + nI 1) L := by rw [nI_add]; exact vp_in_nI (by omega) (by omega)
  have i2 : vp_in (nI i + nI 2) L := by rw [nI_add]; exact vp_in_nI (by omega) (by omega)
  obtain ⟨r, e1, e2⟩ := as_inRound I (xs (nI i + nI 1).toNatClampNeg) (xs (nI i + nI 2).toNatClampNeg)
  refine lv_aload_n hx hb dL_law_476 rfl (lv_at hl 2 rfl) ?_
  refine lv_aload_n hx hb dL_law_477 rfl (lv_at hl 3 rfl) ?_
  refine lv_iload_n hx hb dL_law_478 rfl (lv_at hl 0 rfl) ?_
  refine lv_iconst (v := nI 1) hx hb dL_law_479 (by decide) ?_
  refine lv_iadd hx hb dL_law_480 ?_
  refine va_sld hx hb hX hbl hbA hS (i1) dL_law_481 ?_
  refine lv_aload_n hx hb dL_law_482 rfl (lv_at hl 3 rfl) ?_
  refine lv_iload_n hx hb dL_law_483 rfl (lv_at hl 0 rfl) ?_
  refine lv_iconst (v := nI 2) hx hb dL_law_484 (by decide) ?_
  refine lv_iadd hx hb dL_law_485 ?_
  refine va_sld hx hb hX hbl hbA hS (i2) dL_law_486 ?_
  refine law_call (q := (RX4, TX4, 11)) (ci := 4) (rest := []) hF K1 A1 D12 hW hW' hS hl.1 ka (by decide) rfl (c_X4_inRound l O1 ka e1) (kwV 2 wl_486 wl_483 wl_484 wl_485 wl_65 (by decide +kernel) hF.2.2.2.2 ⟨Nat.le_of_ble_eq_true rfl, Nat.le_of_ble_eq_true rfl⟩) rfl rfl (Nat.le_of_ble_eq_true rfl) dL_law_487 ⟨Nat.le_of_ble_eq_true rfl, Nat.le_of_ble_eq_true rfl⟩ (fun H locs hW hW' hS => ?_)
  refine lv_aload_n hx hb dL_law_490 rfl (lv_at hl 1 rfl) ?_
  refine lv_aload_n hx hb dL_law_491 rfl (lv_at hl 3 rfl) ?_
  refine lv_iload_n hx hb dL_law_492 rfl (lv_at hl 0 rfl) ?_
  refine lv_iconst (v := nI 1) hx hb dL_law_493 (by decide) ?_
  refine lv_iadd hx hb dL_law_494 ?_
  refine va_sld hx hb hX hbl hbA hS (i1) dL_law_495 ?_
  refine lv_aload_n hx hb dL_law_496 rfl (lv_at hl 3 rfl) ?_
  refine lv_iload_n hx hb dL_law_497 rfl (lv_at hl 0 rfl) ?_
  refine lv_iconst (v := nI 2) hx hb dL_law_498 (by decide) ?_
  refine lv_iadd hx hb dL_law_499 ?_
  refine va_sld hx hb hX hbl hbA hS (i2) dL_law_500 ?_
  refine law_call (q := (RX5, TX5, 21)) (ci := 5) (rest := [.int r]) hF K2 A2 D21 hW' hW hS hl.1 kb (by decide) rfl (c_X5_inRound l O2 kb e2) (kwV 2 wl_973 wl_970 wl_971 wl_972 wl_70 (by decide +kernel) hF.2.2.2.2 ⟨Nat.le_of_ble_eq_true rfl, Nat.le_of_ble_eq_true rfl⟩) rfl rfl (Nat.le_of_ble_eq_true rfl) dL_law_501 ⟨Nat.le_of_ble_eq_true rfl, Nat.le_of_ble_eq_true rfl⟩ (fun H locs hW' hW hS => ?_)
  refine lv_icmp_eq (tgt := 1012) hx hb dL_law_504 (by decide) (fun _ => ?_) (fun q => absurd rfl q)
  exact ag _ _ _ _ _ hW hW' I hS hl
set_option maxHeartbeats 4000000 in
set_option maxRecDepth 100000 in
theorem law_partOf (B : LawB p l e s m below meth c G Λ Λ' a b z L xs) (hi : i + 4 ≤ L) (I : Inv Λ μ a Λ' μ' b) (hW : Wd G Λ μ H) (hW' : Wd G Λ' μ' H) (hS : va_S (fun q : Nat => s.heap.size ≤ q) s.heap H locs) (hl : lv_has ls 4 [(3, .int (nI i)), (2, .ref b), (1, .ref a), (0, .ref z)]) (ag : LawA p l e s m below meth c G Λ Λ' a b z i) : W p l e room_1 s m #[.ref z] below meth c H locs 382 7795 (lw_Z below #[.ref z] s) (F0 m 509 ls []) := by
  obtain ⟨hF, hr, hlocks, hX, hbl, hL, K1, K2, O1, O2, ka, kb, A1, A2, D12, D21, PC, PM⟩ := B
  have hx := hF.1
  have hb := hF.2.1
  have hbA : ¬ (fun q : Nat => s.heap.size ≤ q) z := Nat.not_le.mpr hbl
  have i1 : vp_in (nI i + nI 1) L := by rw [nI_add]; exact vp_in_nI (by omega) (by omega)
  have i2 : vp_in (nI i + nI 2) L := by rw [nI_add]; exact vp_in_nI (by omega) (by omega)
  obtain ⟨r, e1, e2⟩ := as_partOf I (xs (nI i + nI 1).toNatClampNeg) (xs (nI i + nI 2).toNatClampNeg)
  refine lv_aload_n hx hb dL_law_509 rfl (lv_at hl 2 rfl) ?_
  refine lv_aload_n hx hb dL_law_510 rfl (lv_at hl 3 rfl) ?_
  refine lv_iload_n hx hb dL_law_511 rfl (lv_at hl 0 rfl) ?_
  refine lv_iconst (v := nI 1) hx hb dL_law_512 (by decide) ?_
  refine lv_iadd hx hb dL_law_513 ?_
  refine va_sld hx hb hX hbl hbA hS (i1) dL_law_514 ?_
  refine lv_aload_n hx hb dL_law_515 rfl (lv_at hl 3 rfl) ?_
  refine lv_iload_n hx hb dL_law_516 rfl (lv_at hl 0 rfl) ?_
  refine lv_iconst (v := nI 2) hx hb dL_law_517 (by decide) ?_
  refine lv_iadd hx hb dL_law_518 ?_
  refine va_sld hx hb hX hbl hbA hS (i2) dL_law_519 ?_
  refine law_call (q := (RX4, TX4, 11)) (ci := 4) (rest := []) hF K1 A1 D12 hW hW' hS hl.1 ka (by decide) rfl (c_X4_partOf l O1 ka e1) (kwV 2 wl_491 wl_488 wl_489 wl_490 wl_65 (by decide +kernel) hF.2.2.2.2 ⟨Nat.le_of_ble_eq_true rfl, Nat.le_of_ble_eq_true rfl⟩) rfl rfl (Nat.le_of_ble_eq_true rfl) dL_law_520 ⟨Nat.le_of_ble_eq_true rfl, Nat.le_of_ble_eq_true rfl⟩ (fun H locs hW hW' hS => ?_)
  refine lv_aload_n hx hb dL_law_523 rfl (lv_at hl 1 rfl) ?_
  refine lv_aload_n hx hb dL_law_524 rfl (lv_at hl 3 rfl) ?_
  refine lv_iload_n hx hb dL_law_525 rfl (lv_at hl 0 rfl) ?_
  refine lv_iconst (v := nI 1) hx hb dL_law_526 (by decide) ?_
  refine lv_iadd hx hb dL_law_527 ?_
  refine va_sld hx hb hX hbl hbA hS (i1) dL_law_528 ?_
  refine lv_aload_n hx hb dL_law_529 rfl (lv_at hl 3 rfl) ?_
  refine lv_iload_n hx hb dL_law_530 rfl (lv_at hl 0 rfl) ?_
  refine lv_iconst (v := nI 2) hx hb dL_law_531 (by decide) ?_
  refine lv_iadd hx hb dL_law_532 ?_
  refine va_sld hx hb hX hbl hbA hS (i2) dL_law_533 ?_
  refine law_call (q := (RX5, TX5, 21)) (ci := 5) (rest := [.int r]) hF K2 A2 D21 hW' hW hS hl.1 kb (by decide) rfl (c_X5_partOf l O2 kb e2) (kwV 2 wl_977 wl_974 wl_975 wl_976 wl_70 (by decide +kernel) hF.2.2.2.2 ⟨Nat.le_of_ble_eq_true rfl, Nat.le_of_ble_eq_true rfl⟩) rfl rfl (Nat.le_of_ble_eq_true rfl) dL_law_534 ⟨Nat.le_of_ble_eq_true rfl, Nat.le_of_ble_eq_true rfl⟩ (fun H locs hW' hW hS => ?_)
  refine lv_icmp_eq (tgt := 1012) hx hb dL_law_537 (by decide) (fun _ => ?_) (fun q => absurd rfl q)
  exact ag _ _ _ _ _ hW hW' I hS hl
set_option maxHeartbeats 4000000 in
set_option maxRecDepth 100000 in
theorem law_isRope (B : LawB p l e s m below meth c G Λ Λ' a b z L xs) (hi : i + 4 ≤ L) (I : Inv Λ μ a Λ' μ' b) (hW : Wd G Λ μ H) (hW' : Wd G Λ' μ' H) (hS : va_S (fun q : Nat => s.heap.size ≤ q) s.heap H locs) (hl : lv_has ls 4 [(3, .int (nI i)), (2, .ref b), (1, .ref a), (0, .ref z)]) (ag : LawA p l e s m below meth c G Λ Λ' a b z i) : W p l e room_1 s m #[.ref z] below meth c H locs 382 7795 (lw_Z below #[.ref z] s) (F0 m 542 ls []) := by
  obtain ⟨hF, hr, hlocks, hX, hbl, hL, K1, K2, O1, O2, ka, kb, A1, A2, D12, D21, PC, PM⟩ := B
  have hx := hF.1
  have hb := hF.2.1
  have hbA : ¬ (fun q : Nat => s.heap.size ≤ q) z := Nat.not_le.mpr hbl
  have i1 : vp_in (nI i + nI 1) L := by rw [nI_add]; exact vp_in_nI (by omega) (by omega)
  have i2 : vp_in (nI i + nI 2) L := by rw [nI_add]; exact vp_in_nI (by omega) (by omega)
  obtain ⟨r, e1, e2⟩ := as_rope I (xs (nI i + nI 1).toNatClampNeg) (xs (nI i + nI 2).toNatClampNeg)
  refine lv_aload_n hx hb dL_law_542 rfl (lv_at hl 2 rfl) ?_
  refine lv_aload_n hx hb dL_law_543 rfl (lv_at hl 3 rfl) ?_
  refine lv_iload_n hx hb dL_law_544 rfl (lv_at hl 0 rfl) ?_
  refine lv_iconst (v := nI 1) hx hb dL_law_545 (by decide) ?_
  refine lv_iadd hx hb dL_law_546 ?_
  refine va_sld hx hb hX hbl hbA hS (i1) dL_law_547 ?_
  refine lv_aload_n hx hb dL_law_548 rfl (lv_at hl 3 rfl) ?_
  refine lv_iload_n hx hb dL_law_549 rfl (lv_at hl 0 rfl) ?_
  refine lv_iconst (v := nI 2) hx hb dL_law_550 (by decide) ?_
  refine lv_iadd hx hb dL_law_551 ?_
  refine va_sld hx hb hX hbl hbA hS (i2) dL_law_552 ?_
  refine law_call (q := (RX4, TX4, 11)) (ci := 4) (rest := []) hF K1 A1 D12 hW hW' hS hl.1 ka (by decide) rfl (c_X4_isRope l O1 ka e1) (kwV 2 wl_506 wl_503 wl_504 wl_505 wl_65 (by decide +kernel) hF.2.2.2.2 ⟨Nat.le_of_ble_eq_true rfl, Nat.le_of_ble_eq_true rfl⟩) rfl rfl (Nat.le_of_ble_eq_true rfl) dL_law_553 ⟨Nat.le_of_ble_eq_true rfl, Nat.le_of_ble_eq_true rfl⟩ (fun H locs hW hW' hS => ?_)
  refine lv_aload_n hx hb dL_law_556 rfl (lv_at hl 1 rfl) ?_
  refine lv_aload_n hx hb dL_law_557 rfl (lv_at hl 3 rfl) ?_
  refine lv_iload_n hx hb dL_law_558 rfl (lv_at hl 0 rfl) ?_
  refine lv_iconst (v := nI 1) hx hb dL_law_559 (by decide) ?_
  refine lv_iadd hx hb dL_law_560 ?_
  refine va_sld hx hb hX hbl hbA hS (i1) dL_law_561 ?_
  refine lv_aload_n hx hb dL_law_562 rfl (lv_at hl 3 rfl) ?_
  refine lv_iload_n hx hb dL_law_563 rfl (lv_at hl 0 rfl) ?_
  refine lv_iconst (v := nI 2) hx hb dL_law_564 (by decide) ?_
  refine lv_iadd hx hb dL_law_565 ?_
  refine va_sld hx hb hX hbl hbA hS (i2) dL_law_566 ?_
  refine law_call (q := (RX5, TX5, 21)) (ci := 5) (rest := [.int r]) hF K2 A2 D21 hW' hW hS hl.1 kb (by decide) rfl (c_X5_isRope l O2 kb e2) (kwV 2 wl_989 wl_986 wl_987 wl_988 wl_70 (by decide +kernel) hF.2.2.2.2 ⟨Nat.le_of_ble_eq_true rfl, Nat.le_of_ble_eq_true rfl⟩) rfl rfl (Nat.le_of_ble_eq_true rfl) dL_law_567 ⟨Nat.le_of_ble_eq_true rfl, Nat.le_of_ble_eq_true rfl⟩ (fun H locs hW' hW hS => ?_)
  refine lv_icmp_eq (tgt := 1012) hx hb dL_law_570 (by decide) (fun _ => ?_) (fun q => absurd rfl q)
  exact ag _ _ _ _ _ hW hW' I hS hl
set_option maxHeartbeats 4000000 in
set_option maxRecDepth 100000 in
theorem law_isBelow (B : LawB p l e s m below meth c G Λ Λ' a b z L xs) (hi : i + 4 ≤ L) (I : Inv Λ μ a Λ' μ' b) (hW : Wd G Λ μ H) (hW' : Wd G Λ' μ' H) (hS : va_S (fun q : Nat => s.heap.size ≤ q) s.heap H locs) (hl : lv_has ls 4 [(3, .int (nI i)), (2, .ref b), (1, .ref a), (0, .ref z)]) (ag : LawA p l e s m below meth c G Λ Λ' a b z i) : W p l e room_1 s m #[.ref z] below meth c H locs 382 7795 (lw_Z below #[.ref z] s) (F0 m 575 ls []) := by
  obtain ⟨hF, hr, hlocks, hX, hbl, hL, K1, K2, O1, O2, ka, kb, A1, A2, D12, D21, PC, PM⟩ := B
  have hx := hF.1
  have hb := hF.2.1
  have hbA : ¬ (fun q : Nat => s.heap.size ≤ q) z := Nat.not_le.mpr hbl
  have i1 : vp_in (nI i + nI 1) L := by rw [nI_add]; exact vp_in_nI (by omega) (by omega)
  have i2 : vp_in (nI i + nI 2) L := by rw [nI_add]; exact vp_in_nI (by omega) (by omega)
  obtain ⟨r, e1, e2⟩ := as_below I (xs (nI i + nI 1).toNatClampNeg) (xs (nI i + nI 2).toNatClampNeg)
  refine lv_aload_n hx hb dL_law_575 rfl (lv_at hl 2 rfl) ?_
  refine lv_aload_n hx hb dL_law_576 rfl (lv_at hl 3 rfl) ?_
  refine lv_iload_n hx hb dL_law_577 rfl (lv_at hl 0 rfl) ?_
  refine lv_iconst (v := nI 1) hx hb dL_law_578 (by decide) ?_
  refine lv_iadd hx hb dL_law_579 ?_
  refine va_sld hx hb hX hbl hbA hS (i1) dL_law_580 ?_
  refine lv_aload_n hx hb dL_law_581 rfl (lv_at hl 3 rfl) ?_
  refine lv_iload_n hx hb dL_law_582 rfl (lv_at hl 0 rfl) ?_
  refine lv_iconst (v := nI 2) hx hb dL_law_583 (by decide) ?_
  refine lv_iadd hx hb dL_law_584 ?_
  refine va_sld hx hb hX hbl hbA hS (i2) dL_law_585 ?_
  refine law_call (q := (RX4, TX4, 11)) (ci := 4) (rest := []) hF K1 A1 D12 hW hW' hS hl.1 ka (by decide) rfl (c_X4_isBelow l O1 ka e1) (kwV 2 wl_510 wl_507 wl_508 wl_509 wl_65 (by decide +kernel) hF.2.2.2.2 ⟨Nat.le_of_ble_eq_true rfl, Nat.le_of_ble_eq_true rfl⟩) rfl rfl (Nat.le_of_ble_eq_true rfl) dL_law_586 ⟨Nat.le_of_ble_eq_true rfl, Nat.le_of_ble_eq_true rfl⟩ (fun H locs hW hW' hS => ?_)
  refine lv_aload_n hx hb dL_law_589 rfl (lv_at hl 1 rfl) ?_
  refine lv_aload_n hx hb dL_law_590 rfl (lv_at hl 3 rfl) ?_
  refine lv_iload_n hx hb dL_law_591 rfl (lv_at hl 0 rfl) ?_
  refine lv_iconst (v := nI 1) hx hb dL_law_592 (by decide) ?_
  refine lv_iadd hx hb dL_law_593 ?_
  refine va_sld hx hb hX hbl hbA hS (i1) dL_law_594 ?_
  refine lv_aload_n hx hb dL_law_595 rfl (lv_at hl 3 rfl) ?_
  refine lv_iload_n hx hb dL_law_596 rfl (lv_at hl 0 rfl) ?_
  refine lv_iconst (v := nI 2) hx hb dL_law_597 (by decide) ?_
  refine lv_iadd hx hb dL_law_598 ?_
  refine va_sld hx hb hX hbl hbA hS (i2) dL_law_599 ?_
  refine law_call (q := (RX5, TX5, 21)) (ci := 5) (rest := [.int r]) hF K2 A2 D21 hW' hW hS hl.1 kb (by decide) rfl (c_X5_isBelow l O2 kb e2) (kwV 2 wl_993 wl_990 wl_991 wl_992 wl_70 (by decide +kernel) hF.2.2.2.2 ⟨Nat.le_of_ble_eq_true rfl, Nat.le_of_ble_eq_true rfl⟩) rfl rfl (Nat.le_of_ble_eq_true rfl) dL_law_600 ⟨Nat.le_of_ble_eq_true rfl, Nat.le_of_ble_eq_true rfl⟩ (fun H locs hW' hW hS => ?_)
  refine lv_icmp_eq (tgt := 1012) hx hb dL_law_603 (by decide) (fun _ => ?_) (fun q => absurd rfl q)
  exact ag _ _ _ _ _ hW hW' I hS hl
set_option maxHeartbeats 4000000 in
set_option maxRecDepth 100000 in
theorem law_meet (B : LawB p l e s m below meth c G Λ Λ' a b z L xs) (hi : i + 4 ≤ L) (I : Inv Λ μ a Λ' μ' b) (hW : Wd G Λ μ H) (hW' : Wd G Λ' μ' H) (hS : va_S (fun q : Nat => s.heap.size ≤ q) s.heap H locs) (hl : lv_has ls 4 [(3, .int (nI i)), (2, .ref b), (1, .ref a), (0, .ref z)]) (ag : LawA p l e s m below meth c G Λ Λ' a b z i) : W p l e room_1 s m #[.ref z] below meth c H locs 382 7795 (lw_Z below #[.ref z] s) (F0 m 608 ls []) := by
  obtain ⟨hF, hr, hlocks, hX, hbl, hL, K1, K2, O1, O2, ka, kb, A1, A2, D12, D21, PC, PM⟩ := B
  have hx := hF.1
  have hb := hF.2.1
  have hbA : ¬ (fun q : Nat => s.heap.size ≤ q) z := Nat.not_le.mpr hbl
  have i1 : vp_in (nI i + nI 1) L := by rw [nI_add]; exact vp_in_nI (by omega) (by omega)
  have i2 : vp_in (nI i + nI 2) L := by rw [nI_add]; exact vp_in_nI (by omega) (by omega)
  obtain ⟨r, e1, e2⟩ := as_meet I (xs (nI i + nI 1).toNatClampNeg) (xs (nI i + nI 2).toNatClampNeg)
  refine lv_aload_n hx hb dL_law_608 rfl (lv_at hl 2 rfl) ?_
  refine lv_aload_n hx hb dL_law_609 rfl (lv_at hl 3 rfl) ?_
  refine lv_iload_n hx hb dL_law_610 rfl (lv_at hl 0 rfl) ?_
  refine lv_iconst (v := nI 1) hx hb dL_law_611 (by decide) ?_
  refine lv_iadd hx hb dL_law_612 ?_
  refine va_sld hx hb hX hbl hbA hS (i1) dL_law_613 ?_
  refine lv_aload_n hx hb dL_law_614 rfl (lv_at hl 3 rfl) ?_
  refine lv_iload_n hx hb dL_law_615 rfl (lv_at hl 0 rfl) ?_
  refine lv_iconst (v := nI 2) hx hb dL_law_616 (by decide) ?_
  refine lv_iadd hx hb dL_law_617 ?_
  refine va_sld hx hb hX hbl hbA hS (i2) dL_law_618 ?_
  refine law_call (q := (RX4, TX4, 11)) (ci := 4) (rest := []) hF K1 A1 D12 hW hW' hS hl.1 ka (by decide) rfl (c_X4_meet l O1 ka e1) (kwV 2 wl_515 wl_512 wl_513 wl_514 wl_65 (by decide +kernel) hF.2.2.2.2 ⟨Nat.le_of_ble_eq_true rfl, Nat.le_of_ble_eq_true rfl⟩) rfl rfl (Nat.le_of_ble_eq_true rfl) dL_law_619 ⟨Nat.le_of_ble_eq_true rfl, Nat.le_of_ble_eq_true rfl⟩ (fun H locs hW hW' hS => ?_)
  refine lv_aload_n hx hb dL_law_622 rfl (lv_at hl 1 rfl) ?_
  refine lv_aload_n hx hb dL_law_623 rfl (lv_at hl 3 rfl) ?_
  refine lv_iload_n hx hb dL_law_624 rfl (lv_at hl 0 rfl) ?_
  refine lv_iconst (v := nI 1) hx hb dL_law_625 (by decide) ?_
  refine lv_iadd hx hb dL_law_626 ?_
  refine va_sld hx hb hX hbl hbA hS (i1) dL_law_627 ?_
  refine lv_aload_n hx hb dL_law_628 rfl (lv_at hl 3 rfl) ?_
  refine lv_iload_n hx hb dL_law_629 rfl (lv_at hl 0 rfl) ?_
  refine lv_iconst (v := nI 2) hx hb dL_law_630 (by decide) ?_
  refine lv_iadd hx hb dL_law_631 ?_
  refine va_sld hx hb hX hbl hbA hS (i2) dL_law_632 ?_
  refine law_call (q := (RX5, TX5, 21)) (ci := 5) (rest := [.int r]) hF K2 A2 D21 hW' hW hS hl.1 kb (by decide) rfl (c_X5_meet l O2 kb e2) (kwV 2 wl_997 wl_994 wl_995 wl_996 wl_70 (by decide +kernel) hF.2.2.2.2 ⟨Nat.le_of_ble_eq_true rfl, Nat.le_of_ble_eq_true rfl⟩) rfl rfl (Nat.le_of_ble_eq_true rfl) dL_law_633 ⟨Nat.le_of_ble_eq_true rfl, Nat.le_of_ble_eq_true rfl⟩ (fun H locs hW' hW hS => ?_)
  refine lv_icmp_eq (tgt := 1012) hx hb dL_law_636 (by decide) (fun _ => ?_) (fun q => absurd rfl q)
  exact ag _ _ _ _ _ hW hW' I hS hl
set_option maxHeartbeats 4000000 in
set_option maxRecDepth 100000 in
theorem law_way (B : LawB p l e s m below meth c G Λ Λ' a b z L xs) (hi : i + 4 ≤ L) (I : Inv Λ μ a Λ' μ' b) (hW : Wd G Λ μ H) (hW' : Wd G Λ' μ' H) (hS : va_S (fun q : Nat => s.heap.size ≤ q) s.heap H locs) (hl : lv_has ls 4 [(3, .int (nI i)), (2, .ref b), (1, .ref a), (0, .ref z)]) (ag : LawA p l e s m below meth c G Λ Λ' a b z i) : W p l e room_1 s m #[.ref z] below meth c H locs 382 7795 (lw_Z below #[.ref z] s) (F0 m 641 ls []) := by
  obtain ⟨hF, hr, hlocks, hX, hbl, hL, K1, K2, O1, O2, ka, kb, A1, A2, D12, D21, PC, PM⟩ := B
  have hx := hF.1
  have hb := hF.2.1
  have hbA : ¬ (fun q : Nat => s.heap.size ≤ q) z := Nat.not_le.mpr hbl
  have i1 : vp_in (nI i + nI 1) L := by rw [nI_add]; exact vp_in_nI (by omega) (by omega)
  have i2 : vp_in (nI i + nI 2) L := by rw [nI_add]; exact vp_in_nI (by omega) (by omega)
  have i3 : vp_in (nI i + nI 3) L := by rw [nI_add]; exact vp_in_nI (by omega) (by omega)
  obtain ⟨r, e1, e2⟩ := as_way I (xs (nI i + nI 1).toNatClampNeg) (xs (nI i + nI 2).toNatClampNeg) (xs (nI i + nI 3).toNatClampNeg)
  refine lv_aload_n hx hb dL_law_641 rfl (lv_at hl 2 rfl) ?_
  refine lv_aload_n hx hb dL_law_642 rfl (lv_at hl 3 rfl) ?_
  refine lv_iload_n hx hb dL_law_643 rfl (lv_at hl 0 rfl) ?_
  refine lv_iconst (v := nI 1) hx hb dL_law_644 (by decide) ?_
  refine lv_iadd hx hb dL_law_645 ?_
  refine va_sld hx hb hX hbl hbA hS (i1) dL_law_646 ?_
  refine lv_aload_n hx hb dL_law_647 rfl (lv_at hl 3 rfl) ?_
  refine lv_iload_n hx hb dL_law_648 rfl (lv_at hl 0 rfl) ?_
  refine lv_iconst (v := nI 2) hx hb dL_law_649 (by decide) ?_
  refine lv_iadd hx hb dL_law_650 ?_
  refine va_sld hx hb hX hbl hbA hS (i2) dL_law_651 ?_
  refine lv_aload_n hx hb dL_law_652 rfl (lv_at hl 3 rfl) ?_
  refine lv_iload_n hx hb dL_law_653 rfl (lv_at hl 0 rfl) ?_
  refine lv_iconst (v := nI 3) hx hb dL_law_654 (by decide) ?_
  refine lv_iadd hx hb dL_law_655 ?_
  refine va_sld hx hb hX hbl hbA hS (i3) dL_law_656 ?_
  refine law_call (q := (RX4, TX4, 11)) (ci := 4) (rest := []) hF K1 A1 D12 hW hW' hS hl.1 ka (by decide) rfl (c_X4_way l O1 ka e1) (kwV 3 wl_523 wl_520 wl_521 wl_522 wl_65 (by decide +kernel) hF.2.2.2.2 ⟨Nat.le_of_ble_eq_true rfl, Nat.le_of_ble_eq_true rfl⟩) rfl rfl (Nat.le_of_ble_eq_true rfl) dL_law_657 ⟨Nat.le_of_ble_eq_true rfl, Nat.le_of_ble_eq_true rfl⟩ (fun H locs hW hW' hS => ?_)
  refine lv_aload_n hx hb dL_law_660 rfl (lv_at hl 1 rfl) ?_
  refine lv_aload_n hx hb dL_law_661 rfl (lv_at hl 3 rfl) ?_
  refine lv_iload_n hx hb dL_law_662 rfl (lv_at hl 0 rfl) ?_
  refine lv_iconst (v := nI 1) hx hb dL_law_663 (by decide) ?_
  refine lv_iadd hx hb dL_law_664 ?_
  refine va_sld hx hb hX hbl hbA hS (i1) dL_law_665 ?_
  refine lv_aload_n hx hb dL_law_666 rfl (lv_at hl 3 rfl) ?_
  refine lv_iload_n hx hb dL_law_667 rfl (lv_at hl 0 rfl) ?_
  refine lv_iconst (v := nI 2) hx hb dL_law_668 (by decide) ?_
  refine lv_iadd hx hb dL_law_669 ?_
  refine va_sld hx hb hX hbl hbA hS (i2) dL_law_670 ?_
  refine lv_aload_n hx hb dL_law_671 rfl (lv_at hl 3 rfl) ?_
  refine lv_iload_n hx hb dL_law_672 rfl (lv_at hl 0 rfl) ?_
  refine lv_iconst (v := nI 3) hx hb dL_law_673 (by decide) ?_
  refine lv_iadd hx hb dL_law_674 ?_
  refine va_sld hx hb hX hbl hbA hS (i3) dL_law_675 ?_
  refine law_call (q := (RX5, TX5, 21)) (ci := 5) (rest := [.int r]) hF K2 A2 D21 hW' hW hS hl.1 kb (by decide) rfl (c_X5_way l O2 kb e2) (kwV 3 wl_1005 wl_1002 wl_1003 wl_1004 wl_70 (by decide +kernel) hF.2.2.2.2 ⟨Nat.le_of_ble_eq_true rfl, Nat.le_of_ble_eq_true rfl⟩) rfl rfl (Nat.le_of_ble_eq_true rfl) dL_law_676 ⟨Nat.le_of_ble_eq_true rfl, Nat.le_of_ble_eq_true rfl⟩ (fun H locs hW' hW hS => ?_)
  refine lv_icmp_eq (tgt := 1012) hx hb dL_law_679 (by decide) (fun _ => ?_) (fun q => absurd rfl q)
  exact ag _ _ _ _ _ hW hW' I hS hl
end LW1
