/-! THE LAW: the second half of its calls. -/
section LW2
variable {p : Program} {l : Launch} {e : Env} {s : State} {m : MethodId} {below : List Frame} {meth : Method} {c : Code} {H : Heap} {locs : List Loc}
variable {G : va_G} {Λ Λ' : Lay} {μ μ' : Mem} {a b z L i : Nat} {xs : Nat → Int32} {ls : Array Slot}
set_option maxHeartbeats 4000000 in
set_option maxRecDepth 100000 in
theorem law_would (B : LawB p l e s m below meth c G Λ Λ' a b z L xs) (hi : i + 4 ≤ L) (I : Inv Λ μ a Λ' μ' b) (hW : Wd G Λ μ H) (hW' : Wd G Λ' μ' H) (hS : va_S (fun q : Nat => s.heap.size ≤ q) s.heap H locs) (hl : lv_has ls 4 [(3, .int (nI i)), (2, .ref b), (1, .ref a), (0, .ref z)]) (ag : LawA p l e s m below meth c G Λ Λ' a b z i) : W p l e room_1 s m #[.ref z] below meth c H locs 382 7795 (lw_Z below #[.ref z] s) (F0 m 684 ls []) := by
  obtain ⟨hF, hr, hlocks, hX, hbl, hL, K1, K2, O1, O2, ka, kb, A1, A2, D12, D21, PC, PM⟩ := B
  have hx := hF.1
  have hb := hF.2.1
  have hbA : ¬ (fun q : Nat => s.heap.size ≤ q) z := Nat.not_le.mpr hbl
  have i1 : vp_in (nI i + nI 1) L := by rw [nI_add]; exact vp_in_nI (by omega) (by omega)
  have i2 : vp_in (nI i + nI 2) L := by rw [nI_add]; exact vp_in_nI (by omega) (by omega)
  obtain ⟨r, e1, e2⟩ := as_would I (xs (nI i + nI 1).toNatClampNeg) (xs (nI i + nI 2).toNatClampNeg)
  refine lv_aload_n hx hb dL_law_684 rfl (lv_at hl 2 rfl) ?_
  refine lv_aload_n hx hb dL_law_685 rfl (lv_at hl 3 rfl) ?_
  refine lv_iload_n hx hb dL_law_686 rfl (lv_at hl 0 rfl) ?_
  refine lv_iconst (v := nI 1) hx hb dL_law_687 (by decide) ?_
  refine lv_iadd hx hb dL_law_688 ?_
  refine va_sld hx hb hX hbl hbA hS (i1) dL_law_689 ?_
  refine lv_aload_n hx hb dL_law_690 rfl (lv_at hl 3 rfl) ?_
  refine lv_iload_n hx hb dL_law_691 rfl (lv_at hl 0 rfl) ?_
  refine lv_iconst (v := nI 2) hx hb dL_law_692 (by decide) ?_
  refine lv_iadd hx hb dL_law_693 ?_
  refine va_sld hx hb hX hbl hbA hS (i2) dL_law_694 ?_
  refine law_call (q := (RX4, TX4, 11)) (ci := 4) (rest := []) hF K1 A1 D12 hW hW' hS hl.1 ka (by decide) rfl (c_X4_would l O1 ka e1) (kwV 2 wl_532 wl_529 wl_530 wl_531 wl_65 (by decide +kernel) hF.2.2.2.2 ⟨Nat.le_of_ble_eq_true rfl, Nat.le_of_ble_eq_true rfl⟩) rfl rfl (Nat.le_of_ble_eq_true rfl) dL_law_695 ⟨Nat.le_of_ble_eq_true rfl, Nat.le_of_ble_eq_true rfl⟩ (fun H locs hW hW' hS => ?_)
  refine lv_aload_n hx hb dL_law_698 rfl (lv_at hl 1 rfl) ?_
  refine lv_aload_n hx hb dL_law_699 rfl (lv_at hl 3 rfl) ?_
  refine lv_iload_n hx hb dL_law_700 rfl (lv_at hl 0 rfl) ?_
  refine lv_iconst (v := nI 1) hx hb dL_law_701 (by decide) ?_
  refine lv_iadd hx hb dL_law_702 ?_
  refine va_sld hx hb hX hbl hbA hS (i1) dL_law_703 ?_
  refine lv_aload_n hx hb dL_law_704 rfl (lv_at hl 3 rfl) ?_
  refine lv_iload_n hx hb dL_law_705 rfl (lv_at hl 0 rfl) ?_
  refine lv_iconst (v := nI 2) hx hb dL_law_706 (by decide) ?_
  refine lv_iadd hx hb dL_law_707 ?_
  refine va_sld hx hb hX hbl hbA hS (i2) dL_law_708 ?_
  refine law_call (q := (RX5, TX5, 21)) (ci := 5) (rest := [.int r]) hF K2 A2 D21 hW' hW hS hl.1 kb (by decide) rfl (c_X5_would l O2 kb e2) (kwV 2 wl_1013 wl_1010 wl_1011 wl_1012 wl_70 (by decide +kernel) hF.2.2.2.2 ⟨Nat.le_of_ble_eq_true rfl, Nat.le_of_ble_eq_true rfl⟩) rfl rfl (Nat.le_of_ble_eq_true rfl) dL_law_709 ⟨Nat.le_of_ble_eq_true rfl, Nat.le_of_ble_eq_true rfl⟩ (fun H locs hW' hW hS => ?_)
  refine lv_icmp_eq (tgt := 1012) hx hb dL_law_712 (by decide) (fun _ => ?_) (fun q => absurd rfl q)
  exact ag _ _ _ _ _ hW hW' I hS hl
set_option maxHeartbeats 4000000 in
set_option maxRecDepth 100000 in
theorem law_wouldDiffer (B : LawB p l e s m below meth c G Λ Λ' a b z L xs) (hi : i + 4 ≤ L) (I : Inv Λ μ a Λ' μ' b) (hW : Wd G Λ μ H) (hW' : Wd G Λ' μ' H) (hS : va_S (fun q : Nat => s.heap.size ≤ q) s.heap H locs) (hl : lv_has ls 4 [(3, .int (nI i)), (2, .ref b), (1, .ref a), (0, .ref z)]) (ag : LawA p l e s m below meth c G Λ Λ' a b z i) : W p l e room_1 s m #[.ref z] below meth c H locs 382 7795 (lw_Z below #[.ref z] s) (F0 m 717 ls []) := by
  obtain ⟨hF, hr, hlocks, hX, hbl, hL, K1, K2, O1, O2, ka, kb, A1, A2, D12, D21, PC, PM⟩ := B
  have hx := hF.1
  have hb := hF.2.1
  have hbA : ¬ (fun q : Nat => s.heap.size ≤ q) z := Nat.not_le.mpr hbl
  have i1 : vp_in (nI i + nI 1) L := by rw [nI_add]; exact vp_in_nI (by omega) (by omega)
  have i2 : vp_in (nI i + nI 2) L := by rw [nI_add]; exact vp_in_nI (by omega) (by omega)
  obtain ⟨r, e1, e2⟩ := as_differ I (xs (nI i + nI 1).toNatClampNeg) (xs (nI i + nI 2).toNatClampNeg)
  refine lv_aload_n hx hb dL_law_717 rfl (lv_at hl 2 rfl) ?_
  refine lv_aload_n hx hb dL_law_718 rfl (lv_at hl 3 rfl) ?_
  refine lv_iload_n hx hb dL_law_719 rfl (lv_at hl 0 rfl) ?_
  refine lv_iconst (v := nI 1) hx hb dL_law_720 (by decide) ?_
  refine lv_iadd hx hb dL_law_721 ?_
  refine va_sld hx hb hX hbl hbA hS (i1) dL_law_722 ?_
  refine lv_aload_n hx hb dL_law_723 rfl (lv_at hl 3 rfl) ?_
  refine lv_iload_n hx hb dL_law_724 rfl (lv_at hl 0 rfl) ?_
  refine lv_iconst (v := nI 2) hx hb dL_law_725 (by decide) ?_
  refine lv_iadd hx hb dL_law_726 ?_
  refine va_sld hx hb hX hbl hbA hS (i2) dL_law_727 ?_
  refine law_call (q := (RX4, TX4, 11)) (ci := 4) (rest := []) hF K1 A1 D12 hW hW' hS hl.1 ka (by decide) rfl (c_X4_wouldDiffer l O1 ka e1) (kwV 2 wl_536 wl_533 wl_534 wl_535 wl_65 (by decide +kernel) hF.2.2.2.2 ⟨Nat.le_of_ble_eq_true rfl, Nat.le_of_ble_eq_true rfl⟩) rfl rfl (Nat.le_of_ble_eq_true rfl) dL_law_728 ⟨Nat.le_of_ble_eq_true rfl, Nat.le_of_ble_eq_true rfl⟩ (fun H locs hW hW' hS => ?_)
  refine lv_aload_n hx hb dL_law_731 rfl (lv_at hl 1 rfl) ?_
  refine lv_aload_n hx hb dL_law_732 rfl (lv_at hl 3 rfl) ?_
  refine lv_iload_n hx hb dL_law_733 rfl (lv_at hl 0 rfl) ?_
  refine lv_iconst (v := nI 1) hx hb dL_law_734 (by decide) ?_
  refine lv_iadd hx hb dL_law_735 ?_
  refine va_sld hx hb hX hbl hbA hS (i1) dL_law_736 ?_
  refine lv_aload_n hx hb dL_law_737 rfl (lv_at hl 3 rfl) ?_
  refine lv_iload_n hx hb dL_law_738 rfl (lv_at hl 0 rfl) ?_
  refine lv_iconst (v := nI 2) hx hb dL_law_739 (by decide) ?_
  refine lv_iadd hx hb dL_law_740 ?_
  refine va_sld hx hb hX hbl hbA hS (i2) dL_law_741 ?_
  refine law_call (q := (RX5, TX5, 21)) (ci := 5) (rest := [.int r]) hF K2 A2 D21 hW' hW hS hl.1 kb (by decide) rfl (c_X5_wouldDiffer l O2 kb e2) (kwV 2 wl_1017 wl_1014 wl_1015 wl_1016 wl_70 (by decide +kernel) hF.2.2.2.2 ⟨Nat.le_of_ble_eq_true rfl, Nat.le_of_ble_eq_true rfl⟩) rfl rfl (Nat.le_of_ble_eq_true rfl) dL_law_742 ⟨Nat.le_of_ble_eq_true rfl, Nat.le_of_ble_eq_true rfl⟩ (fun H locs hW' hW hS => ?_)
  refine lv_icmp_eq (tgt := 1012) hx hb dL_law_745 (by decide) (fun _ => ?_) (fun q => absurd rfl q)
  exact ag _ _ _ _ _ hW hW' I hS hl
set_option maxHeartbeats 4000000 in
set_option maxRecDepth 100000 in
theorem law_middle (B : LawB p l e s m below meth c G Λ Λ' a b z L xs) (hi : i + 4 ≤ L) (I : Inv Λ μ a Λ' μ' b) (hW : Wd G Λ μ H) (hW' : Wd G Λ' μ' H) (hS : va_S (fun q : Nat => s.heap.size ≤ q) s.heap H locs) (hl : lv_has ls 4 [(3, .int (nI i)), (2, .ref b), (1, .ref a), (0, .ref z)]) (ag : LawA p l e s m below meth c G Λ Λ' a b z i) : W p l e room_1 s m #[.ref z] below meth c H locs 382 7795 (lw_Z below #[.ref z] s) (F0 m 750 ls []) := by
  obtain ⟨hF, hr, hlocks, hX, hbl, hL, K1, K2, O1, O2, ka, kb, A1, A2, D12, D21, PC, PM⟩ := B
  have hx := hF.1
  have hb := hF.2.1
  have hbA : ¬ (fun q : Nat => s.heap.size ≤ q) z := Nat.not_le.mpr hbl
  have i1 : vp_in (nI i + nI 1) L := by rw [nI_add]; exact vp_in_nI (by omega) (by omega)
  obtain ⟨r, e1, e2⟩ := as_middle I (xs (nI i + nI 1).toNatClampNeg)
  refine lv_aload_n hx hb dL_law_750 rfl (lv_at hl 2 rfl) ?_
  refine lv_aload_n hx hb dL_law_751 rfl (lv_at hl 3 rfl) ?_
  refine lv_iload_n hx hb dL_law_752 rfl (lv_at hl 0 rfl) ?_
  refine lv_iconst (v := nI 1) hx hb dL_law_753 (by decide) ?_
  refine lv_iadd hx hb dL_law_754 ?_
  refine va_sld hx hb hX hbl hbA hS (i1) dL_law_755 ?_
  refine law_call (q := (RX4, TX4, 11)) (ci := 4) (rest := []) hF K1 A1 D12 hW hW' hS hl.1 ka (by decide) rfl (c_X4_middle l O1 ka e1) (kwV 1 wl_543 wl_540 wl_541 wl_542 wl_65 (by decide +kernel) hF.2.2.2.2 ⟨Nat.le_of_ble_eq_true rfl, Nat.le_of_ble_eq_true rfl⟩) rfl rfl (Nat.le_of_ble_eq_true rfl) dL_law_756 ⟨Nat.le_of_ble_eq_true rfl, Nat.le_of_ble_eq_true rfl⟩ (fun H locs hW hW' hS => ?_)
  refine lv_aload_n hx hb dL_law_759 rfl (lv_at hl 1 rfl) ?_
  refine lv_aload_n hx hb dL_law_760 rfl (lv_at hl 3 rfl) ?_
  refine lv_iload_n hx hb dL_law_761 rfl (lv_at hl 0 rfl) ?_
  refine lv_iconst (v := nI 1) hx hb dL_law_762 (by decide) ?_
  refine lv_iadd hx hb dL_law_763 ?_
  refine va_sld hx hb hX hbl hbA hS (i1) dL_law_764 ?_
  refine law_call (q := (RX5, TX5, 21)) (ci := 5) (rest := [.int r]) hF K2 A2 D21 hW' hW hS hl.1 kb (by decide) rfl (c_X5_middle l O2 kb e2) (kwV 1 wl_1021 wl_1018 wl_1019 wl_1020 wl_70 (by decide +kernel) hF.2.2.2.2 ⟨Nat.le_of_ble_eq_true rfl, Nat.le_of_ble_eq_true rfl⟩) rfl rfl (Nat.le_of_ble_eq_true rfl) dL_law_765 ⟨Nat.le_of_ble_eq_true rfl, Nat.le_of_ble_eq_true rfl⟩ (fun H locs hW' hW hS => ?_)
  refine lv_icmp_eq (tgt := 1012) hx hb dL_law_768 (by decide) (fun _ => ?_) (fun q => absurd rfl q)
  exact ag _ _ _ _ _ hW hW' I hS hl
set_option maxHeartbeats 4000000 in
set_option maxRecDepth 100000 in
theorem law_ranked (B : LawB p l e s m below meth c G Λ Λ' a b z L xs) (hi : i + 4 ≤ L) (I : Inv Λ μ a Λ' μ' b) (hW : Wd G Λ μ H) (hW' : Wd G Λ' μ' H) (hS : va_S (fun q : Nat => s.heap.size ≤ q) s.heap H locs) (hl : lv_has ls 4 [(3, .int (nI i)), (2, .ref b), (1, .ref a), (0, .ref z)]) (ag : LawA p l e s m below meth c G Λ Λ' a b z i) : W p l e room_1 s m #[.ref z] below meth c H locs 382 7795 (lw_Z below #[.ref z] s) (F0 m 773 ls []) := by
  obtain ⟨hF, hr, hlocks, hX, hbl, hL, K1, K2, O1, O2, ka, kb, A1, A2, D12, D21, PC, PM⟩ := B
  have hx := hF.1
  have hb := hF.2.1
  have hbA : ¬ (fun q : Nat => s.heap.size ≤ q) z := Nat.not_le.mpr hbl
  have i1 : vp_in (nI i + nI 1) L := by rw [nI_add]; exact vp_in_nI (by omega) (by omega)
  obtain ⟨r, e1, e2⟩ := as_ranked I (xs (nI i + nI 1).toNatClampNeg)
  refine lv_aload_n hx hb dL_law_773 rfl (lv_at hl 2 rfl) ?_
  refine lv_aload_n hx hb dL_law_774 rfl (lv_at hl 3 rfl) ?_
  refine lv_iload_n hx hb dL_law_775 rfl (lv_at hl 0 rfl) ?_
  refine lv_iconst (v := nI 1) hx hb dL_law_776 (by decide) ?_
  refine lv_iadd hx hb dL_law_777 ?_
  refine va_sld hx hb hX hbl hbA hS (i1) dL_law_778 ?_
  refine law_call (q := (RX4, TX4, 11)) (ci := 4) (rest := []) hF K1 A1 D12 hW hW' hS hl.1 ka (by decide) rfl (c_X4_ranked l O1 ka e1) (kwV 1 wl_558 wl_555 wl_556 wl_557 wl_65 (by decide +kernel) hF.2.2.2.2 ⟨Nat.le_of_ble_eq_true rfl, Nat.le_of_ble_eq_true rfl⟩) rfl rfl (Nat.le_of_ble_eq_true rfl) dL_law_779 ⟨Nat.le_of_ble_eq_true rfl, Nat.le_of_ble_eq_true rfl⟩ (fun H locs hW hW' hS => ?_)
  refine lv_aload_n hx hb dL_law_782 rfl (lv_at hl 1 rfl) ?_
  refine lv_aload_n hx hb dL_law_783 rfl (lv_at hl 3 rfl) ?_
  refine lv_iload_n hx hb dL_law_784 rfl (lv_at hl 0 rfl) ?_
  refine lv_iconst (v := nI 1) hx hb dL_law_785 (by decide) ?_
  refine lv_iadd hx hb dL_law_786 ?_
  refine va_sld hx hb hX hbl hbA hS (i1) dL_law_787 ?_
  refine law_call (q := (RX5, TX5, 21)) (ci := 5) (rest := [.int r]) hF K2 A2 D21 hW' hW hS hl.1 kb (by decide) rfl (c_X5_ranked l O2 kb e2) (kwV 1 wl_1029 wl_1026 wl_1027 wl_1028 wl_70 (by decide +kernel) hF.2.2.2.2 ⟨Nat.le_of_ble_eq_true rfl, Nat.le_of_ble_eq_true rfl⟩) rfl rfl (Nat.le_of_ble_eq_true rfl) dL_law_788 ⟨Nat.le_of_ble_eq_true rfl, Nat.le_of_ble_eq_true rfl⟩ (fun H locs hW' hW hS => ?_)
  refine lv_icmp_eq (tgt := 1012) hx hb dL_law_791 (by decide) (fun _ => ?_) (fun q => absurd rfl q)
  exact ag _ _ _ _ _ hW hW' I hS hl
set_option maxHeartbeats 4000000 in
set_option maxRecDepth 100000 in
theorem law_describe (B : LawB p l e s m below meth c G Λ Λ' a b z L xs) (hi : i + 4 ≤ L) (I : Inv Λ μ a Λ' μ' b) (hW : Wd G Λ μ H) (hW' : Wd G Λ' μ' H) (hS : va_S (fun q : Nat => s.heap.size ≤ q) s.heap H locs) (hl : lv_has ls 4 [(3, .int (nI i)), (2, .ref b), (1, .ref a), (0, .ref z)]) (ag : LawA p l e s m below meth c G Λ Λ' a b z i) : W p l e room_1 s m #[.ref z] below meth c H locs 382 7795 (lw_Z below #[.ref z] s) (F0 m 796 ls []) := by
  obtain ⟨hF, hr, hlocks, hX, hbl, hL, K1, K2, O1, O2, ka, kb, A1, A2, D12, D21, PC, PM⟩ := B
  have hx := hF.1
  have hb := hF.2.1
  have hbA : ¬ (fun q : Nat => s.heap.size ≤ q) z := Nat.not_le.mpr hbl
  have i1 : vp_in (nI i + nI 1) L := by rw [nI_add]; exact vp_in_nI (by omega) (by omega)
  obtain ⟨r, μ1, μ1', e1, e2, I1⟩ := op_describe PC PM I (xs (nI i + nI 1).toNatClampNeg)
  refine lv_aload_n hx hb dL_law_796 rfl (lv_at hl 2 rfl) ?_
  refine lv_aload_n hx hb dL_law_797 rfl (lv_at hl 3 rfl) ?_
  refine lv_iload_n hx hb dL_law_798 rfl (lv_at hl 0 rfl) ?_
  refine lv_iconst (v := nI 1) hx hb dL_law_799 (by decide) ?_
  refine lv_iadd hx hb dL_law_800 ?_
  refine va_sld hx hb hX hbl hbA hS (i1) dL_law_801 ?_
  refine law_call (q := (RX4, TX4, 11)) (ci := 4) (rest := []) hF K1 A1 D12 hW hW' hS hl.1 ka (by decide) rfl (c_X4_describe l O1 ka e1) (kwV 1 wl_578 wl_575 wl_576 wl_577 wl_65 (by decide +kernel) hF.2.2.2.2 ⟨Nat.le_of_ble_eq_true rfl, Nat.le_of_ble_eq_true rfl⟩) rfl rfl (Nat.le_of_ble_eq_true rfl) dL_law_802 ⟨Nat.le_of_ble_eq_true rfl, Nat.le_of_ble_eq_true rfl⟩ (fun H locs hW hW' hS => ?_)
  refine lv_aload_n hx hb dL_law_805 rfl (lv_at hl 1 rfl) ?_
  refine lv_aload_n hx hb dL_law_806 rfl (lv_at hl 3 rfl) ?_
  refine lv_iload_n hx hb dL_law_807 rfl (lv_at hl 0 rfl) ?_
  refine lv_iconst (v := nI 1) hx hb dL_law_808 (by decide) ?_
  refine lv_iadd hx hb dL_law_809 ?_
  refine va_sld hx hb hX hbl hbA hS (i1) dL_law_810 ?_
  refine law_call (q := (RX5, TX5, 21)) (ci := 5) (rest := [.int r]) hF K2 A2 D21 hW' hW hS hl.1 kb (by decide) rfl (c_X5_describe l O2 kb e2) (kwV 1 wl_1037 wl_1034 wl_1035 wl_1036 wl_70 (by decide +kernel) hF.2.2.2.2 ⟨Nat.le_of_ble_eq_true rfl, Nat.le_of_ble_eq_true rfl⟩) rfl rfl (Nat.le_of_ble_eq_true rfl) dL_law_811 ⟨Nat.le_of_ble_eq_true rfl, Nat.le_of_ble_eq_true rfl⟩ (fun H locs hW' hW hS => ?_)
  refine lv_icmp_eq (tgt := 1012) hx hb dL_law_814 (by decide) (fun _ => ?_) (fun q => absurd rfl q)
  exact ag _ _ _ _ _ hW hW' I1 hS hl
set_option maxHeartbeats 4000000 in
set_option maxRecDepth 100000 in
theorem law_tell (B : LawB p l e s m below meth c G Λ Λ' a b z L xs) (hi : i + 4 ≤ L) (I : Inv Λ μ a Λ' μ' b) (hW : Wd G Λ μ H) (hW' : Wd G Λ' μ' H) (hS : va_S (fun q : Nat => s.heap.size ≤ q) s.heap H locs) (hl : lv_has ls 4 [(3, .int (nI i)), (2, .ref b), (1, .ref a), (0, .ref z)]) (ag : LawA p l e s m below meth c G Λ Λ' a b z i) : W p l e room_1 s m #[.ref z] below meth c H locs 382 7795 (lw_Z below #[.ref z] s) (F0 m 819 ls []) := by
  obtain ⟨hF, hr, hlocks, hX, hbl, hL, K1, K2, O1, O2, ka, kb, A1, A2, D12, D21, PC, PM⟩ := B
  have hx := hF.1
  have hb := hF.2.1
  have hbA : ¬ (fun q : Nat => s.heap.size ≤ q) z := Nat.not_le.mpr hbl
  have i1 : vp_in (nI i + nI 1) L := by rw [nI_add]; exact vp_in_nI (by omega) (by omega)
  obtain ⟨r, μ1, μ1', e1, e2, I1⟩ := op_tell PC PM I (xs (nI i + nI 1).toNatClampNeg)
  refine lv_aload_n hx hb dL_law_819 rfl (lv_at hl 2 rfl) ?_
  refine lv_aload_n hx hb dL_law_820 rfl (lv_at hl 3 rfl) ?_
  refine lv_iload_n hx hb dL_law_821 rfl (lv_at hl 0 rfl) ?_
  refine lv_iconst (v := nI 1) hx hb dL_law_822 (by decide) ?_
  refine lv_iadd hx hb dL_law_823 ?_
  refine va_sld hx hb hX hbl hbA hS (i1) dL_law_824 ?_
  refine law_call (q := (RX4, TX4, 11)) (ci := 4) (rest := []) hF K1 A1 D12 hW hW' hS hl.1 ka (by decide) rfl (c_X4_tell l O1 ka e1) (kwV 1 wl_588 wl_585 wl_586 wl_587 wl_65 (by decide +kernel) hF.2.2.2.2 ⟨Nat.le_of_ble_eq_true rfl, Nat.le_of_ble_eq_true rfl⟩) rfl rfl (Nat.le_of_ble_eq_true rfl) dL_law_825 ⟨Nat.le_of_ble_eq_true rfl, Nat.le_of_ble_eq_true rfl⟩ (fun H locs hW hW' hS => ?_)
  refine lv_aload_n hx hb dL_law_828 rfl (lv_at hl 1 rfl) ?_
  refine lv_aload_n hx hb dL_law_829 rfl (lv_at hl 3 rfl) ?_
  refine lv_iload_n hx hb dL_law_830 rfl (lv_at hl 0 rfl) ?_
  refine lv_iconst (v := nI 1) hx hb dL_law_831 (by decide) ?_
  refine lv_iadd hx hb dL_law_832 ?_
  refine va_sld hx hb hX hbl hbA hS (i1) dL_law_833 ?_
  refine law_call (q := (RX5, TX5, 21)) (ci := 5) (rest := [.int r]) hF K2 A2 D21 hW' hW hS hl.1 kb (by decide) rfl (c_X5_tell l O2 kb e2) (kwV 1 wl_1049 wl_1046 wl_1047 wl_1048 wl_70 (by decide +kernel) hF.2.2.2.2 ⟨Nat.le_of_ble_eq_true rfl, Nat.le_of_ble_eq_true rfl⟩) rfl rfl (Nat.le_of_ble_eq_true rfl) dL_law_834 ⟨Nat.le_of_ble_eq_true rfl, Nat.le_of_ble_eq_true rfl⟩ (fun H locs hW' hW hS => ?_)
  refine lv_icmp_eq (tgt := 1012) hx hb dL_law_837 (by decide) (fun _ => ?_) (fun q => absurd rfl q)
  exact ag _ _ _ _ _ hW hW' I1 hS hl
set_option maxHeartbeats 4000000 in
set_option maxRecDepth 100000 in
theorem law_sign (B : LawB p l e s m below meth c G Λ Λ' a b z L xs) (hi : i + 4 ≤ L) (I : Inv Λ μ a Λ' μ' b) (hW : Wd G Λ μ H) (hW' : Wd G Λ' μ' H) (hS : va_S (fun q : Nat => s.heap.size ≤ q) s.heap H locs) (hl : lv_has ls 4 [(3, .int (nI i)), (2, .ref b), (1, .ref a), (0, .ref z)]) (ag : LawA p l e s m below meth c G Λ Λ' a b z i) : W p l e room_1 s m #[.ref z] below meth c H locs 382 7795 (lw_Z below #[.ref z] s) (F0 m 842 ls []) := by
  obtain ⟨hF, hr, hlocks, hX, hbl, hL, K1, K2, O1, O2, ka, kb, A1, A2, D12, D21, PC, PM⟩ := B
  have hx := hF.1
  have hb := hF.2.1
  have hbA : ¬ (fun q : Nat => s.heap.size ≤ q) z := Nat.not_le.mpr hbl
  have i1 : vp_in (nI i + nI 1) L := by rw [nI_add]; exact vp_in_nI (by omega) (by omega)
  obtain ⟨r, e1, e2⟩ := as_sign PC PM I (xs (nI i + nI 1).toNatClampNeg)
  refine lv_aload_n hx hb dL_law_842 rfl (lv_at hl 2 rfl) ?_
  refine lv_aload_n hx hb dL_law_843 rfl (lv_at hl 3 rfl) ?_
  refine lv_iload_n hx hb dL_law_844 rfl (lv_at hl 0 rfl) ?_
  refine lv_iconst (v := nI 1) hx hb dL_law_845 (by decide) ?_
  refine lv_iadd hx hb dL_law_846 ?_
  refine va_sld hx hb hX hbl hbA hS (i1) dL_law_847 ?_
  refine law_call (q := (RX4, TX4, 11)) (ci := 4) (rest := []) hF K1 A1 D12 hW hW' hS hl.1 ka (by decide) rfl (c_X4_sign l O1 ka e1) (kwV 1 wl_592 wl_589 wl_590 wl_591 wl_65 (by decide +kernel) hF.2.2.2.2 ⟨Nat.le_of_ble_eq_true rfl, Nat.le_of_ble_eq_true rfl⟩) rfl rfl (Nat.le_of_ble_eq_true rfl) dL_law_848 ⟨Nat.le_of_ble_eq_true rfl, Nat.le_of_ble_eq_true rfl⟩ (fun H locs hW hW' hS => ?_)
  refine lv_aload_n hx hb dL_law_851 rfl (lv_at hl 1 rfl) ?_
  refine lv_aload_n hx hb dL_law_852 rfl (lv_at hl 3 rfl) ?_
  refine lv_iload_n hx hb dL_law_853 rfl (lv_at hl 0 rfl) ?_
  refine lv_iconst (v := nI 1) hx hb dL_law_854 (by decide) ?_
  refine lv_iadd hx hb dL_law_855 ?_
  refine va_sld hx hb hX hbl hbA hS (i1) dL_law_856 ?_
  refine law_call (q := (RX5, TX5, 21)) (ci := 5) (rest := [.int r]) hF K2 A2 D21 hW' hW hS hl.1 kb (by decide) rfl (c_X5_sign l O2 kb e2) (kwV 1 wl_1053 wl_1050 wl_1051 wl_1052 wl_70 (by decide +kernel) hF.2.2.2.2 ⟨Nat.le_of_ble_eq_true rfl, Nat.le_of_ble_eq_true rfl⟩) rfl rfl (Nat.le_of_ble_eq_true rfl) dL_law_857 ⟨Nat.le_of_ble_eq_true rfl, Nat.le_of_ble_eq_true rfl⟩ (fun H locs hW' hW hS => ?_)
  refine lv_icmp_eq (tgt := 1012) hx hb dL_law_860 (by decide) (fun _ => ?_) (fun q => absurd rfl q)
  exact ag _ _ _ _ _ hW hW' I hS hl
set_option maxHeartbeats 4000000 in
set_option maxRecDepth 100000 in
theorem law_append (B : LawB p l e s m below meth c G Λ Λ' a b z L xs) (hi : i + 4 ≤ L) (I : Inv Λ μ a Λ' μ' b) (hW : Wd G Λ μ H) (hW' : Wd G Λ' μ' H) (hS : va_S (fun q : Nat => s.heap.size ≤ q) s.heap H locs) (hl : lv_has ls 4 [(3, .int (nI i)), (2, .ref b), (1, .ref a), (0, .ref z)]) (ag : LawA p l e s m below meth c G Λ Λ' a b z i) : W p l e room_1 s m #[.ref z] below meth c H locs 382 7795 (lw_Z below #[.ref z] s) (F0 m 865 ls []) := by
  obtain ⟨hF, hr, hlocks, hX, hbl, hL, K1, K2, O1, O2, ka, kb, A1, A2, D12, D21, PC, PM⟩ := B
  have hx := hF.1
  have hb := hF.2.1
  have hbA : ¬ (fun q : Nat => s.heap.size ≤ q) z := Nat.not_le.mpr hbl
  have i1 : vp_in (nI i + nI 1) L := by rw [nI_add]; exact vp_in_nI (by omega) (by omega)
  obtain ⟨r, μ1, μ1', e1, e2, I1⟩ := op_append PC PM I (xs (nI i + nI 1).toNatClampNeg)
  refine lv_aload_n hx hb dL_law_865 rfl (lv_at hl 2 rfl) ?_
  refine lv_aload_n hx hb dL_law_866 rfl (lv_at hl 3 rfl) ?_
  refine lv_iload_n hx hb dL_law_867 rfl (lv_at hl 0 rfl) ?_
  refine lv_iconst (v := nI 1) hx hb dL_law_868 (by decide) ?_
  refine lv_iadd hx hb dL_law_869 ?_
  refine va_sld hx hb hX hbl hbA hS (i1) dL_law_870 ?_
  refine law_call (q := (RX4, TX4, 11)) (ci := 4) (rest := []) hF K1 A1 D12 hW hW' hS hl.1 ka (by decide) rfl (c_X4_append l O1 ka e1) (kwV 1 wl_596 wl_593 wl_594 wl_595 wl_65 (by decide +kernel) hF.2.2.2.2 ⟨Nat.le_of_ble_eq_true rfl, Nat.le_of_ble_eq_true rfl⟩) rfl rfl (Nat.le_of_ble_eq_true rfl) dL_law_871 ⟨Nat.le_of_ble_eq_true rfl, Nat.le_of_ble_eq_true rfl⟩ (fun H locs hW hW' hS => ?_)
  refine lv_aload_n hx hb dL_law_874 rfl (lv_at hl 1 rfl) ?_
  refine lv_aload_n hx hb dL_law_875 rfl (lv_at hl 3 rfl) ?_
  refine lv_iload_n hx hb dL_law_876 rfl (lv_at hl 0 rfl) ?_
  refine lv_iconst (v := nI 1) hx hb dL_law_877 (by decide) ?_
  refine lv_iadd hx hb dL_law_878 ?_
  refine va_sld hx hb hX hbl hbA hS (i1) dL_law_879 ?_
  refine law_call (q := (RX5, TX5, 21)) (ci := 5) (rest := [.int r]) hF K2 A2 D21 hW' hW hS hl.1 kb (by decide) rfl (c_X5_append l O2 kb e2) (kwV 1 wl_1057 wl_1054 wl_1055 wl_1056 wl_70 (by decide +kernel) hF.2.2.2.2 ⟨Nat.le_of_ble_eq_true rfl, Nat.le_of_ble_eq_true rfl⟩) rfl rfl (Nat.le_of_ble_eq_true rfl) dL_law_880 ⟨Nat.le_of_ble_eq_true rfl, Nat.le_of_ble_eq_true rfl⟩ (fun H locs hW' hW hS => ?_)
  refine lv_icmp_eq (tgt := 1012) hx hb dL_law_883 (by decide) (fun _ => ?_) (fun q => absurd rfl q)
  exact ag _ _ _ _ _ hW hW' I1 hS hl
set_option maxHeartbeats 4000000 in
set_option maxRecDepth 100000 in
theorem law_read (B : LawB p l e s m below meth c G Λ Λ' a b z L xs) (hi : i + 4 ≤ L) (I : Inv Λ μ a Λ' μ' b) (hW : Wd G Λ μ H) (hW' : Wd G Λ' μ' H) (hS : va_S (fun q : Nat => s.heap.size ≤ q) s.heap H locs) (hl : lv_has ls 4 [(3, .int (nI i)), (2, .ref b), (1, .ref a), (0, .ref z)]) (ag : LawA p l e s m below meth c G Λ Λ' a b z i) : W p l e room_1 s m #[.ref z] below meth c H locs 382 7795 (lw_Z below #[.ref z] s) (F0 m 888 ls []) := by
  obtain ⟨hF, hr, hlocks, hX, hbl, hL, K1, K2, O1, O2, ka, kb, A1, A2, D12, D21, PC, PM⟩ := B
  have hx := hF.1
  have hb := hF.2.1
  have hbA : ¬ (fun q : Nat => s.heap.size ≤ q) z := Nat.not_le.mpr hbl
  obtain ⟨r, μ1, μ1', e1, e2, I1⟩ := op_read PC PM I 
  refine lv_aload_n hx hb dL_law_888 rfl (lv_at hl 2 rfl) ?_
  refine law_call (q := (RX4, TX4, 11)) (ci := 4) (rest := []) hF K1 A1 D12 hW hW' hS hl.1 ka (by decide) rfl (c_X4_read l O1 ka e1) (kwV 0 wl_600 wl_597 wl_598 wl_599 wl_65 (by decide +kernel) hF.2.2.2.2 ⟨Nat.le_of_ble_eq_true rfl, Nat.le_of_ble_eq_true rfl⟩) rfl rfl (Nat.le_of_ble_eq_true rfl) dL_law_889 ⟨Nat.le_of_ble_eq_true rfl, Nat.le_of_ble_eq_true rfl⟩ (fun H locs hW hW' hS => ?_)
  refine lv_aload_n hx hb dL_law_892 rfl (lv_at hl 1 rfl) ?_
  refine law_call (q := (RX5, TX5, 21)) (ci := 5) (rest := [.int r]) hF K2 A2 D21 hW' hW hS hl.1 kb (by decide) rfl (c_X5_read l O2 kb e2) (kwV 0 wl_1061 wl_1058 wl_1059 wl_1060 wl_70 (by decide +kernel) hF.2.2.2.2 ⟨Nat.le_of_ble_eq_true rfl, Nat.le_of_ble_eq_true rfl⟩) rfl rfl (Nat.le_of_ble_eq_true rfl) dL_law_893 ⟨Nat.le_of_ble_eq_true rfl, Nat.le_of_ble_eq_true rfl⟩ (fun H locs hW' hW hS => ?_)
  refine lv_icmp_eq (tgt := 1012) hx hb dL_law_896 (by decide) (fun _ => ?_) (fun q => absurd rfl q)
  exact ag _ _ _ _ _ hW hW' I1 hS hl
set_option maxHeartbeats 4000000 in
set_option maxRecDepth 100000 in
theorem law_refusal (B : LawB p l e s m below meth c G Λ Λ' a b z L xs) (hi : i + 4 ≤ L) (I : Inv Λ μ a Λ' μ' b) (hW : Wd G Λ μ H) (hW' : Wd G Λ' μ' H) (hS : va_S (fun q : Nat => s.heap.size ≤ q) s.heap H locs) (hl : lv_has ls 4 [(3, .int (nI i)), (2, .ref b), (1, .ref a), (0, .ref z)]) (ag : LawA p l e s m below meth c G Λ Λ' a b z i) : W p l e room_1 s m #[.ref z] below meth c H locs 382 7795 (lw_Z below #[.ref z] s) (F0 m 901 ls []) := by
  obtain ⟨hF, hr, hlocks, hX, hbl, hL, K1, K2, O1, O2, ka, kb, A1, A2, D12, D21, PC, PM⟩ := B
  have hx := hF.1
  have hb := hF.2.1
  have hbA : ¬ (fun q : Nat => s.heap.size ≤ q) z := Nat.not_le.mpr hbl
  have i1 : vp_in (nI i + nI 1) L := by rw [nI_add]; exact vp_in_nI (by omega) (by omega)
  obtain ⟨r, e1, e2⟩ := op_refusal I (xs (nI i + nI 1).toNatClampNeg)
  refine lv_aload_n hx hb dL_law_901 rfl (lv_at hl 2 rfl) ?_
  refine lv_aload_n hx hb dL_law_902 rfl (lv_at hl 3 rfl) ?_
  refine lv_iload_n hx hb dL_law_903 rfl (lv_at hl 0 rfl) ?_
  refine lv_iconst (v := nI 1) hx hb dL_law_904 (by decide) ?_
  refine lv_iadd hx hb dL_law_905 ?_
  refine va_sld hx hb hX hbl hbA hS (i1) dL_law_906 ?_
  refine law_call (q := (RX4, TX4, 11)) (ci := 4) (rest := []) hF K1 A1 D12 hW hW' hS hl.1 ka (by decide) rfl (c_X4_refusal l O1 ka e1) (kwV 1 wl_653 wl_650 wl_651 wl_652 wl_65 (by decide +kernel) hF.2.2.2.2 ⟨Nat.le_of_ble_eq_true rfl, Nat.le_of_ble_eq_true rfl⟩) rfl rfl (Nat.le_of_ble_eq_true rfl) dL_law_907 ⟨Nat.le_of_ble_eq_true rfl, Nat.le_of_ble_eq_true rfl⟩ (fun H locs hW hW' hS => ?_)
  refine lv_aload_n hx hb dL_law_910 rfl (lv_at hl 1 rfl) ?_
  refine lv_aload_n hx hb dL_law_911 rfl (lv_at hl 3 rfl) ?_
  refine lv_iload_n hx hb dL_law_912 rfl (lv_at hl 0 rfl) ?_
  refine lv_iconst (v := nI 1) hx hb dL_law_913 (by decide) ?_
  refine lv_iadd hx hb dL_law_914 ?_
  refine va_sld hx hb hX hbl hbA hS (i1) dL_law_915 ?_
  refine law_call (q := (RX5, TX5, 21)) (ci := 5) (rest := [.int r]) hF K2 A2 D21 hW' hW hS hl.1 kb (by decide) rfl (c_X5_refusal l O2 kb e2) (kwV 1 wl_1187 wl_1184 wl_1185 wl_1186 wl_70 (by decide +kernel) hF.2.2.2.2 ⟨Nat.le_of_ble_eq_true rfl, Nat.le_of_ble_eq_true rfl⟩) rfl rfl (Nat.le_of_ble_eq_true rfl) dL_law_916 ⟨Nat.le_of_ble_eq_true rfl, Nat.le_of_ble_eq_true rfl⟩ (fun H locs hW' hW hS => ?_)
  refine lv_icmp_eq (tgt := 1012) hx hb dL_law_919 (by decide) (fun _ => ?_) (fun q => absurd rfl q)
  exact ag _ _ _ _ _ hW hW' I hS hl
set_option maxHeartbeats 4000000 in
set_option maxRecDepth 100000 in
theorem law_account (B : LawB p l e s m below meth c G Λ Λ' a b z L xs) (hi : i + 4 ≤ L) (I : Inv Λ μ a Λ' μ' b) (hW : Wd G Λ μ H) (hW' : Wd G Λ' μ' H) (hS : va_S (fun q : Nat => s.heap.size ≤ q) s.heap H locs) (hl : lv_has ls 4 [(3, .int (nI i)), (2, .ref b), (1, .ref a), (0, .ref z)]) (ag : LawA p l e s m below meth c G Λ Λ' a b z i) : W p l e room_1 s m #[.ref z] below meth c H locs 382 7795 (lw_Z below #[.ref z] s) (F0 m 924 ls []) := by
  obtain ⟨hF, hr, hlocks, hX, hbl, hL, K1, K2, O1, O2, ka, kb, A1, A2, D12, D21, PC, PM⟩ := B
  have hx := hF.1
  have hb := hF.2.1
  have hbA : ¬ (fun q : Nat => s.heap.size ≤ q) z := Nat.not_le.mpr hbl
  have i1 : vp_in (nI i + nI 1) L := by rw [nI_add]; exact vp_in_nI (by omega) (by omega)
  obtain ⟨r, e1, e2⟩ := as_account PC PM I (xs (nI i + nI 1).toNatClampNeg)
  refine lv_aload_n hx hb dL_law_924 rfl (lv_at hl 2 rfl) ?_
  refine lv_aload_n hx hb dL_law_925 rfl (lv_at hl 3 rfl) ?_
  refine lv_iload_n hx hb dL_law_926 rfl (lv_at hl 0 rfl) ?_
  refine lv_iconst (v := nI 1) hx hb dL_law_927 (by decide) ?_
  refine lv_iadd hx hb dL_law_928 ?_
  refine va_sld hx hb hX hbl hbA hS (i1) dL_law_929 ?_
  refine law_call (q := (RX4, TX4, 11)) (ci := 4) (rest := []) hF K1 A1 D12 hW hW' hS hl.1 ka (by decide) rfl (c_X4_account l O1 ka e1) (kwV 1 wl_657 wl_654 wl_655 wl_656 wl_65 (by decide +kernel) hF.2.2.2.2 ⟨Nat.le_of_ble_eq_true rfl, Nat.le_of_ble_eq_true rfl⟩) rfl rfl (Nat.le_of_ble_eq_true rfl) dL_law_930 ⟨Nat.le_of_ble_eq_true rfl, Nat.le_of_ble_eq_true rfl⟩ (fun H locs hW hW' hS => ?_)
  refine lv_aload_n hx hb dL_law_933 rfl (lv_at hl 1 rfl) ?_
  refine lv_aload_n hx hb dL_law_934 rfl (lv_at hl 3 rfl) ?_
  refine lv_iload_n hx hb dL_law_935 rfl (lv_at hl 0 rfl) ?_
  refine lv_iconst (v := nI 1) hx hb dL_law_936 (by decide) ?_
  refine lv_iadd hx hb dL_law_937 ?_
  refine va_sld hx hb hX hbl hbA hS (i1) dL_law_938 ?_
  refine law_call (q := (RX5, TX5, 21)) (ci := 5) (rest := [.int r]) hF K2 A2 D21 hW' hW hS hl.1 kb (by decide) rfl (c_X5_account l O2 kb e2) (kwV 1 wl_1191 wl_1188 wl_1189 wl_1190 wl_70 (by decide +kernel) hF.2.2.2.2 ⟨Nat.le_of_ble_eq_true rfl, Nat.le_of_ble_eq_true rfl⟩) rfl rfl (Nat.le_of_ble_eq_true rfl) dL_law_939 ⟨Nat.le_of_ble_eq_true rfl, Nat.le_of_ble_eq_true rfl⟩ (fun H locs hW' hW hS => ?_)
  refine lv_icmp_eq (tgt := 1012) hx hb dL_law_942 (by decide) (fun _ => ?_) (fun q => absurd rfl q)
  exact ag _ _ _ _ _ hW hW' I hS hl
set_option maxHeartbeats 4000000 in
set_option maxRecDepth 100000 in
theorem law_isWell (B : LawB p l e s m below meth c G Λ Λ' a b z L xs) (hi : i + 4 ≤ L) (I : Inv Λ μ a Λ' μ' b) (hW : Wd G Λ μ H) (hW' : Wd G Λ' μ' H) (hS : va_S (fun q : Nat => s.heap.size ≤ q) s.heap H locs) (hl : lv_has ls 4 [(3, .int (nI i)), (2, .ref b), (1, .ref a), (0, .ref z)]) (ag : LawA p l e s m below meth c G Λ Λ' a b z i) : W p l e room_1 s m #[.ref z] below meth c H locs 382 7795 (lw_Z below #[.ref z] s) (F0 m 947 ls []) := by
  obtain ⟨hF, hr, hlocks, hX, hbl, hL, K1, K2, O1, O2, ka, kb, A1, A2, D12, D21, PC, PM⟩ := B
  have hx := hF.1
  have hb := hF.2.1
  have hbA : ¬ (fun q : Nat => s.heap.size ≤ q) z := Nat.not_le.mpr hbl
  obtain ⟨r, e1, e2⟩ := as_well I 
  refine lv_aload_n hx hb dL_law_947 rfl (lv_at hl 2 rfl) ?_
  refine law_call (q := (RX4, TX4, 11)) (ci := 4) (rest := []) hF K1 A1 D12 hW hW' hS hl.1 ka (by decide) rfl (c_X4_isWell l O1 ka e1) (kwV 0 wl_693 wl_690 wl_691 wl_692 wl_65 (by decide +kernel) hF.2.2.2.2 ⟨Nat.le_of_ble_eq_true rfl, Nat.le_of_ble_eq_true rfl⟩) rfl rfl (Nat.le_of_ble_eq_true rfl) dL_law_948 ⟨Nat.le_of_ble_eq_true rfl, Nat.le_of_ble_eq_true rfl⟩ (fun H locs hW hW' hS => ?_)
  refine lv_aload_n hx hb dL_law_951 rfl (lv_at hl 1 rfl) ?_
  refine law_call (q := (RX5, TX5, 21)) (ci := 5) (rest := [.int r]) hF K2 A2 D21 hW' hW hS hl.1 kb (by decide) rfl (c_X5_isWell l O2 kb e2) (kwV 0 wl_1211 wl_1208 wl_1209 wl_1210 wl_70 (by decide +kernel) hF.2.2.2.2 ⟨Nat.le_of_ble_eq_true rfl, Nat.le_of_ble_eq_true rfl⟩) rfl rfl (Nat.le_of_ble_eq_true rfl) dL_law_952 ⟨Nat.le_of_ble_eq_true rfl, Nat.le_of_ble_eq_true rfl⟩ (fun H locs hW' hW hS => ?_)
  refine lv_icmp_eq (tgt := 1012) hx hb dL_law_955 (by decide) (fun _ => ?_) (fun q => absurd rfl q)
  exact ag _ _ _ _ _ hW hW' I hS hl
set_option maxHeartbeats 4000000 in
set_option maxRecDepth 100000 in
theorem law_mean (B : LawB p l e s m below meth c G Λ Λ' a b z L xs) (hi : i + 4 ≤ L) (I : Inv Λ μ a Λ' μ' b) (hW : Wd G Λ μ H) (hW' : Wd G Λ' μ' H) (hS : va_S (fun q : Nat => s.heap.size ≤ q) s.heap H locs) (hl : lv_has ls 4 [(3, .int (nI i)), (2, .ref b), (1, .ref a), (0, .ref z)]) (ag : LawA p l e s m below meth c G Λ Λ' a b z i) : W p l e room_1 s m #[.ref z] below meth c H locs 382 7795 (lw_Z below #[.ref z] s) (F0 m 960 ls []) := by
  obtain ⟨hF, hr, hlocks, hX, hbl, hL, K1, K2, O1, O2, ka, kb, A1, A2, D12, D21, PC, PM⟩ := B
  have hx := hF.1
  have hb := hF.2.1
  have hbA : ¬ (fun q : Nat => s.heap.size ≤ q) z := Nat.not_le.mpr hbl
  obtain ⟨r, e1, e2⟩ := as_mean I 
  refine lv_aload_n hx hb dL_law_960 rfl (lv_at hl 2 rfl) ?_
  refine law_call (q := (RX4, TX4, 11)) (ci := 4) (rest := []) hF K1 A1 D12 hW hW' hS hl.1 ka (by decide) rfl (c_X4_mean l O1 ka e1) (kwV 0 wl_707 wl_704 wl_705 wl_706 wl_65 (by decide +kernel) hF.2.2.2.2 ⟨Nat.le_of_ble_eq_true rfl, Nat.le_of_ble_eq_true rfl⟩) rfl rfl (Nat.le_of_ble_eq_true rfl) dL_law_961 ⟨Nat.le_of_ble_eq_true rfl, Nat.le_of_ble_eq_true rfl⟩ (fun H locs hW hW' hS => ?_)
  refine lv_aload_n hx hb dL_law_964 rfl (lv_at hl 1 rfl) ?_
  refine law_call (q := (RX5, TX5, 21)) (ci := 5) (rest := [.int r]) hF K2 A2 D21 hW' hW hS hl.1 kb (by decide) rfl (c_X5_mean l O2 kb e2) (kwV 0 wl_1215 wl_1212 wl_1213 wl_1214 wl_70 (by decide +kernel) hF.2.2.2.2 ⟨Nat.le_of_ble_eq_true rfl, Nat.le_of_ble_eq_true rfl⟩) rfl rfl (Nat.le_of_ble_eq_true rfl) dL_law_965 ⟨Nat.le_of_ble_eq_true rfl, Nat.le_of_ble_eq_true rfl⟩ (fun H locs hW' hW hS => ?_)
  refine lv_icmp_eq (tgt := 1012) hx hb dL_law_968 (by decide) (fun _ => ?_) (fun q => absurd rfl q)
  exact ag _ _ _ _ _ hW hW' I hS hl
set_option maxHeartbeats 4000000 in
set_option maxRecDepth 100000 in
theorem law_undo (B : LawB p l e s m below meth c G Λ Λ' a b z L xs) (hi : i + 4 ≤ L) (I : Inv Λ μ a Λ' μ' b) (hW : Wd G Λ μ H) (hW' : Wd G Λ' μ' H) (hS : va_S (fun q : Nat => s.heap.size ≤ q) s.heap H locs) (hl : lv_has ls 4 [(3, .int (nI i)), (2, .ref b), (1, .ref a), (0, .ref z)]) (ag : LawA p l e s m below meth c G Λ Λ' a b z i) : W p l e room_1 s m #[.ref z] below meth c H locs 382 7795 (lw_Z below #[.ref z] s) (F0 m 973 ls []) := by
  obtain ⟨hF, hr, hlocks, hX, hbl, hL, K1, K2, O1, O2, ka, kb, A1, A2, D12, D21, PC, PM⟩ := B
  have hx := hF.1
  have hb := hF.2.1
  have hbA : ¬ (fun q : Nat => s.heap.size ≤ q) z := Nat.not_le.mpr hbl
  obtain ⟨r, μ1, μ1', e1, e2, I1⟩ := op_undo PC PM I 
  refine lv_aload_n hx hb dL_law_973 rfl (lv_at hl 2 rfl) ?_
  refine law_call (q := (RX4, TX4, 11)) (ci := 4) (rest := []) hF K1 A1 D12 hW hW' hS hl.1 ka (by decide) rfl (c_X4_undo l O1 ka e1) (kwV 0 wl_719 wl_716 wl_717 wl_718 wl_65 (by decide +kernel) hF.2.2.2.2 ⟨Nat.le_of_ble_eq_true rfl, Nat.le_of_ble_eq_true rfl⟩) rfl rfl (Nat.le_of_ble_eq_true rfl) dL_law_974 ⟨Nat.le_of_ble_eq_true rfl, Nat.le_of_ble_eq_true rfl⟩ (fun H locs hW hW' hS => ?_)
  refine lv_aload_n hx hb dL_law_977 rfl (lv_at hl 1 rfl) ?_
  refine law_call (q := (RX5, TX5, 21)) (ci := 5) (rest := [.int r]) hF K2 A2 D21 hW' hW hS hl.1 kb (by decide) rfl (c_X5_undo l O2 kb e2) (kwV 0 wl_1229 wl_1226 wl_1227 wl_1228 wl_70 (by decide +kernel) hF.2.2.2.2 ⟨Nat.le_of_ble_eq_true rfl, Nat.le_of_ble_eq_true rfl⟩) rfl rfl (Nat.le_of_ble_eq_true rfl) dL_law_978 ⟨Nat.le_of_ble_eq_true rfl, Nat.le_of_ble_eq_true rfl⟩ (fun H locs hW' hW hS => ?_)
  refine lv_icmp_eq (tgt := 1012) hx hb dL_law_981 (by decide) (fun _ => ?_) (fun q => absurd rfl q)
  exact ag _ _ _ _ _ hW hW' I1 hS hl
set_option maxHeartbeats 4000000 in
set_option maxRecDepth 100000 in
theorem law_save (B : LawB p l e s m below meth c G Λ Λ' a b z L xs) (hi : i + 4 ≤ L) (I : Inv Λ μ a Λ' μ' b) (hW : Wd G Λ μ H) (hW' : Wd G Λ' μ' H) (hS : va_S (fun q : Nat => s.heap.size ≤ q) s.heap H locs) (hl : lv_has ls 4 [(3, .int (nI i)), (2, .ref b), (1, .ref a), (0, .ref z)]) (ag : LawA p l e s m below meth c G Λ Λ' a b z i) : W p l e room_1 s m #[.ref z] below meth c H locs 382 7795 (lw_Z below #[.ref z] s) (F0 m 986 ls []) := by
  obtain ⟨hF, hr, hlocks, hX, hbl, hL, K1, K2, O1, O2, ka, kb, A1, A2, D12, D21, PC, PM⟩ := B
  have hx := hF.1
  have hb := hF.2.1
  have hbA : ¬ (fun q : Nat => s.heap.size ≤ q) z := Nat.not_le.mpr hbl
  obtain ⟨r, μ1, μ1', e1, e2, I1⟩ := op_save PC PM I 
  refine lv_aload_n hx hb dL_law_986 rfl (lv_at hl 2 rfl) ?_
  refine law_call (q := (RX4, TX4, 11)) (ci := 4) (rest := []) hF K1 A1 D12 hW hW' hS hl.1 ka (by decide) rfl (c_X4_save l O1 ka e1) (kwV 0 wl_728 wl_725 wl_726 wl_727 wl_65 (by decide +kernel) hF.2.2.2.2 ⟨Nat.le_of_ble_eq_true rfl, Nat.le_of_ble_eq_true rfl⟩) rfl rfl (Nat.le_of_ble_eq_true rfl) dL_law_987 ⟨Nat.le_of_ble_eq_true rfl, Nat.le_of_ble_eq_true rfl⟩ (fun H locs hW hW' hS => ?_)
  refine lv_aload_n hx hb dL_law_990 rfl (lv_at hl 1 rfl) ?_
  refine law_call (q := (RX5, TX5, 21)) (ci := 5) (rest := [.int r]) hF K2 A2 D21 hW' hW hS hl.1 kb (by decide) rfl (c_X5_save l O2 kb e2) (kwV 0 wl_1233 wl_1230 wl_1231 wl_1232 wl_70 (by decide +kernel) hF.2.2.2.2 ⟨Nat.le_of_ble_eq_true rfl, Nat.le_of_ble_eq_true rfl⟩) rfl rfl (Nat.le_of_ble_eq_true rfl) dL_law_991 ⟨Nat.le_of_ble_eq_true rfl, Nat.le_of_ble_eq_true rfl⟩ (fun H locs hW' hW hS => ?_)
  refine lv_icmp_eq (tgt := 1012) hx hb dL_law_994 (by decide) (fun _ => ?_) (fun q => absurd rfl q)
  exact ag _ _ _ _ _ hW hW' I1 hS hl
set_option maxHeartbeats 4000000 in
set_option maxRecDepth 100000 in
theorem law_restore (B : LawB p l e s m below meth c G Λ Λ' a b z L xs) (hi : i + 4 ≤ L) (I : Inv Λ μ a Λ' μ' b) (hW : Wd G Λ μ H) (hW' : Wd G Λ' μ' H) (hS : va_S (fun q : Nat => s.heap.size ≤ q) s.heap H locs) (hl : lv_has ls 4 [(3, .int (nI i)), (2, .ref b), (1, .ref a), (0, .ref z)]) (ag : LawA p l e s m below meth c G Λ Λ' a b z i) : W p l e room_1 s m #[.ref z] below meth c H locs 382 7795 (lw_Z below #[.ref z] s) (F0 m 999 ls []) := by
  obtain ⟨hF, hr, hlocks, hX, hbl, hL, K1, K2, O1, O2, ka, kb, A1, A2, D12, D21, PC, PM⟩ := B
  have hx := hF.1
  have hb := hF.2.1
  have hbA : ¬ (fun q : Nat => s.heap.size ≤ q) z := Nat.not_le.mpr hbl
  obtain ⟨r, μ1, μ1', e1, e2, I1⟩ := op_restore PC PM I 
  refine lv_aload_n hx hb dL_law_999 rfl (lv_at hl 2 rfl) ?_
  refine law_call (q := (RX4, TX4, 11)) (ci := 4) (rest := []) hF K1 A1 D12 hW hW' hS hl.1 ka (by decide) rfl (c_X4_restore l O1 ka e1) (kwV 0 wl_733 wl_730 wl_731 wl_732 wl_65 (by decide +kernel) hF.2.2.2.2 ⟨Nat.le_of_ble_eq_true rfl, Nat.le_of_ble_eq_true rfl⟩) rfl rfl (Nat.le_of_ble_eq_true rfl) dL_law_1000 ⟨Nat.le_of_ble_eq_true rfl, Nat.le_of_ble_eq_true rfl⟩ (fun H locs hW hW' hS => ?_)
  refine lv_aload_n hx hb dL_law_1003 rfl (lv_at hl 1 rfl) ?_
  refine law_call (q := (RX5, TX5, 21)) (ci := 5) (rest := [.int r]) hF K2 A2 D21 hW' hW hS hl.1 kb (by decide) rfl (c_X5_restore l O2 kb e2) (kwV 0 wl_1237 wl_1234 wl_1235 wl_1236 wl_70 (by decide +kernel) hF.2.2.2.2 ⟨Nat.le_of_ble_eq_true rfl, Nat.le_of_ble_eq_true rfl⟩) rfl rfl (Nat.le_of_ble_eq_true rfl) dL_law_1004 ⟨Nat.le_of_ble_eq_true rfl, Nat.le_of_ble_eq_true rfl⟩ (fun H locs hW' hW hS => ?_)
  refine lv_icmp_eq (tgt := 1012) hx hb dL_law_1007 (by decide) (fun _ => ?_) (fun q => absurd rfl q)
  exact ag _ _ _ _ _ hW hW' I1 hS hl
end LW2
