/-! THE LAW: its loop. -/
section LP
variable {p : Program} {l : Launch} {e : Env} {s : State} {m : MethodId} {below : List Frame} {meth : Method} {c : Code}
variable {G : va_G} {Λ Λ' : Lay} {a b z L : Nat} {xs : Nat → Int32}
set_option maxHeartbeats 4000000 in
set_option maxRecDepth 100000 in
theorem law_loop (B : LawB p l e s m below meth c G Λ Λ' a b z L xs) : ∀ (n i : Nat) (μ μ' : Mem) (H : Heap) (locs : List Loc) (ls : Array Slot), L < i + n → i ≤ L → Wd G Λ μ H → Wd G Λ' μ' H → Inv Λ μ a Λ' μ' b → va_S (fun q : Nat => s.heap.size ≤ q) s.heap H locs → lv_has ls 4 [(3, .int (nI i)), (2, .ref b), (1, .ref a), (0, .ref z)] → W p l e room_1 s m #[.ref z] below meth c H locs 382 7795 (lw_Z below #[.ref z] s) (F0 m 18 ls []) := by
  intro n
  induction n with
  | zero => intro i μ μ' H locs ls h1 h2; omega
  | succ n ih =>
    intro i μ μ' H locs ls h1 h2 hW hW' I hS hl
    have B' := B
    obtain ⟨hF, hr, hlocks, hX, hbl, hL, -⟩ := B'
    have hx := hF.1
    have hb := hF.2.1
    have hbA : ¬ (fun q : Nat => s.heap.size ≤ q) z := Nat.not_le.mpr hbl
    refine lv_iload_n hx hb dL_law_18 rfl (lv_at hl 0 rfl) ?_
    refine lv_aload_n hx hb dL_law_19 rfl (lv_at hl 3 rfl) ?_
    refine va_slen hx hb hX hbl hbA hS dL_law_20 ?_
    refine lv_iconst (v := (4 : Int32)) hx hb dL_law_21 (by decide) ?_
    refine lv_isub hx hb dL_law_22 ?_
    refine lv_icmp_gt (tgt := 1018) hx hb dL_law_23 (by decide) (fun q => ?_) (fun q => ?_)
    · refine lv_iconst (v := (1 : Int32)) hx hb dL_law_1018 (by decide) ?_
      refine va_forget (fun q hq => hS.2.2 q hq) ?_
      refine W.widen (k := 600000) (n := 7302250) (by decide) (by decide) ?_
      exact lw_ret (Drawn.sameBut.refl s.drawn lw_cs) hx hb hr hlocks dL_law_1019
    · have hlt : i + 4 ≤ L := by
        have q2 : ¬ (nI L - 4 < nI i) := q
        rw [gt_len hL (by omega)] at q2
        omega
      have ag : LawA p l e s m below meth c G Λ Λ' a b z i := fun μ μ' H locs ls hW hW' I hS hl => by
        refine lv_iinc (v := nI (i + 4)) (lv' := [(3, .int (nI (i + 4))), (2, .ref b), (1, .ref a), (0, .ref z)]) hx hb dL_law_1012 hl (k := 0) rfl (nI_add i 4) (by decide) rfl (fun ls hl => ?_)
        refine lv_goto (tgt := 18) hx hb dL_law_1015 (by decide) ?_
        exact ih (i + 4) μ μ' H locs ls (by omega) hlt hW hW' I hS hl
      refine lv_aload_n hx hb dL_law_26 rfl (lv_at hl 3 rfl) ?_
      refine lv_iload_n hx hb dL_law_27 rfl (lv_at hl 0 rfl) ?_
      refine va_sld hx hb hX hbl hbA hS (vp_in_nI (by omega) (by omega)) dL_law_28 ?_
      refine lv_bipush (v := (31 : Int32)) hx hb dL_law_29 (by decide) ?_
      refine lv_iand hx hb dL_law_31 ?_
      obtain ⟨k, hk, ek⟩ := and31 (xs (nI i).toNatClampNeg)
      rw [ek]
      have h32 : k = 0 ∨ k = 1 ∨ k = 2 ∨ k = 3 ∨ k = 4 ∨ k = 5 ∨ k = 6 ∨ k = 7 ∨ k = 8 ∨ k = 9 ∨ k = 10 ∨ k = 11 ∨ k = 12 ∨ k = 13 ∨ k = 14 ∨ k = 15 ∨ k = 16 ∨ k = 17 ∨ k = 18 ∨ k = 19 ∨ k = 20 ∨ k = 21 ∨ k = 22 ∨ k = 23 ∨ k = 24 ∨ k = 25 ∨ k = 26 ∨ k = 27 ∨ k = 28 ∨ k = 29 ∨ k = 30 ∨ k = 31 := by omega
      rcases h32 with q | q | q | q | q | q | q | q | q | q | q | q | q | q | q | q | q | q | q | q | q | q | q | q | q | q | q | q | q | q | q | q
      · subst q
        exact lv_tableIn (tgt := 176) hx hb dL_law_32 (by decide) (by decide) (off := 144) (by decide) (by decide) (law_bank B hlt I hW hW' hS hl ag)
      · subst q
        exact lv_tableIn (tgt := 199) hx hb dL_law_32 (by decide) (by decide) (off := 167) (by decide) (by decide) (law_weigh B hlt I hW hW' hS hl ag)
      · subst q
        exact lv_tableIn (tgt := 232) hx hb dL_law_32 (by decide) (by decide) (off := 200) (by decide) (by decide) (law_join B hlt I hW hW' hS hl ag)
      · subst q
        exact lv_tableIn (tgt := 265) hx hb dL_law_32 (by decide) (by decide) (off := 233) (by decide) (by decide) (law_cut B hlt I hW hW' hS hl ag)
      · subst q
        exact lv_tableIn (tgt := 298) hx hb dL_law_32 (by decide) (by decide) (off := 266) (by decide) (by decide) (law_turn B hlt I hW hW' hS hl ag)
      · subst q
        exact lv_tableIn (tgt := 321) hx hb dL_law_32 (by decide) (by decide) (off := 289) (by decide) (by decide) (law_rise B hlt I hW hW' hS hl ag)
      · subst q
        exact lv_tableIn (tgt := 354) hx hb dL_law_32 (by decide) (by decide) (off := 322) (by decide) (by decide) (law_areJoined B hlt I hW hW' hS hl ag)
      · subst q
        exact lv_tableIn (tgt := 387) hx hb dL_law_32 (by decide) (by decide) (off := 355) (by decide) (by decide) (law_areJoinedAgain B hlt I hW hW' hS hl ag)
      · subst q
        exact lv_tableIn (tgt := 420) hx hb dL_law_32 (by decide) (by decide) (off := 388) (by decide) (by decide) (law_bankOf B hlt I hW hW' hS hl ag)
      · subst q
        exact lv_tableIn (tgt := 453) hx hb dL_law_32 (by decide) (by decide) (off := 421) (by decide) (by decide) (law_belowAgain B hlt I hW hW' hS hl ag)
      · subst q
        exact lv_tableIn (tgt := 476) hx hb dL_law_32 (by decide) (by decide) (off := 444) (by decide) (by decide) (law_inRound B hlt I hW hW' hS hl ag)
      · subst q
        exact lv_tableIn (tgt := 509) hx hb dL_law_32 (by decide) (by decide) (off := 477) (by decide) (by decide) (law_partOf B hlt I hW hW' hS hl ag)
      · subst q
        exact lv_tableIn (tgt := 542) hx hb dL_law_32 (by decide) (by decide) (off := 510) (by decide) (by decide) (law_isRope B hlt I hW hW' hS hl ag)
      · subst q
        exact lv_tableIn (tgt := 575) hx hb dL_law_32 (by decide) (by decide) (off := 543) (by decide) (by decide) (law_isBelow B hlt I hW hW' hS hl ag)
      · subst q
        exact lv_tableIn (tgt := 608) hx hb dL_law_32 (by decide) (by decide) (off := 576) (by decide) (by decide) (law_meet B hlt I hW hW' hS hl ag)
      · subst q
        exact lv_tableIn (tgt := 641) hx hb dL_law_32 (by decide) (by decide) (off := 609) (by decide) (by decide) (law_way B hlt I hW hW' hS hl ag)
      · subst q
        exact lv_tableIn (tgt := 684) hx hb dL_law_32 (by decide) (by decide) (off := 652) (by decide) (by decide) (law_would B hlt I hW hW' hS hl ag)
      · subst q
        exact lv_tableIn (tgt := 717) hx hb dL_law_32 (by decide) (by decide) (off := 685) (by decide) (by decide) (law_wouldDiffer B hlt I hW hW' hS hl ag)
      · subst q
        exact lv_tableIn (tgt := 750) hx hb dL_law_32 (by decide) (by decide) (off := 718) (by decide) (by decide) (law_middle B hlt I hW hW' hS hl ag)
      · subst q
        exact lv_tableIn (tgt := 773) hx hb dL_law_32 (by decide) (by decide) (off := 741) (by decide) (by decide) (law_ranked B hlt I hW hW' hS hl ag)
      · subst q
        exact lv_tableIn (tgt := 796) hx hb dL_law_32 (by decide) (by decide) (off := 764) (by decide) (by decide) (law_describe B hlt I hW hW' hS hl ag)
      · subst q
        exact lv_tableIn (tgt := 819) hx hb dL_law_32 (by decide) (by decide) (off := 787) (by decide) (by decide) (law_tell B hlt I hW hW' hS hl ag)
      · subst q
        exact lv_tableIn (tgt := 842) hx hb dL_law_32 (by decide) (by decide) (off := 810) (by decide) (by decide) (law_sign B hlt I hW hW' hS hl ag)
      · subst q
        exact lv_tableIn (tgt := 865) hx hb dL_law_32 (by decide) (by decide) (off := 833) (by decide) (by decide) (law_append B hlt I hW hW' hS hl ag)
      · subst q
        exact lv_tableIn (tgt := 888) hx hb dL_law_32 (by decide) (by decide) (off := 856) (by decide) (by decide) (law_read B hlt I hW hW' hS hl ag)
      · subst q
        exact lv_tableIn (tgt := 901) hx hb dL_law_32 (by decide) (by decide) (off := 869) (by decide) (by decide) (law_refusal B hlt I hW hW' hS hl ag)
      · subst q
        exact lv_tableIn (tgt := 924) hx hb dL_law_32 (by decide) (by decide) (off := 892) (by decide) (by decide) (law_account B hlt I hW hW' hS hl ag)
      · subst q
        exact lv_tableIn (tgt := 947) hx hb dL_law_32 (by decide) (by decide) (off := 915) (by decide) (by decide) (law_isWell B hlt I hW hW' hS hl ag)
      · subst q
        exact lv_tableIn (tgt := 960) hx hb dL_law_32 (by decide) (by decide) (off := 928) (by decide) (by decide) (law_mean B hlt I hW hW' hS hl ag)
      · subst q
        exact lv_tableIn (tgt := 973) hx hb dL_law_32 (by decide) (by decide) (off := 941) (by decide) (by decide) (law_undo B hlt I hW hW' hS hl ag)
      · subst q
        exact lv_tableIn (tgt := 986) hx hb dL_law_32 (by decide) (by decide) (off := 954) (by decide) (by decide) (law_save B hlt I hW hW' hS hl ag)
      · subst q
        exact lv_tableIn (tgt := 999) hx hb dL_law_32 (by decide) (by decide) (off := 967) (by decide) (by decide) (law_restore B hlt I hW hW' hS hl ag)
end LP
