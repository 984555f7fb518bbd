/-! BOTH, WHOLE: describing and telling. -/
def LB (Λ : Lay) (μ0 μ : Mem) (a : Nat) (Λ' : Lay) (μ0' μ' : Mem) (b : Nat) (ln : List Int32) : Prop := RowIs Λ μ (lyR Λ a 3) ln ∧ Chg Λ μ0 μ (fun z => z = frW Λ a 0) noT ∧ LineM Λ' μ' b ln ∧ LFr Λ' μ0' μ' b
section TL
variable {Λ Λ' : Lay} {μ0 μ μ0' μ' : Mem} {a b : Nat} {ln : List Int32}
theorem lb_num (PC : FrApart Λ a) (PM : MdApart Λ' b) (B : LB Λ μ0 μ a Λ' μ0' μ' b ln) {n : Nat} (hn : n < 100) (hl : ln.length + 2 ≤ 69) : ∃ μ1 μ1', sX2_addDigits Λ μ (lyR Λ a 3) (nI n) = some μ1 ∧ sX5_writeNumber Λ' μ' b (nI n) = some μ1' ∧ LB Λ μ0 μ1 a Λ' μ0' μ1' b (ln ++ (digs n).map nI) := by
  have hc : lyN Λ (lyR Λ (lyR Λ a 3) 0) = 69 := PC.2.2.2.2.2.2.2.2.2.2.1
  obtain ⟨μ1, q1, q2, q3⟩ := fr_num B.1 hn (by omega)
  obtain ⟨μ2, s1, s2, s3⟩ := md_num PM B.2.2.1 hn (by omega)
  exact ⟨μ1, μ2, q1, s1, q2, B.2.1.tr q3, s2, B.2.2.2.tr s3⟩
theorem lb_chr (PC : FrApart Λ a) (PM : MdApart Λ' b) (B : LB Λ μ0 μ a Λ' μ0' μ' b ln) {n : Nat} (hn : n < 128) (hl : ln.length + 1 ≤ 69) : ∃ μ1 μ1', sX2_add Λ μ (lyR Λ a 3) (nI n) = some μ1 ∧ sX5_write Λ' μ' b (nI n) = some μ1' ∧ LB Λ μ0 μ1 a Λ' μ0' μ1' b (ln ++ [nI n]) := by
  have hc : lyN Λ (lyR Λ (lyR Λ a 3) 0) = 69 := PC.2.2.2.2.2.2.2.2.2.2.1
  obtain ⟨μ1, q1, q2, q3⟩ := row_add B.1 (by omega) (nI n)
  obtain ⟨μ2, s1, s2, s3⟩ := md_write PM B.2.2.1 (by omega) hn
  exact ⟨μ1, μ2, q1, s1, q2, B.2.1.tr q3, s2, B.2.2.2.tr s3⟩
theorem lb_clear (H : RowIs Λ μ (lyR Λ a 3) ln) : ∃ μ1, sX2_clear Λ μ (lyR Λ a 3) = some μ1 ∧ LB Λ μ μ1 a Λ' μ' (stI μ' b 13 0) b [] := by
  obtain ⟨μ1, q1, q2, q3⟩ := row_clear H
  exact ⟨μ1, q1, q2, q3, ⟨by rw [mI_self]; rfl, by simp⟩, ⟨fun k hk => mI_ne (fun q => hk q.2), fun _ _ => rfl⟩⟩
theorem lb_riv (PC : FrApart Λ a) (B : LB Λ μ0 μ a Λ' μ0' μ' b ln) {V : Pic} (N : RvV Λ μ0 (lyR Λ a 0) V) : RvV Λ μ (lyR Λ a 0) V := w_rvv PC (k := 0) (by omega) B.2.1 (i := 0) (by omega) N
theorem lb_now (PM : MdApart Λ' b) (B : LB Λ μ0 μ a Λ' μ0' μ' b ln) {V : Pic} (M : NowV Λ' μ0' (lyR Λ' b 0) V) : NowV Λ' μ' (lyR Λ' b 0) V := M.sm (B.2.2.2.2 _ (md_far PM (z := lyR Λ' b 12) (by simp)).1.symm)
theorem lb_inv (PC : FrApart Λ a) (PM : MdApart Λ' b) (B : LB Λ μ0 μ a Λ' μ0' μ' b ln) (I : Inv Λ μ0 a Λ' μ0' b) : Inv Λ μ a Λ' μ' b := by
  obtain ⟨p, V, h, sv, r1, r2, r3, m3, ln0, tx, C, M, hR⟩ := I
  exact ⟨p, V, h, sv, r1, r2, r3, m3, ln, tx, cinv_ln PC C B.1 B.2.1, minv_ln PM M B.2.2.1 B.2.2.2, hR⟩
theorem op_describe (PC : FrApart Λ a) (PM : MdApart Λ' b) (I : Inv Λ μ a Λ' μ' b) (x : Int32) : ∃ r μ1 μ1', sX4_describe Λ μ a x = some (r, μ1) ∧ sX5_describe Λ' μ' b x = some (r, μ1') ∧ Inv Λ μ1 a Λ' μ1' b := by
  have I0 := I
  obtain ⟨p, V, h, sv, r1, r2, r3, m3, ln, tx, C, M, hR⟩ := I
  have ok := C.2.1
  have hn := ok.1.1
  unfold sX4_describe sX5_describe
  by_cases cx : bIn V.w.length x
  · obtain ⟨g, hg, hg31, rfl⟩ := bIn_nat cx
    obtain ⟨r, k, hr, hgr, hk, e⟩ := rel_at ok.1 ok.2 hg
    obtain ⟨hT, t, ht⟩ := rv_tour ok.1 hr hgr
    have hgs : g ∈ V.sl k := by rw [e]; exact hgr
    have hw := wt_le ok.1.2.2.1 g
    have hd := dep_lt (fun z hz => rv_ltn ok.1 hr hz) hgr
    have H : RowIs Λ μ (lyR Λ a 3) ln := C.2.2.2.2.2.2.2.2.2.2.1
    obtain ⟨n0, a0, B0⟩ := lb_clear (Λ' := Λ') (μ' := μ') (b := b) H
    have l1 := digs_len g
    have l2 := digs_len (wt V.w g)
    have l3 := digs_len r
    obtain ⟨n1, m1, a1, b1, B1⟩ := lb_num PC PM B0 (n := g) (by omega) (by simp)
    obtain ⟨n2, m2, a2, b2, B2⟩ := lb_chr PC PM B1 (n := 36) (by omega) (by simp; omega)
    obtain ⟨n3, m3', a3, b3, B3⟩ := lb_num PC PM B2 (n := wt V.w g) (by omega) (by simp; omega)
    obtain ⟨n4, m4, a4, b4, B4⟩ := lb_chr PC PM B3 (n := 58) (by omega) (by simp; omega)
    obtain ⟨n5, m5, a5, b5, B5⟩ := lb_num PC PM B4 (n := r) (by omega) (by simp; omega)
    obtain ⟨n6, m6, a6, b6, B6⟩ := lb_chr PC PM B5 (n := 43) (by omega) (by simp; omega)
    obtain ⟨n7, m7, a7, b7, B7⟩ := lb_num PC PM B6 (n := dep (V.rd r) V.w.length g) (by omega) (by simp; omega)
    have w1 : sX1_weightOf Λ n2 (lyR Λ a 0) (nI g) = some (nI (wt V.w g)) := rv_weight (lb_riv PC B2 C.1).1 hg
    have w2 : sX1_rootOf Λ n4 (lyR Λ a 0) (nI g) = some (nI r) := rv_root (lb_riv PC B4 C.1).1 ok.1 hr hgr
    have w3 : sX1_depthOf Λ n6 (lyR Λ a 0) (nI g) = some (nI (dep (V.rd r) V.w.length g)) := rv_depth (lb_riv PC B6 C.1).1 ok.1 hr hgr
    have v1 : sX5_weight Λ' m2 b (nI g) = some (nI (wt V.w g)) := md_weight (lb_now PM B2 M.1) hn hg
    have v2 : sX5_root Λ' m4 b (nI g) = some (nI r) := md_root (lb_now PM B4 M.1) ok.sl hk hgs (e.trans ht)
    have v3 : sX5_depth Λ' m6 b (nI g) = some (nI (dep (V.rd r) V.w.length g)) := by
      rw [md_depth (lb_now PM B6 M.1) ok.sl hk hgs, e]
    have z1 : ¬ (1 : Int32) = 0 := by decide
    have c1 : sX1_has Λ μ (lyR Λ a 0) (nI g) = some 1 := rv_hasB C.1.1 ok.1 hg
    obtain ⟨L7, B7⟩ : ∃ L7, LB Λ μ n7 a Λ' μ' m7 b L7 := ⟨_, B7⟩
    refine ⟨nI L7.length, n7, m7, ?_, ?_, lb_inv PC PM B7 I0⟩
    · rw [c1, Option.bind_some, if_neg z1, a0, Option.bind_some, a1, Option.bind_some, show (36 : Int32) = nI 36 from rfl, a2, Option.bind_some, w1, Option.bind_some, a3, Option.bind_some, show (58 : Int32) = nI 58 from rfl, a4, Option.bind_some, w2, Option.bind_some, a5, Option.bind_some, show (43 : Int32) = nI 43 from rfl, a6, Option.bind_some, w3, Option.bind_some, a7, Option.bind_some, row_len B7.1]
      rfl
    · rw [isBank_1 M.1 hn hg, Option.bind_some, if_neg z1]
      simp only [bnd]
      rw [b1, Option.bind_some, show (36 : Int32) = nI 36 from rfl, b2, Option.bind_some, v1, Option.bind_some, b3, Option.bind_some, show (58 : Int32) = nI 58 from rfl, b4, Option.bind_some, v2, Option.bind_some, b5, Option.bind_some, show (43 : Int32) = nI 43 from rfl, b6, Option.bind_some, v3, Option.bind_some, b7, Option.bind_some, B7.2.2.1.1]
  · refine ⟨-1, μ, μ', ?_, ?_, I0⟩
    · rw [has_eq C.1.1 ok.1, if_neg cx, Option.bind_some, if_pos rfl]
    · rw [isBank_eq M.1 hn, if_neg cx, Option.bind_some, if_pos rfl]
theorem tell_loop (PC : FrApart Λ a) (PM : MdApart Λ' b) {V : Pic} (ok : PicOK V) (N : RvV Λ μ0 (lyR Λ a 0) V) (M : NowV Λ' μ0' (lyR Λ' b 0) V) {r k : Nat} (hr : r < 12) (hk : k < 12) (e : V.sl k = V.rd r) : ∀ n i (μ μ' : Mem) (ln : List Int32), i ≤ (V.rd r).length → (V.rd r).length - i < n → ln.length ≤ 3 * i → LB Λ μ0 μ a Λ' μ0' μ' b ln → ∃ z μ1 μ1' ln', lpX4_tell_31 Λ a (lyE Λ (lyR Λ (lyR Λ a 0) 2) r) n μ (nI i) = some (z, μ1) ∧ lpX5_tell_23 Λ' b (nI k) n μ' (nI i) = some (z, μ1') ∧ LB Λ μ0 μ1 a Λ' μ0' μ1' b ln' := by
  have hl23 := rv_lenK ok.1 hr
  intro n
  induction n with
  | zero => intro i μ μ' ln hi hn; omega
  | succ n ih =>
    intro i μ μ' ln hi hn hl B
    have NN := lb_riv PC B N
    have MM := lb_now PM B M
    have HR := NN.1.2.2.2 r hr
    have ql := row_len HR
    rw [List.length_map] at ql
    rw [lpX4_tell_31_s, lpX5_tell_23_s, ql, md_size MM hk, e, Option.bind_some, Option.bind_some]
    by_cases c : i = (V.rd r).length
    · subst c
      rw [if_pos ((nI_leI (by omega) (by omega)).mpr (Nat.le_refl _)), if_pos ((nI_leI (by omega) (by omega)).mpr (Nat.le_refl _)), row_len B.1, B.2.2.1.1]
      exact ⟨_, μ, μ', ln, rfl, rfl, B⟩
    · have hi' : i < (V.rd r).length := by omega
      have hx := rv_lt12 ok.1 hr _ (List.getElem_mem hi')
      have hnc : ¬ nI (V.rd r).length ≤ nI i := by rw [nI_leI (by omega) (by omega)]; omega
      rw [if_neg hnc, if_neg hnc]
      have hld := digs_len (V.rd r)[i]
      by_cases c0 : i = 0
      · have g1 := row_get HR (p := i) (by simpa using hi')
        rw [List.getElem_map] at g1
        have g2 : sX5_place Λ' μ' b (nI k) (nI i) = some (nI (V.rd r)[i]) := by
          rw [md_place MM ok.sl hk (by rw [e]; exact hi')]
          congr 2
          simp only [e]
        obtain ⟨n1, m1, a1, b1, B1⟩ := lb_num PC PM B (n := (V.rd r)[i]) (by omega) (by omega)
        have h0 : nI i ≤ 0 := by rw [nI_lit0, nI_leI (by omega) (by omega)]; omega
        rw [if_pos h0, if_pos h0, g1, g2, Option.bind_some, Option.bind_some, a1, b1, Option.bind_some, Option.bind_some]
        simp only [bnd]
        rw [nI_1]
        exact ih (i + 1) n1 m1 _ (by omega) (by omega) (by simp; omega) B1
      · obtain ⟨n0, m0, a0, b0, B0⟩ := lb_chr PC PM B (n := 45) (by omega) (by omega)
        have HR0 := (lb_riv PC B0 N).1.2.2.2 r hr
        have g1 := row_get HR0 (p := i) (by simpa using hi')
        rw [List.getElem_map] at g1
        have g2 : sX5_place Λ' m0 b (nI k) (nI i) = some (nI (V.rd r)[i]) := by
          rw [md_place (lb_now PM B0 M) ok.sl hk (by rw [e]; exact hi')]
          congr 2
          simp only [e]
        obtain ⟨n1, m1, a1, b1, B1⟩ := lb_num PC PM B0 (n := (V.rd r)[i]) (by omega) (by simp; omega)
        have h0 : ¬ nI i ≤ 0 := by rw [nI_lit0, nI_leI (by omega) (by omega)]; omega
        rw [if_neg h0, if_neg h0, show (45 : Int32) = nI 45 from rfl, a0, b0, Option.bind_some, Option.bind_some, g1, g2, Option.bind_some, Option.bind_some, a1, b1, Option.bind_some, Option.bind_some]
        simp only [bnd]
        rw [nI_1]
        exact ih (i + 1) n1 m1 _ (by omega) (by omega) (by simp; omega) B1
theorem op_tell (PC : FrApart Λ a) (PM : MdApart Λ' b) (I : Inv Λ μ a Λ' μ' b) (x : Int32) : ∃ r μ1 μ1', sX4_tell Λ μ a x = some (r, μ1) ∧ sX5_tell Λ' μ' b x = some (r, μ1') ∧ Inv Λ μ1 a Λ' μ1' b := by
  have I0 := I
  obtain ⟨p, V, h, sv, r1, r2, r3, m3, ln, tx, C, M, hR⟩ := I
  have ok := C.2.1
  have hn := ok.1.1
  unfold sX4_tell sX5_tell
  by_cases cx : bIn V.w.length x
  · obtain ⟨g, hg, hg31, rfl⟩ := bIn_nat cx
    obtain ⟨r, k, hr, hgr, hk, e⟩ := rel_at ok.1 ok.2 hg
    have hgs : g ∈ V.sl k := by rw [e]; exact hgr
    have H : RowIs Λ μ (lyR Λ a 3) ln := C.2.2.2.2.2.2.2.2.2.2.1
    obtain ⟨n0, a0, B0⟩ := lb_clear (Λ' := Λ') (μ' := μ') (b := b) H
    have hl23 := rv_lenK ok.1 hr
    obtain ⟨z, μ1, μ2, ln', q1, q2, B⟩ := tell_loop PC PM ok C.1 M.1 hr hk e fuel 0 n0 _ [] (by omega) (by unfold fuel; omega) (by simp) B0
    have z1 : ¬ (1 : Int32) = 0 := by decide
    have c1 : sX1_has Λ μ (lyR Λ a 0) (nI g) = some 1 := rv_hasB C.1.1 ok.1 hg
    have c2 : sX1_roundOf Λ μ (lyR Λ a 0) (nI g) = some (lyE Λ (lyR Λ (lyR Λ a 0) 2) r) := rv_round C.1.1 ok.1 hr hgr
    refine ⟨z, μ1, μ2, ?_, ?_, lb_inv PC PM B I0⟩
    · rw [c1, Option.bind_some, if_neg z1, c2, Option.bind_some, a0, Option.bind_some]
      exact q1
    · rw [isBank_1 M.1 hn hg, Option.bind_some, if_neg z1, md_round M.1 ok.sl hk hgs, Option.bind_some]
      simp only [bnd]
      exact q2
  · refine ⟨-1, μ, μ', ?_, ?_, I0⟩
    · rw [has_eq C.1.1 ok.1, if_neg cx, Option.bind_some, if_pos rfl]
    · rw [isBank_eq M.1 hn, if_neg cx, Option.bind_some, if_pos rfl]
end TL
