/-! READING: the reference reads one command, whole. -/
section RP
variable {Λ : Lay} {μ : Mem} {b i j : Nat} {tx : List Int32}
/-- a command after a fault changes no place -/
theorem cmd_f (h : mI μ b 20 = 1) : ∃ μ1, sX5_readCommand Λ μ b = some μ1 ∧ mI μ1 b 20 = 1 ∧ mI μ1 b 16 = mI μ b 16 ∧ SFr μ μ1 b kAll := by
  have step : ∀ (ν : Mem) (e : Int32), mI ν b 20 = 1 → (e = 0 ∨ e = 1) → ∃ μ1, headE Λ b ν e = some μ1 ∧ mI μ1 b 20 = 1 ∧ mI μ1 b 16 = mI ν b 16 ∧ SFr ν μ1 b kAll := by
    intro ν e hν he
    have h1 : mI (stI (stI ν b 20 (1 ||| e)) b 16 (mI (stI ν b 20 (1 ||| e)) b 16 + 0)) b 20 = 1 := by
      rw [mI_ne (by omega), mI_self]
      rcases he with q | q <;> rw [q] <;> rfl
    obtain ⟨μ1, q1, q2, q3, q4⟩ := tail_f (Λ := Λ) h1
    unfold headE
    simp only [bnd]
    rw [hν, gd_t (by rcases he with q | q <;> rw [q] <;> decide), mI_self, if_neg (by rcases he with q | q <;> rw [q] <;> decide), q1]
    refine ⟨μ1, rfl, q2, ?_, ((SFr.st (by decide)).tr (SFr.st (by decide))).tr q4⟩
    rw [q3, mI_self, mI_ne (by omega)]
    exact Int32.add_zero _
  rw [readCommand_eq, if_neg (by rw [h]; decide)]
  unfold headR
  have h0 : mI (stI μ b 19 32) b 20 = 1 := (mI_ne (by omega)).trans h
  by_cases c : (0 : Int32) ≤ bwIdx (jchar (mI (stI μ b 19 32) b 19))
  · rw [if_pos c]
    obtain ⟨μ1, q1, q2, q3, q4⟩ := step _ 0 h0 (Or.inl rfl)
    exact ⟨μ1, q1, q2, q3.trans (mI_ne (by omega)), (SFr.st (by decide)).tr q4⟩
  · rw [if_neg c]
    obtain ⟨μ1, q1, q2, q3, q4⟩ := step _ 1 h0 (Or.inr rfl)
    exact ⟨μ1, q1, q2, q3.trans (mI_ne (by omega)), (SFr.st (by decide)).tr q4⟩
/-- what the head leaves when its sign is a kind -/
theorem head_ok (h : mI μ b 20 = 0) (e : mI μ b 16 = nI i) : ∃ ν, headE Λ b μ 0 = tailR Λ b ν ∧ mI ν b 20 = 0 ∧ mI ν b 16 = nI (i + 1) ∧ mI ν b 19 = mI μ b 19 ∧ SFr μ ν b k16 := by
  unfold headE
  simp only [bnd]
  rw [h, gd_t (by decide), mI_self, if_pos (by decide)]
  refine ⟨_, rfl, ?_, ?_, ?_, (SFr.st (by decide)).tr (SFr.st (by decide))⟩
  · rw [mI_ne (by omega), mI_self]; rfl
  · rw [mI_self, mI_ne (by omega), e, nI_1]
  · rw [mI_ne (by omega), mI_ne (by omega)]
theorem head_no (h : mI μ b 20 = 0) (e : mI μ b 16 = nI i) : ∃ μ1, headE Λ b μ 1 = some μ1 ∧ mI μ1 b 20 = 1 ∧ mI μ1 b 16 = nI i ∧ SFr μ μ1 b kAll := by
  have h1 : mI (stI (stI μ b 20 (0 ||| 1)) b 16 (mI (stI μ b 20 (0 ||| 1)) b 16 + 0)) b 20 = 1 := by
    rw [mI_ne (by omega), mI_self]; rfl
  obtain ⟨μ1, q1, q2, q3, q4⟩ := tail_f (Λ := Λ) h1
  unfold headE
  simp only [bnd]
  rw [h, gd_t (by decide), mI_self, if_neg (by decide), q1]
  refine ⟨μ1, rfl, q2, ?_, ((SFr.st (by decide)).tr (SFr.st (by decide))).tr q4⟩
  rw [q3, mI_self, mI_ne (by omega), e]
  exact Int32.add_zero _
theorem cmd_in {f : (Int32 × Int32 × Int32 × Nat)} (h : cmdF tx i = .inl f) : i < tx.length := by
  apply Classical.byContradiction
  intro z
  have : chT tx i = -1 := by
    unfold chT
    rw [List.getD_eq_getElem?_getD, List.getElem?_eq_none (by omega)]; rfl
  unfold cmdF at h
  rw [this, if_neg (by decide)] at h
  cases h
/-- the head: either the fault is here, or the tail goes on -/
theorem cmd_head (T : TxtM Λ μ b tx) (hz : ∀ z ∈ tx, 32 ≤ z.toInt ∧ z.toInt ≤ 126) (h : mI μ b 20 = 0) (e : mI μ b 16 = nI i) (hi : i < 2 ^ 20) : (¬ isK (chT tx i) → ∃ μ1, sX5_readCommand Λ μ b = some μ1 ∧ mI μ1 b 20 = 1 ∧ mI μ1 b 16 = nI i ∧ SFr μ μ1 b kAll) ∧ (isK (chT tx i) → ∃ ν, sX5_readCommand Λ μ b = tailR Λ b ν ∧ mI ν b 20 = 0 ∧ mI ν b 16 = nI (i + 1) ∧ mI ν b 19 = chT tx i ∧ SFr μ ν b kAll ∧ TxtM Λ ν b tx) := by
  have hl := T.2.1
  have tk : ∀ {ν : Mem}, SFr μ ν b kAll → TxtM Λ ν b tx := fun F => ⟨by rw [F.1 b 15 (fun q => by have := q.2; omega)]; exact T.1, T.2.1, T.2.2.1, fun k hk => by rw [F.arr]; exact T.2.2.2 k hk⟩
  rw [readCommand_eq, if_pos h, T.1, e]
  by_cases c : i < tx.length
  · have ec : chT tx i = tx[i] := by
      unfold chT
      rw [List.getD_eq_getElem?_getD, List.getElem?_eq_getElem c]; rfl
    have em : mA μ (lyR Λ b 14) (nI i).toNatClampNeg = chT tx i := by rw [nI_clamp (by omega), T.2.2.2 i c, ec]
    rw [if_neg (by rw [nI_leI (by omega) (by omega)]; omega), T.2.2.1, gd_t (nI_in (by omega) (by omega)), em]
    have hzz := hz tx[i] (List.getElem_mem _)
    obtain ⟨n, hn1, hn2, hn3⟩ := i32_nn (x := tx[i]) (by omega)
    have hk : (0 : Int32) ≤ bwIdx (jchar (chT tx i)) ↔ isK (chT tx i) := by rw [ec, hn2]; exact kind_ok n (by omega)
    have e19 : mI (stI μ b 19 (chT tx i)) b 19 = chT tx i := mI_self
    have h20 : mI (stI μ b 19 (chT tx i)) b 20 = 0 := (mI_ne (by omega)).trans h
    have h16 : mI (stI μ b 19 (chT tx i)) b 16 = nI i := (mI_ne (by omega)).trans e
    have F0 : SFr μ (stI μ b 19 (chT tx i)) b kAll := SFr.st (by decide)
    unfold headR
    rw [e19]
    refine ⟨fun q => ?_, fun q => ?_⟩
    · rw [if_neg (fun z => q (hk.mp z))]
      obtain ⟨μ1, q1, q2, q3, q4⟩ := head_no (Λ := Λ) h20 h16
      exact ⟨μ1, q1, q2, q3, F0.tr q4⟩
    · rw [if_pos (hk.mpr q)]
      obtain ⟨ν, q1, q2, q3, q4, q5⟩ := head_ok (Λ := Λ) h20 h16
      have F1 := F0.tr (q5.wk kAll16)
      exact ⟨ν, q1, q2, q3, q4.trans e19, F1, tk F1⟩
  · have ec : chT tx i = -1 := by
      unfold chT
      rw [List.getD_eq_getElem?_getD, List.getElem?_eq_none (by omega)]; rfl
    rw [if_pos ((nI_leI (by omega) (by omega)).mpr (by omega)), ec]
    refine ⟨fun _ => ?_, fun q => absurd q (by decide)⟩
    unfold headR
    rw [mI_self, if_neg (by decide)]
    obtain ⟨μ1, q1, q2, q3, q4⟩ := head_no (Λ := Λ) (μ := stI μ b 19 32) ((mI_ne (by omega)).trans h) ((mI_ne (by omega)).trans e)
    exact ⟨μ1, q1, q2, q3, (SFr.st (by decide)).tr q4⟩
theorem num_le {i j : Nat} {v : Int32} (h : numV tx i = some (v, j)) : i < j ∧ j ≤ i + 2 ∧ j ≤ tx.length := by
  have hin : ∀ {m : Nat}, dgt (chT tx m) → m < tx.length := fun {m} q => by
    apply Classical.byContradiction
    intro z
    have : chT tx m = -1 := by
      unfold chT
      rw [List.getD_eq_getElem?_getD, List.getElem?_eq_none (by omega)]; rfl
    rw [this] at q
    exact absurd q (by decide)
  unfold numV at h
  by_cases c1 : dgt (chT tx i)
  · rw [if_pos c1] at h
    have := hin c1
    by_cases c2 : dgt (chT tx (i + 1))
    · rw [if_pos c2] at h
      have := hin c2
      have := (Prod.mk.inj (Option.some.inj h)).2
      omega
    · rw [if_neg c2] at h
      have := (Prod.mk.inj (Option.some.inj h)).2
      omega
  · rw [if_neg c1] at h
    cases h
theorem tail_two (T : TxtM Λ μ b tx) (h : mI μ b 20 = 0) (e : mI μ b 16 = nI j) (hj : j < 2 ^ 20) {k v : Int32} {m : Nat} (hk : mI μ b 19 = k) (hv : numV tx j = some (v, m)) : ∃ ν, tailR Λ b μ = (if k = (99 : Int32) then (sX5_readBehind Λ ν b 126).bind (fun q => some q) else if k = (106 : Int32) then (sX5_readBehind Λ ν b 126).bind (fun q => some q) else if k = (117 : Int32) then (sX5_readRise Λ ν b).bind (fun q => some q) else if k = (119 : Int32) then (sX5_readBehind Λ ν b 61).bind (fun q => some q) else bnd (stI ν b 18 0) (fun m => some m)) ∧ TxtM Λ ν b tx ∧ mI ν b 20 = 0 ∧ mI ν b 16 = nI m ∧ mI ν b 17 = v ∧ mI ν b 19 = k ∧ SFr μ ν b kAll := by
  have hl := T.2.1
  have hin := num_le hv
  obtain ⟨μ1, q1, q2, q3, q4⟩ := mdn_yes T h e (by omega) hv
  have F1 : SFr μ (stI μ1 b 17 v) b kAll := (q4.wk kAll16).tr (SFr.st (by decide))
  have k1 : mI (stI μ1 b 17 v) b 19 = k := (mI_ne (by omega)).trans ((q4.1 b 19 (fun q => by have := q.2; omega)).trans hk)
  refine ⟨stI μ1 b 17 v, ?_, ⟨by rw [F1.1 b 15 (fun q => by have := q.2; omega)]; exact T.1, T.2.1, T.2.2.1, fun k hk => by rw [F1.arr]; exact T.2.2.2 k hk⟩, (mI_ne (by omega)).trans q2, (mI_ne (by omega)).trans q3, mI_self, k1, F1⟩
  unfold tailR
  rw [q1, Option.bind_some]
  simp only [bnd]
  rw [k1]
theorem md_cmd (T : TxtM Λ μ b tx) (hz : ∀ z ∈ tx, 32 ≤ z.toInt ∧ z.toInt ≤ 126) (h : mI μ b 20 = 0) (e : mI μ b 16 = nI i) (hi : i < 2 ^ 19) : (∀ f, cmdF tx i = .inr f → ∃ μ1, sX5_readCommand Λ μ b = some μ1 ∧ mI μ1 b 20 = 1 ∧ mI μ1 b 16 = nI f ∧ SFr μ μ1 b kAll) ∧ (∀ k v u m, cmdF tx i = .inl (k, v, u, m) → isK k ∧ m ≤ tx.length ∧ ∃ μ1, sX5_readCommand Λ μ b = some μ1 ∧ mI μ1 b 20 = 0 ∧ mI μ1 b 16 = nI m ∧ mI μ1 b 17 = v ∧ mI μ1 b 18 = u ∧ mI μ1 b 19 = k ∧ SFr μ μ1 b kAll) := by
  have hl := T.2.1
  obtain ⟨hno, hyes⟩ := cmd_head T hz h e (by omega)
  unfold cmdF
  by_cases c1 : isK (chT tx i)
  · rw [if_pos c1]
    obtain ⟨ν, q1, q2, q3, q4, q5, q6⟩ := hyes c1
    rw [q1]
    match hv : numV tx (i + 1) with
    | none =>
      obtain ⟨μ1, r1, r2, r3, r4⟩ := tail_no q6 q2 q3 (by omega) hv
      refine ⟨fun f hf => ?_, fun k v u m hf => by cases hf⟩
      have : i + 1 = f := Sum.inr.inj hf
      subst this
      exact ⟨μ1, r1, r2, r3, q5.tr r4⟩
    | some (v, j) =>
      have hj := num_le hv
      dsimp only
      by_cases cb : chT tx i = 98 ∨ chT tx i = 116
      · obtain ⟨μ1, r1, r2, r3, r4, r5, r6, r7⟩ := tail_one q6 q2 q3 (by omega) q4 cb hv
        rw [if_pos cb]
        refine ⟨(fun f hf => by cases hf), fun k v' u m hf => ?_⟩
        have hf' := Sum.inl.inj hf
        simp only [Prod.mk.injEq] at hf'
        obtain ⟨rfl, rfl, rfl, rfl⟩ := hf'
        exact ⟨c1, hj.2.2, μ1, r1, r2, r3, r4, r5, r6, q5.tr r7⟩
      · rw [if_neg cb]
        obtain ⟨ν2, s1, s2, s3, s4, s5, s6, s7⟩ := tail_two q6 q2 q3 (by omega) q4 hv
        rw [s1]
        have n1 : chT tx i ≠ 98 := fun q => cb (Or.inl q)
        have n2 : chT tx i ≠ 116 := fun q => cb (Or.inr q)
        by_cases cf : fitK (chT tx i) (chT tx j)
        · rw [if_pos cf]
          match hw : numV tx (j + 1) with
          | none =>
            obtain ⟨μ1, r1, r2, r3, r4⟩ := second_bad s2 s3 s4 (by omega) c1 n1 n2 cf hw
            refine ⟨fun f hf => ?_, fun k v u m hf => by cases hf⟩
            have : j + 1 = f := Sum.inr.inj hf
            subst this
            exact ⟨μ1, r1, r2, r3, (q5.tr s7).tr (r4.wk kAll18)⟩
          | some (u, m) =>
            have hm := num_le hw
            obtain ⟨μ1, r1, r2, r3, r4, r5⟩ := second_yes s2 s3 s4 (by omega) c1 n1 n2 cf hw
            refine ⟨(fun f hf => by cases hf), fun k v' u' m' hf => ?_⟩
            have hf' := Sum.inl.inj hf
            simp only [Prod.mk.injEq] at hf'
            obtain ⟨rfl, rfl, rfl, rfl⟩ := hf'
            refine ⟨c1, hm.2.2, μ1, r1, r2, r3, ?_, r4, ?_, (q5.tr s7).tr (r5.wk kAll18)⟩
            · rw [r5.1 b 17 (fun q => by have := q.2; omega)]; exact s5
            · rw [r5.1 b 19 (fun q => by have := q.2; omega)]; exact s6
        · rw [if_neg cf]
          obtain ⟨μ1, r1, r2, r3, r4⟩ := second_no s2 s3 s4 (by omega) c1 n1 n2 cf
          refine ⟨fun f hf => ?_, fun k v u m hf => by cases hf⟩
          have : j = f := Sum.inr.inj hf
          subst this
          exact ⟨μ1, r1, r2, r3, (q5.tr s7).tr (r4.wk kAll18)⟩
  · rw [if_neg c1]
    obtain ⟨μ1, r1, r2, r3, r4⟩ := hno c1
    refine ⟨fun f hf => ?_, fun k v u m hf => by cases hf⟩
    have : i = f := Sum.inr.inj hf
    subst this
    exact ⟨μ1, r1, r2, r3, r4⟩
end RP
