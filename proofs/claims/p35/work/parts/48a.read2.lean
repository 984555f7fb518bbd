/-! READING: the class alone, whole. -/
section CY
variable {Λ : Lay} {μ : Mem} {a : Nat} {V : Pic}
theorem carry (PC : FrApart Λ a) (ok : PicOK V) (N : RvV Λ μ (lyR Λ a 0) V) {A B C : List Int32} (hA : RowIs Λ μ (frW Λ a 2) A) (hB : RowIs Λ μ (frW Λ a 3) B) (hC : RowIs Λ μ (frW Λ a 4) C) {j : Nat} {k v u : Int32} (eA : A[j]? = some k) (eB : B[j]? = some v) (eC : C[j]? = some u) (hk : isK k) : ∃ o, CMeets Λ μ a V (sX4_carryOut Λ μ a (nI j)) o := by
  obtain ⟨lA, gA⟩ := List.getElem?_eq_some_iff.mp eA
  obtain ⟨lB, gB⟩ := List.getElem?_eq_some_iff.mp eB
  obtain ⟨lC, gC⟩ := List.getElem?_eq_some_iff.mp eC
  have s1 : sX3_firstOf Λ μ (lyR Λ a 5) (nI j) = some v := by
    unfold sX3_firstOf
    have : sX2_get Λ μ (lyR Λ (lyR Λ a 5) 1) (nI j) = some B[j] := row_get hB lB
    rw [this, gB]; rfl
  have s2 : sX3_secondOf Λ μ (lyR Λ a 5) (nI j) = some u := by
    unfold sX3_secondOf
    have : sX2_get Λ μ (lyR Λ (lyR Λ a 5) 2) (nI j) = some C[j] := row_get hC lC
    rw [this, gC]; rfl
  have s3 : sX3_kindOf Λ μ (lyR Λ a 5) (nI j) = some k := by
    unfold sX3_kindOf
    have : sX2_get Λ μ (lyR Λ (lyR Λ a 5) 0) (nI j) = some A[j] := row_get hA lA
    rw [this, gA]; rfl
  unfold sX4_carryOut
  rw [s1, s2, s3, Option.bind_some, Option.bind_some, Option.bind_some]
  simp only [bind_eta]
  rcases hk with q | q | q | q | q | q
  · subst q
    rw [if_pos rfl]
    exact cs_bank PC ok N v
  · subst q
    rw [if_neg (by decide), if_neg (by decide), if_neg (by decide), if_neg (by decide), if_neg (by decide), if_pos rfl]
    exact cs_weigh PC ok N v u
  · subst q
    rw [if_neg (by decide), if_neg (by decide), if_pos rfl]
    exact cs_join PC ok N v u
  · subst q
    rw [if_neg (by decide), if_pos rfl]
    exact cs_cut PC ok N v u
  · subst q
    rw [if_neg (by decide), if_neg (by decide), if_neg (by decide), if_pos rfl]
    exact cs_turn PC ok N v
  · subst q
    rw [if_neg (by decide), if_neg (by decide), if_neg (by decide), if_neg (by decide), if_pos rfl]
    exact cs_rise PC ok N v u
end CY
section RL
variable {Λ : Lay} {a p : Nat} {tx ln : List Int32} {cs : List Cmd} {U : Pic} {sv : Option Pic}
theorem read_loop (PC : FrApart Λ a) (okU : PicOK U) (hN : cs.length ≤ 70) (hK : ∀ c ∈ cs, isK c.1) (h : List Pic) : ∀ (rest pre : List Cmd) (f1 : Nat) (μ : Mem) (V : Pic) (x r1 r2 r3 : Int32), cs = pre ++ rest → rest.length + 1 ≤ f1 → RC Λ μ a p x V h sv r1 r2 r3 ln U cs → (∃ c μ1 r, lpX4_read_49 Λ a f1 μ (nI cs.length) (nI pre.length) = some (c, μ1) ∧ (c = -1 ∨ c = -2 ∨ c = -3) ∧ St Λ μ1 a U h sv r []) ∨ ∃ n μ1 V' r, lpX4_read_49 Λ a f1 μ (nI cs.length) (nI pre.length) = some (nI n, μ1) ∧ n < 2 ^ 31 ∧ St Λ μ1 a V' (push h U) sv r [] := by
  intro rest
  induction rest with
  | nil =>
    intro pre f1 μ V x r1 r2 r3 ecs hf1 R
    obtain ⟨g1, rfl⟩ : ∃ k, f1 = k + 1 := ⟨f1 - 1, by omega⟩
    have el : pre.length = cs.length := by rw [ecs]; simp
    obtain ⟨μ1, e1, C1⟩ := exC_ok PC R.1 okU R.2.1 (n := cs.length) (by omega)
    refine Or.inr ⟨cs.length, μ1, V, r1, ?_, by omega, _, _, _, _, C1⟩
    rw [lp49_e, cmds_len R.2.2.1, Option.bind_some, el, if_pos (Int32.le_refl _)]
    exact e1
  | cons c rest ih =>
    intro pre f1 μ V x r1 r2 r3 ecs hf1 R
    simp only [List.length_cons] at hf1
    obtain ⟨g1, rfl⟩ : ∃ k, f1 = k + 1 + 1 := ⟨f1 - 2, by omega⟩
    have hcl : cs.length = pre.length + (rest.length + 1) := by rw [ecs]; simp
    obtain ⟨C1, K1⟩ := cinv_set PC R.1 (k := 10) (by omega) (nI pre.length)
    rw [if_pos rfl, if_neg (by omega), if_neg (by omega), if_neg (by omega)] at C1
    have R1 : RC Λ (stI μ a 10 (nI pre.length)) a p (nI pre.length) V h sv r1 r2 r3 ln U cs := R.keep C1 K1
    have get : ∀ (g : Cmd → Int32), (cs.map g)[pre.length]? = some (g c) := fun g => by
      rw [List.getElem?_map, ecs, List.getElem?_append_right (Nat.le_refl _), Nat.sub_self]; rfl
    obtain ⟨o, k1⟩ := carry PC C1.2.1 C1.1 R1.2.2.1 R1.2.2.2.1 R1.2.2.2.2 (j := pre.length) (get (fun c => c.1)) (get (fun c => c.2.1)) (get (fun c => c.2.2)) (hK c (by rw [ecs]; simp))
    have k3 := cinv_core PC C1 k1
    clear k1
    have c1 : lpX4_read_49 Λ a (g1 + 1 + 1) μ (nI cs.length) (nI pre.length) = ((sX4_carryOut Λ (stI μ a 10 (nI pre.length)) a (nI pre.length)).bind (fun q21 => (if (0 : Int32) ≤ q21.1 then lpX4_read_49 Λ a (g1 + 1) q21.2 (nI cs.length) (nI (pre.length + 1)) else (if q21.1 = (-3 : Int32) then lpX4_read_49 Λ a (g1 + 1) q21.2 (-3 : Int32) (nI (pre.length + 1)) else lpX4_read_49 Λ a (g1 + 1) q21.2 (-2 : Int32) (nI (pre.length + 1)))))) := by
      rw [lp49_e, cmds_len R.2.2.1, Option.bind_some, if_neg (by rw [nI_leI (by omega) (by omega)]; omega), if_neg (nI_pos (by omega))]
      simp only [bnd]
      rw [nI_1]
    rw [c1]
    match o, k3 with
    | .inl d, ⟨e1, hd⟩ =>
      obtain ⟨μ2, s1, s2⟩ := rc_bad PC R1 okU (c := -2) (Or.inr rfl) g1 (nI (pre.length + 1))
      refine Or.inl ⟨-2, μ2, r1, ?_, by simp, _, _, _, _, s2⟩
      rw [e1, Option.bind_some]
      dsimp only
      rw [if_neg (by rcases hd with q | q <;> rw [q] <;> decide), if_neg (by rcases hd with q | q <;> rw [q] <;> decide)]
      exact s1
    | .inr (.inl (r, w)), ⟨hr, μ2, e1, C2, K2⟩ =>
      have R2 := R1.keep C2 K2
      obtain ⟨μ3, s1, s2⟩ := rc_bad PC R2 okU (c := -3) (Or.inl rfl) g1 (nI (pre.length + 1))
      refine Or.inl ⟨-3, μ3, r, ?_, by simp, _, _, _, _, s2⟩
      rw [e1, Option.bind_some]
      dsimp only
      rw [if_neg (by decide), if_pos rfl]
      exact s1
    | .inr (.inr (n, V')), ⟨hn, μ2, e1, C2, K2⟩ =>
      have R2 := R1.keep C2 K2
      have hpl : (pre ++ [c]).length = pre.length + 1 := by simp
      have e9 : (sX4_carryOut Λ (stI μ a 10 (nI pre.length)) a (nI pre.length)).bind (fun q21 => (if (0 : Int32) ≤ q21.1 then lpX4_read_49 Λ a (g1 + 1) q21.2 (nI cs.length) (nI (pre.length + 1)) else (if q21.1 = (-3 : Int32) then lpX4_read_49 Λ a (g1 + 1) q21.2 (-3 : Int32) (nI (pre.length + 1)) else lpX4_read_49 Λ a (g1 + 1) q21.2 (-2 : Int32) (nI (pre.length + 1))))) = lpX4_read_49 Λ a (g1 + 1) μ2 (nI cs.length) (nI (pre ++ [c]).length) := by
        rw [e1, Option.bind_some]
        dsimp only
        rw [if_pos (nI_pos' hn), hpl]
      rw [e9]
      exact ih (pre ++ [c]) (g1 + 1) μ2 V' (nI pre.length) r1 r2 r3 (by rw [ecs, List.append_assoc]; rfl) (by omega) R2
end RL
theorem readC_eq (Λ : Lay) (μ : Mem) (a : Nat) : sX4_read Λ μ a = ((sX3_faultIn Λ μ (lyR Λ a 5) (lyR Λ a 4)).bind (fun q1 => (bnd q1.1 (fun v2 => ((sX2_clear Λ q1.2 (lyR Λ a 4)).bind (fun q3 => (if v2 < (0 : Int32) then ((sX0_note Λ q3 (lyR Λ a 2) (lyR Λ a 0)).bind (fun q5 => ((sX3_commands Λ q5 (lyR Λ a 5)).bind (fun q6 => (lpX4_read_49 Λ a fuel q5 q6 (0 : Int32)))))) else (some (((-100 : Int32) - v2), q3))))))))) := rfl
section RT
variable {Λ : Lay} {μ : Mem} {a : Nat} {V : Pic} {h : List Pic} {sv : Option Pic} {r0 : Int32} {tx : List Int32}
theorem op_read (PC : FrApart Λ a) (S : St Λ μ a V h sv r0 tx) : (∀ f, parseF tx 70 0 = .inr f → ∃ μ1, sX4_read Λ μ a = some (-100 - nI f, μ1) ∧ St Λ μ1 a V h sv r0 []) ∧ ∀ cs, parseF tx 70 0 = .inl cs → (∀ c ∈ cs, isK c.1) → Res Λ a V h sv (sX4_read Λ μ a) := by
  obtain ⟨p, r2, r3, ln, C⟩ := S
  have hRow : RowIs Λ μ (frW Λ a 1) tx := C.2.2.2.2.2.2.2.2.2.2.2.1
  have hl : tx.length ≤ 70 := by
    have h1 := hRow.2.1
    have h2 := PC.2.2.2.2.2.2.2.2.2.2.2 1 (by omega) (by omega)
    omega
  obtain ⟨q1, q2⟩ := fr_fault PC C hl
  rw [readC_eq]
  refine ⟨fun f hpar => ?_, fun cs hpar hK => ?_⟩
  · obtain ⟨hb, μ1, A', B', C', s1, s2, s3⟩ := q1 f hpar
    have C1 := cinv_sch PC C s3 s2
    obtain ⟨μ2, u1, u2, u3⟩ := row_clear (C1.2.2.2.2.2.2.2.2.2.2.2.1 : RowIs Λ μ1 (frW Λ a 1) tx)
    have C2 := cinv_tx PC C1 u2 u3
    have u1' : sX2_clear Λ μ1 (lyR Λ a 4) = some μ2 := u1
    refine ⟨μ2, ?_, p, r2, r3, ln, C2⟩
    rw [s1, Option.bind_some]
    simp only [bnd]
    rw [u1', Option.bind_some, if_neg (nI_pos (by omega))]
  · obtain ⟨μ1, s1, s2, s3⟩ := q2 cs hpar
    have C1 := cinv_sch PC C s3 s2
    obtain ⟨μ2, u1, u2, u3⟩ := row_clear (C1.2.2.2.2.2.2.2.2.2.2.2.1 : RowIs Λ μ1 (frW Λ a 1) tx)
    have C2 := cinv_tx PC C1 u2 u3
    have hN : cs.length ≤ 70 := by
      have h1 := s2.1.2.1
      have h2 := PC.2.2.2.2.2.2.2.2.2.2.2 2 (by omega) (by omega)
      rw [List.length_map] at h1
      omega
    obtain ⟨μ3, v1, C3, N3, K3, -⟩ := note_inv PC C2
    have rr : ∀ k, 2 ≤ k → k < 5 → ∀ l, RowIs Λ μ1 (frW Λ a k) l → RowIs Λ μ3 (frW Λ a k) l := fun k h1 h2 l H => K3 k h2 l (w_other PC (k := 1) (by omega) u3 (j := k) h2 (by omega) H)
    have R : RC Λ μ3 a p (-4) V h sv r0 r2 r3 ln V cs := ⟨C3, N3, rr 2 (by omega) (by omega) _ s2.1, rr 3 (by omega) (by omega) _ s2.2.1, rr 4 (by omega) (by omega) _ s2.2.2.1⟩
    have z := read_loop PC C2.2.1 hN hK h cs [] fuel μ3 V (-4) r0 r2 r3 rfl (by unfold fuel; omega) R
    have u1' : sX2_clear Λ μ1 (lyR Λ a 4) = some μ2 := u1
    rw [List.length_nil, nI_0] at z
    rw [s1, Option.bind_some]
    simp only [bnd]
    rw [u1', Option.bind_some, if_pos (by decide), v1, Option.bind_some, cmds_len R.2.2.1, Option.bind_some]
    exact z
def txOK (k : Nat) : Bool := match parseF (txL k) 70 0 with | .inl cs => cs.all (fun c => decide (isK c.1)) | .inr _ => false
theorem tx_parse : ∀ k, k < 20 → txOK k = true := by decide +kernel
theorem op_read0 (PC : FrApart Λ a) (S : St Λ μ a V h sv r0 []) : ∃ μ1, sX4_read Λ μ a = some (-100, μ1) ∧ St Λ μ1 a V h sv r0 [] := by
  obtain ⟨μ1, e, S1⟩ := (op_read PC S).1 0 (by decide)
  exact ⟨μ1, e, S1⟩
theorem op_text (PC : FrApart Λ a) (S : St Λ μ a V h sv r0 []) {k : Nat} (hk : k < 20) : ∃ μ1, sL_write Λ μ a k = some μ1 ∧ Res Λ a V h sv (sX4_read Λ μ1 a) := by
  obtain ⟨μ1, e, S1⟩ := op_write PC S hk
  refine ⟨μ1, e, ?_⟩
  have h1 := tx_parse k hk
  unfold txOK at h1
  cases hp : parseF (txL k) 70 0 with
  | inl cs =>
    rw [hp] at h1
    exact (op_read PC S1).2 cs hp (fun c hc => of_decide_eq_true (List.all_eq_true.mp h1 c hc))
  | inr f => rw [hp] at h1; cases h1
end RT
