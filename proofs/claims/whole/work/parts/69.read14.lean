/-! READING: the reference counts the commands. -/
section RR
variable {Λ : Lay} {b : Nat} {tx : List Int32}
theorem TxtM.frA {μ ν : Mem} (T : TxtM Λ μ b tx) (F : SFr μ ν b kAll) : TxtM Λ ν b tx := ⟨by rw [F.1 b 15 (fun q => by have := q.2; omega)]; exact T.1, T.2.1, T.2.2.1, fun k hk => by rw [F.arr]; exact T.2.2.2 k hk⟩
theorem count_f {μ : Mem} {x : Int32} {n : Nat} (h : mI μ b 20 = 1) : lpX5_countCommands_16 Λ b (n + 1) μ x = some (x, μ) := by
  rw [lpX5_countCommands_16_s, if_neg (by rw [h]; decide)]
theorem md_parse (hz : ∀ z ∈ tx, 32 ≤ z.toInt ∧ z.toInt ≤ 126) : ∀ n q fl i (μ : Mem) (y : Nat), q + n = 70 → q ≤ i → n + 1 < fl → i ≤ tx.length + 1 → TxtM Λ μ b tx → mI μ b 20 = 0 → mI μ b 16 = nI i → (∀ f, parseF tx n i = .inr f → ∃ x μ1, (sX5_readCommand Λ μ b).bind (fun q3 => lpX5_countCommands_16 Λ b fl q3 (nI (y + 1))) = some (x, μ1) ∧ mI μ1 b 20 = 1 ∧ mI μ1 b 16 = nI f ∧ SFr μ μ1 b kAll) ∧ (∀ cs, parseF tx n i = .inl cs → ∃ μ1, (sX5_readCommand Λ μ b).bind (fun q3 => lpX5_countCommands_16 Λ b fl q3 (nI (y + 1))) = some (nI (y + cs.length), μ1) ∧ mI μ1 b 20 = 0 ∧ SFr μ μ1 b kAll) := by
  intro n
  induction n with
  | zero =>
    intro q fl i μ y hq hqi hf hi T h20 h16
    have hl := T.2.1
    obtain ⟨fl', rfl⟩ : ∃ k, fl = k + 1 := ⟨fl - 1, by omega⟩
    refine ⟨fun f h => ?_, fun cs h => by cases h⟩
    have : i = f := Sum.inr.inj h
    subst this
    obtain ⟨μ1, r1, r2, r3, r4⟩ := (md_cmd T hz h20 h16 (by omega)).1 i (cmdF_out (by omega))
    rw [r1, Option.bind_some, count_f r2]
    exact ⟨_, μ1, rfl, r2, r3, r4⟩
  | succ n ih =>
    intro q fl i μ y hq hqi hf hi T h20 h16
    have hl := T.2.1
    obtain ⟨fl', rfl⟩ : ∃ k, fl = k + 1 := ⟨fl - 1, by omega⟩
    obtain ⟨fl2, rfl⟩ : ∃ k, fl' = k + 1 := ⟨fl' - 1, by omega⟩
    obtain ⟨c1, c2⟩ := md_cmd T hz h20 h16 (by omega)
    refine ⟨fun f h => ?_, fun cs h => ?_⟩
    · rcases parse_inr h with e | ⟨k, v, u, m, e, hm, hh⟩
      · obtain ⟨μ1, r1, r2, r3, r4⟩ := c1 f e
        rw [r1, Option.bind_some, count_f r2]
        exact ⟨_, μ1, rfl, r2, r3, r4⟩
      · obtain ⟨-, hml, μ1, r1, r2, r3, -, -, -, r4⟩ := c2 k v u m e
        have T1 := T.frA r4
        have hci := cmd_in e
        have him := cmdF_gt e
        rw [r1, Option.bind_some, lpX5_countCommands_16_s, if_pos r2, T1.1, r3, if_neg (by rw [nI_leI (by omega) (by omega)]; omega)]
        obtain ⟨μ2, s1, s2, s3, s4⟩ := must_eq (c := 59) T1 r2 r3 (by omega) (by decide)
        rw [s1, Option.bind_some]
        rcases hh with ⟨d1, d2⟩ | ⟨d1, d2⟩
        · rw [if_neg d1] at s2 s3
          obtain ⟨μ3, t1, t2, t3, t4⟩ := cmd_f (Λ := Λ) s2
          rw [t1, Option.bind_some]
          simp only [bnd]
          rw [count_f t2]
          exact ⟨_, μ3, rfl, t2, by rw [t3, s3, d2], (r4.tr (s4.wk kAll16)).tr t4⟩
        · rw [if_pos d1] at s2 s3
          obtain ⟨i1, i2⟩ := ih (q + 1) (fl2 + 1) (m + 1) μ2 (y + 1) (by omega) (by omega) (by omega) (by omega) (T1.fr s4) s2 s3
          obtain ⟨x, μ3, t1, t2, t3, t4⟩ := i1 f d2
          simp only [bnd]
          rw [nI_1]
          exact ⟨x, μ3, t1, t2, t3, (r4.tr (s4.wk kAll16)).tr t4⟩
    · obtain ⟨k, v, u, m, cs', e, ecs, hh⟩ := parse_inl h
      obtain ⟨-, hml, μ1, r1, r2, r3, -, -, -, r4⟩ := c2 k v u m e
      have T1 := T.frA r4
      subst ecs
      rw [r1, Option.bind_some, lpX5_countCommands_16_s, if_pos r2, T1.1, r3]
      rcases hh with ⟨d1, d2⟩ | ⟨d1, d2, d3⟩
      · subst d2
        rw [if_pos (by rw [d1]; exact Int32.le_refl _)]
        exact ⟨μ1, rfl, r2, r4⟩
      · rw [if_neg (by rw [nI_leI (by omega) (by omega)]; omega)]
        obtain ⟨μ2, s1, s2, s3, s4⟩ := must_eq (c := 59) T1 r2 r3 (by omega) (by decide)
        rw [if_pos d2] at s2 s3
        rw [s1, Option.bind_some]
        obtain ⟨i1, i2⟩ := ih (q + 1) (fl2 + 1) (m + 1) μ2 (y + 1) (by omega) (by
          have := cmdF_gt e
          omega) (by omega) (by omega) (T1.fr s4) s2 s3
        obtain ⟨μ3, t1, t2, t4⟩ := i2 cs' d3
        simp only [bnd]
        rw [nI_1]
        refine ⟨μ3, ?_, t2, (r4.tr (s4.wk kAll16)).tr t4⟩
        rw [t1]
        simp only [List.length_cons]
        rw [show y + 1 + cs'.length = y + (cs'.length + 1) by omega]
end RR
