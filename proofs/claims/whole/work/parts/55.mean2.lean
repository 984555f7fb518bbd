/-! BOTH, WHOLE: the mean, asked. -/
theorem bits42 (Λ : Lay) (μ : Mem) : ∀ n x1 x2 x3, lpX4_bitsOf_42 Λ μ n x1 x2 x3 = lpX4_bitsOf_42 lay0 mem0 n x1 x2 x3 := by
  intro n
  induction n with
  | zero => intro x1 x2 x3; rfl
  | succ n ih =>
    intro x1 x2 x3
    rw [lpX4_bitsOf_42_s, lpX4_bitsOf_42_s]
    simp only [bnd, ih]
theorem bits15 (Λ : Lay) (μ : Mem) : ∀ n x1 x2 x3, lpX4_bitsOf_15 Λ μ n x1 x2 x3 = lpX4_bitsOf_15 lay0 mem0 n x1 x2 x3 := by
  intro n
  induction n with
  | zero => intro x1 x2 x3; rfl
  | succ n ih =>
    intro x1 x2 x3
    rw [lpX4_bitsOf_15_s, lpX4_bitsOf_15_s]
    simp only [bnd, ih, bits42 Λ μ]
theorem bits_free (Λ : Lay) (μ : Mem) (x : UInt32) : sX4_bitsOf Λ μ x = sX4_bitsOf lay0 mem0 x := by
  unfold sX4_bitsOf
  rw [bits15]
section ME
variable {Λ Λ' : Lay} {μ μ' : Mem} {a b : Nat} {w p : List Nat} {rd sl : Nat → List Nat} {j c t : Int32}
theorem md_meanL (M : NowIs Λ μ (lyR Λ a 0) w sl j c t) (O : RvOK w p rd) (X : Rel rd sl) (hw : 0 < w.length) (hv : ∀ s, s < 133 → ((FP.fdiv (FP.i2f (nI s)) (FP.i2f (nI w.length))) &&& (0x7fffffff : UInt32) ≤ (0x7f800000 : UInt32))) : ∀ n i s, i ≤ w.length → w.length - i < n → s ≤ 11 * i → lpX5_mean_4 Λ μ a n (nI s) (nI i) = (sJxf58ca_floatToIntBits_5c35a Λ μ (FP.fdiv (FP.i2f (nI (itr (fun k s => s + depA w rd k) i (w.length - i) s))) (FP.i2f (nI w.length)))) := by
  have S := rel_ok O X
  have hn12 := O.1
  intro n
  induction n with
  | zero => intro i s hi hn; omega
  | succ n ih =>
    intro i s hi hn hs
    rw [lpX5_mean_4_s, md_n M, md_n0 M]
    by_cases e : i = w.length
    · subst e
      rw [if_pos ((nI_leI (by omega) (by omega)).mpr (Nat.le_refl _)), Nat.sub_self, md_n M, if_neg (by rw [nI_lit0, nI_eq (by omega) (by omega)]; omega), md_n M, gd_t (hv s (by omega))]
      show (sJxf58ca_floatToIntBits_5c35a Λ μ (FP.fdiv (FP.i2f (nI s)) (FP.i2f (nI w.length)))).bind some = _
      have bs : ∀ x : Option Int32, x.bind some = x := fun x => by cases x <;> rfl
      rw [bs]
      rfl
    · have hi' : i < w.length := by omega
      obtain ⟨r, k, hr, hir, hk, ek⟩ := rel_at O X hi'
      have hd : sX5_depth Λ μ a (nI i) = some (nI (depA w rd i)) := by
        rw [md_depth M S hk (by rw [ek]; exact hir), ek]
        unfold depA
        rw [rtF_of O hr hir]
      have hlt := depA_lt O hi'
      rw [if_neg (by rw [nI_leI (by omega) (by omega)]; omega), hd, Option.bind_some]
      simp only [bnd]
      rw [nI_1, nI_add, show w.length - i = (w.length - (i + 1)) + 1 by omega, itr]
      exact ih (i + 1) (s + depA w rd i) (by omega) (by omega) (by omega)
theorem as_mean (I : Inv Λ μ a Λ' μ' b) : ∃ r, sX4_mean Λ μ a = some r ∧ sX5_mean Λ' μ' b = some r := by
  obtain ⟨V, N, M, ok⟩ := inv_pic I
  have hn := ok.1.1
  unfold sX4_mean sX5_mean
  have q0 : sX1_banks Λ μ (lyR Λ a 0) = some (nI V.w.length) := rv_banks N.1
  have q1 : sX1_sumOfDepths Λ μ (lyR Λ a 0) = some (nI (sumTo V.w.length (depA V.w V.rd))) := rv_sumD N.1 ok.1
  rw [q0, Option.bind_some]
  by_cases c : 0 < V.w.length
  · obtain ⟨m, hm⟩ : ∃ m, V.w.length = m + 1 := ⟨V.w.length - 1, by omega⟩
    have hs : sumTo V.w.length (depA V.w V.rd) ≤ V.w.length * 11 := sumTo_const (fun k hk => by have := depA_lt ok.1 hk; omega)
    obtain ⟨g1, g2, g3⟩ := mean_all (sumTo V.w.length (depA V.w V.rd)) (by omega) m (by omega)
    rw [← hm] at g1 g2 g3
    have hv : ∀ s, s < 133 → ((FP.fdiv (FP.i2f (nI s)) (FP.i2f (nI V.w.length))) &&& (0x7fffffff : UInt32) ≤ (0x7f800000 : UInt32)) := fun s hs => by
      have := (mean_all s hs m (by omega)).1
      rw [← hm] at this
      exact this
    rw [if_pos (by rw [nI_lit0, nI_ltI (by omega) (by omega)]; exact c), q1, Option.bind_some, gd_t g1, nI_lit0, md_meanL M ok.1 ok.2 c hv fuel 0 0 (by omega) (by unfold fuel; omega) (by omega), Nat.sub_zero, itr_sum0]
    have g2' : sX4_bitsOf Λ μ (FP.fdiv (FP.i2f (nI (sumTo V.w.length (depA V.w V.rd)))) (FP.i2f (nI V.w.length))) = _ := (bits_free Λ μ _).trans g2
    have g3' : sJxf58ca_floatToIntBits_5c35a Λ' μ' (FP.fdiv (FP.i2f (nI (sumTo V.w.length (depA V.w V.rd)))) (FP.i2f (nI V.w.length))) = _ := g3
    rw [g2', g3']
    exact ⟨_, rfl, rfl⟩
  · have e0 : V.w.length = 0 := by omega
    rw [if_neg (by rw [e0]; decide)]
    refine ⟨-4, rfl, ?_⟩
    rw [show fuel = 4095 + 1 from rfl, lpX5_mean_4_s, md_n M, md_n0 M, e0, if_pos (by decide), md_n M, if_pos (show nI 0 = (0 : Int32) from rfl)]
end ME
