/-! THE LAW'S DIGEST, and its check of everything: told of the picture. -/
def accV (V : Pic) (k : Nat) : Int32 := ([nI V.w.length, nI (V.w.length - cntTo 12 (rooted V.rd)), nI (cntTo 12 (rooted V.rd)), nI (sumTo V.w.length (wt V.w)), nI (sumTo 12 (fun k => (V.rd k).length)), V.j, V.c, V.t, nI (maxTo V.w.length (depA V.w V.rd))] : List Int32).getD k 0
def dgA (V : Pic) (k : Nat) (h : Int64) : Int64 := (31 : Int64) * h + Int32.toInt64 (accV V k)
def dgR (V : Pic) (b j : Nat) (h : Int64) : Int64 := (31 : Int64) * h + Int32.toInt64 (nI ((V.rd (rtF V.rd b)).getD j 0))
def dgB (V : Pic) (b : Nat) (h : Int64) : Int64 := itr (dgR V b) 0 (V.rd (rtF V.rd b)).length ((31 : Int64) * h + Int32.toInt64 (nI (wt V.w b)))
def dg (V : Pic) : Int64 := itr (dgB V) 0 V.w.length (itr (dgA V) 0 9 7)
section DG
variable {Λ : Lay} {μ : Mem} {a : Nat} {V : Pic}
theorem acc_k (N : RvV Λ μ (lyR Λ a 0) V) (ok : PicOK V) {k : Nat} (hk : k < 9) : sX4_account Λ μ a (nI k) = some (accV V k) := by
  have : k = 0 ∨ k = 1 ∨ k = 2 ∨ k = 3 ∨ k = 4 ∨ k = 5 ∨ k = 6 ∨ k = 7 ∨ k = 8 := by omega
  rcases this with q | q | q | q | q | q | q | q | q <;> subst q
  · exact qa0 N ok
  · exact qa1 N ok
  · exact qa2 N ok
  · exact qa3 N ok
  · exact qa4 N ok
  · exact qa5 N ok
  · exact qa6 N ok
  · exact qa7 N ok
  · exact qa8 N ok
theorem dg59 (N : RvV Λ μ (lyR Λ a 0) V) (ok : PicOK V) {b : Nat} (hb : b < V.w.length) (k : Int64 → Option Int64) : ∀ m j n (h : Int64), j + m = (V.rd (rtF V.rd b)).length → m < n → lpL_digest_59 Λ μ a (nI b) k n h (nI j) = k (itr (dgR V b) j m h) := by
  obtain ⟨hr, hbr⟩ := rtF_in ok.1 hb
  have hL := rv_lenK ok.1 hr
  intro m
  induction m with
  | zero =>
    intro j n h hj hn0
    obtain ⟨n, rfl⟩ : ∃ n', n = n' + 1 := ⟨n - 1, by omega⟩
    rw [lpL_digest_59_s, qp1 N ok hr hbr, Option.bind_some, if_pos (by rw [nI_leI (by omega) (by omega)]; omega)]
    rfl
  | succ m ih =>
    intro j n h hj hn0
    obtain ⟨n, rfl⟩ : ∃ n', n = n' + 1 := ⟨n - 1, by omega⟩
    have hjl : j < (V.rd (rtF V.rd b)).length := by omega
    have e : (V.rd (rtF V.rd b)).getD j 0 = (V.rd (rtF V.rd b))[j] := by rw [List.getD_eq_getElem?_getD, List.getElem?_eq_getElem hjl]; rfl
    rw [lpL_digest_59_s, qp1 N ok hr hbr, Option.bind_some, if_neg (by rw [nI_leI (by omega) (by omega)]; omega), qr_in N ok hr hbr hjl, Option.bind_some, ← e]
    simp only [bnd]
    rw [nI_1]
    exact ih (j + 1) n _ (by omega) (by omega)
theorem dg33 (N : RvV Λ μ (lyR Λ a 0) V) (ok : PicOK V) : ∀ m b n (h : Int64), b + m = V.w.length → m < n → lpL_digest_33 Λ μ a n h (nI b) = some (itr (dgB V) b m h) := by
  have hn := ok.1.1
  intro m
  induction m with
  | zero =>
    intro b n h hb hn0
    obtain ⟨n, rfl⟩ : ∃ n', n = n' + 1 := ⟨n - 1, by omega⟩
    rw [lpL_digest_33_s, qa0 N ok, Option.bind_some, if_pos (by rw [nI_leI (by omega) (by omega)]; omega)]
    rfl
  | succ m ih =>
    intro b n h hb hn0
    obtain ⟨n, rfl⟩ : ∃ n', n = n' + 1 := ⟨n - 1, by omega⟩
    have hbn : b < V.w.length := by omega
    obtain ⟨hr, hbr⟩ := rtF_in ok.1 hbn
    have hL := rv_lenK ok.1 hr
    rw [lpL_digest_33_s, qa0 N ok, Option.bind_some, if_neg (by rw [nI_leI (by omega) (by omega)]; omega), qb0 N ok hr hbr, Option.bind_some]
    rw [bnd_b, show (0 : Int32) = nI 0 from rfl, dg59 N ok hbn _ (V.rd (rtF V.rd b)).length 0 fuel _ (by omega) (by unfold fuel; omega), bnd_b, nI_1, ih (b + 1) n _ (by omega) (by omega)]
    rfl
theorem dg6 (N : RvV Λ μ (lyR Λ a 0) V) (ok : PicOK V) : ∀ m k n (h : Int64), k + m = 9 → m < n → lpL_digest_6 Λ μ a n h (nI k) = lpL_digest_33 Λ μ a fuel (itr (dgA V) k m h) 0 := by
  intro m
  induction m with
  | zero =>
    intro k n h hk hn0
    obtain ⟨n, rfl⟩ : ∃ n', n = n' + 1 := ⟨n - 1, by omega⟩
    rw [lpL_digest_6_s, if_pos (show (9 : Int32) ≤ nI k by rw [show (9 : Int32) = nI 9 from rfl, nI_leI (by omega) (by omega)]; omega)]
    rfl
  | succ m ih =>
    intro k n h hk hn0
    obtain ⟨n, rfl⟩ : ∃ n', n = n' + 1 := ⟨n - 1, by omega⟩
    rw [lpL_digest_6_s, if_neg (show ¬ (9 : Int32) ≤ nI k by rw [show (9 : Int32) = nI 9 from rfl, nI_leI (by omega) (by omega)]; omega), acc_k N ok (by omega), Option.bind_some]
    simp only [bnd]
    rw [nI_1]
    exact ih (k + 1) n _ (by omega) (by omega)
theorem lw_digest (N : RvV Λ μ (lyR Λ a 0) V) (ok : PicOK V) : sL_digest Λ μ a = some (dg V) := by
  have hn := ok.1.1
  unfold sL_digest
  simp only [bnd]
  have z := dg6 N ok 9 0 fuel 7 (by omega) (by unfold fuel; omega)
  have z : lpL_digest_6 Λ μ a fuel 7 0 = _ := z
  rw [z]
  exact dg33 N ok V.w.length 0 fuel _ (by omega) (by unfold fuel; omega)
theorem fit74 (N : RvV Λ μ (lyR Λ a 0) V) (ok : PicOK V) {g : Nat} (hg : g < V.w.length) (x2 x3 : Int32) (k : Int32 → Option Int32) : ∀ m o n, o + m = V.w.length → m < n → lpL_isFit_74 Λ μ a x2 x3 (nI g) k n 1 (nI o) = k 1 := by
  have hn := ok.1.1
  intro m
  induction m with
  | zero =>
    intro o n ho hn0
    obtain ⟨n, rfl⟩ : ∃ n', n = n' + 1 := ⟨n - 1, by omega⟩
    rw [lpL_isFit_74_s, if_neg z10, qa0 N ok, Option.bind_some, if_pos (by rw [nI_leI (by omega) (by omega)]; omega)]
  | succ m ih =>
    intro o n ho hn0
    obtain ⟨n, rfl⟩ : ∃ n', n = n' + 1 := ⟨n - 1, by omega⟩
    rw [lpL_isFit_74_s, if_neg z10, qa0 N ok, Option.bind_some, if_neg (by rw [nI_leI (by omega) (by omega)]; omega), lw_pair N ok hg (by omega), Option.bind_some]
    simp only [bnd]
    rw [nI_1]
    exact ih (o + 1) n (by omega) (by omega)
theorem fit28 (N : RvV Λ μ (lyR Λ a 0) V) (ok : PicOK V) : ∀ m g n, g + m = V.w.length → m < n → lpL_isFit_28 Λ μ a n 1 (nI (sumTo g (depA V.w V.rd))) (nI (maxTo g (depA V.w V.rd))) (nI g) = some 1 := by
  have hn := ok.1.1
  intro m
  induction m with
  | zero =>
    intro g n hg hn0
    obtain ⟨n, rfl⟩ : ∃ n', n = n' + 1 := ⟨n - 1, by omega⟩
    obtain rfl : g = V.w.length := by omega
    rw [lpL_isFit_28_s, bnd_b, if_neg z10, qa0 N ok, Option.bind_some, if_pos (Int32.le_refl _)]
    simp only [bnd]
    rw [if_neg z10, qa8 N ok, Option.bind_some, if_pos rfl, q_mean N ok, Option.bind_some, Option.bind_some]
    unfold meanV
    by_cases c : V.w.length = 0
    · rw [if_pos (show nI V.w.length = (0 : Int32) by rw [c]; rfl), if_pos c, if_pos rfl, gd_t (Or.inr rfl)]
    · obtain ⟨m, hm⟩ : ∃ m, V.w.length = m + 1 := ⟨V.w.length - 1, by omega⟩
      have hs : sumTo V.w.length (depA V.w V.rd) ≤ V.w.length * 11 := sumTo_const (fun k hk => by have := depA_lt ok.1 hk; omega)
      obtain ⟨g1, g2, g3⟩ := mean_all (sumTo V.w.length (depA V.w V.rd)) (by omega) m (by omega)
      rw [← hm] at g1 g2 g3
      have g3' : sJxf58ca_floatToIntBits_5c35a Λ μ (FP.fdiv (FP.i2f (nI (sumTo V.w.length (depA V.w V.rd)))) (FP.i2f (nI V.w.length))) = _ := g3
      rw [if_neg (show ¬ nI V.w.length = (0 : Int32) from fun q => c ((nI_eq (b := 0) (by omega) (by omega)).mp q)), Option.bind_some, gd_t g1, g3', Option.bind_some, if_neg c, if_pos rfl, gd_t (Or.inr rfl)]
  | succ m ih =>
    intro g n hg hn0
    obtain ⟨n, rfl⟩ : ∃ n', n = n' + 1 := ⟨n - 1, by omega⟩
    have hgn : g < V.w.length := by omega
    obtain ⟨hr, hgr⟩ := rtF_in ok.1 hgn
    have hd := depA_lt ok.1 hgn
    have hm12 : maxTo g (depA V.w V.rd) ≤ 12 := maxTo_le.mpr (fun k hk => by have := depA_lt ok.1 (b := k) (by omega); omega)
    have q2 : sX4_bankOf Λ μ a (nI g) (2 : Int32) = some (nI (depA V.w V.rd g)) := qb2 N ok hr hgr
    have em : (if nI (maxTo g (depA V.w V.rd)) < nI (depA V.w V.rd g) then nI (depA V.w V.rd g) else nI (maxTo g (depA V.w V.rd))) = nI (maxTo (g + 1) (depA V.w V.rd)) := by
      rw [maxTo]
      by_cases c : maxTo g (depA V.w V.rd) < depA V.w V.rd g
      · rw [if_pos ((nI_ltI (by omega) (by omega)).mpr c), Nat.max_eq_right (by omega)]
      · rw [if_neg (by rw [nI_ltI (by omega) (by omega)]; exact c), Nat.max_eq_left (by omega)]
    have es : nI (sumTo g (depA V.w V.rd)) + nI (depA V.w V.rd g) = nI (sumTo (g + 1) (depA V.w V.rd)) := nI_add _ _
    have z := fit74 N ok hgn (nI (sumTo (g + 1) (depA V.w V.rd))) (nI (maxTo (g + 1) (depA V.w V.rd))) (fun x1_z31 => lpL_isFit_28 Λ μ a n x1_z31 (nI (sumTo (g + 1) (depA V.w V.rd))) (nI (maxTo (g + 1) (depA V.w V.rd))) (nI (g + 1))) V.w.length 0 fuel (by omega) (by unfold fuel; omega)
    rw [lpL_isFit_28_s, bnd_b, if_neg z10, qa0 N ok, Option.bind_some, if_neg (by rw [nI_leI (by omega) (by omega)]; omega), q2, Option.bind_some]
    simp only [bnd]
    rw [Option.bind_some, lw_bank N ok hr hgr, Option.bind_some, es, em, nI_1]
    refine Eq.trans z ?_
    exact ih (g + 1) n (by omega) (by omega)
theorem lw_fit (N : RvV Λ μ (lyR Λ a 0) V) (ok : PicOK V) : sL_isFit Λ μ a = some 1 := by
  have hn := ok.1.1
  have z := fit28 N ok V.w.length 0 fuel (by omega) (by unfold fuel; omega)
  unfold sL_isFit
  rw [lw_parts N ok, Option.bind_some]
  simp only [bnd, z10, ↓reduceIte]
  rw [q_well N ok, Option.bind_some, if_pos rfl]
  exact z
end DG
