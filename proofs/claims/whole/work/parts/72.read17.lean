/-! READING: the two loops, side by side. -/
section RL
variable {Λ Λ' : Lay} {a b : Nat} {tx ln : List Int32} {cs : List Cmd} {U : Pic} {p : Nat} {sv : Option Pic}
theorem cmds_len {μ : Mem} (H : RowIs Λ μ (frW Λ a 2) (cs.map (fun c => c.1))) : sX3_commands Λ μ (lyR Λ a 5) = some (nI cs.length) := by
  have e := row_len H
  rw [List.length_map] at e
  have e' : sX2_length Λ μ (lyR Λ (lyR Λ a 5) 0) = some (nI cs.length) := e
  unfold sX3_commands
  rw [e']; rfl
def RC (Λ : Lay) (μ : Mem) (a p : Nat) (x : Int32) (V : Pic) (h : List Pic) (sv : Option Pic) (r1 r2 r3 : Int32) (ln : List Int32) (U : Pic) (cs : List Cmd) : Prop :=
  CInv Λ μ a p x V h sv r1 r2 r3 ln [] ∧ RvV Λ μ (frR Λ a (2 + p)) U ∧ RowIs Λ μ (frW Λ a 2) (cs.map (fun c => c.1)) ∧ RowIs Λ μ (frW Λ a 3) (cs.map (fun c => c.2.1)) ∧ RowIs Λ μ (frW Λ a 4) (cs.map (fun c => c.2.2))
def RM (Λ : Lay) (μ : Mem) (b : Nat) (V : Pic) (h : List Pic) (sv : Option Pic) (r1 r2 m3 : Int32) (ln tx : List Int32) (U : Pic) (i : Nat) : Prop :=
  MInv Λ μ b 1 V h sv r1 r2 m3 ln tx ∧ TxtM Λ μ b tx ∧ mI μ b 20 = 0 ∧ mI μ b 16 = nI i ∧ NowV Λ μ (lyR Λ b 2) U
theorem RC.keep {μ μ1 : Mem} {x y : Int32} {V V' : Pic} {h h' : List Pic} {r1 r2 r3 s1 s2 s3 : Int32} (R : RC Λ μ a p x V h sv r1 r2 r3 ln U cs) (C : CInv Λ μ1 a p y V' h' sv s1 s2 s3 ln []) (K : CKeep Λ μ μ1 a p) : RC Λ μ1 a p y V' h' sv s1 s2 s3 ln U cs :=
  ⟨C, K.2.2 U R.2.1, K.1 2 (by omega) _ R.2.2.1, K.1 3 (by omega) _ R.2.2.2.1, K.1 4 (by omega) _ R.2.2.2.2⟩
theorem rc_bad {μ : Mem} {x : Int32} {V : Pic} {h : List Pic} {r1 r2 r3 : Int32} (P : FrApart Λ a) (R : RC Λ μ a p x V h sv r1 r2 r3 ln U cs) (ok : PicOK U) {c : Int32} (hc : c = -3 ∨ c = -2) (n : Nat) (y : Int32) : ∃ μ1, lpX4_read_49 Λ a (n + 1) μ c y = some (c, μ1) ∧ CInv Λ μ1 a p (-4) U h sv r1 r2 r3 ln [] := by
  obtain ⟨μ1, e1, C1⟩ := exC_bad P R.1 ok R.2.1 hc
  refine ⟨μ1, ?_, C1⟩
  have c2 : c < 0 := by rcases hc with q | q <;> rw [q] <;> decide
  rw [lp49_e, cmds_len R.2.2.1, Option.bind_some]
  by_cases q : nI cs.length ≤ y
  · rw [if_pos q]; exact e1
  · rw [if_neg q, if_pos c2]; exact e1
theorem rm_bad {μ : Mem} {y : Int32} {V : Pic} {h : List Pic} {r1 r2 m3 : Int32} (P : MdApart Λ b) (M : MInv Λ μ b y V h sv r1 r2 m3 ln tx) (N : NowV Λ μ (lyR Λ b 2) U) (ok : PicOK U) {c : Int32} (hc : c < 0) (n : Nat) (x z : Int32) : ∃ μ1, lpX5_read_50 Λ b x (n + 1) μ c z = some (if c = -3 then -3 else -2, μ1) ∧ MInv Λ μ1 b 0 U h sv r1 r2 m3 ln [] := by
  obtain ⟨μ1, e1, M1⟩ := exM_bad (x := x) P M ok N hc
  refine ⟨μ1, ?_, M1⟩
  rw [lp50_e]
  by_cases q : x ≤ z
  · rw [if_pos q]; exact e1
  · rw [if_neg q, if_pos hc]; exact e1
theorem read_loop (PC : FrApart Λ a) (PM : MdApart Λ' b) (hz : ∀ z ∈ tx, 32 ≤ z.toInt ∧ z.toInt ≤ 126) (okU : PicOK U) (hN : cs.length ≤ 70) : ∀ (rest pre : List Cmd) (nn i f1 f2 : Nat) (μ μ' : Mem) (V : Pic) (h : List Pic) (x ans r1 r2 r3 m3 : Int32), cs = pre ++ rest → (rest = [] ∨ parseF tx nn i = .inl rest) → i ≤ tx.length + 1 → rest.length + 1 ≤ f1 → rest.length + 1 ≤ f2 → RC Λ μ a p x V h sv r1 r2 r3 ln U cs → RM Λ' μ' b V h sv r1 r2 m3 ln tx U i → Rsn r1 r3 m3 [] → (0 : Int32) ≤ ans → ∃ r μ1 μ1', lpX4_read_49 Λ a f1 μ (nI cs.length) (nI pre.length) = some (r, μ1) ∧ lpX5_read_50 Λ' b (nI cs.length) f2 μ' ans (nI pre.length) = some (r, μ1') ∧ Inv Λ μ1 a Λ' μ1' b := by
  intro rest
  induction rest with
  | nil =>
    intro pre nn i f1 f2 μ μ' V h x ans r1 r2 r3 m3 ecs _ hi hf1 hf2 R M hR hans
    obtain ⟨g1, rfl⟩ : ∃ k, f1 = k + 1 := ⟨f1 - 1, by omega⟩
    obtain ⟨g2, rfl⟩ : ∃ k, f2 = k + 1 := ⟨f2 - 1, by omega⟩
    have el : pre.length = cs.length := by rw [ecs]; simp
    obtain ⟨μ1, e1, C1⟩ := exC_ok PC R.1 okU R.2.1 (n := cs.length) (by omega)
    obtain ⟨μ1', e1', M1⟩ := exM_ok (x := nI cs.length) PM M.1 okU M.2.2.2.2 hans
    refine ⟨nI cs.length, μ1, μ1', ?_, ?_, _, V, _, sv, r1, r2, r3, m3, ln, [], C1, M1, hR⟩
    · rw [lp49_e, cmds_len R.2.2.1, Option.bind_some, el, if_pos (Int32.le_refl _)]
      exact e1
    · rw [lp50_e, el, if_pos (Int32.le_refl _)]
      exact e1'
  | cons c rest ih =>
    intro pre nn i f1 f2 μ μ' V h x ans r1 r2 r3 m3 ecs hp hi hf1 hf2 R M hR hans
    simp only [List.length_cons] at hf1 hf2
    obtain ⟨g1, rfl⟩ : ∃ k, f1 = k + 1 + 1 := ⟨f1 - 2, by omega⟩
    obtain ⟨g2, rfl⟩ : ∃ k, f2 = k + 1 + 1 := ⟨f2 - 2, by omega⟩
    have hcl : cs.length = pre.length + (rest.length + 1) := by rw [ecs]; simp
    have hp' : parseF tx nn i = .inl (c :: rest) := hp.elim (fun q => by cases q) id
    obtain ⟨n2, rfl⟩ : ∃ k, nn = k + 1 := by
      cases nn with
      | zero => cases hp'
      | succ k => exact ⟨k, rfl⟩
    obtain ⟨k, v, u, m, cs', ec, e2, hh⟩ := parse_inl hp'
    have e3 : c = (k, v, u) := (List.cons.inj e2).1
    have e4 : rest = cs' := (List.cons.inj e2).2
    subst e3 e4
    have hl := M.2.1.2.1
    have hml := cmdF_kn ec
    -- the reference reads the command
    have F8 : ∀ j, j ≠ 8 → mI (stI μ' b 8 (nI pre.length)) b j = mI μ' b j := fun j hj => mI_ne (fun q => hj q.2)
    have T8 : TxtM Λ' (stI μ' b 8 (nI pre.length)) b tx := ⟨by rw [F8 15 (by omega)]; exact M.2.1.1, M.2.1.2.1, M.2.1.2.2.1, fun k hk => M.2.1.2.2.2 k hk⟩
    obtain ⟨hk, -, ν, q1, q2, q3, q4, q5, q6, q7⟩ := (md_cmd T8 hz (by rw [F8 20 (by omega)]; exact M.2.2.1) (by rw [F8 16 (by omega)]; exact M.2.2.2.1) (by omega)).2 k v u m ec
    have G : SFr (stI μ' b 8 (nI pre.length)) (stI ν b 16 (mI ν b 16 + 1)) b kAll := q7.tr (SFr.st (by decide))
    have g8 : mI (stI ν b 16 (mI ν b 16 + 1)) b 8 = nI pre.length := by rw [G.1 b 8 (fun q => by have := q.2; omega), mI_self]
    have M1 : MInv Λ' (stI ν b 16 (mI ν b 16 + 1)) b 1 V h sv r1 r2 m3 ln tx := minv_fr M.1 (fun j hj => by rw [G.1 b j (fun q => by have := q.2; omega), F8 j (by omega)]) (G.2.trans rfl)
    have N1 : NowV Λ' (stI ν b 16 (mI ν b 16 + 1)) (lyR Λ' b 2) U := M.2.2.2.2.sm (G.arr _)
    -- the class takes its place
    obtain ⟨C1, K1⟩ := cinv_set PC R.1 (k := 10) (by omega) (nI pre.length)
    rw [if_pos rfl, if_neg (by omega), if_neg (by omega), if_neg (by omega)] at C1
    have R1 : RC Λ (stI μ a 10 (nI pre.length)) a p (nI pre.length) V h sv r1 r2 r3 ln U cs := R.keep C1 K1
    have get : ∀ (g : Cmd → Int32), (cs.map g)[pre.length]? = some (g (k, v, u)) := fun g => by
      rw [List.getElem?_map, ecs, List.getElem?_append_right (Nat.le_refl _), Nat.sub_self]; rfl
    obtain ⟨o, k1, k2⟩ := carry PC PM C1.2.1 C1.1 M1.1 M1.2.1 R1.2.2.1 R1.2.2.2.1 R1.2.2.2.2 (j := pre.length) (get (fun c => c.1)) (get (fun c => c.2.1)) (get (fun c => c.2.2)) hk (by rw [mI_ne (by omega)]; exact q4) (by rw [mI_ne (by omega)]; exact q5) (by rw [mI_ne (by omega)]; exact q6)
    have k3 := cinv_core PC C1 k1
    have k4 := minv_core PM M1 k2
    clear k1 k2
    have c1 : lpX4_read_49 Λ a (g1 + 1 + 1) μ (nI cs.length) (nI pre.length) = ((sX4_carryOut Λ (stI μ a 10 (nI pre.length)) a (nI pre.length)).bind (fun q21 => (if (0 : Int32) ≤ q21.1 then lpX4_read_49 Λ a (g1 + 1) q21.2 (nI cs.length) (nI (pre.length + 1)) else (if q21.1 = (-3 : Int32) then lpX4_read_49 Λ a (g1 + 1) q21.2 (-3 : Int32) (nI (pre.length + 1)) else lpX4_read_49 Λ a (g1 + 1) q21.2 (-2 : Int32) (nI (pre.length + 1)))))) := by
      rw [lp49_e, cmds_len R.2.2.1, Option.bind_some, if_neg (by rw [nI_leI (by omega) (by omega)]; omega), if_neg (nI_pos (by omega))]
      simp only [bnd]
      rw [nI_1]
    have c2 : lpX5_read_50 Λ' b (nI cs.length) (g2 + 1 + 1) μ' ans (nI pre.length) = ((sX5_carryOut Λ' (stI ν b 16 (mI ν b 16 + 1)) b).bind (fun q24 => lpX5_read_50 Λ' b (nI cs.length) (g2 + 1) q24.2 q24.1 (nI (pre.length + 1)))) := by
      rw [lp50_e, if_neg (by rw [nI_leI (by omega) (by omega)]; omega), if_neg (by rw [Int32.lt_iff_toInt_lt]; rw [Int32.le_iff_toInt_le] at hans; omega)]
      simp only [bnd]
      rw [q1, Option.bind_some, nI_1]
    rw [c1, c2]
    match o, k3, k4 with
    | .inl d, ⟨e1, hd⟩, k4 =>
      have hneg : d < 0 := by rcases hd with q | q <;> rw [q] <;> decide
      obtain ⟨μ2, s1, s2⟩ := rc_bad PC R1 okU (c := -2) (Or.inr rfl) g1 (nI (pre.length + 1))
      obtain ⟨μ2', t1, t2⟩ := rm_bad PM M1 N1 okU hneg g2 (nI cs.length) (nI (pre.length + 1))
      refine ⟨-2, μ2, μ2', ?_, ?_, _, U, h, sv, r1, r2, r3, m3, ln, [], s2, t2, hR⟩
      · rw [e1, Option.bind_some]
        dsimp only
        rw [if_neg (by rcases hd with q | q <;> rw [q] <;> decide), if_neg (by rcases hd with q | q <;> rw [q] <;> decide)]
        exact s1
      · have e1' : sX5_carryOut Λ' (stI ν b 16 (mI ν b 16 + 1)) b = some (d, stI ν b 16 (mI ν b 16 + 1)) := k4
        rw [e1', Option.bind_some]
        dsimp only
        rw [t1, if_neg (by rcases hd with q | q <;> rw [q] <;> decide)]
    | .inr (.inl (r, w)), ⟨hr, μ2, e1, C2, K2⟩, ⟨μ2', e1', M2, K2'⟩ =>
      have R2 := R1.keep C2 K2
      have N2 : NowV Λ' μ2' (lyR Λ' b 2) U := N1.sm (K2'.2 _ (md_far PM (by simp)).1 (md_far PM (by simp)).2.1 (md_far PM (by simp)).2.2)
      obtain ⟨μ3, s1, s2⟩ := rc_bad PC R2 okU (c := -3) (Or.inl rfl) g1 (nI (pre.length + 1))
      obtain ⟨μ3', t1, t2⟩ := rm_bad PM M2 N2 okU (c := -3) (by decide) g2 (nI cs.length) (nI (pre.length + 1))
      rw [if_neg (by decide), g8] at t2
      refine ⟨-3, μ3, μ3', ?_, ?_, _, U, h, sv, r, w, nI pre.length, nI pre.length, ln, [], s2, t2, ⟨fun _ => Or.inl ⟨nI_pos (by omega), rfl⟩, fun z hz => by cases hz⟩⟩
      · rw [e1, Option.bind_some]
        dsimp only
        rw [if_neg (by decide), if_pos rfl]
        exact s1
      · rw [e1', Option.bind_some]
        dsimp only
        rw [t1, if_pos rfl]
    | .inr (.inr (n, V')), ⟨hn, μ2, e1, C2, K2⟩, ⟨μ2', e1', M2, K2'⟩ =>
      have R2 := R1.keep C2 K2
      rw [if_neg (by decide)] at M2
      have f14 := md_far PM (z := lyR Λ' b 14) (by simp)
      have N2 : NowV Λ' μ2' (lyR Λ' b 2) U := N1.sm (K2'.2 _ (md_far PM (by simp)).1 (md_far PM (by simp)).2.1 (md_far PM (by simp)).2.2)
      have T2 : TxtM Λ' μ2' b tx := ⟨by rw [K2'.1 15 (by omega) (by omega) (by omega) (by omega), mI_ne (by omega)]; exact (T8.frA q7).1, T8.2.1, T8.2.2.1, fun i hi => by rw [K2'.2 _ f14.1 f14.2.1 f14.2.2, G.arr]; exact T8.2.2.2 i hi⟩
      have RM2 : RM Λ' μ2' b V' h sv r1 r2 m3 ln tx U (m + 1) := ⟨M2, T2, by rw [K2'.1 20 (by omega) (by omega) (by omega) (by omega), mI_ne (by omega)]; exact q2, by rw [K2'.1 16 (by omega) (by omega) (by omega) (by omega), mI_self, q3, nI_1], N2⟩
      have hpl : (pre ++ [(k, v, u)]).length = pre.length + 1 := by simp
      obtain ⟨r, μ3, μ3', s1, s2, s3⟩ := ih (pre ++ [(k, v, u)]) n2 (m + 1) (g1 + 1) (g2 + 1) μ2 μ2' V' h (nI pre.length) (nI n) r1 r2 r3 m3 (by rw [ecs, List.append_assoc]; rfl) (hh.elim (fun q => Or.inl q.2) (fun q => Or.inr q.2.2)) (by omega) (by omega) (by omega) R2 RM2 hR (nI_pos' hn)
      rw [hpl] at s1 s2
      refine ⟨r, μ3, μ3', ?_, ?_, s3⟩
      · rw [e1, Option.bind_some]
        dsimp only
        rw [if_pos (nI_pos' hn)]
        exact s1
      · rw [e1', Option.bind_some]
        exact s2
end RL
