/-! THE REFERENCE: its history, its copy, its refusals. -/
/-- a picture: weights, ropes, rounds by root, rounds by slot, three accounts -/
def Pic := List Nat × List Nat × (Nat → List Nat) × (Nat → List Nat) × Int32 × Int32 × Int32
def Pic.w (V : Pic) : List Nat := V.1
def Pic.p (V : Pic) : List Nat := V.2.1
def Pic.rd (V : Pic) : Nat → List Nat := V.2.2.1
def Pic.sl (V : Pic) : Nat → List Nat := V.2.2.2.1
def Pic.j (V : Pic) : Int32 := V.2.2.2.2.1
def Pic.c (V : Pic) : Int32 := V.2.2.2.2.2.1
def Pic.t (V : Pic) : Int32 := V.2.2.2.2.2.2
def picD : Pic := ([], [], fun _ => [], fun _ => [], 0, 0, 0)
def PicOK (V : Pic) : Prop := RvOK V.w V.p V.rd ∧ Rel V.rd V.sl
def NowV (Λ : Lay) (μ : Mem) (q : Nat) (V : Pic) : Prop := NowIs Λ μ q V.w V.sl V.j V.c V.t
theorem PicOK.sl {V : Pic} (h : PicOK V) : SlOK V.w V.sl := rel_ok h.1 h.2
theorem picD_ok : PicOK picD := by
  refine ⟨⟨by simp [picD, Pic.w], by simp [picD, Pic.w, Pic.p], by simp [picD, Pic.w], by simp [picD, Pic.p], fun k _ h => absurd rfl h, by simp [picD, Pic.rd], by simp [picD, Pic.w], by simp [picD, Pic.rd], by simp [picD, Pic.rd], by simp [picD, Pic.rd]⟩, ⟨fun r _ h => absurd rfl h, fun r _ h => absurd rfl h, fun r _ _ _ h => absurd rfl h⟩⟩
def hsR (Λ : Lay) (a i : Nat) : Nat := lyE Λ (lyR Λ a 3) i
def push (h : List Pic) (V : Pic) : List Pic := (if h.length = 8 then h.drop 1 else h) ++ [V]
def Hist (Λ : Lay) (μ : Mem) (a : Nat) (h : List Pic) : Prop := mI μ a 4 = nI h.length ∧ h.length ≤ 8 ∧ (∀ U ∈ h, PicOK U) ∧ ∀ i, i < h.length → NowV Λ μ (hsR Λ a i) (h.getD i picD)
def HFr (Λ : Lay) (μ μ' : Mem) (a : Nat) : Prop := (∀ b k, ¬ (b = a ∧ k = 4) → mI μ' b k = mI μ b k) ∧ ∀ x, (∀ i, i < 8 → x ≠ hsR Λ a i) → mA μ' x = mA μ x
section MDH
variable {Λ : Lay} {μ : Mem} {a : Nat}
theorem HFr.rf : HFr Λ μ μ a := ⟨fun _ _ _ => rfl, fun _ _ => rfl⟩
theorem HFr.tr {μ1 μ2 : Mem} (h1 : HFr Λ μ μ1 a) (h2 : HFr Λ μ1 μ2 a) : HFr Λ μ μ2 a := ⟨fun b k h => (h2.1 b k h).trans (h1.1 b k h), fun x h => (h2.2 x h).trans (h1.2 x h)⟩
theorem HFr.st {v : Int32} : HFr Λ μ (stI μ a 4 v) a := ⟨fun b k h => mI_ne h, fun _ _ => rfl⟩
theorem HFr.mto {μ' : Mem} {i : Nat} (hi : i < 8) {f : Nat → Int32} (h : Mto μ μ' (hsR Λ a i) f) : HFr Λ μ μ' a := ⟨fun b k _ => h.int b k, fun x hx => h.2.2 x (hx i hi)⟩
theorem NowV.cp {μ' : Mem} {q q' : Nat} {V : Pic} (N : NowV Λ μ q V) (ok : PicOK V) (hN : lyN Λ q' = 304) (h : mA μ' q' = cpy (mA μ q) (mA μ q') 304) : NowV Λ μ' q' V :=
  NowIs.cg N hN ok.sl.1 ok.sl.2.2.1 (fun x hx => by rw [h]; unfold cpy; rw [if_pos hx])
theorem NowV.sm {μ' : Mem} {q : Nat} {V : Pic} (N : NowV Λ μ q V) (h : mA μ' q = mA μ q) : NowV Λ μ' q V := by
  unfold NowV NowIs at *
  rw [h]
  exact N
theorem hs_ne (P : MdApart Λ a) {i k : Nat} (hi : i < 8) (hk : k < 8) (h : i ≠ k) : hsR Λ a i ≠ hsR Λ a k := by
  intro q
  have := P.1 (3 + i) (3 + k) (by omega) (by omega) (by
    unfold mdA
    rw [if_neg (by omega), if_pos (by omega), if_neg (by omega), if_pos (by omega), Nat.add_sub_cancel_left, Nat.add_sub_cancel_left]
    exact q)
  omega
theorem hs_len (P : MdApart Λ a) {i : Nat} (hi : i < 8) : lyN Λ (hsR Λ a i) = 304 := by
  have := P.2.1 (3 + i) (by omega)
  unfold mdA at this
  rw [if_neg (by omega), if_pos (by omega), Nat.add_sub_cancel_left] at this
  exact this
theorem hs_0 (P : MdApart Λ a) {i k : Nat} (hi : i < 3) (hk : k < 8) : lyR Λ a i ≠ hsR Λ a k := by
  intro q
  have := P.1 i (3 + k) (by omega) (by omega) (by
    unfold mdA
    rw [if_pos (by omega), if_neg (by omega), if_pos (by omega), Nat.add_sub_cancel_left]
    exact q)
  omega
theorem now_len (P : MdApart Λ a) {i : Nat} (hi : i < 3) : lyN Λ (lyR Λ a i) = 304 := by
  have := P.2.1 i (by omega)
  unfold mdA at this
  rw [if_pos (by omega)] at this
  exact this
theorem now_ne (P : MdApart Λ a) {i k : Nat} (hi : i < 3) (hk : k < 3) (h : i ≠ k) : lyR Λ a i ≠ lyR Λ a k := by
  intro q
  have := P.1 i k (by omega) (by omega) (by
    unfold mdA
    rw [if_pos (by omega), if_pos (by omega)]
    exact q)
  omega
theorem md_rememberL (P : MdApart Λ a) {h : List Pic} (hl : h.length = 8) (ok : ∀ U ∈ h, PicOK U) {q : Nat} {V : Pic} (okV : PicOK V) (hq : ∀ i, i < 8 → q ≠ hsR Λ a i) (N : NowV Λ μ q V) : ∀ n i (μ1 : Mem), i ≤ 7 → 7 - i < n → HFr Λ μ μ1 a → mI μ1 a 4 = nI 7 → (∀ k, k < i → NowV Λ μ1 (hsR Λ a k) (h.getD (k + 1) picD)) → (∀ k, i ≤ k → k < 8 → NowV Λ μ1 (hsR Λ a k) (h.getD k picD)) → ∃ μ', lpX5_remember_21 Λ a q n μ1 (nI i) = some μ' ∧ HFr Λ μ μ' a ∧ mI μ' a 4 = nI 8 ∧ (∀ k, k < 7 → NowV Λ μ' (hsR Λ a k) (h.getD (k + 1) picD)) ∧ NowV Λ μ' (hsR Λ a 7) V := by
  intro n
  induction n with
  | zero => intro i μ1 h1 h2; omega
  | succ n ih =>
    intro i μ1 hi hn F h4 hlo hhi
    rw [lpX5_remember_21_s, h4, P.2.2.1]
    by_cases e : i = 7
    · subst e
      rw [if_pos ((nI_leI (by omega) (by omega)).mpr (Nat.le_refl _)), gd_t (nI_in (by omega) (by omega)), nI_clamp (by omega)]
      obtain ⟨μ2, q1, q2⟩ := raw_copy (μ := μ1) (x := q) (y := hsR Λ a 7) N.1 (hs_len P (by omega)) (hq 7 (by omega))
      have q1' : sX5_copyRow Λ μ1 q (lyE Λ (lyR Λ a 3) 7) = some μ2 := q1
      rw [q1', Option.bind_some]
      simp only [bnd]
      have q4 : mI μ2 a 4 = nI 7 := (q2.int a 4).trans h4
      have N1 : NowV Λ μ1 q V := N.sm (F.2 q hq)
      refine ⟨_, rfl, (F.tr (HFr.mto (by omega) q2)).tr HFr.st, by rw [mI_self, q4]; rfl, fun k hk => ?_, ?_⟩
      · exact (hlo k hk).sm (q2.2.2 _ (hs_ne P (by omega) (by omega) (by omega)))
      · exact N1.cp (μ' := stI μ2 a 4 (mI μ2 a 4 + 1)) okV (hs_len P (by omega)) q2.2.1
    · rw [if_neg (by rw [nI_leI (by omega) (by omega)]; omega), nI_1, gd_t (nI_in (by omega) (by omega)), gd_t (nI_in (by omega) (by omega)), nI_clamp (by omega), nI_clamp (by omega)]
      obtain ⟨μ2, q1, q2⟩ := raw_copy (μ := μ1) (x := hsR Λ a (i + 1)) (y := hsR Λ a i) (hs_len P (by omega)) (hs_len P (by omega)) (hs_ne P (by omega) (by omega) (by omega))
      have q1' : sX5_copyRow Λ μ1 (lyE Λ (lyR Λ a 3) (i + 1)) (lyE Λ (lyR Λ a 3) i) = some μ2 := q1
      rw [q1', Option.bind_some]
      simp only [bnd]
      refine ih (i + 1) μ2 (by omega) (by omega) (F.tr (HFr.mto (by omega) q2)) ((q2.int a 4).trans h4) (fun k hk => ?_) (fun k hk hk2 => (hhi k (by omega) hk2).sm (q2.2.2 _ (hs_ne P (by omega) (by omega) (by omega))))
      by_cases y : k = i
      · subst y
        refine (hhi (k + 1) (by omega) (by omega)).cp (ok _ ?_) (hs_len P (by omega)) q2.2.1
        rw [List.getD_eq_getElem?_getD, List.getElem?_eq_getElem (by omega)]
        exact List.getElem_mem _
      · exact (hlo k (by omega)).sm (q2.2.2 _ (hs_ne P (by omega) (by omega) y))
theorem md_remember (P : MdApart Λ a) {h : List Pic} (H : Hist Λ μ a h) {q : Nat} {V : Pic} (okV : PicOK V) (hq : ∀ i, i < 8 → q ≠ hsR Λ a i) (N : NowV Λ μ q V) : ∃ μ', sX5_remember Λ μ a q = some μ' ∧ HFr Λ μ μ' a ∧ Hist Λ μ' a (push h V) := by
  obtain ⟨h4, hle, hok, hrow⟩ := H
  have hpok : ∀ U ∈ push h V, PicOK U := fun U hU => by
    unfold push at hU
    rcases List.mem_append.mp hU with h1 | h1
    · by_cases e : h.length = 8
      · rw [if_pos e] at h1; exact hok U (List.mem_of_mem_drop h1)
      · rw [if_neg e] at h1; exact hok U h1
    · rw [List.mem_singleton.mp h1]; exact okV
  unfold sX5_remember
  rw [h4, show (8 : Int32) = nI 8 from rfl]
  by_cases e : h.length = 8
  · rw [if_pos (by rw [e])]
    simp only [bnd]
    obtain ⟨μ', q1, q2, q3, q4, q5⟩ := md_rememberL P e hok okV hq N fuel 0 (stI μ a 4 (nI h.length - 1)) (by omega) (by unfold fuel; omega) HFr.st (by rw [mI_self, e]; rfl) (fun k hk => by omega) (fun k _ hk => (hrow k (by omega)).sm rfl)
    refine ⟨μ', q1, q2, ?_, ?_, hpok, fun i hi => ?_⟩
    · rw [q3]; unfold push; rw [if_pos e]; simp [e]
    · unfold push; rw [if_pos e]; simp; omega
    · unfold push at hi ⊢
      rw [if_pos e] at hi ⊢
      have hd : (h.drop 1).length = 7 := by simp; omega
      rw [List.length_append, hd] at hi
      simp only [List.length_cons, List.length_nil] at hi
      by_cases y : i < 7
      · have := q4 i y
        rw [List.getD_eq_getElem?_getD] at this ⊢
        rw [List.getElem?_append_left (by omega), List.getElem?_drop, Nat.add_comm 1 i]
        exact this
      · have : i = 7 := by omega
        subst this
        rw [List.getD_eq_getElem?_getD, List.getElem?_append_right (by omega), hd]
        exact q5
  · have hlt : h.length < 8 := by omega
    rw [if_neg (by rw [nI_eq (by omega) (by omega)]; omega), P.2.2.1, gd_t (nI_in (by omega) (by omega)), nI_clamp (by omega)]
    obtain ⟨μ2, q1, q2⟩ := raw_copy (μ := μ) (x := q) (y := hsR Λ a h.length) N.1 (hs_len P hlt) (hq _ hlt)
    have q1' : sX5_copyRow Λ μ q (lyE Λ (lyR Λ a 3) h.length) = some μ2 := q1
    rw [q1', Option.bind_some]
    simp only [bnd]
    have q4 : mI μ2 a 4 = nI h.length := (q2.int a 4).trans h4
    refine ⟨_, rfl, (HFr.mto hlt q2).tr HFr.st, ?_, ?_, hpok, fun i hi => ?_⟩
    · rw [mI_self, q4, nI_1]; unfold push; rw [if_neg e]; simp
    · unfold push; rw [if_neg e]; simp; omega
    · unfold push at hi ⊢
      rw [if_neg e] at hi ⊢
      rw [List.length_append] at hi
      simp only [List.length_cons, List.length_nil] at hi
      by_cases y : i < h.length
      · have := (hrow i y).sm (μ' := stI μ2 a 4 (mI μ2 a 4 + 1)) (q2.2.2 _ (hs_ne P (by omega) (by omega) (by omega)))
        rw [List.getD_eq_getElem?_getD] at this ⊢
        rw [List.getElem?_append_left y]
        exact this
      · have : i = h.length := by omega
        subst this
        rw [List.getD_eq_getElem?_getD, List.getElem?_append_right (Nat.le_refl _), Nat.sub_self]
        exact N.cp (μ' := stI μ2 a 4 (mI μ2 a 4 + 1)) okV (hs_len P hlt) q2.2.1
theorem Hist.fr {μ' : Mem} {h : List Pic} (H : Hist Λ μ a h) (e4 : mI μ' a 4 = mI μ a 4) (eA : ∀ i, i < 8 → mA μ' (hsR Λ a i) = mA μ (hsR Λ a i)) : Hist Λ μ' a h :=
  ⟨e4.trans H.1, H.2.1, H.2.2.1, fun i hi => (H.2.2.2 i hi).sm (eA i (by have := H.2.1; omega))⟩
/-- a change outside a text is remembered, inside a text it is not -/
theorem md_change (P : MdApart Λ a) {h : List Pic} (H : Hist Λ μ a h) {V : Pic} (okV : PicOK V) (N : NowV Λ μ (lyR Λ a 0) V) : ∃ μ', sX5_change Λ μ a = some μ' ∧ HFr Λ μ μ' a ∧ Hist Λ μ' a (if mI μ a 10 = 0 then push h V else h) ∧ NowV Λ μ' (lyR Λ a 0) V := by
  unfold sX5_change
  by_cases e : mI μ a 10 = 0
  · obtain ⟨μ', q1, q2, q3⟩ := md_remember P H okV (fun i hi => hs_0 P (by omega) hi) N
    rw [if_pos e, q1, if_pos e]
    exact ⟨μ', rfl, q2, q3, N.sm (q2.2 _ (fun i hi => hs_0 P (by omega) hi))⟩
  · rw [if_neg e, if_neg e]
    exact ⟨μ, rfl, HFr.rf, H, N⟩
theorem md_undo0 {h : List Pic} (H : Hist Λ μ a h) (e : h = []) : sX5_undo Λ μ a = some (-4, μ) := by
  unfold sX5_undo
  rw [H.1, e]
  rfl
theorem md_undo (P : MdApart Λ a) {h : List Pic} {U : Pic} (H : Hist Λ μ a (h ++ [U])) : ∃ μ', sX5_undo Λ μ a = some (nI h.length, μ') ∧ Hist Λ μ' a h ∧ NowV Λ μ' (lyR Λ a 0) U ∧ (∀ b k, ¬ (b = a ∧ k = 4) → mI μ' b k = mI μ b k) ∧ ∀ x, x ≠ lyR Λ a 0 → mA μ' x = mA μ x := by
  obtain ⟨h4, hle, hok, hrow⟩ := H
  simp only [List.length_append, List.length_cons, List.length_nil] at h4 hle hrow
  unfold sX5_undo
  rw [h4, if_neg (by rw [nI_lit0, nI_eq (by omega) (by omega)]; omega)]
  simp only [bnd]
  rw [mI_self, nI_pred, P.2.2.1, gd_t (nI_in (by omega) (by omega)), nI_clamp (by omega)]
  obtain ⟨μ2, q1, q2⟩ := raw_copy (μ := stI μ a 4 (nI h.length)) (x := hsR Λ a h.length) (y := lyR Λ a 0) (hs_len P (by omega)) (now_len P (by omega)) (fun q => hs_0 P (i := 0) (k := h.length) (by omega) (by omega) q.symm)
  have q1' : sX5_copyRow Λ (stI μ a 4 (nI h.length)) (lyE Λ (lyR Λ a 3) h.length) (lyR Λ a 0) = some μ2 := q1
  rw [q1', Option.bind_some]
  have q4 : mI μ2 a 4 = nI h.length := (q2.int a 4).trans mI_self
  have hU : (h ++ [U]).getD h.length picD = U := by
    rw [List.getD_eq_getElem?_getD, List.getElem?_append_right (Nat.le_refl _), Nat.sub_self]; rfl
  have hR := hrow h.length (by omega)
  rw [hU] at hR
  refine ⟨μ2, by rw [q4], ⟨q4, by omega, fun U' hU' => hok U' (List.mem_append_left _ hU'), fun i hi => ?_⟩, ?_, fun b k hb => (q2.int b k).trans (mI_ne hb), fun x hx => (q2.2.2 x hx).trans rfl⟩
  · have := hrow i (by omega)
    rw [List.getD_eq_getElem?_getD, List.getElem?_append_left hi, ← List.getD_eq_getElem?_getD] at this
    exact this.sm ((q2.2.2 _ (fun q => hs_0 P (i := 0) (k := i) (by omega) (by omega) q.symm)).trans rfl)
  · have hR' : NowV Λ (stI μ a 4 (nI h.length)) (hsR Λ a h.length) U := hR.sm rfl
    exact hR'.cp (hok U (by simp)) (now_len P (by omega)) q2.2.1
theorem md_save (P : MdApart Λ a) {V : Pic} (okV : PicOK V) (N : NowV Λ μ (lyR Λ a 0) V) : ∃ μ', sX5_save Λ μ a = some (nI V.w.length, μ') ∧ NowV Λ μ' (lyR Λ a 1) V ∧ mI μ' a 9 = 1 ∧ (∀ b k, ¬ (b = a ∧ k = 9) → mI μ' b k = mI μ b k) ∧ ∀ x, x ≠ lyR Λ a 1 → mA μ' x = mA μ x := by
  unfold sX5_save
  simp only [bnd]
  obtain ⟨μ2, q1, q2⟩ := raw_copy (μ := stI μ a 9 1) (now_len P (i := 0) (by omega)) (now_len P (i := 1) (by omega)) (now_ne P (by omega) (by omega) (by omega))
  have N1 : NowV Λ (stI μ a 9 1) (lyR Λ a 0) V := N.sm rfl
  have N2 : NowV Λ μ2 (lyR Λ a 0) V := N1.sm (q2.2.2 _ (now_ne P (by omega) (by omega) (by omega)))
  rw [q1, Option.bind_some, md_n N2, md_n0 N2]
  exact ⟨μ2, rfl, N1.cp okV (now_len P (by omega)) q2.2.1, (q2.int a 9).trans mI_self, fun b k hb => (q2.int b k).trans (mI_ne hb), fun x hx => (q2.2.2 x hx).trans rfl⟩
theorem md_restore (P : MdApart Λ a) {V : Pic} (okV : PicOK V) (N : NowV Λ μ (lyR Λ a 1) V) (h9 : mI μ a 9 = 1) : ∃ μ', sX5_restore Λ μ a = some (nI V.w.length, μ') ∧ NowV Λ μ' (lyR Λ a 0) V ∧ Hist Λ μ' a [] ∧ (∀ b k, ¬ (b = a ∧ k = 4) → mI μ' b k = mI μ b k) ∧ ∀ x, x ≠ lyR Λ a 0 → mA μ' x = mA μ x := by
  unfold sX5_restore
  rw [h9, if_neg (by decide)]
  obtain ⟨μ2, q1, q2⟩ := raw_copy (μ := μ) (now_len P (i := 1) (by omega)) (now_len P (i := 0) (by omega)) (now_ne P (by omega) (by omega) (by omega))
  rw [q1, Option.bind_some]
  simp only [bnd]
  have N1 : NowV Λ (stI μ2 a 4 0) (lyR Λ a 0) V := N.cp okV (now_len P (by omega)) q2.2.1
  rw [md_n N1, md_n0 N1]
  exact ⟨_, rfl, N1, ⟨by rw [mI_self]; rfl, by simp, by simp, by simp⟩, fun b k hb => (mI_ne hb).trans (q2.int b k), fun x hx => q2.2.2 x hx⟩
/-- what a refusal leaves behind -/
def refM (μ : Mem) (a : Nat) (r v : Int32) : Mem := stI (stI (stI μ a 5 r) a 6 v) a 7 (if mI μ a 10 = 0 then -1 else mI μ a 8)
theorem md_refuse (r v : Int32) : sX5_refuse Λ μ a 1 r v = some (1, refM μ a r v) := by
  unfold sX5_refuse
  rw [if_neg (by decide)]
  simp only [bnd]
  have e10 : mI (stI (stI μ a 5 r) a 6 v) a 10 = mI μ a 10 := by rw [mI_ne (by omega), mI_ne (by omega)]
  have e8 : mI (stI (stI μ a 5 r) a 6 v) a 8 = mI μ a 8 := by rw [mI_ne (by omega), mI_ne (by omega)]
  rw [e10, e8]
  unfold refM
  by_cases e : mI μ a 10 = 0
  · rw [if_pos e, if_pos e]; exact gd_t (by decide)
  · rw [if_neg e, if_neg e]; exact gd_t (by decide)
theorem md_refuse0 (r v : Int32) : sX5_refuse Λ μ a 0 r v = some (0, μ) := by
  unfold sX5_refuse
  rw [if_pos rfl]
  exact gd_t (by decide)
end MDH
