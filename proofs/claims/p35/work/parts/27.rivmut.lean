/-! RIVERS: changes. -/
/-- a river's rows -/
def rvRow (Λ : Lay) (a h : Nat) : Prop := h = lyR Λ a 0 ∨ h = lyR Λ a 1 ∨ ∃ k, k < 12 ∧ h = lyE Λ (lyR Λ a 2) k
def rvFld (a : Nat) : Nat → Nat → Prop := fun b k => b = a ∧ (k = 4 ∨ k = 5 ∨ k = 6)
/-- a river's rows are apart, and have room -/
def RvApart (Λ : Lay) (a : Nat) : Prop :=
  lyR Λ a 0 ≠ lyR Λ a 1 ∧ (∀ k, k < 12 → lyE Λ (lyR Λ a 2) k ≠ lyR Λ a 0 ∧ lyE Λ (lyR Λ a 2) k ≠ lyR Λ a 1) ∧ (∀ i j, i < 12 → j < 12 → lyE Λ (lyR Λ a 2) i = lyE Λ (lyR Λ a 2) j → i = j) ∧
  (∀ h g, rvRow Λ a h → rvRow Λ a g → lyR Λ h 0 = lyR Λ g 0 → h = g) ∧ (∀ h, rvRow Λ a h → h ≠ a) ∧
  lyN Λ (lyR Λ (lyR Λ a 0) 0) = 12 ∧ lyN Λ (lyR Λ (lyR Λ a 1) 0) = 12 ∧ ∀ k, k < 12 → lyN Λ (lyR Λ (lyE Λ (lyR Λ a 2) k) 0) = 23
/-- a river, whole: its picture, what holds of it, its three accounts -/
def RvS (Λ : Lay) (μ : Mem) (a : Nat) (w p : List Nat) (rd : Nat → List Nat) (j c t : Int32) : Prop := Riv Λ μ a w p rd ∧ mI μ a 4 = j ∧ mI μ a 5 = c ∧ mI μ a 6 = t
theorem lset_map (l : List Nat) (k x : Nat) : (l.map nI).set k (nI x) = (l.set k x).map nI := by simp
section RM
variable {Λ : Lay} {μ μ' : Mem} {a : Nat} {w p : List Nat} {rd : Nat → List Nat} {l : List Int32}
theorem rvRow0 : rvRow Λ a (lyR Λ a 0) := Or.inl rfl
theorem rvRow1 : rvRow Λ a (lyR Λ a 1) := Or.inr (Or.inl rfl)
theorem rvRowK {k : Nat} (hk : k < 12) : rvRow Λ a (lyE Λ (lyR Λ a 2) k) := Or.inr (Or.inr ⟨k, hk, rfl⟩)
/-- one row of the river changed: the others stay -/
theorem rv_stay (P : RvApart Λ a) {h g : Nat} (c : Chg Λ μ μ' (fun b => b = h) noT) (hh : rvRow Λ a h) (hg : rvRow Λ a g) (hne : g ≠ h) (H : RowIs Λ μ g l) : RowIs Λ μ' g l :=
  c.row H hne (fun x hx => by rw [hx]; exact fun q => hne (P.2.2.2.1 g h hg hh q)) (fun q => q)
theorem rv_stay0 (P : RvApart Λ a) (c : Chg Λ μ μ' (fun b => b = lyR Λ a 0) noT) {w' : List Nat} (V : Riv Λ μ a w p rd) (H : RowIs Λ μ' (lyR Λ a 0) (w'.map nI)) : Riv Λ μ' a w' p rd :=
  ⟨H, rv_stay P c rvRow0 rvRow1 (fun q => P.1 q.symm) V.2.1, V.2.2.1, fun k hk => rv_stay P c rvRow0 (rvRowK hk) (P.2.1 k hk).1 (V.2.2.2 k hk)⟩
theorem rv_stay1 (P : RvApart Λ a) (c : Chg Λ μ μ' (fun b => b = lyR Λ a 1) noT) {p' : List Nat} (V : Riv Λ μ a w p rd) (H : RowIs Λ μ' (lyR Λ a 1) (p'.map nI)) : Riv Λ μ' a w p' rd :=
  ⟨rv_stay P c rvRow1 rvRow0 P.1 V.1, H, V.2.2.1, fun k hk => rv_stay P c rvRow1 (rvRowK hk) (P.2.1 k hk).2 (V.2.2.2 k hk)⟩
def rdUp (rd : Nat → List Nat) (k : Nat) (l : List Nat) : Nat → List Nat := fun j => if j = k then l else rd j
theorem rv_stayK (P : RvApart Λ a) {k : Nat} (hk : k < 12) (c : Chg Λ μ μ' (fun b => b = lyE Λ (lyR Λ a 2) k) noT) {l' : List Nat} (V : Riv Λ μ a w p rd) (H : RowIs Λ μ' (lyE Λ (lyR Λ a 2) k) (l'.map nI)) : Riv Λ μ' a w p (rdUp rd k l') :=
  ⟨rv_stay P c (rvRowK hk) rvRow0 (P.2.1 k hk).1.symm V.1, rv_stay P c (rvRowK hk) rvRow1 (P.2.1 k hk).2.symm V.2.1, V.2.2.1, fun j hj => by
    unfold rdUp
    by_cases e : j = k
    · subst e; rw [if_pos rfl]; exact H
    · rw [if_neg e]
      exact rv_stay P c (rvRowK hk) (rvRowK hj) (fun q => e (P.2.2.1 j k hj hk q)) (V.2.2.2 j hj)⟩
theorem chg_in (P : RvApart Λ a) {h : Nat} (hh : rvRow Λ a h) {μ μ' : Mem} (c : Chg Λ μ μ' (fun b => b = h) noT) : Chg Λ μ μ' (rvRow Λ a) (rvFld a) := c.wk (fun b q => by rw [q]; exact hh) (fun _ _ q => q.elim)
theorem stI_row {b k : Nat} {v : Int32} {h : Nat} (hne : h ≠ b) (H : RowIs Λ μ h l) : RowIs Λ (stI μ b k v) h l := ⟨by rw [mI_ne (fun q => hne q.1)]; exact H.1, H.2.1, H.2.2.1, H.2.2.2⟩
theorem stI_riv (P : RvApart Λ a) {k : Nat} {v : Int32} (V : Riv Λ μ a w p rd) : Riv Λ (stI μ a k v) a w p rd :=
  ⟨stI_row (P.2.2.2.2.1 _ rvRow0) V.1, stI_row (P.2.2.2.2.1 _ rvRow1) V.2.1, V.2.2.1, fun j hj => stI_row (P.2.2.2.2.1 _ (rvRowK hj)) (V.2.2.2 j hj)⟩
theorem stI_chg {k : Nat} (hk : k = 4 ∨ k = 5 ∨ k = 6) {v : Int32} : Chg Λ μ (stI μ a k v) (rvRow Λ a) (rvFld a) := ⟨fun b j h1 h2 => mI_ne (fun q => h2 ⟨q.1, by rw [q.2]; exact hk⟩), fun _ _ => rfl⟩
theorem acc_stay (P : RvApart Λ a) {h k : Nat} (hh : rvRow Λ a h) (c : Chg Λ μ μ' (fun b => b = h) noT) : mI μ' a k = mI μ a k := c.1 a k (fun q => P.2.2.2.2.1 h hh q.1.symm) (fun q => q)
-- addBankOf
theorem rv_addBank (P : RvApart Λ a) {j c t : Int32} (V : RvS Λ μ a w p rd j c t) (hn : w.length < 12) (hp : p.length = w.length) (h0 : rd w.length = []) (x : Nat) :
    ∃ μ', sX1_addBankOf Λ μ a (nI x) = some (nI w.length, μ') ∧ RvS Λ μ' a (w ++ [x]) (p ++ [0]) (rdUp rd w.length [w.length]) j c t ∧ Chg Λ μ μ' (rvRow Λ a) (rvFld a) := by
  obtain ⟨V, e4, e5, e6⟩ := V
  unfold sX1_addBankOf
  rw [row_len V.1, Option.bind_some, List.length_map]
  obtain ⟨μ1, q1, H1, C1⟩ := row_add V.1 (by rw [P.2.2.2.2.2.1]; simpa using hn) (nI x)
  have V1 := rv_stay0 (w' := w ++ [x]) P C1 V (by simpa using H1)
  obtain ⟨μ2, q2, H2, C2⟩ := row_add V1.2.1 (by rw [P.2.2.2.2.2.2.1]; simp; omega) 0
  have V2 := rv_stay1 (p' := p ++ [0]) P C2 V1 (by rw [List.map_append]; exact H2)
  have hk := V2.2.2.2 w.length hn
  rw [h0] at hk
  obtain ⟨μ3, q3, H3, C3⟩ := row_add hk (by rw [P.2.2.2.2.2.2.2 _ hn]; simp) (nI w.length)
  have V3 := rv_stayK (l' := [w.length]) P hn C3 V2 (by simpa using H3)
  rw [q1, Option.bind_some, q2, Option.bind_some, rv_at V2 hn, Option.bind_some, q3, Option.bind_some]
  refine ⟨μ3, rfl, ⟨V3, ?_, ?_, ?_⟩, ((chg_in P rvRow0 C1).tr (chg_in P rvRow1 C2)).tr (chg_in P (rvRowK hn) C3)⟩
  · rw [acc_stay P (rvRowK hn) C3, acc_stay P rvRow1 C2, acc_stay P rvRow0 C1]; exact e4
  · rw [acc_stay P (rvRowK hn) C3, acc_stay P rvRow1 C2, acc_stay P rvRow0 C1]; exact e5
  · rw [acc_stay P (rvRowK hn) C3, acc_stay P rvRow1 C2, acc_stay P rvRow0 C1]; exact e6
theorem rv_putW (P : RvApart Λ a) {j c t : Int32} (V : RvS Λ μ a w p rd j c t) {b : Nat} (hb : b < w.length) (x : Nat) :
    ∃ μ', sX1_putWeight Λ μ a (nI b) (nI x) = some μ' ∧ RvS Λ μ' a (w.set b x) p rd j c t ∧ Chg Λ μ μ' (rvRow Λ a) (rvFld a) := by
  obtain ⟨V, e4, e5, e6⟩ := V
  unfold sX1_putWeight
  obtain ⟨μ1, q1, H1, C1⟩ := row_put V.1 (k := b) (by simpa using hb) (nI x)
  rw [lset_map] at H1
  rw [q1, Option.bind_some]
  exact ⟨μ1, rfl, ⟨rv_stay0 P C1 V H1, by rw [acc_stay P rvRow0 C1]; exact e4, by rw [acc_stay P rvRow0 C1]; exact e5, by rw [acc_stay P rvRow0 C1]; exact e6⟩, chg_in P rvRow0 C1⟩
/-- turned to b -/
def turnL (l : List Nat) (b : Nat) : List Nat := l.drop (fi l b) ++ (l.take (fi l b + 1)).drop 1
theorem rv_turn (P : RvApart Λ a) {j c t : Int32} (V : RvS Λ μ a w p rd j c t) (O : RvOK w p rd) {b r : Nat} (hr : r < 12) (hb : b ∈ rd r) (h0 : fi (rd r) b ≠ 0) :
    ∃ μ', sX1_turnTo Λ μ a (nI b) = some μ' ∧ RvS Λ μ' a w p (rdUp (rdUp rd b (turnL (rd r) b)) r []) j c t ∧ Chg Λ μ μ' (rvRow Λ a) (rvFld a) := by
  obtain ⟨V, e4, e5, e6⟩ := V
  have h1 := fi_lt hb
  have h23 := rv_lenK O hr
  have hb12 := rv_lt12 O hr b hb
  have hbr : b ≠ r := fun q => by
    obtain ⟨-, t, e⟩ := rv_tour O hr hb
    exact h0 ((par_root e).mpr q)
  have hE : rd b = [] := by
    cases e : rd b with
    | nil => rfl
    | cons z t =>
      exfalso
      obtain ⟨-, t', e'⟩ := O.2.2.2.2.1 b hb12 (by rw [e]; simp)
      exact hbr (O.2.2.2.2.2.2.2.1 b r b hb12 hr (by rw [e']; simp) hb)
  unfold sX1_turnTo
  rw [rv_round V O hr hb, Option.bind_some, rv_at V hb12, Option.bind_some, rv_firstK V O hr (rv_lt31 O hr b hb), Option.bind_some, if_pos hb, nI_lit0, if_pos ((nI_ltI (by omega) (by omega)).mpr (by omega)), row_len (V.2.2.2 r hr), Option.bind_some, List.length_map]
  obtain ⟨m, hm⟩ : ∃ m, (rd r).length = m + 1 := ⟨(rd r).length - 1, by omega⟩
  have hne : lyE Λ (lyR Λ a 2) r ≠ lyE Λ (lyR Λ a 2) b := fun q => hbr (P.2.2.1 r b hr hb12 q).symm
  have hsep : lyR Λ (lyE Λ (lyR Λ a 2) r) 0 ≠ lyR Λ (lyE Λ (lyR Λ a 2) b) 0 := fun q => hne (P.2.2.2.1 _ _ (rvRowK hr) (rvRowK hb12) q)
  have Hb := V.2.2.2 b hb12
  rw [hE] at Hb
  rw [hm, nI_lit1, show nI (m + 1) - nI 1 = nI m from nI_pred m]
  obtain ⟨μ1, q1, H1, C1⟩ := row_addPlaces (V.2.2.2 r hr) Hb hne hsep (f := fi (rd r) b) (t := m) (by simp; omega) (by omega) (by omega) (by rw [P.2.2.2.2.2.2.2 b hb12]; simp; omega)
  rw [q1, Option.bind_some]
  have V1 := rv_stayK (l' := (rd r).drop (fi (rd r) b)) P hb12 C1 V (by
    have : (List.take (m + 1) (List.map nI (rd r))) = List.map nI (rd r) := List.take_of_length_le (by simp; omega)
    rw [this] at H1
    simpa using H1)
  have hr1 : rdUp rd b ((rd r).drop (fi (rd r) b)) r = rd r := by unfold rdUp; rw [if_neg (fun q => hbr q.symm)]
  have Hr1 := V1.2.2.2 r hr
  rw [hr1] at Hr1
  have Hb1 := V1.2.2.2 b hb12
  have hb1 : rdUp rd b ((rd r).drop (fi (rd r) b)) b = (rd r).drop (fi (rd r) b) := by unfold rdUp; rw [if_pos rfl]
  rw [hb1] at Hb1
  obtain ⟨μ2, q2, H2, C2⟩ := row_addPlaces Hr1 Hb1 hne hsep (f := 1) (t := fi (rd r) b) (by simp; omega) (by omega) (by omega) (by rw [P.2.2.2.2.2.2.2 b hb12]; simp; omega)
  rw [q2, Option.bind_some]
  have V2 := rv_stayK (l' := turnL (rd r) b) P hb12 C2 V1 (by unfold turnL; simpa using H2)
  obtain ⟨μ3, q3, H3, C3⟩ := row_clear (V2.2.2.2 r hr)
  rw [q3, Option.bind_some]
  have V3 := rv_stayK (l' := []) P hr C3 V2 (by simpa using H3)
  refine ⟨μ3, rfl, ⟨?_, ?_, ?_, ?_⟩, ((chg_in P (rvRowK hb12) C1).tr (chg_in P (rvRowK hb12) C2)).tr (chg_in P (rvRowK hr) C3)⟩
  · refine ⟨V3.1, V3.2.1, V3.2.2.1, fun k hk => ?_⟩
    have := V3.2.2.2 k hk
    have e : rdUp (rdUp (rdUp rd b ((rd r).drop (fi (rd r) b))) b (turnL (rd r) b)) r [] k = rdUp (rdUp rd b (turnL (rd r) b)) r [] k := by
      unfold rdUp
      by_cases x : k = r
      · rw [if_pos x, if_pos x]
      · rw [if_neg x, if_neg x]
        by_cases y : k = b
        · rw [if_pos y, if_pos y]
        · rw [if_neg y, if_neg y, if_neg y]
    rw [e] at this
    exact this
  · rw [acc_stay P (rvRowK hr) C3, acc_stay P (rvRowK hb12) C2, acc_stay P (rvRowK hb12) C1]; exact e4
  · rw [acc_stay P (rvRowK hr) C3, acc_stay P (rvRowK hb12) C2, acc_stay P (rvRowK hb12) C1]; exact e5
  · rw [acc_stay P (rvRowK hr) C3, acc_stay P (rvRowK hb12) C2, acc_stay P (rvRowK hb12) C1]; exact e6
theorem rv_turn0 (V : Riv Λ μ a w p rd) (O : RvOK w p rd) {b r : Nat} (hr : r < 12) (hb : b ∈ rd r) (h0 : fi (rd r) b = 0) : sX1_turnTo Λ μ a (nI b) = some μ := by
  have hb12 := rv_lt12 O hr b hb
  unfold sX1_turnTo
  rw [rv_round V O hr hb, Option.bind_some, rv_at V hb12, Option.bind_some, rv_firstK V O hr (rv_lt31 O hr b hb), Option.bind_some, if_pos hb, h0, if_neg (by decide)]
/-- G put in behind b's first place -/
def insL (l : List Nat) (b : Nat) (G : List Nat) : List Nat := l.take (fi l b + 1) ++ (G ++ b :: l.drop (fi l b + 1))
theorem rv_orP (V : Riv Λ μ a w p rd) (O : RvOK w p rd) {b c : Nat} (hb : b < w.length) (hc : c < 12) : sX4_bit Λ μ (nI c) = some (nI (2 ^ c)) ∧ sX1_ropesOf Λ μ a (nI b) = some (nI (p.getD b 0)) := ⟨bit_spec hc, rv_ropesOf V O hb⟩
/-- the ropes alone, asked of a river whose rounds are being changed -/
theorem rv_ropesOf' (V : Riv Λ μ a w p rd) (hn : w.length ≤ 12) (hpl : p.length = w.length) {b : Nat} (hb : b < w.length) : sX1_ropesOf Λ μ a (nI b) = some (nI (p.getD b 0)) := by
  unfold sX1_ropesOf sX1_has
  rw [if_neg (nI_pos (by omega)), row_len V.1, Option.bind_some, List.length_map, if_neg (by rw [nI_leI (by omega) (by omega)]; omega), Option.bind_some, if_neg (by decide), row_get V.2.1 (by simp; omega), Option.bind_some]
  simp [hpl, hb]
theorem rv_tie (P : RvApart Λ a) {j c t : Int32} (V : RvS Λ μ a w p rd j c t) (O : RvOK w p rd) {b r g : Nat} (hr : r < 12) (hb : b ∈ rd r) (hg : g < 12) (hG : rd g ≠ []) (hgr : g ≠ r) (hlen : (rd r).length + (rd g).length + 1 ≤ 23) :
    ∃ μ', sX1_tie Λ μ a (nI b) (nI g) = some μ' ∧ RvS Λ μ' a w ((p.set b (p.getD b 0 ||| 2 ^ g)).set g ((p.set b (p.getD b 0 ||| 2 ^ g)).getD g 0 ||| 2 ^ b)) (rdUp (rdUp rd r (insL (rd r) b (rd g))) g []) (j + 1) c t ∧ Chg Λ μ μ' (rvRow Λ a) (rvFld a) := by
  obtain ⟨V, e4, e5, e6⟩ := V
  have h1 := fi_lt hb
  have hb12 := rv_lt12 O hr b hb
  have hbn := rv_ltn O hr hb
  have hgn : g < w.length := by
    obtain ⟨-, t, e⟩ := O.2.2.2.2.1 g hg hG
    exact rv_ltn O hg (show g ∈ rd g by rw [e]; simp)
  have hn12 := O.1
  have hpl := O.2.1
  have hne : lyE Λ (lyR Λ a 2) r ≠ lyE Λ (lyR Λ a 2) g := fun q => hgr (P.2.2.1 r g hr hg q).symm
  have hsep : lyR Λ (lyE Λ (lyR Λ a 2) r) 0 ≠ lyR Λ (lyE Λ (lyR Λ a 2) g) 0 := fun q => hne (P.2.2.2.1 _ _ (rvRowK hr) (rvRowK hg) q)
  unfold sX1_tie
  rw [rv_at V hg, Option.bind_some, rv_round V O hr hb, Option.bind_some, rv_firstK V O hr (rv_lt31 O hr b hb), Option.bind_some, if_pos hb]
  obtain ⟨μ1, q1, H1, C1⟩ := row_add (V.2.2.2 g hg) (by rw [P.2.2.2.2.2.2.2 g hg]; simp; omega) (nI b)
  rw [q1, Option.bind_some]
  have V1 := rv_stayK (l' := rd g ++ [b]) P hg C1 V (by simpa using H1)
  have Hr1 := V1.2.2.2 r hr
  have hr1 : rdUp rd g (rd g ++ [b]) r = rd r := by unfold rdUp; rw [if_neg (fun q => hgr q.symm)]
  rw [hr1] at Hr1
  have Hg1 := V1.2.2.2 g hg
  have hg1 : rdUp rd g (rd g ++ [b]) g = rd g ++ [b] := by unfold rdUp; rw [if_pos rfl]
  rw [hg1] at Hg1
  rw [row_len Hr1, Option.bind_some, List.length_map]
  obtain ⟨m, hm⟩ : ∃ m, (rd r).length = m + 1 := ⟨(rd r).length - 1, by omega⟩
  rw [hm, nI_1, nI_pred]
  obtain ⟨μ2, q2, H2, C2⟩ := row_addPlaces Hr1 Hg1 hne hsep (f := fi (rd r) b + 1) (t := m) (by simp; omega) (by omega) (by omega) (by rw [P.2.2.2.2.2.2.2 g hg]; simp; omega)
  rw [q2, Option.bind_some]
  have hG2 : List.take (m + 1) (List.map nI (rd r)) = List.map nI (rd r) := List.take_of_length_le (by simp; omega)
  rw [hG2] at H2
  have V2 := rv_stayK (l' := rd g ++ b :: (rd r).drop (fi (rd r) b + 1)) P hg C2 V1 (by simpa using H2)
  have Hr2 := V2.2.2.2 r hr
  have hr2 : rdUp (rdUp rd g (rd g ++ [b])) g (rd g ++ b :: (rd r).drop (fi (rd r) b + 1)) r = rd r := by unfold rdUp; rw [if_neg (fun q => hgr q.symm), if_neg (fun q => hgr q.symm)]
  rw [hr2] at Hr2
  obtain ⟨μ3, q3, H3, C3⟩ := row_shorten Hr2 (k := fi (rd r) b + 1) (by simp; omega)
  rw [q3, Option.bind_some]
  have V3 := rv_stayK (l' := (rd r).take (fi (rd r) b + 1)) P hr C3 V2 (by simpa using H3)
  have Hg3 := V3.2.2.2 g hg
  have hg3 : rdUp (rdUp (rdUp rd g (rd g ++ [b])) g (rd g ++ b :: (rd r).drop (fi (rd r) b + 1))) r ((rd r).take (fi (rd r) b + 1)) g = rd g ++ b :: (rd r).drop (fi (rd r) b + 1) := by unfold rdUp; rw [if_neg hgr, if_pos rfl]
  rw [hg3] at Hg3
  have Hr3 := V3.2.2.2 r hr
  have hr3 : rdUp (rdUp (rdUp rd g (rd g ++ [b])) g (rd g ++ b :: (rd r).drop (fi (rd r) b + 1))) r ((rd r).take (fi (rd r) b + 1)) r = (rd r).take (fi (rd r) b + 1) := by unfold rdUp; rw [if_pos rfl]
  rw [hr3] at Hr3
  rw [row_len Hg3, Option.bind_some, List.length_map]
  obtain ⟨m2, hm2⟩ : ∃ m2, (rd g ++ b :: (rd r).drop (fi (rd r) b + 1)).length = m2 + 1 := ⟨(rd g).length + ((rd r).length - (fi (rd r) b + 1)), by simp; omega⟩
  have hm2' : (rd g).length + ((rd r).length - (fi (rd r) b + 1)) = m2 := by simp at hm2; omega
  rw [hm2, nI_lit1, show nI (m2 + 1) - nI 1 = nI m2 from nI_pred m2, nI_lit0]
  obtain ⟨μ4, q4, H4, C4⟩ := row_addPlaces Hg3 Hr3 hne.symm hsep.symm (f := 0) (t := m2) (by rw [List.length_map, hm2]; omega) (by omega) (by omega) (by rw [P.2.2.2.2.2.2.2 r hr]; simp; omega)
  rw [q4, Option.bind_some]
  have hG4 : List.take (m2 + 1) (List.map nI (rd g ++ b :: (rd r).drop (fi (rd r) b + 1))) = List.map nI (rd g ++ b :: (rd r).drop (fi (rd r) b + 1)) := by rw [← hm2]; rw [List.take_of_length_le (by simp)]
  rw [hG4] at H4
  have V4 := rv_stayK (l' := insL (rd r) b (rd g)) P hr C4 V3 (by unfold insL; simpa using H4)
  obtain ⟨μ5, q5, H5, C5⟩ := row_clear (V4.2.2.2 g hg)
  rw [q5, Option.bind_some]
  have V5 := rv_stayK (l' := []) P hg C5 V4 (by simpa using H5)
  rw [rv_ropesOf' V5 hn12 hpl hbn, Option.bind_some, bit_spec hg, Option.bind_some, nI_or]
  obtain ⟨μ6, q6, H6, C6⟩ := row_put V5.2.1 (k := b) (by simp; omega) (nI (p.getD b 0 ||| 2 ^ g))
  rw [lset_map] at H6
  rw [q6, Option.bind_some]
  have V6 := rv_stay1 P C6 V5 H6
  rw [rv_ropesOf' V6 hn12 (by simp; exact hpl) hgn, Option.bind_some, bit_spec hb12, Option.bind_some, nI_or]
  obtain ⟨μ7, q7, H7, C7⟩ := row_put V6.2.1 (k := g) (by simp; omega) (nI ((p.set b (p.getD b 0 ||| 2 ^ g)).getD g 0 ||| 2 ^ b))
  rw [lset_map] at H7
  rw [q7, Option.bind_some]
  have V7 := rv_stay1 P C7 V6 H7
  have ek : ∀ k, mI μ7 a k = mI μ a k := fun k => by
    rw [acc_stay P rvRow1 C7, acc_stay P rvRow1 C6, acc_stay P (rvRowK hg) C5, acc_stay P (rvRowK hr) C4, acc_stay P (rvRowK hr) C3, acc_stay P (rvRowK hg) C2, acc_stay P (rvRowK hg) C1]
  simp only [bnd]
  refine ⟨_, rfl, ⟨?_, ?_, ?_, ?_⟩, ?_⟩
  · have V8 := stI_riv (k := 4) (v := mI μ7 a 4 + 1) P V7
    refine ⟨V8.1, V8.2.1, V8.2.2.1, fun k hk => ?_⟩
    have := V8.2.2.2 k hk
    have e : rdUp (rdUp (rdUp (rdUp (rdUp rd g (rd g ++ [b])) g (rd g ++ b :: (rd r).drop (fi (rd r) b + 1))) r ((rd r).take (fi (rd r) b + 1))) r (insL (rd r) b (rd g))) g [] k = rdUp (rdUp rd r (insL (rd r) b (rd g))) g [] k := by
      unfold rdUp
      by_cases x : k = g
      · simp only [if_pos x]
      · by_cases y : k = r
        · simp only [if_neg x, if_pos y]
        · simp only [if_neg x, if_neg y]
    rw [e] at this
    exact this
  · show mI (stI μ7 a 4 (mI μ7 a 4 + 1)) a 4 = _
    rw [mI_self, ek, e4]
    rfl
  · show mI (stI μ7 a 4 (mI μ7 a 4 + 1)) a 5 = _
    rw [mI_ne (by omega), ek, e5]
  · show mI (stI μ7 a 4 (mI μ7 a 4 + 1)) a 6 = _
    rw [mI_ne (by omega), ek, e6]
  · exact ((((((((chg_in P (rvRowK hg) C1).tr (chg_in P (rvRowK hg) C2)).tr (chg_in P (rvRowK hr) C3)).tr (chg_in P (rvRowK hr) C4)).tr (chg_in P (rvRowK hg) C5)).tr (chg_in P rvRow1 C6)).tr (chg_in P rvRow1 C7)).tr (stI_chg (Or.inl rfl)))
theorem nI_notP {x c : Nat} (hx : x < 4096) (hc : c < 12) : nI x &&& (nI (2 ^ c) ^^^ (-1)) = nI (x &&& (4095 ^^^ 2 ^ c)) := nI_notAnd hx (pow_lt12 hc)
theorem rv_untie (P : RvApart Λ a) {j c t : Int32} (V : RvS Λ μ a w p rd j c t) (O : RvOK w p rd) {b r u : Nat} (hr : r < 12) (hb : b ∈ rd r) (h0 : fi (rd r) b ≠ 0) (hu : u < w.length) (hub : u ≠ b) (hla : li (rd r) b + 1 < (rd r).length) :
    ∃ μ', sX1_untie Λ μ a (nI b) (nI u) = some μ' ∧ RvS Λ μ' a w ((p.set b (p.getD b 0 &&& (4095 ^^^ 2 ^ u))).set u (p.getD u 0 &&& (4095 ^^^ 2 ^ b))) (rdUp (rdUp rd b (((rd r).take (li (rd r) b + 1)).drop (fi (rd r) b))) r ((rd r).take (fi (rd r) b) ++ (rd r).drop (li (rd r) b + 2))) j (c + 1) t ∧ Chg Λ μ μ' (rvRow Λ a) (rvFld a) := by
  obtain ⟨V, e4, e5, e6⟩ := V
  have h1 := fi_lt hb
  have h2 := li_lt hb
  have hfl := fi_le_li hb
  have h23 := rv_lenK O hr
  have hb12 := rv_lt12 O hr b hb
  have hbn := rv_ltn O hr hb
  have hn12 := O.1
  have hpl := O.2.1
  have hu12 : u < 12 := by omega
  have hbr : b ≠ r := fun q => by
    obtain ⟨-, t, e⟩ := rv_tour O hr hb
    exact h0 ((par_root e).mpr q)
  have hE : rd b = [] := by
    cases e : rd b with
    | nil => rfl
    | cons z t =>
      exfalso
      obtain ⟨-, t', e'⟩ := O.2.2.2.2.1 b hb12 (by rw [e]; simp)
      exact hbr (O.2.2.2.2.2.2.2.1 b r b hb12 hr (by rw [e']; simp) hb)
  have hne : lyE Λ (lyR Λ a 2) r ≠ lyE Λ (lyR Λ a 2) b := fun q => hbr (P.2.2.1 r b hr hb12 q).symm
  have hsep : lyR Λ (lyE Λ (lyR Λ a 2) r) 0 ≠ lyR Λ (lyE Λ (lyR Λ a 2) b) 0 := fun q => hne (P.2.2.2.1 _ _ (rvRowK hr) (rvRowK hb12) q)
  have Hb := V.2.2.2 b hb12
  rw [hE] at Hb
  unfold sX1_untie
  rw [rv_round V O hr hb, Option.bind_some, rv_firstK V O hr (rv_lt31 O hr b hb), Option.bind_some, if_pos hb, rv_lastK V O hr (rv_lt31 O hr b hb), Option.bind_some, if_pos hb, rv_at V hb12, Option.bind_some]
  obtain ⟨μ1, q1, H1, C1⟩ := row_addPlaces (V.2.2.2 r hr) Hb hne hsep (f := fi (rd r) b) (t := li (rd r) b) (by simpa using h2) (by omega) (by omega) (by rw [P.2.2.2.2.2.2.2 b hb12]; simp; omega)
  rw [q1, Option.bind_some]
  have V1 := rv_stayK (l' := ((rd r).take (li (rd r) b + 1)).drop (fi (rd r) b)) P hb12 C1 V (by simpa using H1)
  have Hr1 := V1.2.2.2 r hr
  have hr1 : rdUp rd b (((rd r).take (li (rd r) b + 1)).drop (fi (rd r) b)) r = rd r := by unfold rdUp; rw [if_neg (fun q => hbr q.symm)]
  rw [hr1] at Hr1
  obtain ⟨μ2, q2, H2, C2⟩ := row_drop Hr1 (f := fi (rd r) b) (t := li (rd r) b + 1) (by omega) (by simpa using hla)
  rw [nI_1, q2, Option.bind_some]
  have V2 := rv_stayK (l' := (rd r).take (fi (rd r) b) ++ (rd r).drop (li (rd r) b + 2)) P hr C2 V1 (by simpa using H2)
  rw [rv_ropesOf' V2 hn12 hpl hbn, Option.bind_some, bit_spec hu12, Option.bind_some, nI_notP (rv_p O hbn) hu12]
  obtain ⟨μ3, q3, H3, C3⟩ := row_put V2.2.1 (k := b) (by simp; omega) (nI (p.getD b 0 &&& (4095 ^^^ 2 ^ u)))
  rw [lset_map] at H3
  rw [q3, Option.bind_some]
  have V3 := rv_stay1 P C3 V2 H3
  have hpu : (p.set b (p.getD b 0 &&& (4095 ^^^ 2 ^ u))).getD u 0 = p.getD u 0 := by
    have : ¬ b = u := fun q => hub q.symm
    simp [List.getElem?_set, this]
  rw [rv_ropesOf' V3 hn12 (by simp; exact hpl) hu, Option.bind_some, bit_spec hb12, Option.bind_some, hpu, nI_notP (rv_p O hu) hb12]
  obtain ⟨μ4, q4, H4, C4⟩ := row_put V3.2.1 (k := u) (by simp; omega) (nI (p.getD u 0 &&& (4095 ^^^ 2 ^ b)))
  rw [lset_map] at H4
  rw [q4, Option.bind_some]
  have V4 := rv_stay1 P C4 V3 H4
  have ek : ∀ k, mI μ4 a k = mI μ a k := fun k => by
    rw [acc_stay P rvRow1 C4, acc_stay P rvRow1 C3, acc_stay P (rvRowK hr) C2, acc_stay P (rvRowK hb12) C1]
  simp only [bnd]
  refine ⟨_, rfl, ⟨stI_riv (k := 5) P V4, ?_, ?_, ?_⟩, ?_⟩
  · rw [mI_ne (by omega), ek, e4]
  · rw [mI_self, ek, e5]
  · rw [mI_ne (by omega), ek, e6]
  · exact ((((chg_in P (rvRowK hb12) C1).tr (chg_in P (rvRowK hr) C2)).tr (chg_in P rvRow1 C3)).tr (chg_in P rvRow1 C4)).tr (stI_chg (Or.inr (Or.inl rfl)))
theorem rv_countTurn (P : RvApart Λ a) {j c t : Int32} (V : RvS Λ μ a w p rd j c t) : ∃ μ', sX1_countTurn Λ μ a = some μ' ∧ RvS Λ μ' a w p rd j c (t + 1) ∧ Chg Λ μ μ' (rvRow Λ a) (rvFld a) := by
  obtain ⟨V, e4, e5, e6⟩ := V
  unfold sX1_countTurn
  simp only [bnd]
  exact ⟨_, rfl, ⟨stI_riv P V, by rw [mI_ne (by omega)]; exact e4, by rw [mI_ne (by omega)]; exact e5, by rw [mI_self, e6]⟩, stI_chg (Or.inr (Or.inr rfl))⟩
end RM
