/-! THE REFERENCE: its changing operations. -/
theorem i32_nn {x : Int32} (h : 0 ≤ x.toInt) : ∃ n, n < 2 ^ 31 ∧ x = nI n ∧ x.toInt = n := by
  have h2 := Int32.toInt_lt x
  refine ⟨x.toInt.toNat, by omega, ?_, by omega⟩
  apply Int32.toInt_inj.mp
  rw [nI_toInt (by omega)]
  omega
abbrev bIn (n : Nat) (x : Int32) : Prop := 0 ≤ x.toInt ∧ x.toInt < n
theorem bIn_nat {n : Nat} {x : Int32} (h : bIn n x) : ∃ b, b < n ∧ b < 2 ^ 31 ∧ x = nI b := by
  obtain ⟨b, h1, h2, h3⟩ := i32_nn h.1
  exact ⟨b, by have := h.2; omega, h1, h2⟩
theorem btw_eq {Λ : Lay} {μ : Mem} (x lo hi : Int32) : sX5_isBetween Λ μ x lo hi = some (if lo.toInt ≤ x.toInt ∧ x.toInt ≤ hi.toInt then 1 else 0) := by
  unfold sX5_isBetween
  by_cases h1 : x < lo
  · rw [if_pos h1, if_neg]
    rw [Int32.lt_iff_toInt_lt] at h1
    omega
  · rw [if_neg h1]
    by_cases h2 : hi < x
    · rw [if_pos h2, if_neg]
      rw [Int32.lt_iff_toInt_lt] at h2
      omega
    · rw [if_neg h2, if_pos]
      rw [Int32.lt_iff_toInt_lt] at h1 h2
      omega
/-- what one operation leaves alone -/
def RFr (Λ : Lay) (μ μ' : Mem) (a : Nat) : Prop := (∀ b k, ¬ (b = a ∧ k = 4) → mI μ' b k = mI μ b k) ∧ ∀ x, x ≠ lyR Λ a 0 → x ≠ lyR Λ a 11 → (∀ i, i < 8 → x ≠ hsR Λ a i) → mA μ' x = mA μ x
def hst (μ : Mem) (a : Nat) (h : List Pic) (V : Pic) : List Pic := if mI μ a 10 = 0 then push h V else h
def Done (Λ : Lay) (μ μ' : Mem) (a : Nat) (h : List Pic) (V : Pic) (w : List Nat) (sl : Nat → List Nat) (j c t : Int32) : Prop := RFr Λ μ μ' a ∧ Hist Λ μ' a (hst μ a h V) ∧ NowIs Λ μ' (lyR Λ a 0) w sl j c t
section MDO
variable {Λ : Lay} {μ : Mem} {a : Nat} {w : List Nat} {sl : Nat → List Nat} {j c t : Int32}
theorem r11_ne (P : MdApart Λ a) {i : Nat} (hi : i < 8) : lyR Λ a 11 ≠ hsR Λ a i := by
  intro q
  have := P.1 11 (3 + i) (by omega) (by omega) (by
    unfold mdA
    rw [if_neg (by omega), if_neg (by omega), if_pos (by omega), if_neg (by omega), if_pos (by omega), Nat.add_sub_cancel_left]
    exact q)
  omega
theorem done_mk (P : MdApart Λ a) {μ1 μ' : Mem} {h : List Pic} {V : Pic} (F : HFr Λ μ μ1 a) (H : Hist Λ μ1 a (hst μ a h V)) (e1 : μ'.1 = μ1.1) (e2 : ∀ x, x ≠ lyR Λ a 0 → x ≠ lyR Λ a 11 → mA μ' x = mA μ1 x) (N : NowIs Λ μ' (lyR Λ a 0) w sl j c t) : Done Λ μ μ' a h V w sl j c t := by
  have e3 : ∀ b k, mI μ' b k = mI μ1 b k := fun b k => by unfold mI; rw [e1]
  exact ⟨⟨fun b k hb => (e3 b k).trans (F.1 b k hb), fun x h0 h11 hh => (e2 x h0 h11).trans (F.2 x hh)⟩, H.fr (e3 a 4) (fun i hi => e2 _ (hs_0 P (i := 0) (by omega) hi).symm (r11_ne P hi).symm), N⟩
theorem isBank_eq (M : NowIs Λ μ (lyR Λ a 0) w sl j c t) (hn : w.length ≤ 12) (x : Int32) : sX5_isBank Λ μ a x = some (if bIn w.length x then 1 else 0) := by
  unfold sX5_isBank
  rw [md_n M, md_n0 M, btw_eq, Option.bind_some]
  have e : (nI w.length - 1).toInt = (w.length : Int) - 1 := by
    rcases Nat.eq_zero_or_pos w.length with q | q
    · rw [q]; rfl
    · obtain ⟨m, hm⟩ : ∃ m, w.length = m + 1 := ⟨w.length - 1, by omega⟩
      rw [hm, nI_pred, nI_toInt (by omega)]
      omega
  rw [e]
  unfold bIn
  have e0 : (0 : Int32).toInt = 0 := rfl
  rw [e0]
  have e5 : (x.toInt ≤ (w.length : Int) - 1) = (x.toInt < (w.length : Int)) := by apply propext; omega
  simp only [e5]
  by_cases q : 0 ≤ x.toInt ∧ x.toInt < (w.length : Int)
  · rw [if_pos q]; exact gd_t (by decide)
  · rw [if_neg q]; exact gd_t (by decide)
theorem isBank_1 (M : NowIs Λ μ (lyR Λ a 0) w sl j c t) (hn : w.length ≤ 12) {b : Nat} (hb : b < w.length) : sX5_isBank Λ μ a (nI b) = some 1 := by
  rw [isBank_eq M hn, if_pos]
  unfold bIn
  rw [nI_toInt (by omega)]
  omega
theorem now_wt {μ' : Mem} {q : Nat} (M : NowIs Λ μ q w sl j c t) (hn : w.length ≤ 12) (hs : ∀ k, k < 12 → (sl k).length ≤ 23) {b x : Nat} (hb : b < w.length) (T : Mto μ μ' q (upd (mA μ q) (4 + b) (nI x))) : NowIs Λ μ' q (w.set b x) sl j c t := by
  have hF : ∀ y, mA μ' q y = if y = 4 + b then nI x else mA μ q y := fun y => by rw [T.2.1]; rfl
  refine ⟨M.1, ?_, ?_, ?_, ?_, fun b' hb' => ?_, fun k hk => ⟨?_, fun i hi => ?_⟩⟩
  · rw [hF, if_neg (by omega), List.length_set]; exact M.2.1
  · rw [hF, if_neg (by omega)]; exact M.2.2.1
  · rw [hF, if_neg (by omega)]; exact M.2.2.2.1
  · rw [hF, if_neg (by omega)]; exact M.2.2.2.2.1
  · rw [List.length_set] at hb'
    rw [hF]
    by_cases e : b' = b
    · subst e
      rw [if_pos rfl]
      congr 1
      simp [wt, hb]
    · rw [if_neg (by omega), M.2.2.2.2.2.1 b' hb']
      congr 1
      unfold wt
      rw [List.getD_eq_getElem?_getD, List.getD_eq_getElem?_getD, List.getElem?_set_ne (by omega)]
  · rw [hF, if_neg (by omega)]; exact (M.2.2.2.2.2.2 k hk).1
  · have := hs k hk
    rw [hF, if_neg (by omega)]; exact (M.2.2.2.2.2.2 k hk).2 i hi
theorem now_bank {q k : Nat} (M : NowIs Λ μ q w sl j c t) (hn : w.length < 12) (hs : ∀ k, k < 12 → (sl k).length ≤ 23) (hk : k < 12) (x : Nat) {μ' : Mem} (T : Mto μ μ' q (upd (upd (upd (upd (mA μ q) 0 (nI (w.length + 1))) (4 + w.length) (nI x)) (16 + 24 * k) (nI 1)) (16 + 24 * k + 1 + 0) (nI w.length))) : NowIs Λ μ' q (w ++ [x]) (slUp sl k [w.length]) j c t := by
  have hF : ∀ y, mA μ' q y = if y = 16 + 24 * k + 1 + 0 then nI w.length else if y = 16 + 24 * k then nI 1 else if y = 4 + w.length then nI x else if y = 0 then nI (w.length + 1) else mA μ q y := fun y => by rw [T.2.1]; rfl
  refine ⟨M.1, ?_, ?_, ?_, ?_, fun b' hb' => ?_, fun i hi => ?_⟩
  · rw [hF, if_neg (by omega), if_neg (by omega), if_neg (by omega), if_pos rfl]; simp
  · rw [hF, if_neg (by omega), if_neg (by omega), if_neg (by omega), if_neg (by omega)]; exact M.2.2.1
  · rw [hF, if_neg (by omega), if_neg (by omega), if_neg (by omega), if_neg (by omega)]; exact M.2.2.2.1
  · rw [hF, if_neg (by omega), if_neg (by omega), if_neg (by omega), if_neg (by omega)]; exact M.2.2.2.2.1
  · simp only [List.length_append, List.length_cons, List.length_nil] at hb'
    rw [hF, if_neg (by omega), if_neg (by omega)]
    by_cases e : b' = w.length
    · subst e
      rw [if_pos rfl]
      congr 1
      simp [wt]
    · rw [if_neg (by omega), if_neg (by omega), M.2.2.2.2.2.1 b' (by omega)]
      congr 1
      unfold wt
      rw [List.getD_eq_getElem?_getD, List.getD_eq_getElem?_getD, List.getElem?_append_left (by omega)]
  · unfold slUp
    by_cases e : i = k
    · subst e
      rw [if_pos rfl]
      refine ⟨?_, fun y hy => ?_⟩
      · rw [hF, if_neg (by omega), if_pos rfl]; rfl
      · have : y = 0 := by simpa using hy
        subst this
        rw [hF, if_pos rfl]; rfl
    · rw [if_neg e]
      refine ⟨?_, fun y hy => ?_⟩
      · rw [hF, if_neg (by omega), if_neg (by omega), if_neg (by omega), if_neg (by omega)]; exact (M.2.2.2.2.2.2 i hi).1
      · have := hs i hi
        rw [hF, if_neg (by omega), if_neg (by omega), if_neg (by omega), if_neg (by omega)]; exact (M.2.2.2.2.2.2 i hi).2 y hy
theorem now_acc {q : Nat} (M : NowIs Λ μ q w sl j c t) (hn : w.length ≤ 12) (hs : ∀ k, k < 12 → (sl k).length ≤ 23) {i : Nat} (hi : i = 1 ∨ i = 2 ∨ i = 3) (v : Int32) : NowIs Λ (stA μ q i v) q w sl (if i = 1 then v else j) (if i = 2 then v else c) (if i = 3 then v else t) := by
  have hF : ∀ y, mA (stA μ q i v) q y = if y = i then v else mA μ q y := fun y => by rw [mA_upd]; rfl
  refine ⟨M.1, ?_, ?_, ?_, ?_, fun b' hb' => ?_, fun k hk => ⟨?_, fun x hx => ?_⟩⟩
  · rw [hF, if_neg (by omega)]; exact M.2.1
  · rw [hF]; by_cases e : i = 1
    · rw [if_pos e.symm, if_pos e]
    · rw [if_neg (fun z => e z.symm), if_neg e]; exact M.2.2.1
  · rw [hF]; by_cases e : i = 2
    · rw [if_pos e.symm, if_pos e]
    · rw [if_neg (fun z => e z.symm), if_neg e]; exact M.2.2.2.1
  · rw [hF]; by_cases e : i = 3
    · rw [if_pos e.symm, if_pos e]
    · rw [if_neg (fun z => e z.symm), if_neg e]; exact M.2.2.2.2.1
  · rw [hF, if_neg (by omega)]; exact M.2.2.2.2.2.1 b' hb'
  · rw [hF, if_neg (by omega)]; exact (M.2.2.2.2.2.2 k hk).1
  · have := hs k hk
    rw [hF, if_neg (by omega)]; exact (M.2.2.2.2.2.2 k hk).2 x hx
variable {h : List Pic} {V : Pic}
theorem md_bank (P : MdApart Λ a) (H : Hist Λ μ a h) (N : NowV Λ μ (lyR Λ a 0) V) (ok : PicOK V) (hn : V.w.length < 12) (he : cntTo 12 (rooted V.sl) < 12) {x : Nat} (hx : x ≤ 99) : ∃ k μ', k < 12 ∧ V.sl k = [] ∧ sX5_bank Λ μ a (nI x) = some (nI V.w.length, μ') ∧ Done Λ μ μ' a h V (V.w ++ [x]) (slUp V.sl k [V.w.length]) V.j V.c V.t := by
  have S := ok.sl
  have e99 : (99 : Int32).toInt = 99 := rfl
  have e0 : (0 : Int32).toInt = 0 := rfl
  unfold sX5_bank
  rw [btw_eq, nI_toInt (by omega), e99, e0, if_pos (by omega), Option.bind_some, if_neg (by decide), md_n N, md_n0 N, if_neg (by rw [nI_lit12, nI_eq (by omega) (by omega)]; omega), md_refuse0, Option.bind_some]
  dsimp only
  rw [if_pos rfl]
  obtain ⟨μ1, q1, F, H1, N1⟩ := md_change P H ok N
  obtain ⟨k, hk, hke, q2⟩ := md_empty N1 S he
  have hN : lyN Λ (lyR Λ a 0) = 304 := N.1
  simp only [bnd]
  rw [q1, Option.bind_some, md_n N1, md_n0 N1, q2, Option.bind_some, hN, gd_t (show inb (0 : Int32) 304 by decide), gd_t (show inb (0 : Int32) 304 by decide), ix_w, gd_t (nI_in (by omega) (by omega)), nI_clamp (by omega), nI_1, show (0 : Int32).toNatClampNeg = 0 from rfl, raw_setSize hN hk, Option.bind_some, show sX5_setPlace Λ _ a (nI k) (0 : Int32) = sX5_setPlace Λ _ a (nI k) (nI 0) from rfl, raw_setPlace hN hk (by omega), Option.bind_some]
  have T := (((Mto.rf (μ := μ1) (q := lyR Λ a 0)).st 0 (nI (V.w.length + 1))).st (4 + V.w.length) (nI x)).st (16 + 24 * k) (nI 1)
  have T := T.st (16 + 24 * k + 1 + 0) (nI V.w.length)
  exact ⟨k, _, hk, hke, rfl, done_mk P F H1 T.1 (fun x hx _ => T.2.2 x hx) (now_bank N1 hn S.2.2.1 hk x T)⟩
theorem md_weigh (P : MdApart Λ a) (H : Hist Λ μ a h) (N : NowV Λ μ (lyR Λ a 0) V) (ok : PicOK V) {b x : Nat} (hb : b < V.w.length) (hx : x ≤ 99) (hne : wt V.w b ≠ x) : ∃ μ', sX5_weigh Λ μ a (nI b) (nI x) = some (nI (wt V.w b), μ') ∧ Done Λ μ μ' a h V (V.w.set b x) V.sl V.j V.c V.t := by
  have S := ok.sl
  have e99 : (99 : Int32).toInt = 99 := rfl
  have e0 : (0 : Int32).toInt = 0 := rfl
  have hw99 := wt_le S.2.1 b
  have hn := S.1
  have hN : lyN Λ (lyR Λ a 0) = 304 := N.1
  unfold sX5_weigh
  rw [isBank_1 N hn hb, Option.bind_some, if_neg (by decide), btw_eq, nI_toInt (by omega), e99, e0, if_pos (by omega), Option.bind_some, if_neg (by decide), md_weight N hn hb, Option.bind_some, if_neg (by rw [nI_eq (by omega) (by omega)]; exact hne), md_refuse0, Option.bind_some]
  dsimp only
  rw [if_pos rfl]
  obtain ⟨μ1, q1, F, H1, N1⟩ := md_change P H ok N
  simp only [bnd]
  rw [q1, Option.bind_some, md_weight N1 hn hb, Option.bind_some, hN, ix_w, gd_t (nI_in (by omega) (by omega)), nI_clamp (by omega)]
  have T := (Mto.rf (μ := μ1) (q := lyR Λ a 0)).st (4 + b) (nI x)
  exact ⟨_, rfl, done_mk P F H1 T.1 (fun x hx _ => T.2.2 x hx) (now_wt N1 hn S.2.2.1 hb T)⟩
theorem md_turn (P : MdApart Λ a) (H : Hist Λ μ a h) (N : NowV Λ μ (lyR Λ a 0) V) (ok : PicOK V) {k b r : Nat} {l : List Nat} (hk : k < 12) (hb : b ∈ V.sl k) (hr : V.sl k = r :: l) (hne : r ≠ b) : ∃ μ', sX5_turn Λ μ a (nI b) = some (nI r, μ') ∧ Done Λ μ μ' a h V V.w (slUp V.sl k (turnL (V.sl k) b)) V.j V.c (V.t + 1) := by
  have S := ok.sl
  have hn := S.1
  have hbw := S.2.2.2.1 k hk b hb
  have hrw := S.2.2.2.1 k hk r (by rw [hr]; simp)
  have hN : lyN Λ (lyR Λ a 0) = 304 := N.1
  unfold sX5_turn
  rw [isBank_1 N hn hbw, Option.bind_some, if_neg (by decide), md_root N S hk hb hr, Option.bind_some, if_neg (by rw [nI_eq (by omega) (by omega)]; exact hne), md_refuse0, Option.bind_some]
  dsimp only
  rw [if_pos rfl]
  obtain ⟨μ1, q1, F, H1, N1⟩ := md_change P H ok N
  obtain ⟨μ2, q2, q3, N2, q5⟩ := md_turnTo P N1 S hk hb
  simp only [bnd]
  rw [q1, Option.bind_some, q2, Option.bind_some, hN, gd_t (show inb (3 : Int32) 304 by decide), gd_t (show inb (3 : Int32) 304 by decide), show (3 : Int32).toNatClampNeg = 3 from rfl]
  have hs2 : ∀ i, i < 12 → (slUp V.sl k (turnL (V.sl k) b) i).length ≤ 23 := fun i hi => by
    unfold slUp
    by_cases e : i = k
    · rw [if_pos e]
      have := fi_lt hb
      have := S.2.2.1 k hk
      unfold turnL
      simp
      omega
    · rw [if_neg e]; exact S.2.2.1 i hi
  have N3 := now_acc N2 hn hs2 (i := 3) (by omega) (mA μ2 (lyR Λ a 0) 3 + 1)
  rw [if_neg (by decide), if_neg (by decide), if_pos rfl, N2.2.2.2.2.1] at N3
  rw [N2.2.2.2.2.1]
  refine ⟨_, rfl, done_mk P F H1 (by show μ2.1 = _; exact q3) (fun x hx h11 => ?_) N3⟩
  rw [(Mto.rf (μ := μ2) (q := lyR Λ a 0)).st 3 (V.t + 1) |>.2.2 x hx]
  exact q5 x hx h11
end MDO
