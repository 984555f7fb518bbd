/-! THE REFERENCE: cutting and joining. -/
def cutA (l : List Nat) (b : Nat) : List Nat := l.take (fi l b) ++ l.drop (li l b + 2)
def cutB (l : List Nat) (b : Nat) : List Nat := (l.take (li l b + 1)).drop (fi l b)
section MDQ
variable {Λ : Lay} {μ : Mem} {a : Nat} {w : List Nat} {sl : Nat → List Nat} {j c t : Int32}
theorem now_cut {q k e b : Nat} (M : NowIs Λ μ q w sl j c t) (hn : w.length ≤ 12) (hs : ∀ k, k < 12 → (sl k).length ≤ 23) (hk : k < 12) (he : e < 12) (hke : k ≠ e) (hfl : fi (sl k) b ≤ li (sl k) b) (hla : li (sl k) b + 1 < (sl k).length) {μ' : Mem} (T : mA μ' q = upd (upd (upd (wr (wr (mA μ q) (16 + 24 * e + 1) ((sl k).take (li (sl k) b + 1) |>.drop (fi (sl k) b))) (16 + 24 * k + 1 + fi (sl k) b) ((sl k).drop (li (sl k) b + 2))) (16 + 24 * k) (nI ((sl k).length - (li (sl k) b - fi (sl k) b + 2)))) (16 + 24 * e) (nI (li (sl k) b - fi (sl k) b + 1))) 2 (mA μ q 2 + 1)) : NowIs Λ μ' q w (slUp (slUp sl k (cutA (sl k) b)) e (cutB (sl k) b)) j (c + 1) t := by
  have hkk : k + 1 ≤ e ∨ e + 1 ≤ k := by omega
  have hl23 := hs k hk
  have hY : ((sl k).take (li (sl k) b + 1) |>.drop (fi (sl k) b)).length = li (sl k) b + 1 - fi (sl k) b := by simp; omega
  have hD : ((sl k).drop (li (sl k) b + 2)).length = (sl k).length - (li (sl k) b + 2) := by simp
  have hF : ∀ y, mA μ' q y = if y = 2 then mA μ q 2 + 1 else if y = 16 + 24 * e then nI (li (sl k) b - fi (sl k) b + 1) else if y = 16 + 24 * k then nI ((sl k).length - (li (sl k) b - fi (sl k) b + 2)) else wr (wr (mA μ q) (16 + 24 * e + 1) ((sl k).take (li (sl k) b + 1) |>.drop (fi (sl k) b))) (16 + 24 * k + 1 + fi (sl k) b) ((sl k).drop (li (sl k) b + 2)) y := fun y => by rw [T]; rfl
  have hlow : ∀ y, y < 16 → y ≠ 2 → mA μ' q y = mA μ q y := fun y h1 h2 => by
    rw [hF, if_neg h2, if_neg (by omega), if_neg (by omega), wr_out (by omega), wr_out (by omega)]
  refine ⟨M.1, (hlow 0 (by omega) (by omega)).trans M.2.1, (hlow 1 (by omega) (by omega)).trans M.2.2.1, ?_, (hlow 3 (by omega) (by omega)).trans M.2.2.2.2.1, fun b' hb' => (hlow (4 + b') (by omega) (by omega)).trans (M.2.2.2.2.2.1 b' hb'), fun i hi => ?_⟩
  · rw [hF, if_pos rfl, M.2.2.2.1]
  · unfold slUp
    by_cases y1 : i = e
    · subst y1
      rw [if_pos rfl]
      have hcl : (cutB (sl k) b).length = li (sl k) b + 1 - fi (sl k) b := hY
      refine ⟨?_, fun x hx => ?_⟩
      · rw [hF, if_neg (by omega), if_pos rfl, hcl]
        congr 1
        omega
      · rw [hcl] at hx
        rw [hF, if_neg (by omega), if_neg (by omega), if_neg (by omega), wr_out (by omega), wr_in (by rw [hY]; exact hx)]
        rfl
    · rw [if_neg y1]
      by_cases y2 : i = k
      · subst y2
        rw [if_pos rfl]
        have hcl : (cutA (sl i) b).length = (sl i).length - (li (sl i) b - fi (sl i) b + 2) := by
          unfold cutA; simp; omega
        refine ⟨?_, fun x hx => ?_⟩
        · rw [hF, if_neg (by omega), if_neg (by omega), if_pos rfl, hcl]
        · rw [hcl] at hx
          rw [hF, if_neg (by omega), if_neg (by omega), if_neg (by omega)]
          have hg : nI (cutA (sl i) b)[x] = nI ((cutA (sl i) b).getD x 0) := by
            congr 1
            rw [List.getD_eq_getElem?_getD, List.getElem?_eq_getElem (by rw [hcl]; exact hx)]
            rfl
          rw [hg]
          unfold cutA
          rw [List.getD_eq_getElem?_getD]
          by_cases y : x < fi (sl i) b
          · rw [wr_out (by omega), wr_out (by omega), (M.2.2.2.2.2.2 i hi).2 x (by omega), List.getElem?_append_left (by rw [List.length_take]; omega), List.getElem?_take, if_pos y, List.getElem?_eq_getElem (by omega)]
            rfl
          · obtain ⟨z, rfl⟩ : ∃ z, x = fi (sl i) b + z := ⟨x - fi (sl i) b, by omega⟩
            have ht : ((sl i).take (fi (sl i) b)).length = fi (sl i) b := by rw [List.length_take]; omega
            have hz : z < ((sl i).drop (li (sl i) b + 2)).length := by rw [hD]; omega
            rw [show 16 + 24 * i + 1 + (fi (sl i) b + z) = 16 + 24 * i + 1 + fi (sl i) b + z by omega, wr_in hz, List.getElem?_append_right (by rw [ht]; omega), ht, Nat.add_sub_cancel_left, List.getElem?_eq_getElem hz]
            rfl
      · rw [if_neg y2]
        have d1 : i + 1 ≤ k ∨ k + 1 ≤ i := by omega
        have d2 : i + 1 ≤ e ∨ e + 1 ≤ i := by omega
        have hi3 := hs i hi
        refine ⟨?_, fun x hx => ?_⟩
        · rw [hF, if_neg (by omega), if_neg (by omega), if_neg (by omega), wr_out (by omega), wr_out (by omega)]
          exact (M.2.2.2.2.2.2 i hi).1
        · rw [hF, if_neg (by omega), if_neg (by omega), if_neg (by omega), wr_out (by omega), wr_out (by omega)]
          exact (M.2.2.2.2.2.2 i hi).2 x hx
variable {h : List Pic} {V : Pic}
def lowOf (l : List Nat) (b d : Nat) : Nat := if fi l b ≤ fi l d then d else b
theorem md_cut (P : MdApart Λ a) (H : Hist Λ μ a h) (N : NowV Λ μ (lyR Λ a 0) V) (ok : PicOK V) {k b d : Nat} (hk : k < 12) (hb : b ∈ V.sl k) (hd : d ∈ V.sl k) (hnb : nbr (V.sl k) b d = true) (hla : li (V.sl k) (lowOf (V.sl k) b d) + 1 < (V.sl k).length) (he : cntTo 12 (rooted V.sl) < 12) : ∃ e μ', e < 12 ∧ V.sl e = [] ∧ sX5_cut Λ μ a (nI b) (nI d) = some (nI (lowOf (V.sl k) b d), μ') ∧ Done Λ μ μ' a h V V.w (slUp (slUp V.sl k (cutA (V.sl k) (lowOf (V.sl k) b d))) e (cutB (V.sl k) (lowOf (V.sl k) b d))) V.j (V.c + 1) V.t := by
  have S := ok.sl
  have hn := S.1
  have hbw := S.2.2.2.1 k hk b hb
  have hdw := S.2.2.2.1 k hk d hd
  unfold sX5_cut
  rw [isBank_1 N hn hbw, Option.bind_some, if_neg (by decide), isBank_1 N hn hdw, Option.bind_some, if_neg (by decide), md_one N S hk hb hdw, if_pos hd, Option.bind_some, if_neg (by decide), md_tied N S hk hb (by omega), if_pos hnb, Option.bind_some, if_neg (by decide), md_refuse0, Option.bind_some]
  dsimp only
  rw [if_pos rfl]
  obtain ⟨μ1, q1, F, H1, N1⟩ := md_change P H ok N
  have hlow : lowOf (V.sl k) b d ∈ V.sl k := by
    unfold lowOf
    by_cases q : fi (V.sl k) b ≤ fi (V.sl k) d
    · rw [if_pos q]; exact hd
    · rw [if_neg q]; exact hb
  have hlo : sX5_lower Λ μ1 a (nI b) (nI d) = some (nI (lowOf (V.sl k) b d)) := by
    rw [md_lower N1 S hk hb hd]
    unfold lowOf
    by_cases q : fi (V.sl k) b ≤ fi (V.sl k) d
    · rw [if_pos q, if_pos q]
    · rw [if_neg q, if_neg q]
  obtain ⟨e, hee, hes, q2⟩ := md_empty N1 S he
  have hke : k ≠ e := fun q => by rw [q, hes] at hb; cases hb
  have hfl := fi_le_li hlow
  have hfl' := fi_lt hlow
  have hl23 := S.2.2.1 k hk
  rw [q1, Option.bind_some, hlo, Option.bind_some, md_round N1 S hk hlow, Option.bind_some, md_first N1 S hk hlow, Option.bind_some, md_last N1 S hk hlow, Option.bind_some, q2, Option.bind_some]
  obtain ⟨μ2, r1, r2⟩ := md_cut1 (μ := μ1) (b := lowOf (V.sl k) b d) (g := mA μ1 (lyR Λ a 0)) P hk hee hke hl23 hfl hla (N1.2.2.2.2.2.2 k hk).2 (N1.2.2.2.2.2.2 k hk).1 fuel (fi (V.sl k) (lowOf (V.sl k) b d)) μ1 (Nat.le_refl _) (by omega) (by unfold fuel; omega) (by rw [Nat.sub_self, List.take_zero, wr_nil]; exact Mto.rf)
  exact ⟨e, μ2, hee, hes, r1, done_mk P F H1 r2.1 (fun x hx _ => r2.2.2 x hx) (now_cut N1 hn S.2.2.1 hk hee hke hfl hla r2.2.1)⟩
theorem sl_turn (S : SlOK w sl) {k b : Nat} (hk : k < 12) (hb : b ∈ sl k) (hm : ∀ x, x ∈ turnL (sl k) b ↔ x ∈ sl k) : SlOK w (slUp sl k (turnL (sl k) b)) := by
  have hl : (turnL (sl k) b).length = (sl k).length := by
    have := fi_lt hb
    unfold turnL; simp; omega
  have hin : ∀ i x, x ∈ slUp sl k (turnL (sl k) b) i ↔ x ∈ sl i := fun i x => by
    unfold slUp
    by_cases e : i = k
    · subst e; rw [if_pos rfl]; exact hm x
    · rw [if_neg e]
  refine ⟨S.1, S.2.1, fun i hi => ?_, fun i hi x hx => S.2.2.2.1 i hi x ((hin i x).mp hx), fun i i' x hi hi' h1 h2 => S.2.2.2.2.1 i i' x hi hi' ((hin i x).mp h1) ((hin i' x).mp h2), fun x hx => ?_⟩
  · unfold slUp
    by_cases e : i = k
    · rw [if_pos e, hl]; exact S.2.2.1 k hk
    · rw [if_neg e]; exact S.2.2.1 i hi
  · obtain ⟨i, hi, h2⟩ := S.2.2.2.2.2 x hx
    exact ⟨i, hi, (hin i x).mpr h2⟩
theorem md_join (P : MdApart Λ a) (H : Hist Λ μ a h) (N : NowV Λ μ (lyR Λ a 0) V) (ok : PicOK V) {k1 k2 b g : Nat} {r : Nat} {l : List Nat} (h1 : k1 < 12) (h2 : k2 < 12) (hb : b ∈ V.sl k1) (hg : g ∈ V.sl k2) (hk : k1 ≠ k2) (hr : V.sl k1 = r :: l) (hlen : (V.sl k1).length + (V.sl k2).length + 1 ≤ 23) (S1 : SlOK V.w (slUp V.sl k2 (turnL (V.sl k2) g))) (S2 : SlOK V.w (slUp (slUp V.sl k1 (insL (V.sl k1) b (turnL (V.sl k2) g))) k2 [])) : ∃ μ', sX5_join Λ μ a (nI b) (nI g) = some (nI (((insL (V.sl k1) b (turnL (V.sl k2) g)).length + 1) / 2), μ') ∧ Done Λ μ μ' a h V V.w (slUp (slUp V.sl k1 (insL (V.sl k1) b (turnL (V.sl k2) g))) k2 []) (V.j + 1) V.c V.t := by
  have S := ok.sl
  have hn := S.1
  have hbw := S.2.2.2.1 k1 h1 b hb
  have hgw := S.2.2.2.1 k2 h2 g hg
  have hgn : g ∉ V.sl k1 := fun q => hk (S.2.2.2.2.1 k1 k2 g h1 h2 q hg)
  have hbg : b ≠ g := fun q => hgn (q ▸ hb)
  have hN : lyN Λ (lyR Λ a 0) = 304 := N.1
  unfold sX5_join
  rw [isBank_1 N hn hbw, Option.bind_some, if_neg (by decide), isBank_1 N hn hgw, Option.bind_some, if_neg (by decide), if_neg (by rw [nI_eq (by omega) (by omega)]; exact hbg), md_refuse0, Option.bind_some]
  dsimp only
  rw [if_pos rfl, md_one N S h1 hb hgw, if_neg hgn, Option.bind_some, md_root N S h1 hb hr, Option.bind_some, md_refuse0, Option.bind_some]
  dsimp only
  rw [if_pos rfl]
  obtain ⟨μ1, q1, F, H1, N1⟩ := md_change P H ok N
  obtain ⟨μ2, q2, q3, N2, q5⟩ := md_putIn P N1 S h1 h2 hb hg hk hlen S1
  simp only [bnd]
  rw [q1, Option.bind_some, q2, Option.bind_some, hN, gd_t (show inb (1 : Int32) 304 by decide), gd_t (show inb (1 : Int32) 304 by decide), show (1 : Int32).toNatClampNeg = 1 from rfl]
  have N3 := now_acc N2 hn S2.2.2.1 (i := 1) (by omega) (mA μ2 (lyR Λ a 0) 1 + 1)
  rw [if_pos rfl, if_neg (by decide), if_neg (by decide), N2.2.2.1] at N3
  rw [N2.2.2.1]
  have hbi : b ∈ slUp (slUp V.sl k1 (insL (V.sl k1) b (turnL (V.sl k2) g))) k2 [] k1 := by
    unfold slUp
    rw [if_neg hk, if_pos rfl]
    unfold insL
    simp
  rw [md_round N3 S2 h1 hbi, Option.bind_some, md_banksOf N3 S2 h1, Option.bind_some]
  have hk1 : slUp (slUp V.sl k1 (insL (V.sl k1) b (turnL (V.sl k2) g))) k2 [] k1 = insL (V.sl k1) b (turnL (V.sl k2) g) := by
    unfold slUp
    rw [if_neg hk, if_pos rfl]
  rw [hk1]
  refine ⟨_, rfl, done_mk P F H1 (by show μ2.1 = _; exact q3) (fun x hx h11 => ?_) N3⟩
  rw [(Mto.rf (μ := μ2) (q := lyR Λ a 0)).st 1 (V.j + 1) |>.2.2 x hx]
  exact q5 x hx h11
end MDQ
