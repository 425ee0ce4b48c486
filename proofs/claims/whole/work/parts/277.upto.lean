section UPTO
variable {h : MH} {a kd n : Nat} {ds cs : Nat → Nat} {w wt : Nat}
theorem cFillL {L : Nat} (hL : L ≤ 5100) (hw : h.2.2 = 1) : ∃ k, f_J7_fill_bad5a h 87 5101 0 (nI (L + 1)) 0 = some k ∧ lgE 87 h k ∧ ∀ s, s ≤ L → k.2.1 87 s = 0 := by
  have key := lpo_ind (step := fun s : Int32 × MH => f_J7_fill_bad5a_B10 s.2 87 5101 (nI (L + 1)) 0 s.1) (fun i s => s.1 = nI i ∧ lgE 87 h s.2 ∧ ∀ q, q < i → s.2.2.1 87 q = 0) (fun k => lgE 87 h k ∧ ∀ s, s ≤ L → k.2.1 87 s = 0) (L + 1) 0 (0, h) ⟨rfl, lgE_r, fun q hq => absurd hq (Nat.not_lt_zero q)⟩ (fun i s hi I => ?_) (fun s I => ?_)
  · obtain ⟨k, e, q⟩ := key
    refine ⟨k, ?_, q⟩
    have e1 : f_J7_rangeCheck_23922 (nI 5101) 0 (nI (L + 1)) = some () := by
      unfold f_J7_rangeCheck_23922
      rw [if_neg (nlt0 (by omega)), if_neg (by decide), if_neg (nI_nlt (by omega) (by omega))]
    unfold f_J7_fill_bad5a f_J7_fill_bad5a_L10
    rw [lgs_t hw, gd_t, e1, bd_s, e, bd_s]
  · obtain ⟨s1, s2⟩ := s
    obtain ⟨e1, e2, e3⟩ := I
    have f1 : s1 = nI i := e1
    have f2 : lgE 87 h s2 := e2
    refine ⟨(nI (i + 1), uL s2 87 i 0), ?_, rfl, lgE_u f2, fun q hq => ?_⟩
    · (try dsimp only)
      unfold f_J7_fill_bad5a_B10
      rw [f1, if_pos (nI_lt (by omega) (by omega)), lgs_t (by rw [f2.2.1]; exact hw), gd_t, ix_n (by omega) (by decide), gd_t, nm_v, tn_n (by omega), nI_s]
    · show (uL s2 87 i 0).2.1 87 q = 0
      have hq2 : q < i + 1 := hq
      by_cases z : q = i
      · rw [z, uL_at]
      · rw [uL_k z]
        exact e3 q (by omega)
  · obtain ⟨s1, s2⟩ := s
    obtain ⟨e1, e2, e3⟩ := I
    have f1 : s1 = nI (0 + (L + 1)) := e1
    have f2 : lgE 87 h s2 := e2
    refine ⟨s2, ?_, f2, fun q hq => e3 q (show q < 0 + (L + 1) by omega)⟩
    (try dsimp only)
    unfold f_J7_fill_bad5a_B10
    rw [f1, if_neg (nI_nlt (by omega) (by omega))]
theorem cUp84 {L mo d : Nat} {x4 : Int32} {W : Nat → Nat} (hL : L ≤ 5100) (hmo : mo ≤ L) (hd : d ≤ 255) (hw : h.2.2 = 1) (hF : ∀ s, s ≤ L → h.2.1 87 s = lN (W s)) : ∃ k, f_X4_countUpTo_L84 h a (nI L) (nI mo) x4 (nI d) (nI mo) = some k ∧ lgE 87 h k ∧ ∀ s, s ≤ L → k.2.1 87 s = lN (if d ≤ s ∧ s ≤ mo then W s + W (s - d) else W s) := by
  have key := lpo_ind (step := fun s : Int32 × MH => f_X4_countUpTo_B84 s.2 a (nI L) (nI mo) x4 (nI d) s.1) (fun t s => s.1 = nI (mo + 1 - t) + (-1) ∧ lgE 87 h s.2 ∧ ∀ q, q ≤ L → s.2.2.1 87 q = lN (if q ≤ mo ∧ mo < q + t then W q + W (q - d) else W q)) (fun k => lgE 87 h k ∧ ∀ s, s ≤ L → k.2.1 87 s = lN (if d ≤ s ∧ s ≤ mo then W s + W (s - d) else W s)) (mo + 1 - d) 0 (nI mo, h) ⟨by rw [Nat.sub_zero, nI_dn (by omega)]; rfl, lgE_r, fun q hq => by rw [if_neg (by omega)]; exact hF q hq⟩ (fun t s ht I => ?_) (fun s I => ?_)
  · exact key
  · obtain ⟨s1, s2⟩ := s
    obtain ⟨e1, e2, e3⟩ := I
    have f1 : s1 = nI (mo + 1 - t) + (-1) := e1
    have f2 : lgE 87 h s2 := e2
    have w2 : s2.2.2 = 1 := by rw [f2.2.1]; exact hw
    have g1 := e3 (mo - t) (by omega)
    have g2 := e3 (mo - t - d) (by omega)
    have g1 : s2.2.1 87 (mo - t) = _ := g1
    have g2 : s2.2.1 87 (mo - t - d) = _ := g2
    rw [if_neg (by omega)] at g1 g2
    refine ⟨(nI (mo + 1 - (t + 1)) + (-1), uL s2 87 (mo - t) (lN (W (mo - t) + W (mo - t - d)))), ?_, rfl, lgE_u f2, fun q hq => ?_⟩
    · (try dsimp only)
      unfold f_X4_countUpTo_B84
      rw [f1, nI_dn (by omega), show mo + 1 - t - 1 = mo - t by omega, if_neg (nI_nlt (by omega) (by omega)), if_neg (nlt0 (by omega)), wok_t w2, gd_t, lgs_t w2, gd_t, ix_n (by omega) (by decide), gd_t, gd_t, gd_t, nIsub (by omega), ix_n (by omega) (by decide), gd_t, gd_t, gd_t, nm_v, tn_n (by omega), tn_n (by omega), g1, g2, lN_add, show mo + 1 - (t + 1) = mo - t by omega]
    · show (uL s2 87 (mo - t) (lN (W (mo - t) + W (mo - t - d)))).2.1 87 q = _
      by_cases z : q = mo - t
      · rw [z, uL_at, if_pos (by omega)]
      · rw [uL_k z]
        have g3 : s2.2.1 87 q = _ := e3 q hq
        rw [g3]
        by_cases y : q ≤ mo ∧ mo < q + t
        · rw [if_pos y, if_pos (by omega)]
        · rw [if_neg y, if_neg (by omega)]
  · obtain ⟨s1, s2⟩ := s
    obtain ⟨e1, e2, e3⟩ := I
    have f1 : s1 = nI (mo + 1 - (0 + (mo + 1 - d))) + (-1) := e1
    have f2 : lgE 87 h s2 := e2
    refine ⟨s2, ?_, f2, fun q hq => ?_⟩
    · (try dsimp only)
      unfold f_X4_countUpTo_B84
      have lt : nI (mo + 1 - (0 + (mo + 1 - d))) + (-1) < nI d := by
        by_cases z : mo + 1 - (0 + (mo + 1 - d)) = 0
        · rw [z, show nI 0 + (-1) = -1 from rfl, show d = 0 by omega]
          decide
        · rw [nI_dn (by omega)]
          exact nI_lt (by omega) (by omega)
      rw [f1, if_pos lt]
    · have g3 : s2.2.1 87 q = _ := e3 q hq
      rw [g3]
      by_cases y : d ≤ q ∧ q ≤ mo
      · rw [if_pos y, if_pos (by omega)]
      · rw [if_neg y, if_neg (by omega)]
def minN (a b : Nat) : Nat := if b < a then b else a
theorem cMin {a b : Nat} (ha : a < 2147483648) (hb : b < 2147483648) : f_J9_min_7cf53 (nI a) (nI b) = some (nI (minN a b)) := by
  unfold f_J9_min_7cf53 minN
  by_cases z : b < a
  · rw [if_pos (nI_lt z ha), if_pos z]
  · rw [if_neg (nI_nlt (by omega) hb), if_neg z]
theorem sum_le255 (hK : covK kd n ds cs w wt) {i : Nat} (hi : i ≤ n) : sumN ds i ≤ 10200 := by
  have hn := hK.1.2.1
  have := sumN_le (g := ds) (b := 255) (n := i) (fun j hj => hK.2.1 j (by omega))
  omega
theorem cUp55 {L : Nat} (ha : shp a = (1, 0)) (hK : covK kd n ds cs w wt) (hC : covC h a kd n ds cs w wt) (hL : L ≤ 5100) (hw : h.2.2 = 1) (hF : ∀ s, s ≤ L → h.2.1 87 s = lN (wW ds 0 s)) : ∃ b, f_X4_countUpTo_L55 h a (nI L) 0 0 = some b ∧ (b.1 = nI (minN L (sumN ds n)) ∧ lgE 87 h b.2 ∧ ∀ s, s ≤ L → b.2.2.1 87 s = lN (wW ds n s)) := by
  have hn := hK.1.2.1
  have key := lpo_ind (step := fun s : Int32 × Int32 × MH => f_X4_countUpTo_B55 s.2.2 a (nI L) s.1 s.2.1) (fun i s => s.1 = nI (minN L (sumN ds i)) ∧ s.2.1 = nI i ∧ lgE 87 h s.2.2 ∧ ∀ q, q ≤ L → s.2.2.2.1 87 q = lN (wW ds i q)) (fun b => b.1 = nI (minN L (sumN ds n)) ∧ lgE 87 h b.2 ∧ ∀ s, s ≤ L → b.2.2.1 87 s = lN (wW ds n s)) n 0 (0, 0, h) ⟨by
    show (0 : Int32) = nI (minN L 0)
    rw [show minN L 0 = 0 by unfold minN; split <;> omega]
    rfl, rfl, lgE_r, hF⟩ (fun i s hi I => ?_) (fun s I => ?_)
  · exact key
  · obtain ⟨s1, s2, s3⟩ := s
    obtain ⟨e1, e2, e3, e4⟩ := I
    have f1 : s1 = nI (minN L (sumN ds i)) := e1
    have f2 : s2 = nI i := e2
    have f3 : lgE 87 h s3 := e3
    have f4 : ∀ q, q ≤ L → s3.2.1 87 q = lN (wW ds i q) := e4
    have w3 : s3.2.2 = 1 := by rw [f3.2.1]; exact hw
    have bi := hK.2.1 i (by omega)
    have sl := sum_le255 hK (show i ≤ n by omega)
    have C3 : covC s3 a kd n ds cs w wt := covC_of (fun b _ _ => by rw [f3.1]) hC
    have es : sumN ds (i + 1) = sumN ds i + ds i := rfl
    have em : minN L (minN L (sumN ds i) + ds i) = minN L (sumN ds (i + 1)) := by
      rw [es]
      unfold minN
      by_cases y1 : sumN ds i < L
      · rw [if_pos y1]
      · rw [if_neg y1, if_neg (show ¬ L + ds i < L by omega), if_neg (by omega)]
    have ml : minN L (sumN ds (i + 1)) ≤ L := by
      unfold minN
      split <;> omega
    have ml2 : minN L (sumN ds i) ≤ L := by
      unfold minN
      split <;> omega
    obtain ⟨k, ek, k1, k2⟩ := cUp84 (a := a) (x4 := nI i) (d := ds i) hL ml bi w3 f4
    refine ⟨(nI (minN L (sumN ds (i + 1))), nI (i + 1), k), ?_, rfl, rfl, ⟨by rw [k1.1, f3.1], by rw [k1.2.1, f3.2.1], fun b hb => by rw [k1.2.2 b hb, f3.2.2 b hb]⟩, fun q hq => ?_⟩
    · (try dsimp only)
      unfold f_X4_countUpTo_B55
      rw [f1, f2, C3.2.1, if_pos (nI_lt (by omega) (by omega)), cDotAt ha hK C3 (by omega), bd_s, nI_add, cMin (by omega) (by omega), bd_s, em, ek, bd_s, nI_s]
    · show k.2.1 87 q = _
      rw [k2 q hq, wW_s]
      by_cases y : ds i ≤ q
      · rw [if_pos y]
        by_cases z : q ≤ minN L (sumN ds (i + 1))
        · rw [if_pos ⟨y, z⟩]
        · rw [if_neg (fun x => z x.2), wW_big (i := i) (k := q - ds i) (by
            rw [es] at z
            unfold minN at z
            split at z <;> omega)]
          rfl
      · rw [if_neg (fun x => y x.1), if_neg y]
        rfl
  · obtain ⟨s1, s2, s3⟩ := s
    obtain ⟨e1, e2, e3, e4⟩ := I
    have f1 : s1 = nI (minN L (sumN ds (0 + n))) := e1
    have f2 : s2 = nI (0 + n) := e2
    have f3 : lgE 87 h s3 := e3
    have f4 : ∀ q, q ≤ L → s3.2.1 87 q = lN (wW ds (0 + n) q) := e4
    have C3 : covC s3 a kd n ds cs w wt := covC_of (fun b _ _ => by rw [f3.1]) hC
    rw [Nat.zero_add] at f1 f2 f4
    refine ⟨(s1, s3), ?_, f1, f3, f4⟩
    (try dsimp only)
    unfold f_X4_countUpTo_B55
    rw [f2, C3.2.1, if_neg (nI_nlt (Nat.le_refl _) (by omega))]
theorem cUpSum {mo L : Nat} {W : Nat → Nat} (hL : L ≤ 5100) (hmo : mo ≤ L) (hw : h.2.2 = 1) (hF : ∀ s, s ≤ L → h.2.1 87 s = lN (W s)) : f_X4_countUpTo_L134 h (nI mo) 0 0 = some (lN (sumN W (mo + 1))) := by
  unfold f_X4_countUpTo_L134
  refine lpo_for (fun s => (lN (sumN W s), nI s)) (mo + 1) (fun s hs => ?_) ?_
  · (try dsimp only)
    unfold f_X4_countUpTo_B134
    rw [if_neg (nI_nlt (by omega) (by omega)), wok_t hw, gd_t, lgs_t hw, gd_t, ix_n (by omega) (by decide), gd_t, nm_v, tn_n (by omega), hF s (by omega), lN_add, nI_s]
    rfl
  · (try dsimp only)
    unfold f_X4_countUpTo_B134
    rw [if_pos (nI_lt (by omega) (by omega))]
theorem cUpTo16 {L : Nat} (ha : shp a = (1, 0)) (hK : covK kd n ds cs w wt) (hC : covC h a kd n ds cs w wt) (hL : L ≤ 5100) (hw : h.2.2 = 1) : ∃ k, f_X4_countUpTo_J16 h a (nI L) = some (lN (sumN (wW ds n) (L + 1)), k) ∧ lgE 87 h k := by
  obtain ⟨k1, e1, l1, z1⟩ := cFillL (h := h) hL hw
  have w1 : k1.2.2 = 1 := by rw [l1.2.1]; exact hw
  have C1 : covC (uL k1 87 0 1) a kd n ds cs w wt := covC_of (fun b _ _ => by rw [uL_1, l1.1]) hC
  obtain ⟨b, e2, m2, l2, z2⟩ := cUp55 (h := uL k1 87 0 1) (L := L) ha hK C1 hL (by rw [uL_w]; exact w1) (fun s hs => by
    by_cases y : s = 0
    · rw [y, uL_at]
      rfl
    · rw [uL_k y, z1 s hs, show wW ds 0 s = 0 from if_neg y]
      rfl)
  have w2 : b.2.2.2 = 1 := by rw [l2.2.1, uL_w]; exact w1
  have ml : minN L (sumN ds n) ≤ L := by
    unfold minN
    split <;> omega
  have e3 := cUpSum hL ml w2 z2
  have es : sumN (wW ds n) (minN L (sumN ds n) + 1) = sumN (wW ds n) (L + 1) := by
    unfold minN
    by_cases y : sumN ds n < L
    · rw [if_pos y]
      exact (wW_more (by omega) (by omega)).symm
    · rw [if_neg y]
  refine ⟨b.2, ?_, ⟨by rw [l2.1, uL_1, l1.1], by rw [l2.2.1, uL_w, l1.2.1], fun q hq => by rw [l2.2.2 q hq, uL_n hq, l1.2.2 q hq]⟩⟩
  unfold f_X4_countUpTo_J16
  rw [if_neg (nlt0 (by omega)), wok_t hw, gd_t, lgs_t hw, gd_t, if_pos (show nI L < 5101 from (nI_lt (show L < 5101 by omega) (by decide) : nI L < nI 5101)), gd_t, nI_s, e1, bd_s, wok_t w1, gd_t, lgs_t w1, gd_t, show ix 0 5101 = true by decide, gd_t, nm_v, tn_0, e2, bd_s, m2, e3, bd_s, es]
/-- all but the long row is as it was, and the long row may have been made -/
def lgW (h k : MH) : Prop := k.1 = h.1 ∧ (k.2.2 = 0 ∨ k.2.2 = 1) ∧ ∀ b, b ≠ 87 → k.2.1 b = h.2.1 b
theorem cUpTo {L : Nat} (ha : shp a = (1, 0)) (hK : covK kd n ds cs w wt) (hC : covC h a kd n ds cs w wt) (hL : L ≤ 5100) (hw : SW h) : ∃ k, f_X4_countUpTo h a (nI L) = some (lN (sumN (wW ds n) (L + 1)), k) ∧ lgW h k := by
  unfold f_X4_countUpTo
  rcases hw with z | z
  · have C1 : covC (uW h) a kd n ds cs w wt := covC_of (fun b _ _ => rfl) hC
    obtain ⟨k, e, l⟩ := cUpTo16 (h := uW h) ha hK C1 hL rfl
    refine ⟨k, by rw [if_pos z, e], l.1, Or.inr l.2.1, fun b hb => ?_⟩
    rw [l.2.2 b hb]
    funext j
    simp [uW, hb]
  · obtain ⟨k, e, l⟩ := cUpTo16 (h := h) ha hK hC hL z
    refine ⟨k, by rw [if_neg (by rw [z]; decide), e], l.1, Or.inr (by rw [l.2.1, z]), l.2.2⟩
theorem cUpTo_n {x : Int32} (hx : x < 0) (hw : SW h) : ∃ k, f_X4_countUpTo h a x = some (0, k) ∧ lgW h k := by
  unfold f_X4_countUpTo f_X4_countUpTo_J16
  rcases hw with z | z
  · refine ⟨uW h, by rw [if_pos z, if_pos hx], rfl, Or.inr rfl, fun b hb => ?_⟩
    funext j
    simp [uW, hb]
  · exact ⟨h, by rw [if_neg (by rw [z]; decide), if_pos hx], rfl, Or.inr z, fun _ _ => rfl⟩
end UPTO
