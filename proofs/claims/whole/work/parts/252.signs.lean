/-! a mark's signs -/
def sgV (key : Int32) (i : Nat) : Int32 := if keyB (keyN key (i + 1)) % 2 = 1 then 1 else -1
theorem cSigns {h : MH} {key : Int32} : f_X4_signBy h key = some (uA h 15 (wr (h.1 15) 0 (sgV key) 40)) := by
  have e1 : f_X4_signBy_L4 h key 0 = some (uA h 15 (wr (h.1 15) 0 (sgV key) 40)) := by
    unfold f_X4_signBy_L4
    rw [show (key, (0 : Int32), h) = (keyN key 0, nI 0, uA h 15 (wr (h.1 15) 0 (sgV key) 0)) by rw [wr_0]; rfl]
    refine lpo_for (fun i => (keyN key i, nI i, uA h 15 (wr (h.1 15) 0 (sgV key) i))) 40 (fun i hi => ?_) ?_
    · (try dsimp only)
      have l2 := keyB_lt (keyN key (i + 1))
      unfold f_X4_signBy_B4
      rw [if_pos (show nI i < 40 from (nI_lt hi (by omega) : nI i < nI 40)), cNext, bd_s, show nxtK (keyN key i) = keyN key (i + 1) from rfl, cBits, bd_s, N_remK (by omega) (by decide) (by decide), ix_n hi (by decide), gd_t, gd_t, nm_v, nm_v, tn_n (by omega), nI_s]
      by_cases q : keyB (keyN key (i + 1)) % 2 = 1
      · rw [if_pos (show nI (keyB (keyN key (i + 1)) % 2) = 1 by rw [q]; rfl), wr_0s (show 1 = sgV key i by unfold sgV; rw [if_pos q])]
      · rw [if_neg (show ¬ nI (keyB (keyN key (i + 1)) % 2) = 1 from fun z => q ((nI_eq (b := 1) (by omega) (by decide)).mp z)), wr_0s (show -1 = sgV key i by unfold sgV; rw [if_neg q])]
    · (try dsimp only)
      unfold f_X4_signBy_B4
      rw [if_neg (by decide)]
  unfold f_X4_signBy
  rw [e1, bd_s]
theorem mSigns {h : MH} {key : Int32} {n : Nat} (hn : n ≤ 40) : f_X7_setSigns h (nI n) key = some (uA (uI h 64 16 (keyN key n)) 84 (wr (h.1 84) 0 (sgV key) n)) := by
  have cm : ∀ (g : MH) (f : Nat → Int32) (x y : Int32), uI (uA (uI g 64 16 x) 84 f) 64 16 y = uA (uI g 64 16 y) 84 f := fun g f x y => by
    unfold uA uI
    congr 1
    funext b j
    by_cases q : b = 84
    · simp [q]
    · by_cases z : b = 64 ∧ j = 16 <;> simp [q, z]
  have e1 : f_X7_setSigns_L7 (uI h 64 16 key) (nI n) 0 = some (uA (uI h 64 16 (keyN key n)) 84 (wr (h.1 84) 0 (sgV key) n)) := by
    unfold f_X7_setSigns_L7
    rw [show ((0 : Int32), uI h 64 16 key) = (nI 0, uA (uI h 64 16 (keyN key 0)) 84 (wr (h.1 84) 0 (sgV key) 0)) by
      have := wr_0 (h := uI h 64 16 key) (a := 84) (b := 0) (g := sgV key)
      rw [uI_ne (by decide)] at this
      rw [show keyN key 0 = key from rfl, this]
      rfl]
    refine lpo_for (fun i => (nI i, uA (uI h 64 16 (keyN key i)) 84 (wr (h.1 84) 0 (sgV key) i))) n (fun i hi => ?_) ?_
    · (try dsimp only)
      have l2 := keyB_lt (keyN key (i + 1))
      unfold f_X7_setSigns_B7
      rw [if_pos (nI_lt hi (by omega)), show (2 : Int32) = nI 2 from rfl, mDraw (by decide) (by decide), bnd2_s, uA_ne (by decide), uI_at, show nxtK (keyN key i) = keyN key (i + 1) from rfl, cm, ix_n (show i < 40 by omega) (by decide), gd_t, gd_t, nm_v, nm_v, tn_n (by omega), nI_s]
      by_cases q : keyB (keyN key (i + 1)) % 2 = 1
      · rw [if_pos (show nI (keyB (keyN key (i + 1)) % 2) = 1 by rw [q]; rfl), wr_0s (show 1 = sgV key i by unfold sgV; rw [if_pos q])]
      · rw [if_neg (show ¬ nI (keyB (keyN key (i + 1)) % 2) = 1 from fun z => q ((nI_eq (b := 1) (by omega) (by decide)).mp z)), wr_0s (show -1 = sgV key i by unfold sgV; rw [if_neg q])]
    · (try dsimp only)
      unfold f_X7_setSigns_B7
      rw [if_neg (nI_nlt (Nat.le_refl _) (by omega))]
  unfold f_X7_setSigns
  rw [nm_v, e1, bd_s]
def sumI (g : Nat → Int32) : Nat → Int32
  | 0 => 0
  | n + 1 => sumI g n + g n
def sumT (key : Int32) (ds : Nat → Nat) (n s i : Nat) : Int32 := nI (ds i) * sgV key ((i + s) % n)
section SUMS
variable {h : MH} {key : Int32} {a c kd n s : Nat} {ds cs : Nat → Nat} {w wt : Nat}
theorem cSignAt {i : Nat} (hi : i < 40) : f_X4_signAt h (nI i) = some (h.1 15 i) := by
  unfold f_X4_signAt
  simp (disch := omega) only [bd_w, bnd2_w, gd_w, nm_w, ix_n, tn_n, lin40, lin60, nI_s, nI_add, N_lt, N_eq, N_ltK, K_ltN, N_eqK, K_eqN, N_addK, K_addN, pk_mul, N_mulK, K_mulN, pk_sub, N_subK, pk_div, N_divK, N_rem, N_remK, N_nz, cIsRow, cIsText, cIsCover, cIsCode, mIsRow, mIsText, mIsCover, mIsCode, mIn, inR_d, btw_K, dec_t, dec_f, rf_rows, rf_texts, rf_covers, rf_codes, Bool.false_eq_true, eq_self, if_true, if_false, Nat.add_zero, Nat.zero_add, if_pos, if_neg, nlt0]
theorem cSumOver (ha : shp a = (1, 0)) (hK : covK kd n ds cs w wt) (hC : covC h a kd n ds cs w wt) (hs : s < 40) (hsg : ∀ i, i < 40 → h.1 15 i = sgV key i) : f_X4_sumOver h a (nI s) = some (sumI (sumT key ds n s) n) := by
  have hn := hK.1.2.1
  have hn1 := hK.1.1
  have e1 : f_X4_sumOver_L15 h a (nI s) 0 0 = some (sumI (sumT key ds n s) n) := by
    unfold f_X4_sumOver_L15
    refine lpo_for (fun i => (sumI (sumT key ds n s) i, nI i)) n (fun i hi => ?_) ?_
    · (try dsimp only)
      have l := Nat.mod_lt (i + s) (show n > 0 by omega)
      unfold f_X4_sumOver_B15
      rw [hC.2.1, if_pos (nI_lt hi (by omega)), cDotAt ha hK hC hi, bd_s, N_nz (by omega) (by omega), gd_t, nI_add, N_rem (by omega) (by omega) (by omega), cSignAt (by omega), bd_s, nm_v, nI_s, hsg _ (by omega)]
      rfl
    · (try dsimp only)
      unfold f_X4_sumOver_B15
      rw [hC.2.1, if_neg (nI_nlt (Nat.le_refl _) (by omega))]
  unfold f_X4_sumOver
  rw [hC.2.1, if_neg (show ¬ nI n < 1 from (nI_nlt hn1 (by omega) : ¬ nI n < nI 1)), e1, bd_s]
theorem mSumBy (hc : c < 6) (hK : covK kd n ds cs w wt) (hM : covM h c kd n ds cs w wt) (hs : s < 40) (hsg : ∀ i, i < n → h.1 84 i = sgV key i) : f_X7_sumBy h (nI c) (nI s) = some (sumI (sumT key ds n s) n) := by
  have hn := hK.1.2.1
  have hn1 := hK.1.1
  have e1 : f_X7_sumBy_L5 h (nI c) (nI s) 0 0 = some (sumI (sumT key ds n s) n) := by
    unfold f_X7_sumBy_L5
    refine lpo_for (fun i => (sumI (sumT key ds n s) i, nI i)) n (fun i hi => ?_) ?_
    · (try dsimp only)
      have l := Nat.mod_lt (i + s) (show n > 0 by omega)
      unfold f_X7_sumBy_B5
      rw [ix_n hc (by decide), gd_t, tn_n (by omega), hM.2.1, if_pos (nI_lt hi (by omega)), mDotAt hc hK hM hi, bd_s, gd_t, N_nz (by omega) (by omega), gd_t, nI_add, N_rem (by omega) (by omega) (by omega), ix_n (by omega) (by decide), gd_t, nm_v, nI_s, tn_n (by omega), hsg _ l]
      rfl
    · (try dsimp only)
      unfold f_X7_sumBy_B5
      rw [ix_n hc (by decide), gd_t, tn_n (by omega), hM.2.1, if_neg (nI_nlt (Nat.le_refl _) (by omega))]
  unfold f_X7_sumBy
  rw [e1, bd_s]
end SUMS
theorem op_sum {h : MH} (S : Sim h) (c key y : Int32) : Op (f_X6_sum h c key y) (fun h1 => f_X7_sum h1 c key y) := by
  have hyE : btw y 0 39 = inR y 40 := btw_inR rfl (by decide)
  cases hy : inR y 40 with
  | false =>
    refine op_same S (v := -1) ?_ ?_
    · unfold f_X6_sum
      rw [cIsCover, bd_s, inR_if (n := 40) (N := 40) rfl, hy]
      cases inR c 6 <;> rfl
    · show f_X7_sum h _ _ _ = _
      unfold f_X7_sum
      rw [mIn, bd_s, hyE, hy]
      rfl
  | true =>
    obtain ⟨s, hs, rfl⟩ := inR_t (by decide) hy
    rcases cover_cases S.2.2.1 c with hc | ⟨c, hc6, rfl, hc, ⟨m1, m2⟩ | ⟨kd, n, ds, cs, w, wt, hK, hC, hM⟩⟩
    · exact op_same S (v := -1) (by unfold f_X6_sum; rw [cIsCover, bd_s, hc, if_neg (by decide)]) (by show f_X7_sum h _ _ _ = _; unfold f_X7_sum; rw [mIn, bd_s, hyE, hy, if_pos rfl, mAskCov_b hc, bnd2_s, if_pos (by decide)])
    · refine op_found S (f := 1) (by decide) (by decide) ?_ ?_
      · unfold f_X6_sum
        rw [cIsCover, bd_s, hc, if_pos rfl, inR_if (n := 40) (N := 40) rfl, hy, if_pos rfl, ix_n hc6 (by decide), gd_t, tn_n (by omega), rf_covers hc6, cMissC_t m1, bd_s, if_pos rfl]
        exact pF (by decide) (by decide)
      · show f_X7_sum (fd h 1) _ _ _ = _
        unfold f_X7_sum
        rw [mIn, bd_s, hyE, hy, if_pos rfl, mAskCov_m hc6 (by rw [fd_ne (by decide) (by decide)]; exact m2), pB (by decide) (by decide)]
    · have hn := hK.1.2.1
      have hn1 := hK.1.1
      generalize hg : uA h 15 (wr (h.1 15) 0 (sgV key) 40) = g
      have F : ∀ a, a ≠ 15 → g.1 a = h.1 a := fun a ha => by rw [← hg, uA_ne ha]
      have g2 : g.2 = h.2 := by rw [← hg]; rfl
      have gs : ∀ i, i < 40 → g.1 15 i = sgV key i := fun i hi => by rw [← hg, uA_at, wr_0in hi]
      have gC : covC g (38 + 3 * c) kd n ds cs w wt := covC_of (fun b q1 q2 => F b (by omega)) hC
      generalize hv : sumI (sumT key ds n s) n = v
      have eC : f_X4_sumOver g (38 + 3 * c) (nI s) = some v := by rw [← hv]; exact cSumOver (sh_cov hc6) hK gC hs gs
      generalize hk : uA (uI (uI g 0 9 v) 64 16 (keyN key n)) 84 (wr ((uI g 0 9 v).1 84) 0 (sgV key) n) = k
      have kF : ∀ a, a ≠ 84 → a ≠ 64 → k.1 a = (uI g 0 9 v).1 a := fun a q1 q2 => by rw [← hk, uA_ne q1, uI_ne q2]
      have kM : covM k c kd n ds cs w wt := covM_of (fun b q1 q2 => by rw [kF b (by omega) (by omega), uI_ne (by omega), F b (by omega)]) hM
      have ks : ∀ i, i < n → k.1 84 i = sgV key i := fun i hi => by rw [← hk, uA_at, wr_0in hi]
      have k2 : k.2 = h.2 := by rw [← hk]; exact g2
      have eM : f_X7_sumBy k (nI c) (nI s) = some v := by rw [← hv]; exact mSumBy hc6 hK kM hs ks
      refine ⟨1, uI g 0 9 v, uI k 64 2 v, ?_, ?_, ?_⟩
      · unfold f_X6_sum
        rw [cIsCover, bd_s, hc, if_pos rfl, inR_if (n := 40) (N := 40) rfl, hy, if_pos rfl, ix_n hc6 (by decide), gd_t, tn_n (by omega), rf_covers hc6, cMissC_f hC.2.1 hK.1.1 (by omega), bd_s, if_neg (by decide), cSigns, bd_s, gd_t, hg, eC, bd_s, nm_v]
      · show f_X7_sum (uI g 0 9 v) _ _ _ = _
        have e71 : (uI g 0 9 v).1 71 c = nI n := by rw [uI_ne (by decide), F 71 (by decide)]; exact hM.2.1
        unfold f_X7_sum f_X7_ask
        rw [mIn, bd_s, hyE, hy, if_pos rfl, mAskCov_o (n := n) hc6 e71 hK.1.1 (by omega), bnd2_s, if_neg (by decide), ix_n hc6 (by decide), gd_t, tn_n (by omega), e71, mSigns hn, bd_s, hk, eM, bd_s, nm_v, bnd2_s]
      · refine sim_scr S (fun a ha => ?_) ?_ ?_ ?_ ?_
        · rw [uI_ne (by omega), kF a (by omega) (by omega), uI_ne (by omega), F a (by omega)]
        · rw [uI_ne (by decide), kF 0 (by decide) (by decide), uI_at, uI_at]
        · rw [uI_ne (by decide), kF 0 (by decide) (by decide), uI_k (by decide), uI_k (by decide), ← hk, uA_ne (by decide), uI_k (by decide), uI_ne (by decide), F 0 (by decide), F 64 (by decide)]
          exact S.2.2.2.2.2.2.1.1
        · show SF k
          unfold SF
          rw [k2]
          exact S.2.2.2.2.2.1
        · show SW k
          unfold SW
          rw [k2]
          exact S.2.2.2.2.2.2.2
/-! the best place to line up -/
def bstS (T : Nat → Int32) : Nat → Nat
  | 0 => 0
  | t + 1 => if T (bstS T t) < T (t + 1) then t + 1 else bstS T t
theorem bstS_le (T : Nat → Int32) : ∀ t, bstS T t ≤ t
  | 0 => Nat.le_refl _
  | t + 1 => by
    have := bstS_le T t
    unfold bstS
    split <;> omega
theorem op_lineUp {h : MH} (S : Sim h) (c key : Int32) : Op (f_X6_lineUp h c key) (fun h1 => f_X7_lineUp h1 c key) := by
    rcases cover_cases S.2.2.1 c with hc | ⟨c, hc6, rfl, hc, ⟨m1, m2⟩ | ⟨kd, n, ds, cs, w, wt, hK, hC, hM⟩⟩
    · exact op_same S (v := -1) (by unfold f_X6_lineUp; rw [cIsCover, bd_s, hc, if_neg (by decide)]) (by show f_X7_lineUp h _ _ = _; unfold f_X7_lineUp; rw [mAskCov_b hc, bnd2_s, if_pos (by decide)])
    · refine op_found S (f := 1) (by decide) (by decide) ?_ ?_
      · unfold f_X6_lineUp
        rw [cIsCover, bd_s, hc, if_pos rfl, ix_n hc6 (by decide), gd_t, tn_n (by omega), rf_covers hc6, cMissC_t m1, bd_s, if_pos rfl]
        exact pF (by decide) (by decide)
      · show f_X7_lineUp (fd h 1) _ _ = _
        unfold f_X7_lineUp
        rw [mAskCov_m hc6 (by rw [fd_ne (by decide) (by decide)]; exact m2), pB (by decide) (by decide)]
    · have hn := hK.1.2.1
      have hn1 := hK.1.1
      generalize hg : uA h 15 (wr (h.1 15) 0 (sgV key) 40) = g
      have F : ∀ a, a ≠ 15 → g.1 a = h.1 a := fun a ha => by rw [← hg, uA_ne ha]
      have g2 : g.2 = h.2 := by rw [← hg]; rfl
      have gs : ∀ i, i < 40 → g.1 15 i = sgV key i := fun i hi => by rw [← hg, uA_at, wr_0in hi]
      have gC : covC g (38 + 3 * c) kd n ds cs w wt := covC_of (fun b q1 q2 => F b (by omega)) hC
      obtain ⟨T, hT⟩ : ∃ T : Nat → Int32, ∀ s, T s = sumI (sumT key ds n s) n := ⟨_, fun s => rfl⟩
      have eC : ∀ s, s < 40 → f_X4_sumOver g (38 + 3 * c) (nI s) = some (T s) := fun s hs => by rw [hT]; exact cSumOver (sh_cov hc6) hK gC hs gs
      have eL : f_X6_lineUp_L55 g (38 + 3 * c) (nI 0) (T 0) (nI 1) = some (nI (bstS T (n - 1)), T (bstS T (n - 1))) := by
        unfold f_X6_lineUp_L55
        refine lpo_for (fun t => (nI (bstS T t), T (bstS T t), nI (t + 1))) (n - 1) (fun t ht => ?_) ?_
        · (try dsimp only)
          unfold f_X6_lineUp_B55
          rw [gC.2.1, if_pos (nI_lt (by omega) (by omega)), eC _ (by omega), bd_s, nI_s]
          by_cases q : T (bstS T t) < T (t + 1)
          · rw [if_pos q, show bstS T (t + 1) = t + 1 from if_pos q]
          · rw [if_neg q, show bstS T (t + 1) = bstS T t from if_neg q]
        · (try dsimp only)
          unfold f_X6_lineUp_B55
          rw [gC.2.1, if_neg (nI_nlt (by omega) (by omega))]
      have bl := bstS_le T (n - 1)
      generalize hb : bstS T (n - 1) = b at eL bl
      generalize hk : uA (uI (uI g 0 9 (T b)) 64 16 (keyN key n)) 84 (wr ((uI g 0 9 (T b)).1 84) 0 (sgV key) n) = k
      have kF : ∀ a, a ≠ 84 → a ≠ 64 → k.1 a = (uI g 0 9 (T b)).1 a := fun a q1 q2 => by rw [← hk, uA_ne q1, uI_ne q2]
      have kM : covM k c kd n ds cs w wt := covM_of (fun b q1 q2 => by rw [kF _ (by omega) (by omega), uI_ne (by omega), F _ (by omega)]) hM
      have ks : ∀ i, i < n → k.1 84 i = sgV key i := fun i hi => by rw [← hk, uA_at, wr_0in hi]
      have k2 : k.2 = h.2 := by rw [← hk]; exact g2
      have eM : ∀ s, s < 40 → f_X7_sumBy k (nI c) (nI s) = some (T s) := fun s hs => by rw [hT]; exact mSumBy hc6 hK kM hs ks
      have eN : f_X7_lineUp_L29 k (nI c) (nI 0) (nI 1) = some (nI b) := by
        rw [← hb]
        unfold f_X7_lineUp_L29
        refine lpo_for (fun t => (nI (bstS T t), nI (t + 1))) (n - 1) (fun t ht => ?_) ?_
        · (try dsimp only)
          have bl := bstS_le T t
          unfold f_X7_lineUp_B29
          rw [ix_n hc6 (by decide), gd_t, tn_n (by omega), kM.2.1, if_pos (nI_lt (by omega) (by omega)), eM _ (by omega), bd_s, eM _ (by omega), bd_s, nI_s]
          by_cases q : T (bstS T t) < T (t + 1)
          · rw [if_pos q, show bstS T (t + 1) = t + 1 from if_pos q]
          · rw [if_neg q, show bstS T (t + 1) = bstS T t from if_neg q]
        · (try dsimp only)
          unfold f_X7_lineUp_B29
          rw [ix_n hc6 (by decide), gd_t, tn_n (by omega), kM.2.1, if_neg (nI_nlt (by omega) (by omega))]
      refine ⟨nI b, uI g 0 9 (T b), uI k 64 2 (T b), ?_, ?_, ?_⟩
      · unfold f_X6_lineUp
        rw [cIsCover, bd_s, hc, if_pos rfl, ix_n hc6 (by decide), gd_t, tn_n (by omega), rf_covers hc6, cMissC_f hC.2.1 hK.1.1 (by omega), bd_s, if_neg (by decide), cSigns, bd_s, hg, show (0 : Int32) = nI 0 from rfl, show (1 : Int32) = nI 1 from rfl, eC 0 (by decide), bd_s, eL, bd_s, nm_v]
      · show f_X7_lineUp (uI g 0 9 (T b)) _ _ = _
        have e71 : (uI g 0 9 (T b)).1 71 c = nI n := by rw [uI_ne (by decide), F 71 (by decide)]; exact hM.2.1
        unfold f_X7_lineUp f_X7_ask
        rw [mAskCov_o (n := n) hc6 e71 hK.1.1 (by omega), bnd2_s, if_neg (by decide), ix_n hc6 (by decide), gd_t, tn_n (by omega), e71, mSigns hn, bd_s, hk, show (0 : Int32) = nI 0 from rfl, show (1 : Int32) = nI 1 from rfl, eN, bd_s, eM _ (by omega), bd_s, nm_v, bnd2_s]
      · refine sim_scr S (fun a ha => ?_) ?_ ?_ ?_ ?_
        · rw [uI_ne (by omega), kF a (by omega) (by omega), uI_ne (by omega), F a (by omega)]
        · rw [uI_ne (by decide), kF 0 (by decide) (by decide), uI_at, uI_at]
        · rw [uI_ne (by decide), kF 0 (by decide) (by decide), uI_k (by decide), uI_k (by decide), ← hk, uA_ne (by decide), uI_k (by decide), uI_ne (by decide), F 0 (by decide), F 64 (by decide)]
          exact S.2.2.2.2.2.2.1.1
        · show SF k
          unfold SF
          rw [k2]
          exact S.2.2.2.2.2.1
        · show SW k
          unfold SW
          rw [k2]
          exact S.2.2.2.2.2.2.2
