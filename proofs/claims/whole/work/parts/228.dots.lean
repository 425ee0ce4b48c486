theorem covC_of {h h2 : MH} {a kd n : Nat} {ds cs : Nat → Nat} {w wt : Nat} (e : ∀ b, a ≤ b → b ≤ a + 2 → h2.1 b = h.1 b) (hC : covC h a kd n ds cs w wt) : covC h2 a kd n ds cs w wt := by
  unfold covC
  rw [e a (by omega) (by omega), e (a + 1) (by omega) (by omega), e (a + 2) (by omega) (by omega)]
  exact hC
theorem covM_of {h h2 : MH} {c kd n : Nat} {ds cs : Nat → Nat} {w wt : Nat} (e : ∀ b, 71 ≤ b → b ≤ 76 → h2.1 b = h.1 b) (hM : covM h c kd n ds cs w wt) : covM h2 c kd n ds cs w wt := by
  unfold covM
  rw [e 71 (by decide) (by decide), e 72 (by decide) (by decide), e 73 (by decide) (by decide), e 74 (by decide) (by decide), e 75 (by decide) (by decide), e 76 (by decide) (by decide)]
  exact hM
theorem cDotsL {h : MH} {a r kd n m : Nat} {ds cs : Nat → Nat} {w wt : Nat} (ha : shp a = (1, 0)) (hr : shp r = (5, 0)) (far : r + 1 < a) (hK : covK kd n ds cs w wt) (hC : covC h a kd n ds cs w wt) (hm : h.1 r 1 = nI n) : f_X6_dots_L59 h a r 0 = some (uA h (r + 1) (wr (h.1 (r + 1)) 0 (fun i => nI (ds i)) n)) := by
  have hn := hK.1.2.1
  unfold f_X6_dots_L59
  rw [show ((0 : Int32), h) = (nI 0, uA h (r + 1) (wr (h.1 (r + 1)) 0 (fun i => nI (ds i)) 0)) by rw [wr_0]; rfl]
  refine lpo_for (fun i => (nI i, uA h (r + 1) (wr (h.1 (r + 1)) 0 (fun i => nI (ds i)) i))) n (fun i hi => ?_) ?_
  · (try dsimp only)
    have hC2 : covC (uA h (r + 1) (wr (h.1 (r + 1)) 0 (fun i => nI (ds i)) i)) a kd n ds cs w wt := covC_of (fun b q1 q2 => uA_ne (by omega)) hC
    unfold f_X6_dots_B59
    rw [hC2.2.1, if_pos (nI_lt hi (by omega)), cDotAt ha hK hC2 hi, bd_s, cSet hr (n := n) (by rw [uA_ne (by omega)]; exact hm) (by omega) hi, bd_s, nI_s]
    have := wr_s (h := h) (a := r + 1) (b := 0) (i := i) (f := h.1 (r + 1)) (g := fun i => nI (ds i)) (v := nI (ds i)) rfl
    rw [Nat.zero_add] at this
    rw [this]
  · (try dsimp only)
    unfold f_X6_dots_B59
    rw [uA_ne (by omega), hC.2.1, if_neg (nI_nlt (Nat.le_refl _) (by omega))]
theorem mDotsL {h : MH} {c r kd n : Nat} {ds cs : Nat → Nat} {w wt : Nat} (hc : c < 6) (hr : r < 6) (hK : covK kd n ds cs w wt) (hM : covM h c kd n ds cs w wt) : f_X7_dots_L36 h (nI c) (nI r) 0 = some (uA h 67 (wr (h.1 67) (40 * r) (fun i => nI (ds i)) n)) := by
  have hn := hK.1.2.1
  unfold f_X7_dots_L36
  rw [show ((0 : Int32), h) = (nI 0, uA h 67 (wr (h.1 67) (40 * r) (fun i => nI (ds i)) 0)) by rw [wr_0]; rfl]
  refine lpo_for (fun i => (nI i, uA h 67 (wr (h.1 67) (40 * r) (fun i => nI (ds i)) i))) n (fun i hi => ?_) ?_
  · (try dsimp only)
    have hM2 : covM (uA h 67 (wr (h.1 67) (40 * r) (fun i => nI (ds i)) i)) c kd n ds cs w wt := covM_of (fun b q1 q2 => uA_ne (by omega)) hM
    unfold f_X7_dots_B36
    rw [ix_n hc (by decide), gd_t, tn_n (by omega), hM2.2.1, if_pos (nI_lt hi (by omega)), mDotAt hc hK hM2 hi, bd_s, lin40, ix_n (by omega) (by decide), gd_t, nm_v, tn_n (by omega), wr_s rfl, nI_s]
  · (try dsimp only)
    unfold f_X7_dots_B36
    rw [ix_n hc (by decide), gd_t, tn_n (by omega), uA_ne (by decide), hM.2.1, if_neg (nI_nlt (Nat.le_refl _) (by omega))]
theorem op_dots {h : MH} (S : Sim h) (c r : Int32) : Op (f_X6_dots h c r) (fun h1 => f_X7_dots h1 c r) := by
  cases hr : inR r 6 with
  | false =>
    refine op_same S (v := -1) ?_ ?_
    · unfold f_X6_dots
      rw [cIsCover, bd_s, cIsRow, bd_s, hr]
      cases inR c 6 with
      | false => rw [if_neg (by decide)]
      | true => rw [if_pos rfl, if_neg (by decide)]
    · show f_X7_dots h _ _ = _
      unfold f_X7_dots
      rw [mIsRow, bd_s, hr, if_neg (by decide)]
  | true =>
    obtain ⟨j, hj, rfl⟩ := inR_t (by decide) hr
    rcases cover_cases S.2.2.1 c with hc | ⟨c, hc6, rfl, hc, ⟨m1, m2⟩ | ⟨kd, n, ds, cs, w, wt, hK, hC, hM⟩⟩
    · exact op_same S (v := -1) (by unfold f_X6_dots; rw [cIsCover, bd_s, hc, if_neg (by decide)]) (by show f_X7_dots h _ _ = _; unfold f_X7_dots; rw [mIsRow, bd_s, hr, if_pos rfl, mAskCov_b hc, bnd2_s, if_pos (by decide)])
    · refine op_found S (f := 1) (by decide) (by decide) ?_ ?_
      · unfold f_X6_dots
        rw [cIsCover, bd_s, hc, if_pos rfl, cIsRow, bd_s, hr, if_pos rfl, ix_n hc6 (by decide), gd_t, tn_n (by omega), rf_covers hc6, cMissC_t m1, bd_s, if_pos rfl]
        exact pF (by decide) (by decide)
      · show f_X7_dots (fd h 1) _ _ = _
        unfold f_X7_dots
        rw [mIsRow, bd_s, hr, if_pos rfl, mAskCov_m hc6 (by rw [fd_ne (by decide) (by decide)]; exact m2), pB (by decide) (by decide)]
    · have hn := hK.1.2.1
      generalize hg : uA (uI h (18 + 2 * j) 1 (nI n)) (18 + 2 * j + 1) (wr (h.1 (18 + 2 * j + 1)) 0 (fun _ => 0) n) = g
      have gF : ∀ a, a ≠ 18 + 2 * j → a ≠ 19 + 2 * j → g.1 a = h.1 a := fun a q1 q2 => by
        rw [← hg]
        simp (disch := omega) only [uI_ne, uI_k, uI_at, uA_ne, uA_at]
      have g1 : g.1 (18 + 2 * j) 1 = nI n := by
        rw [← hg]
        simp (disch := omega) only [uI_ne, uI_k, uI_at, uA_ne, uA_at]
      have gC : covC g (38 + 3 * c) kd n ds cs w wt := covC_of (fun b q1 q2 => gF b (by omega) (by omega)) hC
      generalize hg2 : uA g (18 + 2 * j + 1) (wr (g.1 (18 + 2 * j + 1)) 0 (fun i => nI (ds i)) n) = g2
      have g2F : ∀ a, a ≠ 18 + 2 * j → a ≠ 19 + 2 * j → g2.1 a = h.1 a := fun a q1 q2 => by
        rw [← hg2, uA_ne (by omega)]
        exact gF a q1 q2
      have g2M : covM g2 c kd n ds cs w wt := covM_of (fun b q1 q2 => g2F b (by omega) (by omega)) hM
      generalize hk : uA (uI g2 66 j (nI n)) 67 (wr (g2.1 67) (40 * j) (fun _ => 0) 40) = k
      have kF : ∀ a, a ≠ 66 → a ≠ 67 → k.1 a = g2.1 a := fun a q1 q2 => by
        rw [← hk]
        simp (disch := omega) only [uI_ne, uI_k, uI_at, uA_ne, uA_at]
      have kM : covM k c kd n ds cs w wt := covM_of (fun b q1 q2 => kF b (by omega) (by omega)) g2M
      refine ⟨nI n, g2, uA k 67 (wr (k.1 67) (40 * j) (fun i => nI (ds i)) n), ?_, ?_, ?_⟩
      · unfold f_X6_dots
        rw [cIsCover, bd_s, hc, if_pos rfl, cIsRow, bd_s, hr, if_pos rfl, ix_n hc6 (by decide), gd_t, tn_n (by omega), rf_covers hc6, cMissC_f hC.2.1 hK.1.1 (by omega), bd_s, if_neg (by decide), ix_n hj (by decide), gd_t, tn_n (by omega), rf_rows hj, hC.2.1, cRenew (sh_row hj) (by omega), bd_s, hg, cDotsL (m := n) (sh_cov hc6) (sh_row hj) (by omega) hK gC g1, bd_s, hg2, g2F _ (by omega) (by omega), hC.2.1]
      · show f_X7_dots g2 _ _ = _
        unfold f_X7_dots
        rw [mIsRow, bd_s, hr, if_pos rfl, mAskCov_o (n := n) hc6 g2M.2.1 hK.1.1 (by omega), bnd2_s, if_neg (by decide), ix_n hc6 (by decide), gd_t, tn_n (by omega), g2M.2.1, mRow hj hn, bnd2_s, hk, mDotsL hc6 hj hK kM, bd_s, gd_t, uA_ne (by decide), kM.2.1]
      · obtain ⟨s1, s2, s3, s4, s5, s6, s7, s8⟩ := S
        have zF : ∀ a, a ≠ 18 + 2 * j → a ≠ 19 + 2 * j → a ≠ 66 → a ≠ 67 → (uA k 67 (wr (k.1 67) (40 * j) (fun i => nI (ds i)) n)).1 a = h.1 a := fun a q1 q2 q3 q4 => by rw [uA_ne q4, kF a q3 q4, g2F a q1 q2]
        have z2 : (uA k 67 (wr (k.1 67) (40 * j) (fun i => nI (ds i)) n)).2 = h.2 := by
          rw [uA_2, ← hk, uA_2, uI_2, ← hg2, uA_2, ← hg, uA_2, uI_2]
        refine ⟨SR_upd (j := j) (fun a q1 q2 q3 q4 => zF a q3 q4 (by omega) (by omega)) (fun r h1 h2 => ?_) (fun q hq => ?_) (Or.inr ⟨n, fun i => nI (ds i), hn, ⟨?_, fun q hq => ?_⟩, ?_, fun q hq => ?_⟩) s1, STx_of (fun a ha => zF a (by omega) (by omega) (by omega) (by omega)) s2, SC_of (fun a ha => zF a (by omega) (by omega) (by omega) (by omega)) s3, SK_of (fun a ha => zF a (by omega) (by omega) (by omega) (by omega)) s4, ?_, ?_, ⟨?_, fun f h1 h5 => ?_⟩, ?_⟩
        · rw [uA_ne (by decide), ← hk, uA_ne (by decide), uI_k h2, g2F 66 (by omega) (by omega)]
        · rw [uA_at, wr_out (by omega), ← hk, uA_at, wr_out (by omega), g2F 67 (by omega) (by omega)]
        · rw [uA_ne (by omega), kF _ (by omega) (by omega), ← hg2, uA_ne (by omega), g1]
        · rw [uA_ne (by omega), kF _ (by omega) (by omega), ← hg2, uA_at]
          unfold wr
          rw [if_pos (by omega)]
          rfl
        · rw [uA_ne (by decide), ← hk, uA_ne (by decide), uI_at]
        · rw [uA_at, wr_in hq]
        · unfold SA
          rw [zF 0 (by omega) (by omega) (by omega) (by omega), zF 64 (by omega) (by omega) (by omega) (by omega)]
          exact s5
        · unfold SF
          rw [z2]
          exact s6
        · rw [zF 0 (by omega) (by omega) (by omega) (by omega), zF 64 (by omega) (by omega) (by omega) (by omega)]
          exact s7.1
        · rw [zF 17 (by omega) (by omega) (by omega) (by omega), zF 65 (by omega) (by omega) (by omega) (by omega)]
          exact s7.2 f h1 h5
        · unfold SW
          rw [z2]
          exact s8
