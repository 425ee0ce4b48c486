theorem op_spread {h : MH} (S : Sim h) (c key y : Int32) : Op (f_X6_spread h c key y) (fun h1 => f_X7_spread h1 c key y) := by
  cases hy : btw y 1 20 with
  | false =>
    refine op_same S (v := -1) ?_ ?_
    · unfold f_X6_spread
      rw [cIsCover, bd_s, btw_if, hy]
      cases inR c 6 <;> rfl
    · show f_X7_spread h _ _ _ = _
      unfold f_X7_spread
      rw [mIn, bd_s, hy]
      rfl
  | true =>
    obtain ⟨A, hA1, hA, rfl⟩ := btw_N (a := 1) (b := 20) (by decide) (by decide) hy
    rcases cover_cases S.2.2.1 c with hc | ⟨c, hc6, rfl, hc, ⟨m1, m2⟩ | ⟨kd, n, ds, cs, w, wt, hK, hC, hM⟩⟩
    · exact op_same S (v := -1) (by unfold f_X6_spread; rw [cIsCover, bd_s, hc, if_neg (by decide)]) (by show f_X7_spread h _ _ _ = _; unfold f_X7_spread; rw [mIn, bd_s, hy, if_pos rfl, mAskCov_b hc, bnd2_s, if_pos (by decide)])
    · refine op_found S (f := 1) (by decide) (by decide) ?_ ?_
      · unfold f_X6_spread
        rw [cIsCover, bd_s, hc, if_pos rfl, btw_if, hy, if_pos rfl, ix_n hc6 (by decide), gd_t, tn_n (by omega), rf_covers hc6, cMissC_t m1, bd_s, if_pos rfl]
        exact pF (by decide) (by decide)
      · show f_X7_spread (fd h 1) _ _ _ = _
        unfold f_X7_spread
        rw [mIn, bd_s, hy, if_pos rfl, mAskCov_m hc6 (by rw [fd_ne (by decide) (by decide)]; exact m2), pB (by decide) (by decide)]
    · have hn := hK.1.2.1
      have hn1 := hK.1.1
      have hk4 := hK.1.2.2.1
      by_cases k2 : 2 < kd
      · refine op_found S (f := 3) (by decide) (by decide) ?_ ?_
        · unfold f_X6_spread
          rw [cIsCover, bd_s, hc, if_pos rfl, btw_if, hy, if_pos rfl, ix_n hc6 (by decide), gd_t, tn_n (by omega), rf_covers hc6, cMissC_f hC.2.1 hK.1.1 (by omega), bd_s, if_neg (by decide), hC.1, if_pos (show 2 < nI kd from (nI_lt k2 (by omega) : nI 2 < nI kd))]
          exact pF (by decide) (by decide)
        · show f_X7_spread (fd h 3) _ _ _ = _
          have hM2 : covM (fd h 3) c kd n ds cs w wt := covM_of (fun b q1 q2 => fd_ne (by omega) (by omega)) hM
          unfold f_X7_spread
          rw [mIn, bd_s, hy, if_pos rfl, mAskCov_o (n := n) hc6 hM2.2.1 hK.1.1 (by omega), bnd2_s, if_neg (by decide), ix_n hc6 (by decide), gd_t, tn_n (by omega), hM2.1, if_pos (show 2 < nI kd from (nI_lt k2 (by omega) : nI 2 < nI kd))]
          exact pM (by decide) (by decide)
      · have k2n : ¬ 2 < nI kd := (nI_nlt (show kd ≤ 2 by omega) (by decide) : ¬ nI 2 < nI kd)
        generalize hg : uA h 15 (wr (h.1 15) 0 (sgV key) 40) = g
        have F : ∀ a, a ≠ 15 → g.1 a = h.1 a := fun a ha => by rw [← hg, uA_ne ha]
        have g2 : g.2 = h.2 := by rw [← hg]; rfl
        have gs : ∀ i, i < 40 → g.1 15 i = sgV key i := fun i hi => by rw [← hg, uA_at, wr_0in hi]
        have gC : covC g (38 + 3 * c) kd n ds cs w wt := covC_of (fun b q1 q2 => F b (by omega)) hC
        have eC := cSpL (key := key) (A := A) (sh_cov hc6) (by omega) hK gC gs hA1 hA
        generalize hg3 : uA g (38 + 3 * c + 1) (wr (g.1 (38 + 3 * c + 1)) 0 (fun i => nI (spV (sgB key i) (ds i) A)) n) = g3 at eC
        have F3 : ∀ a, a ≠ 38 + 3 * c + 1 → g3.1 a = g.1 a := fun a ha => by rw [← hg3, uA_ne ha]
        have g32 : g3.2 = h.2 := by rw [← hg3]; exact g2
        generalize hk : uA (uI g3 64 16 (keyN key n)) 84 (wr (g3.1 84) 0 (sgV key) n) = k
        have kF : ∀ a, a ≠ 84 → a ≠ 64 → k.1 a = g3.1 a := fun a q1 q2 => by rw [← hk, uA_ne q1, uI_ne q2]
        have k64 : ∀ j, j ≠ 16 → k.1 64 j = g3.1 64 j := fun j hj => by rw [← hk, uA_ne (by decide), uI_k hj]
        have kM : covM k c kd n ds cs w wt := covM_of (fun b q1 q2 => by rw [kF _ (by omega) (by omega), F3 _ (by omega), F _ (by omega)]) hM
        have ks : ∀ i, i < n → k.1 84 i = sgV key i := fun i hi => by rw [← hk, uA_at, wr_0in hi]
        have k22 : k.2 = h.2 := by rw [← hk]; exact g32
        have eM := mSpL (key := key) (A := A) hc6 hK kM ks hA1 hA
        refine ⟨nI (sumN (fun i => spK (sgB key i) (ds i) A) n), g3, uA k 73 (wr (k.1 73) (40 * c) (fun i => nI (spV (sgB key i) (ds i) A)) n), ?_, ?_, ?_⟩
        · unfold f_X6_spread
          rw [cIsCover, bd_s, hc, if_pos rfl, btw_if, hy, if_pos rfl, ix_n hc6 (by decide), gd_t, tn_n (by omega), rf_covers hc6, cMissC_f hC.2.1 hK.1.1 (by omega), bd_s, if_neg (by decide), hC.1, if_neg k2n, cSigns, bd_s, hg, eC, bd_s]
        · show f_X7_spread g3 _ _ _ = _
          have g3M : covM g3 c kd n ds cs w wt := covM_of (fun b q1 q2 => by rw [F3 _ (by omega), F _ (by omega)]) hM
          unfold f_X7_spread
          rw [mIn, bd_s, hy, if_pos rfl, mAskCov_o (n := n) hc6 g3M.2.1 hK.1.1 (by omega), bnd2_s, if_neg (by decide), ix_n hc6 (by decide), gd_t, gd_t, tn_n (by omega), g3M.1, if_neg k2n, g3M.2.1, mSigns hn, bd_s, hk, eM, bd_s]
        · refine sim_covS hc6 S (fun a q1 q2 => ?_) ?_ ?_ ?_ ?_ (fun a d ha hd => ?_) (fun a q ha hq => ?_) (Or.inr ⟨kd, n, fun i => spV (sgB key i) (ds i) A, cs, w, wt, ?_, ?_, ?_⟩)
          · rw [uA_ne (by omega), kF a (by omega) (by omega), F3 a (by omega), F a (by omega)]
          · rw [uA_ne (by decide), uA_ne (by decide), kF 0 (by omega) (by omega), k64 2 (by decide), F3 0 (by omega), F3 64 (by omega), F 0 (by omega), F 64 (by omega)]
            exact S.2.2.2.2.1
          · rw [uA_ne (by decide), uA_ne (by decide), kF 0 (by omega) (by omega), k64 0 (by decide), F3 0 (by omega), F3 64 (by omega), F 0 (by omega), F 64 (by omega)]
            exact S.2.2.2.2.2.2.1.1
          · unfold SF
            rw [uA_2, k22]
            exact S.2.2.2.2.2.1
          · unfold SW
            rw [uA_2, k22]
            exact S.2.2.2.2.2.2.2
          · rw [uA_ne (by omega), kF a (by omega) (by omega), F3 a (by omega), F a (by omega)]
          · rcases ha with rfl | rfl
            · rw [uA_at, wr_out (by omega), kF 73 (by omega) (by omega), F3 73 (by omega), F 73 (by omega)]
            · rw [uA_ne (by omega), kF 74 (by omega) (by omega), F3 74 (by omega), F 74 (by omega)]
          · refine ⟨hK.1, fun i hi => spV_le (hK.2.1 i hi), fun z => absurd z (by omega), hK.2.2.2⟩
          · refine ⟨?_, ?_, ?_, ?_, fun i hi => ⟨?_, ?_⟩⟩
            · rw [uA_ne (by omega), kF _ (by omega) (by omega), F3 _ (by omega)]
              exact gC.1
            · rw [uA_ne (by omega), kF _ (by omega) (by omega), F3 _ (by omega)]
              exact gC.2.1
            · rw [uA_ne (by omega), kF _ (by omega) (by omega), F3 _ (by omega)]
              exact gC.2.2.1
            · rw [uA_ne (by omega), kF _ (by omega) (by omega), F3 _ (by omega)]
              exact gC.2.2.2.1
            · rw [uA_ne (by omega), kF _ (by omega) (by omega), ← hg3, uA_at, wr_0in hi]
            · rw [uA_ne (by omega), kF _ (by omega) (by omega), F3 _ (by omega)]
              exact (gC.2.2.2.2 i hi).2
          · refine ⟨?_, ?_, fun z => ?_, ?_, fun i hi => ⟨?_, fun z => ?_⟩⟩
            · rw [uA_ne (by omega)]
              exact kM.1
            · rw [uA_ne (by omega)]
              exact kM.2.1
            · rw [uA_ne (by omega)]
              exact kM.2.2.1 z
            · rw [uA_ne (by omega)]
              exact kM.2.2.2.1
            · rw [uA_at, wr_in hi]
            · rw [uA_ne (by omega)]
              exact (kM.2.2.2.2 i hi).2 z
