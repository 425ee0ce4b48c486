section CUT
variable {h : MH} {c t n I M : Nat}
theorem acp_ok {I M : Nat} (hs : I + M ≤ 40) : acp (nI I) 0 (nI M) 40 40 = true := by
  unfold acp
  refine decide_eq_true ⟨⟨nlt0 (by omega), (by decide), nlt0 (by omega)⟩, ?_, ?_⟩
  · rw [tn_n (by omega), tn_n (by omega)]
    exact hs
  · rw [tn_0, tn_n (by omega)]
    omega
theorem cSpanC {a b : Nat} (ha : shp a = (1, 0)) (hb : shp b = (1, 0)) (e : h.1 a 3 = nI n) (hn : n ≤ 40) (h1 : 1 ≤ M) (hs : I + M ≤ n) : f_X1_takeSpan h b a (nI I) (nI M) = some (bc (uA h (b + 1) (va_cpy (h.1 (a + 1)) (h.1 (b + 1)) I 0 M)) b 0 M 0) := by
  unfold f_X1_takeSpan
  rw [e, if_neg (nlt0 (by omega)), if_neg (show ¬ nI M < 1 from (nI_nlt h1 (by omega) : ¬ nI M < nI 1)), if_neg (nI_nlt (by omega) (by omega)), nIsub (by omega), if_neg (nI_nlt (by omega) (by omega)), acp_ok (by omega), gd_t, nm_v, rf_Cov0 ha, rf_Cov0 hb, tn_n (by omega), tn_n (by omega), tn_0, show (0 : Int32) = nI 0 from rfl, cBecome hb (by omega), bd_s]
theorem mCut1 {x4 : Int32} (hc : c < 6) (hs : I + M ≤ 40) : f_X7_cut_L59 h (nI c) (nI I) (nI M) x4 0 = some (uA h 68 (wr (h.1 68) 0 (fun k => h.1 73 (40 * c + (I + k))) M)) := by
  unfold f_X7_cut_L59
  rw [show ((0 : Int32), h) = (nI 0, uA h 68 (wr (h.1 68) 0 (fun k => h.1 73 (40 * c + (I + k))) 0)) by rw [wr_0]; rfl]
  refine lpo_for (fun q => (nI q, uA h 68 (wr (h.1 68) 0 (fun k => h.1 73 (40 * c + (I + k))) q))) M (fun q hq => ?_) ?_
  · (try dsimp only)
    unfold f_X7_cut_B59
    rw [if_pos (nI_lt hq (by omega)), nI_add, mDotRaw hc (by omega), bd_s, ix_n (by omega) (by decide), gd_t, nm_v, tn_n (by omega), nI_s, uA_ne (by decide), wr_0s rfl]
  · (try dsimp only)
    unfold f_X7_cut_B59
    rw [if_neg (nI_nlt (Nat.le_refl _) (by omega))]
theorem mCut2 (ht : t < 6) (hs : M ≤ 40) : f_X7_cut_L114 h (nI M) (nI t) 0 = some (uA h 73 (wr (h.1 73) (40 * t) (h.1 68) M)) := by
  unfold f_X7_cut_L114
  rw [show ((0 : Int32), h) = (nI 0, uA h 73 (wr (h.1 73) (40 * t) (h.1 68) 0)) by rw [wr_0]; rfl]
  refine lpo_for (fun q => (nI q, uA h 73 (wr (h.1 73) (40 * t) (h.1 68) q))) M (fun q hq => ?_) ?_
  · (try dsimp only)
    unfold f_X7_cut_B114
    rw [if_pos (nI_lt hq (by omega)), ix_n (by omega) (by decide), gd_t, lin40, ix_n (by omega) (by decide), gd_t, nm_v, tn_n (by omega), tn_n (by omega), nI_s, uA_ne (by decide), wr_s rfl]
  · (try dsimp only)
    unfold f_X7_cut_B114
    rw [if_neg (nI_nlt (Nat.le_refl _) (by omega))]
end CUT
theorem op_cut {h : MH} (S : Sim h) (c x y t : Int32) : Op (f_X6_cut h c x y t) (fun h1 => f_X7_cut h1 c x y t) := by
  rcases cov_cases t with ht | ⟨t, ht6, rfl, ht⟩
  · refine op_same S (v := -1) ?_ ?_
    · unfold f_X6_cut
      rw [cIsCover, bd_s]
      cases inR c 6 with
      | false => rfl
      | true => rw [if_pos rfl, cIsCover, bd_s, ht, if_neg (by decide)]
    · show f_X7_cut h _ _ _ _ = _
      unfold f_X7_cut
      rw [mIsCover, bd_s, ht, if_neg (by decide)]
  by_cases y1 : y < 1
  · refine op_same S (v := -1) ?_ ?_
    · unfold f_X6_cut
      rw [cIsCover, bd_s]
      cases inR c 6 with
      | false => rfl
      | true => rw [if_pos rfl, cIsCover, bd_s, ht, if_pos rfl, if_pos y1]
    · show f_X7_cut h _ _ _ _ = _
      unfold f_X7_cut
      rw [mIsCover, bd_s, ht, if_pos rfl, if_pos y1]
  obtain ⟨M, hM31, rfl⟩ := nI_of (show ¬ y < 0 from fun z => y1 (Int32.lt_trans z (by decide)))
  have hM1 : 1 ≤ M := by
    refine Nat.lt_of_not_le (fun z => y1 ?_)
    rw [show M = 0 by omega]
    decide
  rcases cover_cases S.2.2.1 c with hc | ⟨c, hc6, rfl, hc, ⟨m1, m2⟩ | ⟨kd, n, ds, cs, w, wt, hK, hC, hM⟩⟩
  · exact op_same S (v := -1) (by unfold f_X6_cut; rw [cIsCover, bd_s, hc, if_neg (by decide)]) (by show f_X7_cut h _ _ _ _ = _; unfold f_X7_cut; rw [mIsCover, bd_s, ht, if_pos rfl, if_neg y1, mAskCov_b hc, bnd2_s, if_pos (by decide)])
  · refine op_found S (f := 1) (by decide) (by decide) ?_ ?_
    · unfold f_X6_cut
      rw [cIsCover, bd_s, hc, if_pos rfl, cIsCover, bd_s, ht, if_pos rfl, if_neg y1, ix_n hc6 (by decide), gd_t, tn_n (by omega), rf_covers hc6, cMissC_t m1, bd_s, if_pos rfl]
      exact pF (by decide) (by decide)
    · show f_X7_cut (fd h 1) _ _ _ _ = _
      unfold f_X7_cut
      rw [mIsCover, bd_s, ht, if_pos rfl, if_neg y1, mAskCov_m hc6 (by rw [fd_ne (by decide) (by decide)]; exact m2), pB (by decide) (by decide)]
  have hn := hK.1.2.1
  have hn1 := hK.1.1
  have hM2 : covM (fd h 2) c kd n ds cs w wt := covM_of (fun b q1 q2 => fd_ne (by omega) (by omega)) hM
  by_cases x0 : x < 0
  · refine op_found S (f := 2) (by decide) (by decide) ?_ ?_
    · unfold f_X6_cut
      rw [cIsCover, bd_s, hc, if_pos rfl, cIsCover, bd_s, ht, if_pos rfl, if_neg y1, ix_n hc6 (by decide), gd_t, tn_n (by omega), rf_covers hc6, cMissC_f hC.2.1 hn1 (by omega), bd_s, if_neg (by decide), if_pos x0]
      exact pF (by decide) (by decide)
    · show f_X7_cut (fd h 2) _ _ _ _ = _
      unfold f_X7_cut
      rw [mIsCover, bd_s, ht, if_pos rfl, if_neg y1, mAskCov_o (n := n) hc6 hM2.2.1 hn1 (by omega), bnd2_s, if_neg (by decide), if_pos x0]
      exact pM (by decide) (by decide)
  obtain ⟨I, hI31, rfl⟩ := nI_of x0
  by_cases hs : I + M ≤ n
  · generalize hg : bc (uA h (38 + 3 * t + 1) (va_cpy (h.1 (38 + 3 * c + 1)) (h.1 (38 + 3 * t + 1)) I 0 M)) (38 + 3 * t) 0 M 0 = g
    have F : ∀ a, (a < 38 + 3 * t ∨ 40 + 3 * t < a) → g.1 a = h.1 a := fun a ha => by
      rw [← hg]
      unfold bc
      simp (disch := omega) only [uI_ne, uI_k, uI_at, uA_ne, uA_at]
    have g2 : g.2 = h.2 := by rw [← hg]; rfl
    have gC : covC g (38 + 3 * t) 0 M (fun q => ds (I + q)) (fun _ => 0) 0 0 := by
      rw [← hg]
      unfold bc
      refine ⟨by simp (disch := omega) only [uI_ne, uI_k, uI_at, uA_ne, uA_at], by simp (disch := omega) only [uI_ne, uI_k, uI_at, uA_ne, uA_at], by simp (disch := omega) only [uI_ne, uI_k, uI_at, uA_ne, uA_at], by simp (disch := omega) only [uI_ne, uI_k, uI_at, uA_ne, uA_at]; rfl, fun i hi => ⟨?_, ?_⟩⟩
      · simp (disch := omega) only [uI_ne, uI_k, uI_at, uA_ne, uA_at]
        unfold va_cpy
        rw [if_pos (by omega), Nat.sub_zero]
        exact (hC.2.2.2.2 (I + i) (by omega)).1
      · simp (disch := omega) only [uI_ne, uI_k, uI_at, uA_ne, uA_at]
        unfold wr
        rw [if_pos (by omega)]
        rfl
    have gM : covM g c kd n ds cs w wt := covM_of (fun b q1 q2 => F b (by omega)) hM
    generalize hk1 : uA g 68 (wr (g.1 68) 0 (fun k => g.1 73 (40 * c + (I + k))) M) = k1
    have k1F : ∀ a, a ≠ 68 → k1.1 a = g.1 a := fun a ha => by rw [← hk1, uA_ne ha]
    have k168 : ∀ i, i < M → k1.1 68 i = nI (ds (I + i)) := fun i hi => by
      rw [← hk1, uA_at, wr_0in hi]
      exact (gM.2.2.2.2 (I + i) (by omega)).1
    have k12 : k1.2 = h.2 := by rw [← hk1, uA_2, g2]
    generalize hk2 : uI (uI (uI k1 72 t 0) 71 t (nI M)) 76 t 0 = k2
    have k2F : ∀ a, a ≠ 72 → a ≠ 71 → a ≠ 76 → k2.1 a = k1.1 a := fun a q1 q2 q3 => by rw [← hk2, uI_ne q3, uI_ne q2, uI_ne q1]
    have k22 : k2.2 = h.2 := by rw [← hk2, uI_2, uI_2, uI_2, k12]
    refine ⟨nI M, g, uA k2 73 (wr (k2.1 73) (40 * t) (k2.1 68) M), ?_, ?_, ?_⟩
    · unfold f_X6_cut
      rw [cIsCover, bd_s, hc, if_pos rfl, cIsCover, bd_s, ht, if_pos rfl, if_neg y1, ix_n hc6 (by decide), gd_t, tn_n (by omega), rf_covers hc6, cMissC_f hC.2.1 hn1 (by omega), bd_s, if_neg (by decide), if_neg x0, hC.2.1, if_neg (nI_nlt (by omega) (by omega)), nIsub (by omega), if_neg (nI_nlt (by omega) (by omega)), ix_n ht6 (by decide), gd_t, tn_n (by omega), rf_covers ht6, cSpanC (n := n) (sh_cov hc6) (sh_cov ht6) hC.2.1 hn hM1 hs, bd_s, hg]
    · show f_X7_cut g _ _ _ _ = _
      unfold f_X7_cut
      rw [mIsCover, bd_s, ht, if_pos rfl, if_neg y1, mAskCov_o (n := n) hc6 gM.2.1 hn1 (by omega), bnd2_s, if_neg (by decide), if_neg x0, ix_n hc6 (by decide), gd_t, tn_n (by omega), gM.2.1, if_neg (fun z => (mSpan (by omega) hM31 hI31).mp z hs), mCut1 hc6 (by omega), bd_s, hk1, ix_n ht6 (by decide), gd_t, nm_v, gd_t, nm_v, gd_t, nm_v, tn_n (by omega), hk2, mCut2 ht6 (by omega), bd_s]
    · refine sim_covS ht6 S (fun a q1 q2 => ?_) ?_ ?_ ?_ ?_ (fun a d ha hd => ?_) (fun a q ha hq => ?_) (Or.inr ⟨0, M, fun q => ds (I + q), fun _ => 0, 0, 0, ?_, ?_, ?_⟩)
      · rw [uA_ne (by omega), k2F a (by omega) (by omega) (by omega), k1F a (by omega), F a (by omega)]
      · rw [uA_ne (by decide), uA_ne (by decide), k2F 0 (by omega) (by omega) (by omega), k2F 64 (by omega) (by omega) (by omega), k1F 0 (by omega), k1F 64 (by omega), F 0 (by omega), F 64 (by omega)]
        exact S.2.2.2.2.1
      · rw [uA_ne (by decide), uA_ne (by decide), k2F 0 (by omega) (by omega) (by omega), k2F 64 (by omega) (by omega) (by omega), k1F 0 (by omega), k1F 64 (by omega), F 0 (by omega), F 64 (by omega)]
        exact S.2.2.2.2.2.2.1.1
      · unfold SF
        rw [uA_2, k22]
        exact S.2.2.2.2.2.1
      · unfold SW
        rw [uA_2, k22]
        exact S.2.2.2.2.2.2.2
      · rw [uA_ne (by omega), ← hk2]
        rcases ha with rfl | rfl | rfl | rfl
        · simp (disch := omega) only [uI_ne, uI_k, uI_at, uA_ne, uA_at]
          rw [k1F 71 (by omega), F 71 (by omega)]
        · simp (disch := omega) only [uI_ne, uI_k, uI_at, uA_ne, uA_at]
          rw [k1F 72 (by omega), F 72 (by omega)]
        · simp (disch := omega) only [uI_ne, uI_k, uI_at, uA_ne, uA_at]
          rw [k1F 75 (by omega), F 75 (by omega)]
        · simp (disch := omega) only [uI_ne, uI_k, uI_at, uA_ne, uA_at]
          rw [k1F 76 (by omega), F 76 (by omega)]
      · rcases ha with rfl | rfl
        · rw [uA_at, wr_out (by omega), k2F 73 (by omega) (by omega) (by omega), k1F 73 (by omega), F 73 (by omega)]
        · rw [uA_ne (by omega), k2F 74 (by omega) (by omega) (by omega), k1F 74 (by omega), F 74 (by omega)]
      · exact ⟨⟨hM1, (by omega), (by decide), (by decide)⟩, fun i hi => hK.2.1 (I + i) (by omega), fun z => absurd z (by decide), fun _ _ _ => rfl, fun z => absurd z (by decide), fun _ => rfl⟩
      · exact covC_of (fun b q1 q2 => by rw [uA_ne (by omega), k2F b (by omega) (by omega) (by omega), k1F b (by omega)]) gC
      · refine ⟨?_, ?_, fun z => absurd z (by decide), ?_, fun i hi => ⟨?_, fun z => absurd z (by decide)⟩⟩
        · rw [uA_ne (by omega), ← hk2]
          simp (disch := omega) only [uI_ne, uI_k, uI_at, uA_ne, uA_at]
          rfl
        · rw [uA_ne (by omega), ← hk2]
          simp (disch := omega) only [uI_ne, uI_k, uI_at, uA_ne, uA_at]
        · rw [uA_ne (by omega), ← hk2]
          simp (disch := omega) only [uI_ne, uI_k, uI_at, uA_ne, uA_at]
          rfl
        · rw [uA_at, wr_in hi, k2F 68 (by omega) (by omega) (by omega), k168 i hi]
  · refine op_found S (f := 2) (by decide) (by decide) ?_ ?_
    · unfold f_X6_cut
      rw [cIsCover, bd_s, hc, if_pos rfl, cIsCover, bd_s, ht, if_pos rfl, if_neg y1, ix_n hc6 (by decide), gd_t, tn_n (by omega), rf_covers hc6, cMissC_f hC.2.1 hn1 (by omega), bd_s, if_neg (by decide), if_neg x0, hC.2.1]
      by_cases z : n < M
      · rw [if_pos (nI_lt z (by omega))]
        exact pF (by decide) (by decide)
      · rw [if_neg (nI_nlt (by omega) (by omega)), nIsub (by omega), if_pos (nI_lt (by omega) (by omega))]
        exact pF (by decide) (by decide)
    · show f_X7_cut (fd h 2) _ _ _ _ = _
      unfold f_X7_cut
      rw [mIsCover, bd_s, ht, if_pos rfl, if_neg y1, mAskCov_o (n := n) hc6 hM2.2.1 hn1 (by omega), bnd2_s, if_neg (by decide), if_neg x0, ix_n hc6 (by decide), gd_t, tn_n (by omega), hM2.2.1, if_pos ((mSpan (by omega) hM31 hI31).mpr hs)]
      exact pM (by decide) (by decide)
