theorem sh7 : shp 7 = (5, 0) := by decide +kernel
theorem ct8_sum {ds : Nat → Nat} : ∀ n, sumN (ct8 ds n) 8 = n
  | 0 => sumN_0 (fun _ _ => rfl)
  | n + 1 => by
    have e : sumN (ct8 ds (n + 1)) 8 = sumN (fun v => ct8 ds n v + (if ds n % 8 = v then 1 else 0)) 8 := rfl
    rw [e, sumN_add, sumN_one (k := ds n % 8) (fun v hv => if_neg (fun z => hv z.symm)) 8, if_pos (Nat.mod_lt _ (by decide)), if_pos rfl]
    have := ct8_sum (ds := ds) n
    omega
theorem ct8_fit {ds : Nat → Nat} {n : Nat} (hn : n ≤ 40) : fitM (fun v => nI (ct8 ds n v)) (ct8 ds n) := fun i _ => ⟨rfl, by have := ct8_le (ds := ds) (n := n) (v := i); omega⟩
theorem mFarL {h : MH} {c r n : Nat} {ds G : Nat → Nat} {g : Nat → Int32} (hc : c < 6) (hr : r < 6) (hn : n ≤ 40) (e71 : h.1 71 c = nI n) (e86 : ∀ i, i < 8 → h.1 86 i = nI (ct8 ds n i)) (hM : rowM h 66 67 40 r 8 g) (hG : fitM g G) : f_X7_howFar_L90 h (nI c) (nI r) (nI (sumN G 8)) 0 0 = some (nI (sumN (gpT (ct8 ds n) G) 8)) := by
  have s2 := fit_sum hG
  unfold f_X7_howFar_L90
  refine lpo_sum _ 8 (fun i v hi => ?_) (fun v => ?_)
  · (try dsimp only)
    obtain ⟨q1, q2⟩ := hG i hi
    have le := ct8_le (ds := ds) (n := n) (v := i)
    have l1 : ct8 ds n i * sumN G 8 ≤ 40 * 7992 := Nat.mul_le_mul (by omega) s2
    have l2 : G i * n ≤ 999 * 40 := Nat.mul_le_mul q2 hn
    unfold f_X7_howFar_B90 gpT
    rw [if_pos (show nI i < 8 from (nI_lt hi (by decide) : nI i < nI 8)), ix_n hi (by decide), gd_t, mRowAt hr (by omega), bd_s, hM.2 i hi, q1, ix_n hc (by decide), gd_t, tn_n (j := i) (by omega), tn_n (j := c) (by omega), e86 i hi, e71, pk_mul, pk_mul, mAbs (by omega) (by omega), bd_s, nm_v, nI_add, nI_s, ct8_sum]
  · (try dsimp only)
    unfold f_X7_howFar_B90
    rw [if_neg (by decide)]
theorem op_howFar {h : MH} (S : Sim h) (c r : Int32) : Op (f_X6_howFar h c r) (fun h1 => f_X7_howFar h1 c r) := by
  rcases cover_cases S.2.2.1 c with hc | ⟨c, hc6, rfl, hc, R1⟩
  · exact op_same S (v := -1) (by unfold f_X6_howFar; rw [cIsCover, bd_s, hc, if_neg (by decide)]) (by show f_X7_howFar h _ _ = _; unfold f_X7_howFar; rw [mIsCover, bd_s, hc, if_neg (by decide)])
  rcases row_cases S.1 r with hr | ⟨k, hk, rfl, hr, R2⟩
  · exact op_same S (v := -1) (by unfold f_X6_howFar; rw [cIsCover, bd_s, hc, if_pos rfl, cIsRow, bd_s, hr, if_neg (by decide)]) (by show f_X7_howFar h _ _ = _; unfold f_X7_howFar; rw [mIsCover, bd_s, hc, if_pos rfl, mIsRow, bd_s, hr, if_neg (by decide)])
  rcases R1 with ⟨m1, m2⟩ | ⟨kd, n, ds, cs, w, wt, hK, hC, hM⟩
  · refine op_found S (f := 1) (by decide) (by decide) ?_ ?_
    · unfold f_X6_howFar
      rw [cIsCover, bd_s, hc, if_pos rfl, cIsRow, bd_s, hr, if_pos rfl, ix_n hc6 (by decide), gd_t, tn_n (j := c) (by omega), rf_covers hc6, cMissC_t m1, bd_s, if_pos rfl]
      exact pF (by decide) (by decide)
    · show f_X7_howFar (fd h 1) _ _ = _
      unfold f_X7_howFar
      rw [mIsCover, bd_s, hc, if_pos rfl, mIsRow, bd_s, hr, if_pos rfl, ix_n hc6 (by decide), gd_t, tn_n (j := c) (by omega), fd_ne (by decide) (by decide), m2, if_pos rfl]
      exact pM (by decide) (by decide)
  have hn := hK.1.2.1
  have hn1 := hK.1.1
  rcases R2 with ⟨m1, m2⟩ | ⟨n2, g, hn2, hC2, hM2⟩
  · refine op_found S (f := 1) (by decide) (by decide) ?_ ?_
    · unfold f_X6_howFar
      rw [cIsCover, bd_s, hc, if_pos rfl, cIsRow, bd_s, hr, if_pos rfl, ix_n hc6 (by decide), gd_t, tn_n (j := c) (by omega), rf_covers hc6, cMissC_f hC.2.1 hn1 (by omega), bd_s, if_neg (by decide), ix_n hk (by decide), gd_t, tn_n (j := k) (by omega), rf_rows hk, cMiss_t m1, bd_s, if_pos rfl]
      exact pF (by decide) (by decide)
    · show f_X7_howFar (fd h 1) _ _ = _
      unfold f_X7_howFar
      rw [mIsCover, bd_s, hc, if_pos rfl, mIsRow, bd_s, hr, if_pos rfl, ix_n hc6 (by decide), gd_t, tn_n (j := c) (by omega), fd_ne (by decide) (by decide), hM.2.1, if_neg (nI0_ne hn1 (by omega)), ix_n hk (by decide), gd_t, tn_n (j := k) (by omega), fd_ne (by decide) (by decide), m2, if_pos (by decide)]
      exact pM (by decide) (by decide)
  have cI := cCountInto (r := 7) (sh_cov hc6) sh7 (by omega) hK hC
  generalize hg : uA (uI h 7 1 (nI 8)) (7 + 1) (wr (h.1 (7 + 1)) 0 (fun v => nI (ct8 ds n v)) 8) = x at cI
  have F : ∀ a, a ≠ 7 → a ≠ 8 → x.1 a = h.1 a := fun a q1 q2 => by rw [← hg, uA_ne (by omega), uI_ne q1]
  have x2 : x.2 = h.2 := by rw [← hg, uA_2, uI_2]
  have xR : rowC x 7 8 (fun v => nI (ct8 ds n v)) := by
    rw [← hg]
    exact ⟨by rw [uA_ne (by omega), uI_at], fun i hi => by rw [uA_at, wr_0in hi]⟩
  have xM : covM x c kd n ds cs w wt := covM_of (fun b q1 q2 => F b (by omega) (by omega)) hM
  have xC2 : rowC x (18 + 2 * k) n2 g := rowC_of (F _ (by omega) (by omega)) (F _ (by omega) (by omega)) hC2
  have xM2 : rowM x 66 67 40 k n2 g := rowM_of (F _ (by omega) (by omega)) (F _ (by omega) (by omega)) hM2
  have Sx : Sim x := by
    refine sim_scr S (fun a ha => F a (by omega) (by omega)) ?_ ?_ ?_ ?_
    · rw [F 0 (by decide) (by decide), F 64 (by decide) (by decide)]
      exact S.2.2.2.2.1
    · rw [F 0 (by decide) (by decide), F 64 (by decide) (by decide)]
      exact S.2.2.2.2.2.2.1.1
    · unfold SF
      rw [x2]
      exact S.2.2.2.2.2.1
    · unfold SW
      rw [x2]
      exact S.2.2.2.2.2.2.2
  have cE : f_X6_howFar h (nI c) (nI k) = Option.bind (f_X6_wrongInModels x 7 (18 + 2 * k)) (fun r71 => (if r71 = 0 then Option.bind (f_X5_total x 7) (fun r92 => gd true (Option.bind (f_X5_total x (18 + 2 * k)) (fun r102 => nm ((2 * r92) * r102) (fun v106 => gd true (Option.bind (f_X6_gapOf x 7 (18 + 2 * k)) (fun r122 => Option.bind (f_X2_become x r122 v106) (fun h127 => some (1, h127)))))))) else bnd2 (f_X6_found x r71) (fun r81 h81 => some (r81, h81)))) := by
    unfold f_X6_howFar
    rw [cIsCover, bd_s, hc, if_pos rfl, cIsRow, bd_s, hr, if_pos rfl, ix_n hc6 (by decide), gd_t, tn_n (j := c) (by omega), rf_covers hc6, cMissC_f hC.2.1 hn1 (by omega), bd_s, if_neg (by decide), ix_n hk (by decide), gd_t, tn_n (j := k) (by omega), rf_rows hk, cMiss_f hC2.1 (by omega), bd_s, if_neg (by decide), gd_t, cI, bd_s, gd_t]
  by_cases z8 : ¬ n2 = 8
  · refine op_found Sx (f := 5) (by decide) (by decide) ?_ ?_
    · rw [cE, cWrongM_s (n := 8) xR.1 xC2.1 (by decide) (by omega) (Or.inr z8), bd_s, if_neg (by decide)]
      exact pF (by decide) (by decide)
    · show f_X7_howFar (fd x 5) _ _ = _
      unfold f_X7_howFar
      rw [mIsCover, bd_s, hc, if_pos rfl, mIsRow, bd_s, hr, if_pos rfl, ix_n hc6 (by decide), gd_t, tn_n (j := c) (by omega), fd_ne (by decide) (by decide), xM.2.1, if_neg (nI0_ne hn1 (by omega)), ix_n hk (by decide), gd_t, gd_t, tn_n (j := k) (by omega), fd_ne (by decide) (by decide), xM2.1, if_neg (nlt0 (by omega)), if_neg (show ¬ nI n2 = 8 from fun y => z8 ((nI_eq (b := 8) (by omega) (by decide)).mp y))]
      exact pM (by decide) (by decide)
  have e8 : n2 = 8 := (by omega)
  subst e8
  have mE : ∀ y : MH, y.1 71 c = nI n → rowM y 66 67 40 k 8 g → f_X7_howFar y (nI c) (nI k) = bnd2 (f_X7_askedCounts y (nI k)) (fun r59 h59 => (if r59 < 0 then some (r59, h59) else (if r59 = 0 then bnd2 (f_X7_meets h59 4) (fun r75 h75 => some (r75, h75)) else Option.bind (f_X7_setCounted h59 (nI c)) (fun h81 => Option.bind (f_X7_howFar_L90 h81 (nI c) (nI k) r59 0 0) (fun b90 => gd true (bnd2 (f_X7_tell h81 (Int32.toInt64 b90) ((2 * (Int32.toInt64 r59)) * (Int32.toInt64 (h81.1 71 c))) 1) (fun r154 h154 => some (r154, h154)))))))) := fun y q1 q2 => by
    unfold f_X7_howFar
    rw [mIsCover, bd_s, hc, if_pos rfl, mIsRow, bd_s, hr, if_pos rfl, ix_n hc6 (by decide), gd_t, tn_n (j := c) (by omega), q1, if_neg (nI0_ne hn1 (by omega)), ix_n hk (by decide), gd_t, gd_t, tn_n (j := k) (by omega), q2.1, if_neg (nlt0 (by decide)), if_pos (show nI 8 = 8 from rfl)]
  have hF := ct8_fit (ds := ds) (n := n) hn
  cases o2 : mdOk g with
  | false =>
    refine op_found Sx (f := 3) (by decide) (by decide) ?_ ?_
    · rw [cE, cWrongM_u sh7 (sh_row hk) xR xC2 (Or.inr o2), bd_s, if_neg (by decide)]
      exact pF (by decide) (by decide)
    · show f_X7_howFar (fd x 3) _ _ = _
      rw [mE _ (by rw [fd_ne (by decide) (by decide)]; exact xM.2.1) (rowM_of (fd_ne (by decide) (by decide)) (fd_ne (by decide) (by decide)) xM2), mAskC_u hk (rowM_of (fd_ne (by decide) (by decide)) (fd_ne (by decide) (by decide)) xM2) o2, pB (by decide) (by decide)]
  | true =>
  have hG := md_fit o2
  have s2 := fit_sum hG
  by_cases z0 : 0 < sumN (fun i => (g i).toNatClampNeg) 8
  · have gw := gp_le_whole (F := ct8 ds n) (G := fun i => (g i).toNatClampNeg)
    have cW := cWrongM sh7 (sh_row hk) xR xC2 hF hG
    rw [ct8_sum, if_pos ⟨hn1, z0⟩] at cW
    have cG := cGapOf sh7 (sh_row hk) xR xC2 hF hG
    have t1 := fit_total hF
    have t2 := fit_total hG
    rw [ct8_sum] at t1 gw
    have mA : ∀ y : MH, rowM y 66 67 40 k 8 g → _ := fun y q1 => mAskC (h := y) hk q1 o2 hG
    have mL : ∀ y : MH, y.1 71 c = nI n → (∀ i, i < 8 → y.1 86 i = nI (ct8 ds n i)) → rowM y 66 67 40 k 8 g → _ := fun y q0 q1 q2 => mFarL (h := y) (ds := ds) hc6 hk hn q0 q1 q2 hG
    generalize sumN (gpT (ct8 ds n) (fun i => (g i).toNatClampNeg)) 8 = gp at cG gw mL
    generalize sumN (fun i => (g i).toNatClampNeg) 8 = tB at *
    have mm : n * tB ≤ 40 * 7992 := Nat.mul_le_mul hn s2
    have mp : 0 < n * tB := Nat.mul_pos hn1 z0
    have w1 : (2 * lN n) * lN tB = lN (2 * (n * tB)) := by rw [two_lN, Nat.mul_assoc]
    have w2 : (2 * lN tB) * lN n = lN (2 * (n * tB)) := by rw [two_lN, Nat.mul_assoc, Nat.mul_comm tB]
    rw [Nat.mul_assoc] at gw
    generalize n * tB = u at mm mp gw w1 w2
    have tM : covM (tlC x gp (2 * u)) c kd n ds cs w wt := covM_of (fun b q1 q2 => by rw [tlC_1]) xM
    have tM2 : rowM (tlC x gp (2 * u)) 66 67 40 k 8 g := rowM_of (by rw [tlC_1]) (by rw [tlC_1]) xM2
    have mI := mCounted hc6 hK tM
    generalize hy : uA (tlC x gp (2 * u)) 86 (wr ((tlC x gp (2 * u)).1 86) 0 (fun v => nI (ct8 ds n v)) 8) = y at mI
    have yF : ∀ a, a ≠ 86 → y.1 a = x.1 a := fun a ha => by rw [← hy, uA_ne ha, tlC_1]
    have y86 : ∀ i, i < 8 → y.1 86 i = nI (ct8 ds n i) := fun i hi => by rw [← hy, uA_at, wr_0in hi]
    have y2 : y.2 = (tlC x gp (2 * u)).2 := by rw [← hy, uA_2]
    have y71 : y.1 71 c = nI n := by rw [yF 71 (by decide)]; exact xM.2.1
    have yM2 : rowM y 66 67 40 k 8 g := rowM_of (yF _ (by decide)) (yF _ (by decide)) xM2
    refine ⟨1, tlC x gp (2 * u), tlM y gp (2 * u), ?_, ?_, ?_⟩
    · rw [cE, cW, bd_s, if_pos rfl, cTotal sh7 xR (by decide), bd_s, gd_t, cTotal (sh_row hk) xC2 (by decide), bd_s, nm_v, gd_t, t1, t2, w1, cG, bd_s, cTold (by omega) (by omega) (by omega), bd_s]
    · show f_X7_howFar (tlC x gp (2 * u)) _ _ = _
      rw [mE _ tM.2.1 tM2, mA _ tM2, bnd2_s, if_neg (nlt0 (by omega)), if_neg (nI0_ne z0 (by omega)), mI, bd_s, mL y y71 y86 yM2, bd_s, gd_t, y71, nI_l (by omega), nI_l (by omega), nI_l (by omega), w2, mTold (by omega) (by omega) (by omega), bnd2_s]
    · refine sim_scr Sx (fun a ha => ?_) ?_ ?_ (sf_told (h := x) (by rw [y2])) ?_
      · rw [tlM_1, yF a (by omega)]
      · rw [tlM_1, yF 0 (by decide), yF 64 (by decide)]
        exact Sx.2.2.2.2.1
      · rw [tlM_1, yF 0 (by decide), yF 64 (by decide)]
        exact Sx.2.2.2.2.2.2.1.1
      · unfold SW
        rw [tlM_w, y2, tlC_w]
        exact Sx.2.2.2.2.2.2.2
  · refine op_found Sx (f := 4) (by decide) (by decide) ?_ ?_
    · rw [cE, cWrongM sh7 (sh_row hk) xR xC2 hF hG, if_neg (fun y => z0 y.2), bd_s, if_neg (by decide)]
      exact pF (by decide) (by decide)
    · show f_X7_howFar (fd x 4) _ _ = _
      have q2 : rowM (fd x 4) 66 67 40 k 8 g := rowM_of (fd_ne (by decide) (by decide)) (fd_ne (by decide) (by decide)) xM2
      rw [mE _ (by rw [fd_ne (by decide) (by decide)]; exact xM.2.1) q2, mAskC hk q2 o2 hG, bnd2_s, if_neg (nlt0 (by omega)), if_pos (show nI (sumN (fun i => (g i).toNatClampNeg) 8) = 0 by rw [show sumN (fun i => (g i).toNatClampNeg) 8 = 0 by omega]; rfl)]
      exact pM (by decide) (by decide)
