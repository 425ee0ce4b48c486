theorem sumN_mul {F : Nat → Nat} {c : Nat} : ∀ n, sumN (fun i => F i * c) n = sumN F n * c
  | 0 => (Nat.zero_mul c).symm
  | n + 1 => by
    show sumN (fun i => F i * c) n + F n * c = (sumN F n + F n) * c
    rw [sumN_mul n, Nat.add_mul]
theorem gap_le_add {a b : Nat} : gapN a b ≤ a + b := by
  unfold gapN
  omega
theorem gp_le_whole {F G : Nat → Nat} : sumN (gpT F G) 8 ≤ 2 * sumN F 8 * sumN G 8 := by
  have h1 : sumN (gpT F G) 8 ≤ sumN (fun i => F i * sumN G 8 + G i * sumN F 8) 8 := sumN_le2 (fun i _ => gap_le_add)
  rw [sumN_add, sumN_mul, sumN_mul] at h1
  have e : 2 * sumN F 8 * sumN G 8 = sumN F 8 * sumN G 8 + sumN G 8 * sumN F 8 := by
    rw [Nat.mul_assoc, Nat.mul_comm (sumN G 8)]
    omega
  omega
theorem two_lN {a b : Nat} : (2 * lN a) * lN b = lN (2 * a * b) := by
  show lN 2 * lN a * lN b = _
  rw [lN_mul, lN_mul]
theorem md_fit {f : Nat → Int32} (ok : mdOk f = true) : fitM f (fun i => (f i).toNatClampNeg) := fun _ hi => md_N ok hi
theorem rowC_of {h h2 : MH} {a n : Nat} {f : Nat → Int32} (e1 : h2.1 a = h.1 a) (e2 : h2.1 (a + 1) = h.1 (a + 1)) (hC : rowC h a n f) : rowC h2 a n f := by
  unfold rowC
  rw [e1, e2]
  exact hC
theorem op_bestTest {h : MH} (S : Sim h) (r s : Int32) : Op (f_X6_bestTest h r s) (fun h1 => f_X7_bestTest h1 r s) := by
  rcases row_cases S.1 r with hr | ⟨j, hj, rfl, hr, R1⟩
  · exact op_same S (v := -1) (by unfold f_X6_bestTest; rw [cIsRow, bd_s, hr, if_neg (by decide)]) (by show f_X7_bestTest h _ _ = _; unfold f_X7_bestTest; rw [mIsRow, bd_s, hr, if_neg (by decide)])
  rcases row_cases S.1 s with hs | ⟨k, hk, rfl, hs, R2⟩
  · exact op_same S (v := -1) (by unfold f_X6_bestTest; rw [cIsRow, bd_s, hr, if_pos rfl, cIsRow, bd_s, hs, if_neg (by decide)]) (by show f_X7_bestTest h _ _ = _; unfold f_X7_bestTest; rw [mIsRow, bd_s, hr, if_pos rfl, mIsRow, bd_s, hs, if_neg (by decide)])
  have cP : ∀ A : Option (Int32 × MH), True := fun _ => trivial
  rcases R1 with ⟨m1, m2⟩ | ⟨n, f, hn, hC, hM⟩
  · refine op_found S (f := 1) (by decide) (by decide) ?_ ?_
    · unfold f_X6_bestTest
      rw [cIsRow, bd_s, hr, if_pos rfl, cIsRow, bd_s, hs, if_pos rfl, ix_n hj (by decide), gd_t, ix_n hk (by decide), gd_t, tn_n (j := j) (by omega), rf_rows hj, cMiss_t m1, bd_s, if_pos rfl]
      exact pF (by decide) (by decide)
    · show f_X7_bestTest (fd h 1) _ _ = _
      unfold f_X7_bestTest
      rw [mIsRow, bd_s, hr, if_pos rfl, mIsRow, bd_s, hs, if_pos rfl, ix_n hj (by decide), gd_t, tn_n (j := j) (by omega), fd_ne (by decide) (by decide), m2, if_pos (by decide)]
      exact pM (by decide) (by decide)
  rcases R2 with ⟨m1, m2⟩ | ⟨n2, g, hn2, hC2, hM2⟩
  · refine op_found S (f := 1) (by decide) (by decide) ?_ ?_
    · unfold f_X6_bestTest
      rw [cIsRow, bd_s, hr, if_pos rfl, cIsRow, bd_s, hs, if_pos rfl, ix_n hj (by decide), gd_t, ix_n hk (by decide), gd_t, tn_n (j := j) (by omega), rf_rows hj, cMiss_f hC.1 (by omega), bd_s, if_neg (by decide), tn_n (j := k) (by omega), rf_rows hk, cMiss_t m1, bd_s, if_pos rfl]
      exact pF (by decide) (by decide)
    · show f_X7_bestTest (fd h 1) _ _ = _
      unfold f_X7_bestTest
      rw [mIsRow, bd_s, hr, if_pos rfl, mIsRow, bd_s, hs, if_pos rfl, ix_n hj (by decide), gd_t, tn_n (j := j) (by omega), fd_ne (by decide) (by decide), hM.1, if_neg (nlt0 (by omega)), ix_n hk (by decide), gd_t, tn_n (j := k) (by omega), m2, if_pos (by decide)]
      exact pM (by decide) (by decide)
  have cE : f_X6_bestTest h (nI j) (nI k) = Option.bind (f_X6_wrongInModels h (18 + 2 * j) (18 + 2 * k)) (fun r57 => (if r57 = 0 then Option.bind (f_X5_total h (18 + 2 * j)) (fun r78 => Option.bind (f_X5_total h (18 + 2 * k)) (fun r84 => nm ((2 * r78) * r84) (fun v88 => Option.bind (f_X6_gapOf h (18 + 2 * j) (18 + 2 * k)) (fun r99 => Option.bind (f_X2_become h (v88 - r99) v88) (fun h105 => Option.bind (f_X6_greaterShares h105 (18 + 2 * j) (18 + 2 * k)) (fun r112 => nm (uI h105 0 9 r112) (fun h115 => some (1, h115)))))))) else bnd2 (f_X6_found h r57) (fun r70 h70 => some (r70, h70)))) := by
    unfold f_X6_bestTest
    rw [cIsRow, bd_s, hr, if_pos rfl, cIsRow, bd_s, hs, if_pos rfl, ix_n hj (by decide), gd_t, ix_n hk (by decide), gd_t, tn_n (j := j) (by omega), rf_rows hj, cMiss_f hC.1 (by omega), bd_s, if_neg (by decide), tn_n (j := k) (by omega), rf_rows hk, cMiss_f hC2.1 (by omega), bd_s, if_neg (by decide)]
  by_cases z8 : ¬ n = 8 ∨ ¬ n2 = 8
  · refine op_found S (f := 5) (by decide) (by decide) ?_ ?_
    · rw [cE, cWrongM_s hC.1 hC2.1 (by omega) (by omega) z8, bd_s, if_neg (by decide)]
      exact pF (by decide) (by decide)
    · show f_X7_bestTest (fd h 5) _ _ = _
      unfold f_X7_bestTest
      rw [mIsRow, bd_s, hr, if_pos rfl, mIsRow, bd_s, hs, if_pos rfl, ix_n hj (by decide), gd_t, gd_t, tn_n (j := j) (by omega), fd_ne (by decide) (by decide), hM.1, if_neg (nlt0 (by omega)), ix_n hk (by decide), gd_t, gd_t, tn_n (j := k) (by omega), hM2.1, if_neg (nlt0 (by omega))]
      by_cases z1 : n = 8
      · rw [if_pos (show nI n = 8 by rw [z1]; rfl), if_neg (show ¬ nI n2 = 8 from fun y => by have := (nI_eq (b := 8) (by omega) (by decide)).mp y; omega)]
        exact pM (by decide) (by decide)
      · rw [if_neg (show ¬ nI n = 8 from fun y => z1 ((nI_eq (b := 8) (by omega) (by decide)).mp y))]
        exact pM (by decide) (by decide)
  have e1 : n = 8 := (by omega)
  have e2 : n2 = 8 := (by omega)
  subst e1
  subst e2
  have mE : ∀ x : MH, rowM x 66 67 40 j 8 f → rowM x 66 67 40 k 8 g → f_X7_bestTest x (nI j) (nI k) = bnd2 (f_X7_askedCounts x (nI j)) (fun r70 h70 => (if r70 < 0 then some (r70, h70) else bnd2 (f_X7_askedCounts h70 (nI k)) (fun r82 h82 => (if r82 < 0 then some (r82, h82) else (if r70 = 0 then bnd2 (f_X7_meets h82 4) (fun r106 h106 => some (r106, h106)) else (if r82 = 0 then bnd2 (f_X7_meets h82 4) (fun r106 h106 => some (r106, h106)) else Option.bind (f_X7_bestTest_L119 h82 (nI j) (nI k) r70 r82 0 0 0) (fun b119 => bnd2 (f_X7_ask h82 b119.2 1) (fun r226 h226 => bnd2 (f_X7_tell h226 (((2 * (Int32.toInt64 r70)) * (Int32.toInt64 r82)) - b119.1) ((2 * (Int32.toInt64 r70)) * (Int32.toInt64 r82)) r226) (fun r229 h229 => some (r229, h229)))))))))) := fun x q1 q2 => by
    unfold f_X7_bestTest
    rw [mIsRow, bd_s, hr, if_pos rfl, mIsRow, bd_s, hs, if_pos rfl, ix_n hj (by decide), gd_t, gd_t, tn_n (j := j) (by omega), q1.1, if_neg (nlt0 (by decide)), ix_n hk (by decide), gd_t, gd_t, tn_n (j := k) (by omega), q2.1, if_neg (nlt0 (by decide)), if_pos (show nI 8 = 8 from rfl), if_pos (show nI 8 = 8 from rfl)]
  cases o1 : mdOk f with
  | false =>
    refine op_found S (f := 3) (by decide) (by decide) ?_ ?_
    · rw [cE, cWrongM_u (sh_row hj) (sh_row hk) hC hC2 (Or.inl o1), bd_s, if_neg (by decide)]
      exact pF (by decide) (by decide)
    · show f_X7_bestTest (fd h 3) _ _ = _
      rw [mE _ (rowM_of (fd_ne (by decide) (by decide)) (fd_ne (by decide) (by decide)) hM) (rowM_of (fd_ne (by decide) (by decide)) (fd_ne (by decide) (by decide)) hM2), mAskC_u hj (rowM_of (fd_ne (by decide) (by decide)) (fd_ne (by decide) (by decide)) hM) o1, pB (by decide) (by decide)]
  | true =>
  have hF := md_fit o1
  have s1 := fit_sum hF
  cases o2 : mdOk g with
  | false =>
    refine op_found S (f := 3) (by decide) (by decide) ?_ ?_
    · rw [cE, cWrongM_u (sh_row hj) (sh_row hk) hC hC2 (Or.inr o2), bd_s, if_neg (by decide)]
      exact pF (by decide) (by decide)
    · show f_X7_bestTest (fd h 3) _ _ = _
      rw [mE _ (rowM_of (fd_ne (by decide) (by decide)) (fd_ne (by decide) (by decide)) hM) (rowM_of (fd_ne (by decide) (by decide)) (fd_ne (by decide) (by decide)) hM2), mAskC hj (rowM_of (fd_ne (by decide) (by decide)) (fd_ne (by decide) (by decide)) hM) o1 hF, bnd2_s, if_neg (nlt0 (by omega)), mAskC_u hk (rowM_of (fd_ne (by decide) (by decide)) (fd_ne (by decide) (by decide)) hM2) o2, pB (by decide) (by decide)]
  | true =>
  have hG := md_fit o2
  have s2 := fit_sum hG
  by_cases z0 : 0 < sumN (fun i => (f i).toNatClampNeg) 8 ∧ 0 < sumN (fun i => (g i).toNatClampNeg) 8
  · have gw := gp_le_whole (F := fun i => (f i).toNatClampNeg) (G := fun i => (g i).toNatClampNeg)
    have cW := cWrongM (sh_row hj) (sh_row hk) hC hC2 hF hG
    rw [if_pos z0] at cW
    have cG := cGapOf (sh_row hj) (sh_row hk) hC hC2 hF hG
    have cS : ∀ A B : Nat, f_X6_greaterShares (tlC h A B) (18 + 2 * j) (18 + 2 * k) = _ := fun A B => cGreater (h := tlC h A B) (sh_row hj) (sh_row hk) (rowC_of (by rw [tlC_1]) (by rw [tlC_1]) hC) (rowC_of (by rw [tlC_1]) (by rw [tlC_1]) hC2) hF hG
    have mL : ∀ x : MH, rowM x 66 67 40 j 8 f → rowM x 66 67 40 k 8 g → _ := fun x q1 q2 => mBestL (h := x) hj hk q1 q2 hF hG
    have mA : ∀ x : MH, rowM x 66 67 40 j 8 f → _ := fun x q1 => mAskC (h := x) hj q1 o1 hF
    have mB : ∀ x : MH, rowM x 66 67 40 k 8 g → _ := fun x q1 => mAskC (h := x) hk q1 o2 hG
    have t1 := fit_total hF
    have t2 := fit_total hG
    have mm : sumN (fun i => (f i).toNatClampNeg) 8 * sumN (fun i => (g i).toNatClampNeg) 8 ≤ 7992 * 7992 := Nat.mul_le_mul s1 s2
    have mp : 0 < sumN (fun i => (f i).toNatClampNeg) 8 * sumN (fun i => (g i).toNatClampNeg) 8 := Nat.mul_pos z0.1 z0.2
    rw [Nat.mul_assoc] at gw
    generalize sumN (gpT (fun i => (f i).toNatClampNeg) (fun i => (g i).toNatClampNeg)) 8 = gp at cG gw mL
    generalize grS (fun i => (f i).toNatClampNeg) (fun i => (g i).toNatClampNeg) 8 = gr at cS mL
    generalize sumN (fun i => (f i).toNatClampNeg) 8 = tA at *
    generalize sumN (fun i => (g i).toNatClampNeg) 8 = tB at *
    have w1 : (2 * lN tA) * lN tB = lN (2 * (tA * tB)) := by rw [two_lN, Nat.mul_assoc]
    generalize tA * tB = u at mm mp gw w1
    have hM3 : rowM (uI (tlC h (2 * u - gp) (2 * u)) 0 9 (nI gr)) 66 67 40 j 8 f := rowM_of (by rw [uI_ne (by decide), tlC_1]) (by rw [uI_ne (by decide), tlC_1]) hM
    have hM4 : rowM (uI (tlC h (2 * u - gp) (2 * u)) 0 9 (nI gr)) 66 67 40 k 8 g := rowM_of (by rw [uI_ne (by decide), tlC_1]) (by rw [uI_ne (by decide), tlC_1]) hM2
    refine ⟨1, uI (tlC h (2 * u - gp) (2 * u)) 0 9 (nI gr), tlM (uI (uI (tlC h (2 * u - gp) (2 * u)) 0 9 (nI gr)) 64 2 (nI gr)) (2 * u - gp) (2 * u), ?_, ?_, ?_⟩
    · rw [cE, cW, bd_s, if_pos rfl, cTotal (sh_row hj) hC (by decide), bd_s, cTotal (sh_row hk) hC2 (by decide), bd_s, nm_v, t1, t2, w1, cG, bd_s, lN_sub gw, cTold (by omega) (by omega) (by omega), bd_s, cS, bd_s, nm_v]
    · show f_X7_bestTest (uI (tlC h (2 * u - gp) (2 * u)) 0 9 (nI gr)) _ _ = _
      rw [mE _ hM3 hM4, mA _ hM3, bnd2_s, if_neg (nlt0 (by omega)), mB _ hM4, bnd2_s, if_neg (nlt0 (by omega)), if_neg (nI0_ne z0.1 (by omega)), if_neg (nI0_ne z0.2 (by omega)), mL _ hM3 hM4, bd_s]
      unfold f_X7_ask
      rw [nm_v, bnd2_s, nI_l (by omega), nI_l (by omega), w1, lN_sub gw, mTold (by omega) (by omega) (by omega), bnd2_s]
    · refine sim_scr S (fun a ha => ?_) ?_ ?_ (sf_told (h := h) (by rw [uI_2, uI_2])) ?_
      · rw [tlM_1, uI_ne (by omega), uI_ne (by omega), tlC_1]
      · rw [tlM_1, uI_ne (by decide), uI_at, uI_at]
      · rw [tlM_1, uI_ne (by decide), uI_k (by decide), uI_k (by decide), uI_ne (by decide), tlC_1]
        exact S.2.2.2.2.2.2.1.1
      · unfold SW
        rw [tlM_w, uI_2, uI_2, tlC_w]
        exact S.2.2.2.2.2.2.2
  · refine op_found S (f := 4) (by decide) (by decide) ?_ ?_
    · rw [cE, cWrongM (sh_row hj) (sh_row hk) hC hC2 hF hG, if_neg z0, bd_s, if_neg (by decide)]
      exact pF (by decide) (by decide)
    · show f_X7_bestTest (fd h 4) _ _ = _
      have q1 : rowM (fd h 4) 66 67 40 j 8 f := rowM_of (fd_ne (by decide) (by decide)) (fd_ne (by decide) (by decide)) hM
      have q2 : rowM (fd h 4) 66 67 40 k 8 g := rowM_of (fd_ne (by decide) (by decide)) (fd_ne (by decide) (by decide)) hM2
      rw [mE _ q1 q2, mAskC hj q1 o1 hF, bnd2_s, if_neg (nlt0 (by omega)), mAskC hk q2 o2 hG, bnd2_s, if_neg (nlt0 (by omega))]
      by_cases z1 : sumN (fun i => (f i).toNatClampNeg) 8 = 0
      · rw [if_pos (show nI (sumN (fun i => (f i).toNatClampNeg) 8) = 0 by rw [z1]; rfl)]
        exact pM (by decide) (by decide)
      · rw [if_neg (nI0_ne (by omega) (by omega)), if_pos (show nI (sumN (fun i => (g i).toNatClampNeg) 8) = 0 by rw [show sumN (fun i => (g i).toNatClampNeg) 8 = 0 by omega]; rfl)]
        exact pM (by decide) (by decide)
