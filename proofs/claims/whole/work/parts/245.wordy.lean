def chOk (f g : Nat → Int32) (i : Nat) : Bool := btw (g i) 1 9 && btw (f i) 0 (g i - 1)
theorem chOk_N {f g : Nat → Int32} {i : Nat} (e : btw (g i) 1 9 = true) : ∃ k, 1 ≤ k ∧ k ≤ 9 ∧ g i = nI k ∧ btw (f i) 0 (g i - 1) = decide (¬ f i < 0 ∧ f i < g i) := by
  obtain ⟨k, k1, k9, ek⟩ := btw_N (a := 1) (b := 9) (by decide) (by decide) e
  refine ⟨k, k1, k9, ek, ?_⟩
  rw [ek, btw_pred (by omega)]
  rfl
theorem cAreCh {h : MH} {a b n : Nat} {f g : Nat → Int32} (ha : shp a = (5, 0)) (hb : shp b = (5, 0)) (hA : rowC h a n f) (hB : rowC h b n g) (hn : n ≤ 40) : f_X6_areChoices h a b = some (allB (chOk f g) n) := by
  unfold f_X6_areChoices
  rw [cWithin hb hB (by omega), bd_s, show allB (chOk f g) n = (allB (fun i => btw (g i) 1 9) n && allB (fun i => btw (f i) 0 (g i - 1)) n) from allB_and n]
  cases q : allB (fun i => btw (g i) 1 9) n with
  | false => rfl
  | true =>
    have hg := allB_t.mp q
    rw [if_pos rfl, Bool.true_and]
    unfold f_X6_areChoices_L14
    have key := lpo_find (step := fun s : Int32 => f_X6_areChoices_B14 h a b s) (b1 := Sum.inr false) (b2 := Sum.inl ()) (fun i => nI i) n (fun i => ¬ btw (f i) 0 (g i - 1) = true) (fun i hi z => ?_) (fun i hi z => ?_) ?_
    · rcases key with ⟨z, e⟩ | ⟨z, e⟩
      · rw [allB_f z, show (0 : Int32) = nI 0 from rfl, e]
        rfl
      · rw [allB_t.mpr (fun i hi2 => Classical.not_not.mp (z i hi2)), show (0 : Int32) = nI 0 from rfl, e]
        rfl
    · (try dsimp only)
      obtain ⟨k, k1, k9, ek, e2⟩ := chOk_N (f := f) (hg i hi)
      have z2 := Classical.not_not.mp z
      rw [e2] at z2
      have z3 := of_decide_eq_true z2
      unfold f_X6_areChoices_B14
      rw [hA.1, if_pos (nI_lt hi (by omega)), cGet ha hA (by omega) hi, bd_s, if_neg z3.1, bd_s, cGet hb hB (by omega) hi, bd_s, if_pos z3.2, nI_s]
    · (try dsimp only)
      obtain ⟨k, k1, k9, ek, e2⟩ := chOk_N (f := f) (hg i hi)
      rw [e2] at z
      unfold f_X6_areChoices_B14
      rw [hA.1, if_pos (nI_lt hi (by omega)), cGet ha hA (by omega) hi, bd_s, bd_s, cGet hb hB (by omega) hi, bd_s]
      by_cases c1 : f i < 0
      · rw [if_pos c1]
      · rw [if_neg c1]
        by_cases c2 : f i < g i
        · exact absurd (decide_eq_true ⟨c1, c2⟩) z
        · rw [if_neg c2]
    · (try dsimp only)
      unfold f_X6_areChoices_B14
      rw [hA.1, if_neg (nI_nlt (Nat.le_refl _) (by omega))]
section WORDY
variable {h : MH} {r s n c : Nat} {f g : Nat → Int32}
theorem mW83 {x1 : Int32} (hr : r < 6) (hs : s < 6) (hA : rowM h 66 67 40 r n f) (hB : rowM h 66 67 40 s n g) (hn : n ≤ 40) : f_X7_wordy_L83 h x1 (nI r) (nI s) 1 0 = some (b2i (allB (chOk f g) n)) := by
  unfold f_X7_wordy_L83
  rw [show ((1 : Int32), (0 : Int32)) = (b2i (allB (chOk f g) 0), nI 0) from rfl]
  refine lpo_for (fun i => (b2i (allB (chOk f g) i), nI i)) n (fun i hi => ?_) ?_
  · (try dsimp only)
    have e : allB (chOk f g) (i + 1) = (allB (chOk f g) i && chOk f g i) := rfl
    unfold f_X7_wordy_B83
    rw [e, ix_n hr (by decide), gd_t, tn_n (by omega), hA.1, if_pos (nI_lt hi (by omega))]
    cases allB (chOk f g) i with
    | false => rw [if_pos (show b2i false = 0 from rfl), nI_s]; rfl
    | true =>
      rw [if_neg (show ¬ b2i true = 0 by decide), mRowAt hs (by omega), bd_s, hB.2 i hi, mIn, bd_s, mRowAt hr (by omega), bd_s, hA.2 i hi, bd_s, mIn, bd_s, nI_s, Bool.true_and]
      unfold chOk
      cases btw (g i) 1 9 with
      | false => rfl
      | true =>
        rw [if_pos rfl, Bool.true_and]
        cases btw (f i) 0 (g i - 1) <;> rfl
  · (try dsimp only)
    unfold f_X7_wordy_B83
    rw [ix_n hr (by decide), gd_t, tn_n (by omega), hA.1, if_neg (nI_nlt (Nat.le_refl _) (by omega))]
theorem mW165 (hc : c < 6) (hr : r < 6) (hs : s < 6) (hA : h.1 66 r = nI n) (hB : rowM h 66 67 40 s n g) (hn : n ≤ 40) : f_X7_wordy_L165 h (nI c) (nI r) (nI s) 0 = some (uA h 74 (wr (h.1 74) (40 * c) g n)) := by
  unfold f_X7_wordy_L165
  rw [show ((0 : Int32), h) = (nI 0, uA h 74 (wr (h.1 74) (40 * c) g 0)) by rw [wr_0]; rfl]
  refine lpo_for (fun i => (nI i, uA h 74 (wr (h.1 74) (40 * c) g i))) n (fun i hi => ?_) ?_
  · (try dsimp only)
    unfold f_X7_wordy_B165
    rw [ix_n hr (by decide), gd_t, tn_n (by omega), uA_ne (by decide), hA, if_pos (nI_lt hi (by omega)), mRowAt hs (by omega), bd_s, uA_ne (by decide), hB.2 i hi, lin40, ix_n (by omega) (by decide), gd_t, nm_v, tn_n (by omega), wr_s rfl, nI_s]
  · (try dsimp only)
    unfold f_X7_wordy_B165
    rw [ix_n hr (by decide), gd_t, tn_n (by omega), uA_ne (by decide), hA, if_neg (nI_nlt (Nat.le_refl _) (by omega))]
end WORDY
theorem op_wordy {h : MH} (S : Sim h) (c r s : Int32) : Op (f_X6_wordy h c r s) (fun h1 => f_X7_wordy h1 c r s) := by
  rcases cov_cases c with hc | ⟨c, hc6, rfl, hc⟩
  · exact op_same S (v := -1) (by unfold f_X6_wordy; rw [cIsCover, bd_s, hc, if_neg (by decide)]) (by show f_X7_wordy h _ _ _ = _; unfold f_X7_wordy; rw [mIsCover, bd_s, hc, if_neg (by decide)])
  rcases row_cases S.1 r with hr | ⟨j, hj, rfl, hr, R1⟩
  · exact op_same S (v := -1) (by unfold f_X6_wordy; rw [cIsCover, bd_s, hc, if_pos rfl, cIsRow, bd_s, hr, if_neg (by decide)]) (by show f_X7_wordy h _ _ _ = _; unfold f_X7_wordy; rw [mIsCover, bd_s, hc, if_pos rfl, mIsRow, bd_s, hr, if_neg (by decide)])
  rcases row_cases S.1 s with hs | ⟨k, hk, rfl, hs, R2⟩
  · exact op_same S (v := -1) (by unfold f_X6_wordy; rw [cIsCover, bd_s, hc, if_pos rfl, cIsRow, bd_s, hr, if_pos rfl, cIsRow, bd_s, hs, if_neg (by decide)]) (by show f_X7_wordy h _ _ _ = _; unfold f_X7_wordy; rw [mIsCover, bd_s, hc, if_pos rfl, mIsRow, bd_s, hr, if_pos rfl, mIsRow, bd_s, hs, if_neg (by decide)])
  rcases R1 with ⟨m1, m2⟩ | ⟨n, f, hn, hC, hM⟩
  · refine op_found S (f := 1) (by decide) (by decide) ?_ ?_
    · unfold f_X6_wordy
      simp (disch := omega) only [bd_w, bnd2_w, gd_w, nm_w, ix_n, tn_n, lin40, lin60, nI_s, nI_add, N_lt, N_eq, N_ltK, K_ltN, N_eqK, K_eqN, N_addK, K_addN, pk_mul, N_mulK, K_mulN, pk_sub, N_subK, pk_div, N_divK, N_rem, N_remK, N_nz, cIsRow, cIsText, cIsCover, cIsCode, mIsRow, mIsText, mIsCover, mIsCode, mIn, inR_d, btw_K, dec_t, dec_f, rf_rows, rf_texts, rf_covers, rf_codes, Bool.false_eq_true, eq_self, if_true, if_false, Nat.add_zero, Nat.zero_add, if_pos, if_neg, cMiss_t m1]
      exact pF (by decide) (by decide)
    · show f_X7_wordy (fd h 1) _ _ _ = _
      unfold f_X7_wordy
      simp (disch := omega) only [bd_w, bnd2_w, gd_w, nm_w, ix_n, tn_n, lin40, lin60, nI_s, nI_add, N_lt, N_eq, N_ltK, K_ltN, N_eqK, K_eqN, N_addK, K_addN, pk_mul, N_mulK, K_mulN, pk_sub, N_subK, pk_div, N_divK, N_rem, N_remK, N_nz, cIsRow, cIsText, cIsCover, cIsCode, mIsRow, mIsText, mIsCover, mIsCode, mIn, inR_d, btw_K, dec_t, dec_f, rf_rows, rf_texts, rf_covers, rf_codes, Bool.false_eq_true, eq_self, if_true, if_false, Nat.add_zero, Nat.zero_add, if_pos, if_neg, fd_ne, m2, show (-9 : Int32) < 0 by decide]
      exact pM (by decide) (by decide)
  rcases R2 with ⟨m1, m2⟩ | ⟨n2, g, hn2, hC2, hM2⟩
  · refine op_found S (f := 1) (by decide) (by decide) ?_ ?_
    · unfold f_X6_wordy
      simp (disch := omega) only [bd_w, bnd2_w, gd_w, nm_w, ix_n, tn_n, lin40, lin60, nI_s, nI_add, N_lt, N_eq, N_ltK, K_ltN, N_eqK, K_eqN, N_addK, K_addN, pk_mul, N_mulK, K_mulN, pk_sub, N_subK, pk_div, N_divK, N_rem, N_remK, N_nz, cIsRow, cIsText, cIsCover, cIsCode, mIsRow, mIsText, mIsCover, mIsCode, mIn, inR_d, btw_K, dec_t, dec_f, rf_rows, rf_texts, rf_covers, rf_codes, Bool.false_eq_true, eq_self, if_true, if_false, Nat.add_zero, Nat.zero_add, if_pos, if_neg, cMiss_f hC.1 (show n ≤ 1000000 by omega), cMiss_t m1]
      exact pF (by decide) (by decide)
    · show f_X7_wordy (fd h 1) _ _ _ = _
      unfold f_X7_wordy
      simp (disch := omega) only [bd_w, bnd2_w, gd_w, nm_w, ix_n, tn_n, lin40, lin60, nI_s, nI_add, N_lt, N_eq, N_ltK, K_ltN, N_eqK, K_eqN, N_addK, K_addN, pk_mul, N_mulK, K_mulN, pk_sub, N_subK, pk_div, N_divK, N_rem, N_remK, N_nz, cIsRow, cIsText, cIsCover, cIsCode, mIsRow, mIsText, mIsCover, mIsCode, mIn, inR_d, btw_K, dec_t, dec_f, rf_rows, rf_texts, rf_covers, rf_codes, Bool.false_eq_true, eq_self, if_true, if_false, Nat.add_zero, Nat.zero_add, if_pos, if_neg, fd_ne, m2, hM.1, nlt0, show (-9 : Int32) < 0 by decide]
      exact pM (by decide) (by decide)
  by_cases hz : n = 0 ∨ ¬ n = n2
  · refine op_found S (f := 5) (by decide) (by decide) ?_ ?_
    · unfold f_X6_wordy
      by_cases n0 : n = 0
      · simp (disch := omega) only [bd_w, bnd2_w, gd_w, nm_w, ix_n, tn_n, lin40, lin60, nI_s, nI_add, N_lt, N_eq, N_ltK, K_ltN, N_eqK, K_eqN, N_addK, K_addN, pk_mul, N_mulK, K_mulN, pk_sub, N_subK, pk_div, N_divK, N_rem, N_remK, N_nz, cIsRow, cIsText, cIsCover, cIsCode, mIsRow, mIsText, mIsCover, mIsCode, mIn, inR_d, btw_K, dec_t, dec_f, rf_rows, rf_texts, rf_covers, rf_codes, Bool.false_eq_true, eq_self, if_true, if_false, Nat.add_zero, Nat.zero_add, if_pos, if_neg, cMiss_f hC.1 (show n ≤ 1000000 by omega), cMiss_f hC2.1 (show n2 ≤ 1000000 by omega), hC.1]
        exact pF (by decide) (by decide)
      · simp (disch := omega) only [bd_w, bnd2_w, gd_w, nm_w, ix_n, tn_n, lin40, lin60, nI_s, nI_add, N_lt, N_eq, N_ltK, K_ltN, N_eqK, K_eqN, N_addK, K_addN, pk_mul, N_mulK, K_mulN, pk_sub, N_subK, pk_div, N_divK, N_rem, N_remK, N_nz, cIsRow, cIsText, cIsCover, cIsCode, mIsRow, mIsText, mIsCover, mIsCode, mIn, inR_d, btw_K, dec_t, dec_f, rf_rows, rf_texts, rf_covers, rf_codes, Bool.false_eq_true, eq_self, if_true, if_false, Nat.add_zero, Nat.zero_add, if_pos, if_neg, cMiss_f hC.1 (show n ≤ 1000000 by omega), cMiss_f hC2.1 (show n2 ≤ 1000000 by omega), hC.1, hC2.1]
        exact pF (by decide) (by decide)
    · show f_X7_wordy (fd h 5) _ _ _ = _
      unfold f_X7_wordy
      by_cases n0 : n = 0
      · simp (disch := omega) only [bd_w, bnd2_w, gd_w, nm_w, ix_n, tn_n, lin40, lin60, nI_s, nI_add, N_lt, N_eq, N_ltK, K_ltN, N_eqK, K_eqN, N_addK, K_addN, pk_mul, N_mulK, K_mulN, pk_sub, N_subK, pk_div, N_divK, N_rem, N_remK, N_nz, cIsRow, cIsText, cIsCover, cIsCode, mIsRow, mIsText, mIsCover, mIsCode, mIn, inR_d, btw_K, dec_t, dec_f, rf_rows, rf_texts, rf_covers, rf_codes, Bool.false_eq_true, eq_self, if_true, if_false, Nat.add_zero, Nat.zero_add, if_pos, if_neg, fd_ne, hM.1, hM2.1, nlt0]
        exact pM (by decide) (by decide)
      · simp (disch := omega) only [bd_w, bnd2_w, gd_w, nm_w, ix_n, tn_n, lin40, lin60, nI_s, nI_add, N_lt, N_eq, N_ltK, K_ltN, N_eqK, K_eqN, N_addK, K_addN, pk_mul, N_mulK, K_mulN, pk_sub, N_subK, pk_div, N_divK, N_rem, N_remK, N_nz, cIsRow, cIsText, cIsCover, cIsCode, mIsRow, mIsText, mIsCover, mIsCode, mIn, inR_d, btw_K, dec_t, dec_f, rf_rows, rf_texts, rf_covers, rf_codes, Bool.false_eq_true, eq_self, if_true, if_false, Nat.add_zero, Nat.zero_add, if_pos, if_neg, fd_ne, hM.1, hM2.1, nlt0]
        exact pM (by decide) (by decide)
  have hn0 : 1 ≤ n := (by omega)
  have e12 : n2 = n := (by omega)
  subst e12
  have fM : ∀ x : MH, x.1 66 = h.1 66 → x.1 67 = h.1 67 → rowM x 66 67 40 j n2 f ∧ rowM x 66 67 40 k n2 g := fun x e1 e2 => by
    unfold rowM
    rw [e1, e2]
    exact ⟨hM, hM2⟩
  cases ok : allB (chOk f g) n2 with
  | false =>
    refine op_found S (f := 3) (by decide) (by decide) ?_ ?_
    · unfold f_X6_wordy
      simp (disch := omega) only [bd_w, bnd2_w, gd_w, nm_w, ix_n, tn_n, lin40, lin60, nI_s, nI_add, N_lt, N_eq, N_ltK, K_ltN, N_eqK, K_eqN, N_addK, K_addN, pk_mul, N_mulK, K_mulN, pk_sub, N_subK, pk_div, N_divK, N_rem, N_remK, N_nz, cIsRow, cIsText, cIsCover, cIsCode, mIsRow, mIsText, mIsCover, mIsCode, mIn, inR_d, btw_K, dec_t, dec_f, rf_rows, rf_texts, rf_covers, rf_codes, Bool.false_eq_true, eq_self, if_true, if_false, Nat.add_zero, Nat.zero_add, if_pos, if_neg, cMiss_f hC.1 (show n2 ≤ 1000000 by omega), cMiss_f hC2.1 (show n2 ≤ 1000000 by omega), hC.1, hC2.1, cAreCh (sh_row hj) (sh_row hk) hC hC2 hn, ok]
      exact pF (by decide) (by decide)
    · show f_X7_wordy (fd h 3) _ _ _ = _
      obtain ⟨q1, q2⟩ := fM (fd h 3) (fd_ne (by decide) (by decide)) (fd_ne (by decide) (by decide))
      unfold f_X7_wordy
      simp (disch := omega) only [bd_w, bnd2_w, gd_w, nm_w, ix_n, tn_n, lin40, lin60, nI_s, nI_add, N_lt, N_eq, N_ltK, K_ltN, N_eqK, K_eqN, N_addK, K_addN, pk_mul, N_mulK, K_mulN, pk_sub, N_subK, pk_div, N_divK, N_rem, N_remK, N_nz, cIsRow, cIsText, cIsCover, cIsCode, mIsRow, mIsText, mIsCover, mIsCode, mIn, inR_d, btw_K, dec_t, dec_f, rf_rows, rf_texts, rf_covers, rf_codes, Bool.false_eq_true, eq_self, if_true, if_false, Nat.add_zero, Nat.zero_add, if_pos, if_neg, q1.1, q2.1, nlt0, mW83 hj hk q1 q2 hn, ok, b2i_f]
      exact pM (by decide) (by decide)
  | true =>
    have hk2 := allB_t.mp ok
    have B : ∀ i, i < n2 → 1 ≤ (g i).toNatClampNeg ∧ (g i).toNatClampNeg ≤ 9 ∧ (f i).toNatClampNeg < (g i).toNatClampNeg ∧ g i = nI (g i).toNatClampNeg ∧ f i = nI (f i).toNatClampNeg := fun i hi => by
      obtain ⟨z1, z2⟩ := (Bool.and_eq_true _ _).mp (hk2 i hi)
      obtain ⟨q, k1, k9, ek, e2⟩ := chOk_N (f := f) z1
      rw [ek, btw_pred (by omega)] at z2
      obtain ⟨p, hp, ep⟩ := inR_t (by omega) z2
      rw [ek, ep, tn_n (by omega), tn_n (by omega)]
      exact ⟨k1, k9, hp, rfl, rfl⟩
    generalize hg1 : bc (uA h (38 + 3 * c + 1) (va_cpy (h.1 (18 + 2 * j + 1)) (h.1 (38 + 3 * c + 1)) 0 0 40)) (38 + 3 * c) 3 n2 0 = g1
    have F1 : ∀ a, (a < 38 + 3 * c ∨ 40 + 3 * c < a) → g1.1 a = h.1 a := fun a ha => by
      rw [← hg1]
      unfold bc
      simp (disch := omega) only [uI_ne, uI_k, uI_at, uA_ne, uA_at]
    have g12 : g1.2 = h.2 := by rw [← hg1]; rfl
    have k2 : g1.1 (38 + 3 * c) 2 = nI 3 := by
      rw [← hg1]
      unfold bc
      simp (disch := omega) only [uI_ne, uI_k, uI_at, uA_ne, uA_at]
    have k3 : g1.1 (38 + 3 * c) 3 = nI n2 := by
      rw [← hg1]
      unfold bc
      simp (disch := omega) only [uI_ne, uI_k, uI_at, uA_ne, uA_at]
    have k4 : g1.1 (38 + 3 * c) 4 = nI 0 := by
      rw [← hg1]
      unfold bc
      simp (disch := omega) only [uI_ne, uI_k, uI_at, uA_ne, uA_at]
    have k5 : g1.1 (38 + 3 * c) 5 = nI 0 := by
      rw [← hg1]
      unfold bc
      simp (disch := omega) only [uI_ne, uI_k, uI_at, uA_ne, uA_at]
      rfl
    have kd1 : ∀ i, i < n2 → g1.1 (38 + 3 * c + 1) i = f i := fun i hi => by
      rw [← hg1]
      unfold bc
      simp (disch := omega) only [uI_ne, uI_k, uI_at, uA_ne, uA_at]
      unfold va_cpy
      rw [if_pos (by omega)]
      simpa using hC.2 i hi
    generalize hg2 : uA g1 (38 + 3 * c + 2) (va_cpy (g1.1 (18 + 2 * k + 1)) (g1.1 (38 + 3 * c + 2)) 0 0 40) = g2
    have F2 : ∀ a, a ≠ 38 + 3 * c + 2 → g2.1 a = g1.1 a := fun a ha => by rw [← hg2, uA_ne ha]
    have kd2 : ∀ i, i < n2 → g2.1 (38 + 3 * c + 2) i = g i := fun i hi => by
      rw [← hg2, uA_at]
      unfold va_cpy
      rw [if_pos (by omega), F1 _ (by omega)]
      simpa using hC2.2 i hi
    have g22 : g2.2 = h.2 := by rw [← hg2, uA_2, g12]
    obtain ⟨q1, q2⟩ := fM g2 (by rw [F2 66 (by omega), F1 66 (by omega)]) (by rw [F2 67 (by omega), F1 67 (by omega)])
    have cT : f_X1_takeChoices g1 (38 + 3 * c) (18 + 2 * k) = some g2 := by
      unfold f_X1_takeChoices
      rw [acp40, gd_t, nm_v, rf_Cov1 (sh_cov hc6), rf_Row (sh_row hk), show ((0 : Int32).toNatClampNeg) = 0 by decide, show ((40 : Int32).toNatClampNeg) = 40 by decide, hg2]
    have cR : f_X1_renew h (38 + 3 * c) (18 + 2 * j) 3 0 = some g1 := by
      have := cRenewC (h := h) (a := 38 + 3 * c) (r := 18 + 2 * j) (kd := 3) (n := n2) (w := 0) (sh_cov hc6) (sh_row hj) hn (by omega) hC.1
      rw [hg1] at this
      exact this
    have q3 : rowM (uA g2 74 (wr (g2.1 74) (40 * c) g n2)) 66 67 40 j n2 f := (fM _ (by rw [uA_ne (by decide), F2 66 (by omega), F1 66 (by omega)]) (by rw [uA_ne (by decide), F2 67 (by omega), F1 67 (by omega)])).1
    refine ⟨nI n2, g2, mc (uA g2 74 (wr (g2.1 74) (40 * c) g n2)) c 3 n2 f, ?_, ?_, ?_⟩
    · unfold f_X6_wordy
      simp (disch := omega) only [bd_w, bnd2_w, gd_w, nm_w, ix_n, tn_n, lin40, lin60, nI_s, nI_add, N_lt, N_eq, N_ltK, K_ltN, N_eqK, K_eqN, N_addK, K_addN, pk_mul, N_mulK, K_mulN, pk_sub, N_subK, pk_div, N_divK, N_rem, N_remK, N_nz, cIsRow, cIsText, cIsCover, cIsCode, mIsRow, mIsText, mIsCover, mIsCode, mIn, inR_d, btw_K, dec_t, dec_f, rf_rows, rf_texts, rf_covers, rf_codes, Bool.false_eq_true, eq_self, if_true, if_false, Nat.add_zero, Nat.zero_add, if_pos, if_neg, cMiss_f hC.1 (show n2 ≤ 1000000 by omega), cMiss_f hC2.1 (show n2 ≤ 1000000 by omega), hC.1, hC2.1, cAreCh (sh_row hj) (sh_row hk) hC hC2 hn, ok, cR, cT, F2, F1]
    · show f_X7_wordy g2 _ _ _ = _
      have mC := mCome (h := uA g2 74 (wr (g2.1 74) (40 * c) g n2)) (c := c) (r := j) (kd := 3) hc6 hj hn q3
      unfold f_X7_wordy
      simp (disch := omega) only [bd_w, bnd2_w, gd_w, nm_w, ix_n, tn_n, lin40, lin60, nI_s, nI_add, N_lt, N_eq, N_ltK, K_ltN, N_eqK, K_eqN, N_addK, K_addN, pk_mul, N_mulK, K_mulN, pk_sub, N_subK, pk_div, N_divK, N_rem, N_remK, N_nz, cIsRow, cIsText, cIsCover, cIsCode, mIsRow, mIsText, mIsCover, mIsCode, mIn, inR_d, btw_K, dec_t, dec_f, rf_rows, rf_texts, rf_covers, rf_codes, Bool.false_eq_true, eq_self, if_true, if_false, Nat.add_zero, Nat.zero_add, if_pos, if_neg, q1.1, q2.1, nlt0, mW83 hj hk q1 q2 hn, ok, b2i_t, show ¬ ((1 : Int32) = 0) by decide, mW165 hc6 hj hk q1.1 q2 hn]
      rw [bnd2_id]
      exact mC
    · refine sim_cov hc6 S (fun a z1 z2 => ?_) ?_ (fun a d ha hd => ?_) (fun a q ha hq => ?_) (Or.inr ⟨3, n2, fun i => (f i).toNatClampNeg, fun i => (g i).toNatClampNeg, 0, 0, ?_, ?_, ?_⟩)
      · unfold mc
        simp (disch := omega) only [uI_ne, uI_k, uI_at, uA_ne, uA_at]
        rw [F2 a (by omega), F1 a z1]
      · exact g22
      · unfold mc
        rcases ha with rfl | rfl | rfl | rfl
        · simp (disch := omega) only [uI_ne, uI_k, uI_at, uA_ne, uA_at]
          rw [F2 71 (by omega), F1 71 (by omega)]
        · simp (disch := omega) only [uI_ne, uI_k, uI_at, uA_ne, uA_at]
          rw [F2 72 (by omega), F1 72 (by omega)]
        · simp (disch := omega) only [uI_ne, uI_k, uI_at, uA_ne, uA_at]
          rw [F2 75 (by omega), F1 75 (by omega)]
        · simp (disch := omega) only [uI_ne, uI_k, uI_at, uA_ne, uA_at]
          rw [F2 76 (by omega), F1 76 (by omega)]
      · unfold mc
        rcases ha with rfl | rfl
        · simp (disch := omega) only [uI_ne, uI_k, uI_at, uA_ne, uA_at]
          rw [wr_out (by omega), F2 73 (by omega), F1 73 (by omega)]
        · simp (disch := omega) only [uI_ne, uI_k, uI_at, uA_ne, uA_at]
          rw [wr_out (by omega), F2 74 (by omega), F1 74 (by omega)]
      · refine ⟨⟨hn0, hn, (by decide), (by decide)⟩, fun i hi => ?_, fun _ i hi => ?_, fun z => absurd rfl z, fun z => absurd z (by decide), fun _ => rfl⟩
        · have b := B i hi
          exact Nat.le_trans (Nat.le_of_lt b.2.2.1) (Nat.le_trans b.2.1 (by decide))
        · have b := B i hi
          exact ⟨b.1, b.2.1, b.2.2.1⟩
      · have fr : ∀ a, 38 ≤ a → a ≤ 57 → (mc (uA g2 74 (wr (g2.1 74) (40 * c) g n2)) c 3 n2 f).1 a = g2.1 a := fun a q1 q2 => by
          unfold mc
          simp (disch := omega) only [uI_ne, uI_k, uI_at, uA_ne, uA_at]
        unfold covC
        rw [fr _ (by omega) (by omega), fr _ (by omega) (by omega), fr _ (by omega) (by omega), F2 _ (by omega), F2 _ (by omega)]
        exact ⟨k2, k3, k4, k5, fun i hi => ⟨by rw [kd1 i hi]; exact (B i hi).2.2.2.2, by rw [kd2 i hi]; exact (B i hi).2.2.2.1⟩⟩
      · refine ⟨?_, ?_, fun z => absurd z (by decide), ?_, fun i hi => ⟨?_, fun _ => ?_⟩⟩
        · unfold mc
          simp (disch := omega) only [uI_ne, uI_k, uI_at, uA_ne, uA_at]
        · unfold mc
          simp (disch := omega) only [uI_ne, uI_k, uI_at, uA_ne, uA_at]
        · unfold mc
          simp (disch := omega) only [uI_ne, uI_k, uI_at, uA_ne, uA_at]
          rfl
        · unfold mc
          simp (disch := omega) only [uI_ne, uI_k, uI_at, uA_ne, uA_at]
          rw [wr_in hi]
          exact (B i hi).2.2.2.2
        · unfold mc
          simp (disch := omega) only [uI_ne, uI_k, uI_at, uA_ne, uA_at]
          rw [wr_in hi]
          exact (B i hi).2.2.2.1
