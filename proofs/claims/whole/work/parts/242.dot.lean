def tellV (kd n : Nat) (ds cs : Nat → Nat) (w wt i m : Nat) : Int32 := if m = 0 then nI (ds i) else if m = 1 then bitV kd (ds i) else if m = 2 then flipV kd (ds i) (cs i) else if m = 3 then priceV kd n ds w i (cs i) else if wetB kd cs wt i = true then 1 else 0
section TELL
variable {h : MH} {a c kd n i m : Nat} {ds cs : Nat → Nat} {w wt : Nat}
theorem cTell (ha : shp a = (1, 0)) (hK : covK kd n ds cs w wt) (hC : covC h a kd n ds cs w wt) (hi : i < n) (hm : m ≤ 4) : f_X1_tellPlace h a (nI i) (nI m) = some (tellV kd n ds cs w wt i m) := by
  unfold f_X1_tellPlace tellV
  simp only [sw, cDotAt ha hK hC hi, cBitAt ha hK hC hi, cFlipped ha hK hC hi, cPrice ha hK hC hi, cIsWet ha hK hC hi, bd_s]
  have z : m = 0 ∨ m = 1 ∨ m = 2 ∨ m = 3 ∨ m = 4 := (by omega)
  rcases z with rfl | rfl | rfl | rfl | rfl
  · simp (disch := omega) only [bd_w, bnd2_w, gd_w, nm_w, ix_n, tn_n, lin40, lin60, nI_s, nI_add, N_lt, N_eq, N_ltK, K_ltN, N_eqK, K_eqN, N_addK, K_addN, pk_mul, N_mulK, K_mulN, pk_sub, N_subK, pk_div, N_divK, N_rem, N_remK, N_nz, cIsRow, cIsText, cIsCover, cIsCode, mIsRow, mIsText, mIsCover, mIsCode, mIn, inR_d, btw_K, dec_t, dec_f, rf_rows, rf_texts, rf_covers, rf_codes, Bool.false_eq_true, eq_self, if_true, if_false, Nat.add_zero, Nat.zero_add, if_pos, if_neg]
  · simp (disch := omega) only [bd_w, bnd2_w, gd_w, nm_w, ix_n, tn_n, lin40, lin60, nI_s, nI_add, N_lt, N_eq, N_ltK, K_ltN, N_eqK, K_eqN, N_addK, K_addN, pk_mul, N_mulK, K_mulN, pk_sub, N_subK, pk_div, N_divK, N_rem, N_remK, N_nz, cIsRow, cIsText, cIsCover, cIsCode, mIsRow, mIsText, mIsCover, mIsCode, mIn, inR_d, btw_K, dec_t, dec_f, rf_rows, rf_texts, rf_covers, rf_codes, Bool.false_eq_true, eq_self, if_true, if_false, Nat.add_zero, Nat.zero_add, if_pos, if_neg]
  · simp (disch := omega) only [bd_w, bnd2_w, gd_w, nm_w, ix_n, tn_n, lin40, lin60, nI_s, nI_add, N_lt, N_eq, N_ltK, K_ltN, N_eqK, K_eqN, N_addK, K_addN, pk_mul, N_mulK, K_mulN, pk_sub, N_subK, pk_div, N_divK, N_rem, N_remK, N_nz, cIsRow, cIsText, cIsCover, cIsCode, mIsRow, mIsText, mIsCover, mIsCode, mIn, inR_d, btw_K, dec_t, dec_f, rf_rows, rf_texts, rf_covers, rf_codes, Bool.false_eq_true, eq_self, if_true, if_false, Nat.add_zero, Nat.zero_add, if_pos, if_neg]
  · simp (disch := omega) only [bd_w, bnd2_w, gd_w, nm_w, ix_n, tn_n, lin40, lin60, nI_s, nI_add, N_lt, N_eq, N_ltK, K_ltN, N_eqK, K_eqN, N_addK, K_addN, pk_mul, N_mulK, K_mulN, pk_sub, N_subK, pk_div, N_divK, N_rem, N_remK, N_nz, cIsRow, cIsText, cIsCover, cIsCode, mIsRow, mIsText, mIsCover, mIsCode, mIn, inR_d, btw_K, dec_t, dec_f, rf_rows, rf_texts, rf_covers, rf_codes, Bool.false_eq_true, eq_self, if_true, if_false, Nat.add_zero, Nat.zero_add, if_pos, if_neg]
  · simp (disch := omega) only [bd_w, bnd2_w, gd_w, nm_w, ix_n, tn_n, lin40, lin60, nI_s, nI_add, N_lt, N_eq, N_ltK, K_ltN, N_eqK, K_eqN, N_addK, K_addN, pk_mul, N_mulK, K_mulN, pk_sub, N_subK, pk_div, N_divK, N_rem, N_remK, N_nz, cIsRow, cIsText, cIsCover, cIsCode, mIsRow, mIsText, mIsCover, mIsCode, mIn, inR_d, btw_K, dec_t, dec_f, rf_rows, rf_texts, rf_covers, rf_codes, Bool.false_eq_true, eq_self, if_true, if_false, Nat.add_zero, Nat.zero_add, if_pos, if_neg]
    cases wetB kd cs wt i <;> rfl
theorem mTell (hc : c < 6) (hK : covK kd n ds cs w wt) (hM : covM h c kd n ds cs w wt) (hi : i < n) (hm : m ≤ 4) : f_X7_dotTells h (nI c) (nI i) (nI m) = some (tellV kd n ds cs w wt i m) := by
  unfold f_X7_dotTells tellV
  simp only [sw, mDotAt hc hK hM hi, mBitOf hc hK hM hi, mFlipped hc hK hM hi, mPrice hc hK hM hi, mIsWet hc hK hM hi, bd_s]
  have z : m = 0 ∨ m = 1 ∨ m = 2 ∨ m = 3 ∨ m = 4 := (by omega)
  rcases z with rfl | rfl | rfl | rfl | rfl
  · simp (disch := omega) only [bd_w, bnd2_w, gd_w, nm_w, ix_n, tn_n, lin40, lin60, nI_s, nI_add, N_lt, N_eq, N_ltK, K_ltN, N_eqK, K_eqN, N_addK, K_addN, pk_mul, N_mulK, K_mulN, pk_sub, N_subK, pk_div, N_divK, N_rem, N_remK, N_nz, cIsRow, cIsText, cIsCover, cIsCode, mIsRow, mIsText, mIsCover, mIsCode, mIn, inR_d, btw_K, dec_t, dec_f, rf_rows, rf_texts, rf_covers, rf_codes, Bool.false_eq_true, eq_self, if_true, if_false, Nat.add_zero, Nat.zero_add, if_pos, if_neg]
  · simp (disch := omega) only [bd_w, bnd2_w, gd_w, nm_w, ix_n, tn_n, lin40, lin60, nI_s, nI_add, N_lt, N_eq, N_ltK, K_ltN, N_eqK, K_eqN, N_addK, K_addN, pk_mul, N_mulK, K_mulN, pk_sub, N_subK, pk_div, N_divK, N_rem, N_remK, N_nz, cIsRow, cIsText, cIsCover, cIsCode, mIsRow, mIsText, mIsCover, mIsCode, mIn, inR_d, btw_K, dec_t, dec_f, rf_rows, rf_texts, rf_covers, rf_codes, Bool.false_eq_true, eq_self, if_true, if_false, Nat.add_zero, Nat.zero_add, if_pos, if_neg]
  · simp (disch := omega) only [bd_w, bnd2_w, gd_w, nm_w, ix_n, tn_n, lin40, lin60, nI_s, nI_add, N_lt, N_eq, N_ltK, K_ltN, N_eqK, K_eqN, N_addK, K_addN, pk_mul, N_mulK, K_mulN, pk_sub, N_subK, pk_div, N_divK, N_rem, N_remK, N_nz, cIsRow, cIsText, cIsCover, cIsCode, mIsRow, mIsText, mIsCover, mIsCode, mIn, inR_d, btw_K, dec_t, dec_f, rf_rows, rf_texts, rf_covers, rf_codes, Bool.false_eq_true, eq_self, if_true, if_false, Nat.add_zero, Nat.zero_add, if_pos, if_neg]
  · simp (disch := omega) only [bd_w, bnd2_w, gd_w, nm_w, ix_n, tn_n, lin40, lin60, nI_s, nI_add, N_lt, N_eq, N_ltK, K_ltN, N_eqK, K_eqN, N_addK, K_addN, pk_mul, N_mulK, K_mulN, pk_sub, N_subK, pk_div, N_divK, N_rem, N_remK, N_nz, cIsRow, cIsText, cIsCover, cIsCode, mIsRow, mIsText, mIsCover, mIsCode, mIn, inR_d, btw_K, dec_t, dec_f, rf_rows, rf_texts, rf_covers, rf_codes, Bool.false_eq_true, eq_self, if_true, if_false, Nat.add_zero, Nat.zero_add, if_pos, if_neg]
  · simp (disch := omega) only [bd_w, bnd2_w, gd_w, nm_w, ix_n, tn_n, lin40, lin60, nI_s, nI_add, N_lt, N_eq, N_ltK, K_ltN, N_eqK, K_eqN, N_addK, K_addN, pk_mul, N_mulK, K_mulN, pk_sub, N_subK, pk_div, N_divK, N_rem, N_remK, N_nz, cIsRow, cIsText, cIsCover, cIsCode, mIsRow, mIsText, mIsCover, mIsCode, mIn, inR_d, btw_K, dec_t, dec_f, rf_rows, rf_texts, rf_covers, rf_codes, Bool.false_eq_true, eq_self, if_true, if_false, Nat.add_zero, Nat.zero_add, if_pos, if_neg]
    cases wetB kd cs wt i <;> rfl
end TELL
theorem op_dot {h : MH} (S : Sim h) (c x y : Int32) : Op (f_X6_dot h c x y) (fun h1 => f_X7_dot h1 c x y) := by
  cases hy : btw y 0 4 with
  | false =>
    refine op_same S (v := -1) ?_ ?_
    · unfold f_X6_dot
      rw [cIsCover, bd_s, btw_if, hy]
      cases inR c 6 <;> rfl
    · show f_X7_dot h _ _ _ = _
      unfold f_X7_dot
      rw [mIn, bd_s, hy]
      rfl
  | true =>
    obtain ⟨m, -, hm, rfl⟩ := btw_N (a := 0) (b := 4) (by decide) (by decide) hy
    rcases cover_cases S.2.2.1 c with hc | ⟨c, hc6, rfl, hc, ⟨m1, m2⟩ | ⟨kd, n, ds, cs, w, wt, hK, hC, hM⟩⟩
    · exact op_same S (v := -1) (by unfold f_X6_dot; rw [cIsCover, bd_s, hc, if_neg (by decide)]) (by show f_X7_dot h _ _ _ = _; unfold f_X7_dot; rw [mIn, bd_s, hy, if_pos rfl, mAskCov_b hc, bnd2_s, if_pos (by decide)])
    · refine op_found S (f := 1) (by decide) (by decide) ?_ ?_
      · unfold f_X6_dot
        rw [cIsCover, bd_s, hc, if_pos rfl, btw_if, hy, if_pos rfl, ix_n hc6 (by decide), gd_t, tn_n (by omega), rf_covers hc6, cMissC_t m1, bd_s, if_pos rfl]
        exact pF (by decide) (by decide)
      · show f_X7_dot (fd h 1) _ _ _ = _
        unfold f_X7_dot
        rw [mIn, bd_s, hy, if_pos rfl, mAskCov_m hc6 (by rw [fd_ne (by decide) (by decide)]; exact m2), pB (by decide) (by decide)]
    · have hn := hK.1.2.1
      cases hx : inR x n with
      | false =>
        refine op_found S (f := 2) (by decide) (by decide) ?_ ?_
        · unfold f_X6_dot
          rw [cIsCover, bd_s, hc, if_pos rfl, btw_if, hy, if_pos rfl, ix_n hc6 (by decide), gd_t, tn_n (by omega), rf_covers hc6, cMissC_f hC.2.1 hK.1.1 (by omega), bd_s, if_neg (by decide), cHasC hC.2.1, bd_s, hx, if_neg (by decide)]
          exact pF (by decide) (by decide)
        · show f_X7_dot (fd h 2) _ _ _ = _
          have e71 : (fd h 2).1 71 c = nI n := by rw [fd_ne (by decide) (by decide)]; exact hM.2.1
          unfold f_X7_dot
          rw [mIn, bd_s, hy, if_pos rfl, mAskCov_o (n := n) hc6 e71 hK.1.1 (by omega), bnd2_s, if_neg (by decide), ix_n hc6 (by decide), gd_t, tn_n (by omega), e71, mIn, bd_s, btw_pred (by omega), hx, if_neg (by decide)]
          exact pM (by decide) (by decide)
      | true =>
        obtain ⟨i, hi, rfl⟩ := inR_t (by omega) hx
        refine ⟨1, uI h 0 9 (tellV kd n ds cs w wt i m), uI (uI h 0 9 (tellV kd n ds cs w wt i m)) 64 2 (tellV kd n ds cs w wt i m), ?_, ?_, sim_ask S _⟩
        · unfold f_X6_dot
          rw [cIsCover, bd_s, hc, if_pos rfl, btw_if, hy, if_pos rfl, ix_n hc6 (by decide), gd_t, tn_n (by omega), rf_covers hc6, cMissC_f hC.2.1 hK.1.1 (by omega), bd_s, if_neg (by decide), cHasC hC.2.1, bd_s, hx, if_pos rfl, cTell (sh_cov hc6) hK hC hi hm, bd_s, nm_v]
        · show f_X7_dot (uI h 0 9 (tellV kd n ds cs w wt i m)) _ _ _ = _
          have hM2 : covM (uI h 0 9 (tellV kd n ds cs w wt i m)) c kd n ds cs w wt := covM_of (fun b q1 q2 => uI_ne (by omega)) hM
          unfold f_X7_dot f_X7_ask
          rw [mIn, bd_s, hy, if_pos rfl, mAskCov_o (n := n) hc6 hM2.2.1 hK.1.1 (by omega), bnd2_s, if_neg (by decide), ix_n hc6 (by decide), gd_t, tn_n (by omega), hM2.2.1, mIn, bd_s, btw_pred (by omega), hx, if_pos rfl, mTell hc6 hK hM2 hi hm, bd_s, nm_v, bnd2_s]
