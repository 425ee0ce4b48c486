def lineT (w i : Nat) : Nat := if i % w = 0 then 1 else 0
def brightT (ds : Nat → Nat) (i : Nat) : Nat := if 127 < ds i then 1 else 0
def fallT (ds : Nat → Nat) (i : Nat) : Nat := if 0 < i ∧ ds i < ds (i - 1) then 1 else 0
theorem lines_sum {w : Nat} (h1 : 1 ≤ w) : ∀ n, sumN (lineT w) n = (n + w - 1) / w
  | 0 => (Nat.div_eq_of_lt (by omega)).symm
  | n + 1 => by
    show sumN (lineT w) n + lineT w n = _
    rw [lines_sum h1 n, show n + 1 + w - 1 = n + w by omega, Nat.add_div_right _ (show 0 < w from h1)]
    unfold lineT
    have e := Nat.div_add_mod n w
    have l := Nat.mod_lt n (show w > 0 from h1)
    by_cases q : n % w = 0
    · rw [if_pos q]
      have : (n + w - 1) / w = n / w := by
        rw [show n + w - 1 = w - 1 + w * (n / w) by omega, Nat.add_mul_div_left _ _ (show 0 < w from h1), Nat.div_eq_of_lt (by omega)]
        omega
      omega
    · rw [if_neg q]
      have : (n + w - 1) / w = n / w + 1 := by
        rw [show n + w - 1 = n % w - 1 + w * (n / w + 1) by rw [Nat.mul_add]; omega, Nat.add_mul_div_left _ _ (show 0 < w from h1), Nat.div_eq_of_lt (by omega)]
        omega
      omega
section MARK
variable {h : MH} {a c kd n i m : Nat} {ds cs : Nat → Nat} {w wt : Nat}
theorem cKindIs (hk : kd ≤ 4) (hm : m ≤ 4) (e : h.1 a 2 = nI kd) : f_X1_isOfKind h a (nI m) = some (decide (kd = m ∨ (m = 1 ∧ kd = 2))) := by
  unfold f_X1_isOfKind
  rw [e]
  by_cases q1 : kd = m
  · simp (disch := omega) only [bd_w, bnd2_w, gd_w, nm_w, ix_n, tn_n, lin40, lin60, nI_s, nI_add, N_lt, N_eq, N_ltK, K_ltN, N_eqK, K_eqN, N_addK, K_addN, pk_mul, N_mulK, K_mulN, pk_sub, N_subK, pk_div, N_divK, N_rem, N_remK, N_nz, cIsRow, cIsText, cIsCover, cIsCode, mIsRow, mIsText, mIsCover, mIsCode, mIn, inR_d, btw_K, dec_t, dec_f, rf_rows, rf_texts, rf_covers, rf_codes, Bool.false_eq_true, eq_self, if_true, if_false, Nat.add_zero, Nat.zero_add, if_pos, if_neg]
  · by_cases q2 : m = 1
    · by_cases q3 : kd = 2
      · simp (disch := omega) only [bd_w, bnd2_w, gd_w, nm_w, ix_n, tn_n, lin40, lin60, nI_s, nI_add, N_lt, N_eq, N_ltK, K_ltN, N_eqK, K_eqN, N_addK, K_addN, pk_mul, N_mulK, K_mulN, pk_sub, N_subK, pk_div, N_divK, N_rem, N_remK, N_nz, cIsRow, cIsText, cIsCover, cIsCode, mIsRow, mIsText, mIsCover, mIsCode, mIn, inR_d, btw_K, dec_t, dec_f, rf_rows, rf_texts, rf_covers, rf_codes, Bool.false_eq_true, eq_self, if_true, if_false, Nat.add_zero, Nat.zero_add, if_pos, if_neg]
      · simp (disch := omega) only [bd_w, bnd2_w, gd_w, nm_w, ix_n, tn_n, lin40, lin60, nI_s, nI_add, N_lt, N_eq, N_ltK, K_ltN, N_eqK, K_eqN, N_addK, K_addN, pk_mul, N_mulK, K_mulN, pk_sub, N_subK, pk_div, N_divK, N_rem, N_remK, N_nz, cIsRow, cIsText, cIsCover, cIsCode, mIsRow, mIsText, mIsCover, mIsCode, mIn, inR_d, btw_K, dec_t, dec_f, rf_rows, rf_texts, rf_covers, rf_codes, Bool.false_eq_true, eq_self, if_true, if_false, Nat.add_zero, Nat.zero_add, if_pos, if_neg]
    · simp (disch := omega) only [bd_w, bnd2_w, gd_w, nm_w, ix_n, tn_n, lin40, lin60, nI_s, nI_add, N_lt, N_eq, N_ltK, K_ltN, N_eqK, K_eqN, N_addK, K_addN, pk_mul, N_mulK, K_mulN, pk_sub, N_subK, pk_div, N_divK, N_rem, N_remK, N_nz, cIsRow, cIsText, cIsCover, cIsCode, mIsRow, mIsText, mIsCover, mIsCode, mIn, inR_d, btw_K, dec_t, dec_f, rf_rows, rf_texts, rf_covers, rf_codes, Bool.false_eq_true, eq_self, if_true, if_false, Nat.add_zero, Nat.zero_add, if_pos, if_neg]
theorem cLines (hK : covK kd n ds cs w wt) (hC : covC h a kd n ds cs w wt) (k12 : kd = 1 ∨ kd = 2) : f_X1_countLines h a = some (nI (sumN (lineT w) n)) := by
  have hn := hK.1.2.1
  obtain ⟨w1, w2⟩ := hK.2.2.2.2.1 k12
  unfold f_X1_countLines
  rw [hC.2.2.1, hC.2.1, lines_sum w1]
  simp (disch := omega) only [bd_w, bnd2_w, gd_w, nm_w, ix_n, tn_n, lin40, lin60, nI_s, nI_add, N_lt, N_eq, N_ltK, K_ltN, N_eqK, K_eqN, N_addK, K_addN, pk_mul, N_mulK, K_mulN, pk_sub, N_subK, pk_div, N_divK, N_rem, N_remK, N_nz, cIsRow, cIsText, cIsCover, cIsCode, mIsRow, mIsText, mIsCover, mIsCode, mIn, inR_d, btw_K, dec_t, dec_f, rf_rows, rf_texts, rf_covers, rf_codes, Bool.false_eq_true, eq_self, if_true, if_false, Nat.add_zero, Nat.zero_add, if_pos, if_neg]
theorem cBright (ha : shp a = (1, 0)) (hK : covK kd n ds cs w wt) (hC : covC h a kd n ds cs w wt) : f_X1_countBright h a = some (nI (sumN (brightT ds) n)) := by
  have hn := hK.1.2.1
  have key : f_X1_countBright_L4 h a 0 0 = some (nI (sumN (brightT ds) n)) := by
    unfold f_X1_countBright_L4
    refine lpo_sum (brightT ds) n (fun i v hi => ?_) (fun v => ?_)
    · (try dsimp only)
      have b := hK.2.1 i hi
      unfold f_X1_countBright_B4 brightT
      simp (disch := omega) only [bd_w, bnd2_w, gd_w, nm_w, ix_n, tn_n, lin40, lin60, nI_s, nI_add, N_lt, N_eq, N_ltK, K_ltN, N_eqK, K_eqN, N_addK, K_addN, pk_mul, N_mulK, K_mulN, pk_sub, N_subK, pk_div, N_divK, N_rem, N_remK, N_nz, cIsRow, cIsText, cIsCover, cIsCode, mIsRow, mIsText, mIsCover, mIsCode, mIn, inR_d, btw_K, dec_t, dec_f, rf_rows, rf_texts, rf_covers, rf_codes, Bool.false_eq_true, eq_self, if_true, if_false, Nat.add_zero, Nat.zero_add, if_pos, if_neg, hC.2.1, rf_Cov0 ha, (hC.2.2.2.2 i hi).1]
      by_cases q : 127 < ds i <;> simp [q]
    · (try dsimp only)
      unfold f_X1_countBright_B4
      simp (disch := omega) only [bd_w, bnd2_w, gd_w, nm_w, ix_n, tn_n, lin40, lin60, nI_s, nI_add, N_lt, N_eq, N_ltK, K_ltN, N_eqK, K_eqN, N_addK, K_addN, pk_mul, N_mulK, K_mulN, pk_sub, N_subK, pk_div, N_divK, N_rem, N_remK, N_nz, cIsRow, cIsText, cIsCover, cIsCode, mIsRow, mIsText, mIsCover, mIsCode, mIn, inR_d, btw_K, dec_t, dec_f, rf_rows, rf_texts, rf_covers, rf_codes, Bool.false_eq_true, eq_self, if_true, if_false, Nat.add_zero, Nat.zero_add, if_pos, if_neg, hC.2.1]
  unfold f_X1_countBright
  rw [key, bd_s]
theorem cChoiceSum (ha : shp a = (1, 0)) (hK : covK kd n ds cs w wt) (hC : covC h a kd n ds cs w wt) : f_X1_countChoices h a = some (nI (sumN cs n)) := by
  have hn := hK.1.2.1
  have key : f_X1_countChoices_L4 h a 0 0 = some (nI (sumN cs n)) := by
    unfold f_X1_countChoices_L4
    refine lpo_sum cs n (fun i v hi => ?_) (fun v => ?_)
    · (try dsimp only)
      unfold f_X1_countChoices_B4
      simp (disch := omega) only [bd_w, bnd2_w, gd_w, nm_w, ix_n, tn_n, lin40, lin60, nI_s, nI_add, N_lt, N_eq, N_ltK, K_ltN, N_eqK, K_eqN, N_addK, K_addN, pk_mul, N_mulK, K_mulN, pk_sub, N_subK, pk_div, N_divK, N_rem, N_remK, N_nz, cIsRow, cIsText, cIsCover, cIsCode, mIsRow, mIsText, mIsCover, mIsCode, mIn, inR_d, btw_K, dec_t, dec_f, rf_rows, rf_texts, rf_covers, rf_codes, Bool.false_eq_true, eq_self, if_true, if_false, Nat.add_zero, Nat.zero_add, if_pos, if_neg, hC.2.1, rf_Cov1 ha, (hC.2.2.2.2 i hi).2]
    · (try dsimp only)
      unfold f_X1_countChoices_B4
      simp (disch := omega) only [bd_w, bnd2_w, gd_w, nm_w, ix_n, tn_n, lin40, lin60, nI_s, nI_add, N_lt, N_eq, N_ltK, K_ltN, N_eqK, K_eqN, N_addK, K_addN, pk_mul, N_mulK, K_mulN, pk_sub, N_subK, pk_div, N_divK, N_rem, N_remK, N_nz, cIsRow, cIsText, cIsCover, cIsCode, mIsRow, mIsText, mIsCover, mIsCode, mIn, inR_d, btw_K, dec_t, dec_f, rf_rows, rf_texts, rf_covers, rf_codes, Bool.false_eq_true, eq_self, if_true, if_false, Nat.add_zero, Nat.zero_add, if_pos, if_neg, hC.2.1]
  unfold f_X1_countChoices
  rw [key, bd_s]
theorem cFalls (ha : shp a = (1, 0)) (hK : covK kd n ds cs w wt) (hC : covC h a kd n ds cs w wt) : f_X1_countFalls h a = some (nI (sumN (fallT ds) n)) := by
  have hn := hK.1.2.1
  have h1 := hK.1.1
  have key : f_X1_countFalls_L4 h a (nI 0) (nI 1) = some (nI (0 + sumN (fun i => fallT ds (1 + i)) (n - 1))) := by
    unfold f_X1_countFalls_L4
    refine lpo_sumF (fallT ds) 1 n 0 h1 (fun i v i1 hi => ?_) (fun v => ?_)
    · (try dsimp only)
      have b := hK.2.1 i hi
      have b2 := hK.2.1 (i - 1) (by omega)
      unfold f_X1_countFalls_B4 fallT
      simp (disch := omega) only [bd_w, bnd2_w, gd_w, nm_w, ix_n, tn_n, lin40, lin60, nI_s, nI_add, N_lt, N_eq, N_ltK, K_ltN, N_eqK, K_eqN, N_addK, K_addN, pk_mul, N_mulK, K_mulN, pk_sub, N_subK, pk_div, N_divK, N_rem, N_remK, N_nz, cIsRow, cIsText, cIsCover, cIsCode, mIsRow, mIsText, mIsCover, mIsCode, mIn, inR_d, btw_K, dec_t, dec_f, rf_rows, rf_texts, rf_covers, rf_codes, Bool.false_eq_true, eq_self, if_true, if_false, Nat.add_zero, Nat.zero_add, if_pos, if_neg, hC.2.1, rf_Cov0 ha, (hC.2.2.2.2 i hi).1, (hC.2.2.2.2 (i - 1) (by omega)).1]
      by_cases q : ds i < ds (i - 1)
      · rw [if_pos q, if_pos ⟨i1, q⟩]
      · rw [if_neg q, if_neg (fun z => q z.2)]
        rfl
    · (try dsimp only)
      unfold f_X1_countFalls_B4
      simp (disch := omega) only [bd_w, bnd2_w, gd_w, nm_w, ix_n, tn_n, lin40, lin60, nI_s, nI_add, N_lt, N_eq, N_ltK, K_ltN, N_eqK, K_eqN, N_addK, K_addN, pk_mul, N_mulK, K_mulN, pk_sub, N_subK, pk_div, N_divK, N_rem, N_remK, N_nz, cIsRow, cIsText, cIsCover, cIsCode, mIsRow, mIsText, mIsCover, mIsCode, mIn, inR_d, btw_K, dec_t, dec_f, rf_rows, rf_texts, rf_covers, rf_codes, Bool.false_eq_true, eq_self, if_true, if_false, Nat.add_zero, Nat.zero_add, if_pos, if_neg, hC.2.1]
  unfold f_X1_countFalls
  rw [show (0 : Int32) = nI 0 from rfl, show (1 : Int32) = nI 1 from rfl, key, bd_s]
  have e := sumN_split (fallT ds) 1 (n - 1)
  rw [show 1 + (n - 1) = n by omega] at e
  rw [e]
  rfl
theorem mMarkL (hc : c < 6) (hK : covK kd n ds cs w wt) (hM : covM h c kd n ds cs w wt) {g : Nat → Nat} (hm : (m = 1 ∧ (kd = 1 ∨ kd = 2) ∧ g = lineT w) ∨ (m = 2 ∧ g = brightT ds) ∨ (m = 3 ∧ kd = 3 ∧ g = cs) ∨ (m = 4 ∧ g = fallT ds)) : f_X7_mark_L60 h (nI c) (nI m) 0 0 = some (nI (sumN g n)) := by
  have hn := hK.1.2.1
  unfold f_X7_mark_L60
  refine lpo_sum g n (fun i v hi => ?_) (fun v => ?_)
  · (try dsimp only)
    have b := hK.2.1 i hi
    unfold f_X7_mark_B60
    rcases hm with ⟨rfl, k, rfl⟩ | ⟨rfl, rfl⟩ | ⟨rfl, k, rfl⟩ | ⟨rfl, rfl⟩
    · obtain ⟨w1, w2⟩ := hK.2.2.2.2.1 k
      have l := Nat.mod_lt i (show w > 0 from w1)
      unfold lineT
      simp (disch := omega) only [bd_w, bnd2_w, gd_w, nm_w, ix_n, tn_n, lin40, lin60, nI_s, nI_add, N_lt, N_eq, N_ltK, K_ltN, N_eqK, K_eqN, N_addK, K_addN, pk_mul, N_mulK, K_mulN, pk_sub, N_subK, pk_div, N_divK, N_rem, N_remK, N_nz, cIsRow, cIsText, cIsCover, cIsCode, mIsRow, mIsText, mIsCover, mIsCode, mIn, inR_d, btw_K, dec_t, dec_f, rf_rows, rf_texts, rf_covers, rf_codes, Bool.false_eq_true, eq_self, if_true, if_false, Nat.add_zero, Nat.zero_add, if_pos, if_neg, hM.2.1, hM.2.2.1 k]
      by_cases q : i % w = 0
      · rw [if_pos q, if_pos q]
      · rw [if_neg q, if_neg q]
        rfl
    · unfold brightT
      simp (disch := omega) only [bd_w, bnd2_w, gd_w, nm_w, ix_n, tn_n, lin40, lin60, nI_s, nI_add, N_lt, N_eq, N_ltK, K_ltN, N_eqK, K_eqN, N_addK, K_addN, pk_mul, N_mulK, K_mulN, pk_sub, N_subK, pk_div, N_divK, N_rem, N_remK, N_nz, cIsRow, cIsText, cIsCover, cIsCode, mIsRow, mIsText, mIsCover, mIsCode, mIn, inR_d, btw_K, dec_t, dec_f, rf_rows, rf_texts, rf_covers, rf_codes, Bool.false_eq_true, eq_self, if_true, if_false, Nat.add_zero, Nat.zero_add, if_pos, if_neg, hM.2.1, mDotAt hc hK hM hi]
      by_cases q : 127 < ds i
      · rw [if_pos q, if_pos q]
      · rw [if_neg q, if_neg q]
        rfl
    · simp (disch := omega) only [bd_w, bnd2_w, gd_w, nm_w, ix_n, tn_n, lin40, lin60, nI_s, nI_add, N_lt, N_eq, N_ltK, K_ltN, N_eqK, K_eqN, N_addK, K_addN, pk_mul, N_mulK, K_mulN, pk_sub, N_subK, pk_div, N_divK, N_rem, N_remK, N_nz, cIsRow, cIsText, cIsCover, cIsCode, mIsRow, mIsText, mIsCover, mIsCode, mIn, inR_d, btw_K, dec_t, dec_f, rf_rows, rf_texts, rf_covers, rf_codes, Bool.false_eq_true, eq_self, if_true, if_false, Nat.add_zero, Nat.zero_add, if_pos, if_neg, hM.2.1, (hM.2.2.2.2 i hi).2 k]
    · unfold fallT
      by_cases i0 : i = 0
      · subst i0
        simp (disch := omega) only [bd_w, bnd2_w, gd_w, nm_w, ix_n, tn_n, lin40, lin60, nI_s, nI_add, N_lt, N_eq, N_ltK, K_ltN, N_eqK, K_eqN, N_addK, K_addN, pk_mul, N_mulK, K_mulN, pk_sub, N_subK, pk_div, N_divK, N_rem, N_remK, N_nz, cIsRow, cIsText, cIsCover, cIsCode, mIsRow, mIsText, mIsCover, mIsCode, mIn, inR_d, btw_K, dec_t, dec_f, rf_rows, rf_texts, rf_covers, rf_codes, Bool.false_eq_true, eq_self, if_true, if_false, Nat.add_zero, Nat.zero_add, if_pos, if_neg, hM.2.1]
      · have b2 := hK.2.1 (i - 1) (by omega)
        simp (disch := omega) only [bd_w, bnd2_w, gd_w, nm_w, ix_n, tn_n, lin40, lin60, nI_s, nI_add, N_lt, N_eq, N_ltK, K_ltN, N_eqK, K_eqN, N_addK, K_addN, pk_mul, N_mulK, K_mulN, pk_sub, N_subK, pk_div, N_divK, N_rem, N_remK, N_nz, cIsRow, cIsText, cIsCover, cIsCode, mIsRow, mIsText, mIsCover, mIsCode, mIn, inR_d, btw_K, dec_t, dec_f, rf_rows, rf_texts, rf_covers, rf_codes, Bool.false_eq_true, eq_self, if_true, if_false, Nat.add_zero, Nat.zero_add, if_pos, if_neg, hM.2.1, mDotAt hc hK hM hi, mDotAt hc hK hM (show i - 1 < n by omega)]
        by_cases q : ds i < ds (i - 1)
        · rw [if_pos q, if_pos ⟨(by omega), q⟩]
        · rw [if_neg q, if_neg (fun z => q z.2)]
          rfl
  · (try dsimp only)
    unfold f_X7_mark_B60
    simp (disch := omega) only [bd_w, bnd2_w, gd_w, nm_w, ix_n, tn_n, lin40, lin60, nI_s, nI_add, N_lt, N_eq, N_ltK, K_ltN, N_eqK, K_eqN, N_addK, K_addN, pk_mul, N_mulK, K_mulN, pk_sub, N_subK, pk_div, N_divK, N_rem, N_remK, N_nz, cIsRow, cIsText, cIsCover, cIsCode, mIsRow, mIsText, mIsCover, mIsCode, mIn, inR_d, btw_K, dec_t, dec_f, rf_rows, rf_texts, rf_covers, rf_codes, Bool.false_eq_true, eq_self, if_true, if_false, Nat.add_zero, Nat.zero_add, if_pos, if_neg, hM.2.1]
end MARK
theorem op_mark {h : MH} (S : Sim h) (c y : Int32) : Op (f_X6_mark h c y) (fun h1 => f_X7_mark h1 c y) := by
  cases hy : btw y 1 4 with
  | false =>
    refine op_same S (v := -1) ?_ ?_
    · unfold f_X6_mark
      rw [cIsCover, bd_s, btw_if, hy]
      cases inR c 6 <;> rfl
    · show f_X7_mark h _ _ = _
      unfold f_X7_mark
      rw [mIn, bd_s, hy]
      rfl
  | true =>
    obtain ⟨m, hm1, hm, rfl⟩ := btw_N (a := 1) (b := 4) (by decide) (by decide) hy
    rcases cover_cases S.2.2.1 c with hc | ⟨c, hc6, rfl, hc, ⟨m1, m2⟩ | ⟨kd, n, ds, cs, w, wt, hK, hC, hM⟩⟩
    · exact op_same S (v := -1) (by unfold f_X6_mark; rw [cIsCover, bd_s, hc, if_neg (by decide)]) (by show f_X7_mark h _ _ = _; unfold f_X7_mark; rw [mIn, bd_s, hy, if_pos rfl, mAskCov_b hc, bnd2_s, if_pos (by decide)])
    · refine op_found S (f := 1) (by decide) (by decide) ?_ ?_
      · unfold f_X6_mark
        rw [cIsCover, bd_s, hc, if_pos rfl, btw_if, hy, if_pos rfl, ix_n hc6 (by decide), gd_t, tn_n (by omega), rf_covers hc6, cMissC_t m1, bd_s, if_pos rfl]
        exact pF (by decide) (by decide)
      · show f_X7_mark (fd h 1) _ _ = _
        unfold f_X7_mark
        rw [mIn, bd_s, hy, if_pos rfl, mAskCov_m hc6 (by rw [fd_ne (by decide) (by decide)]; exact m2), pB (by decide) (by decide)]
    · have hn := hK.1.2.1
      have hk := hK.1.2.2.1
      by_cases q : kd = m ∨ (m = 1 ∧ kd = 2)
      · obtain ⟨g, z, hg⟩ : ∃ g : Nat → Nat, ((m = 1 ∧ (kd = 1 ∨ kd = 2) ∧ g = lineT w) ∨ (m = 2 ∧ g = brightT ds) ∨ (m = 3 ∧ kd = 3 ∧ g = cs) ∨ (m = 4 ∧ g = fallT ds)) ∧ sw (nI m) 1 [Option.bind (f_X1_countLines h (38 + 3 * c)) (fun r81 => some (r81, h)), Option.bind (f_X1_countBright h (38 + 3 * c)) (fun r86 => some (r86, h)), Option.bind (f_X1_countChoices h (38 + 3 * c)) (fun r91 => some (r91, h))] (Option.bind (f_X1_countFalls h (38 + 3 * c)) (fun r96 => some (r96, h))) = some (nI (sumN g n), h) := by
          have z : m = 1 ∨ m = 2 ∨ m = 3 ∨ m = 4 := (by omega)
          rcases z with rfl | rfl | rfl | rfl
          · refine ⟨lineT w, Or.inl ⟨rfl, (by omega), rfl⟩, ?_⟩
            simp only [sw]
            simp (disch := omega) only [bd_w, bnd2_w, gd_w, nm_w, ix_n, tn_n, lin40, lin60, nI_s, nI_add, N_lt, N_eq, N_ltK, K_ltN, N_eqK, K_eqN, N_addK, K_addN, pk_mul, N_mulK, K_mulN, pk_sub, N_subK, pk_div, N_divK, N_rem, N_remK, N_nz, cIsRow, cIsText, cIsCover, cIsCode, mIsRow, mIsText, mIsCover, mIsCode, mIn, inR_d, btw_K, dec_t, dec_f, rf_rows, rf_texts, rf_covers, rf_codes, Bool.false_eq_true, eq_self, if_true, if_false, Nat.add_zero, Nat.zero_add, if_pos, if_neg, cLines hK hC (show kd = 1 ∨ kd = 2 by omega)]
          · refine ⟨brightT ds, Or.inr (Or.inl ⟨rfl, rfl⟩), ?_⟩
            simp only [sw]
            simp (disch := omega) only [bd_w, bnd2_w, gd_w, nm_w, ix_n, tn_n, lin40, lin60, nI_s, nI_add, N_lt, N_eq, N_ltK, K_ltN, N_eqK, K_eqN, N_addK, K_addN, pk_mul, N_mulK, K_mulN, pk_sub, N_subK, pk_div, N_divK, N_rem, N_remK, N_nz, cIsRow, cIsText, cIsCover, cIsCode, mIsRow, mIsText, mIsCover, mIsCode, mIn, inR_d, btw_K, dec_t, dec_f, rf_rows, rf_texts, rf_covers, rf_codes, Bool.false_eq_true, eq_self, if_true, if_false, Nat.add_zero, Nat.zero_add, if_pos, if_neg, cBright (sh_cov hc6) hK hC]
          · refine ⟨cs, Or.inr (Or.inr (Or.inl ⟨rfl, (by omega), rfl⟩)), ?_⟩
            simp only [sw]
            simp (disch := omega) only [bd_w, bnd2_w, gd_w, nm_w, ix_n, tn_n, lin40, lin60, nI_s, nI_add, N_lt, N_eq, N_ltK, K_ltN, N_eqK, K_eqN, N_addK, K_addN, pk_mul, N_mulK, K_mulN, pk_sub, N_subK, pk_div, N_divK, N_rem, N_remK, N_nz, cIsRow, cIsText, cIsCover, cIsCode, mIsRow, mIsText, mIsCover, mIsCode, mIn, inR_d, btw_K, dec_t, dec_f, rf_rows, rf_texts, rf_covers, rf_codes, Bool.false_eq_true, eq_self, if_true, if_false, Nat.add_zero, Nat.zero_add, if_pos, if_neg, cChoiceSum (sh_cov hc6) hK hC]
          · refine ⟨fallT ds, Or.inr (Or.inr (Or.inr ⟨rfl, rfl⟩)), ?_⟩
            simp only [sw]
            simp (disch := omega) only [bd_w, bnd2_w, gd_w, nm_w, ix_n, tn_n, lin40, lin60, nI_s, nI_add, N_lt, N_eq, N_ltK, K_ltN, N_eqK, K_eqN, N_addK, K_addN, pk_mul, N_mulK, K_mulN, pk_sub, N_subK, pk_div, N_divK, N_rem, N_remK, N_nz, cIsRow, cIsText, cIsCover, cIsCode, mIsRow, mIsText, mIsCover, mIsCode, mIn, inR_d, btw_K, dec_t, dec_f, rf_rows, rf_texts, rf_covers, rf_codes, Bool.false_eq_true, eq_self, if_true, if_false, Nat.add_zero, Nat.zero_add, if_pos, if_neg, cFalls (sh_cov hc6) hK hC]
        refine op_same S (v := nI (sumN g n)) ?_ ?_
        · unfold f_X6_mark
          rw [cIsCover, bd_s, hc, if_pos rfl, btw_if, hy, if_pos rfl, ix_n hc6 (by decide), gd_t, tn_n (by omega), rf_covers hc6, cMissC_f hC.2.1 hK.1.1 (by omega), bd_s, if_neg (by decide), cKindIs hk hm hC.1, bd_s, decide_eq_true q, if_pos rfl, hg]
        · show f_X7_mark h _ _ = _
          unfold f_X7_mark f_X7_mark_J54
          rw [mIn, bd_s, hy, if_pos rfl, mAskCov_o (n := n) hc6 hM.2.1 hK.1.1 (by omega), bnd2_s, if_neg (by decide), ix_n hc6 (by decide), gd_t, gd_t, tn_n (by omega), hM.1, mMarkL hc6 hK hM z, bd_s]
          by_cases q1 : kd = m
          · simp (disch := omega) only [bd_w, bnd2_w, gd_w, nm_w, ix_n, tn_n, lin40, lin60, nI_s, nI_add, N_lt, N_eq, N_ltK, K_ltN, N_eqK, K_eqN, N_addK, K_addN, pk_mul, N_mulK, K_mulN, pk_sub, N_subK, pk_div, N_divK, N_rem, N_remK, N_nz, cIsRow, cIsText, cIsCover, cIsCode, mIsRow, mIsText, mIsCover, mIsCode, mIn, inR_d, btw_K, dec_t, dec_f, rf_rows, rf_texts, rf_covers, rf_codes, Bool.false_eq_true, eq_self, if_true, if_false, Nat.add_zero, Nat.zero_add, if_pos, if_neg]
          · simp (disch := omega) only [bd_w, bnd2_w, gd_w, nm_w, ix_n, tn_n, lin40, lin60, nI_s, nI_add, N_lt, N_eq, N_ltK, K_ltN, N_eqK, K_eqN, N_addK, K_addN, pk_mul, N_mulK, K_mulN, pk_sub, N_subK, pk_div, N_divK, N_rem, N_remK, N_nz, cIsRow, cIsText, cIsCover, cIsCode, mIsRow, mIsText, mIsCover, mIsCode, mIn, inR_d, btw_K, dec_t, dec_f, rf_rows, rf_texts, rf_covers, rf_codes, Bool.false_eq_true, eq_self, if_true, if_false, Nat.add_zero, Nat.zero_add, if_pos, if_neg]
      · refine op_found S (f := 3) (by decide) (by decide) ?_ ?_
        · unfold f_X6_mark
          rw [cIsCover, bd_s, hc, if_pos rfl, btw_if, hy, if_pos rfl, ix_n hc6 (by decide), gd_t, tn_n (by omega), rf_covers hc6, cMissC_f hC.2.1 hK.1.1 (by omega), bd_s, if_neg (by decide), cKindIs hk hm hC.1, bd_s, decide_eq_false q, if_neg (by decide)]
          exact pF (by decide) (by decide)
        · show f_X7_mark (fd h 3) _ _ = _
          have hM2 : covM (fd h 3) c kd n ds cs w wt := covM_of (fun b q1 q2 => fd_ne (by omega) (by omega)) hM
          unfold f_X7_mark
          rw [mIn, bd_s, hy, if_pos rfl, mAskCov_o (n := n) hc6 hM2.2.1 hK.1.1 (by omega), bnd2_s, if_neg (by decide), ix_n hc6 (by decide), gd_t, gd_t, tn_n (by omega), hM2.1, show (3 : Int32) = nI 3 from rfl, pM (by decide) (by decide), if_neg (show ¬ nI kd = nI m from fun z => q (Or.inl ((nI_eq (by omega) (by omega)).mp z)))]
          by_cases q1 : m = 1
          · rw [if_pos (show nI m = 1 by rw [q1]; rfl), if_neg (show ¬ nI kd = 2 from fun z => q (Or.inr ⟨q1, (nI_eq (b := 2) (by omega) (by decide)).mp z⟩))]
          · rw [if_neg (show ¬ nI m = 1 from fun z => q1 ((nI_eq (b := 1) (by omega) (by decide)).mp z))]
