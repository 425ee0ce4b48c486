theorem sumN_0 {g : Nat → Nat} : ∀ {n : Nat}, (∀ j, j < n → g j = 0) → sumN g n = 0
  | 0, _ => rfl
  | n + 1, e => by
    show sumN g n + g n = 0
    rw [sumN_0 (n := n) (fun j hj => e j (by omega)), e n (by omega)]
theorem miss_row {h : MH} {a za ca M r : Nat} (hM : M ≤ 60) (S : rowS h a za ca M r) : (h.1 a 1 < 0) = (h.1 za r < 0) := by
  rcases S with ⟨q1, q2⟩ | ⟨n, f, hn, hC, hR⟩
  · rw [q1, q2]
    decide
  · rw [hC.1, hR.1]
def covNR (h : MH) (c : Nat) (p : Nat × Nat) : Prop := c < 6 → p.1 ≤ 40 ∧ p.2 ≤ 4 ∧ h.1 (38 + 3 * c) 3 = nI p.1 ∧ h.1 71 c = nI p.1 ∧ (0 < p.1 → h.1 (38 + 3 * c) 2 = nI p.2 ∧ h.1 72 c = nI p.2)
theorem cov_N {h : MH} (S : SC h) : ∃ q : Nat → Nat × Nat, ∀ c, covNR h c (q c) := by
  refine Classical.axiomOfChoice (r := covNR h) (fun c => ?_)
  by_cases hc : c < 6
  · rcases S c hc with ⟨q1, q2⟩ | ⟨kd, n, ds, cs, w, wt, hK, hC, hM⟩
    · exact ⟨(0, 0), fun _ => ⟨(by decide), (by decide), q1, q2, fun z => absurd z (by decide)⟩⟩
    · exact ⟨(n, kd), fun _ => ⟨hK.1.2.1, hK.1.2.2.1, hC.2.1, hM.2.1, fun _ => ⟨hC.1, hM.1⟩⟩⟩
  · exact ⟨(0, 0), fun z => absurd z hc⟩
def codNR (h : MH) (d : Nat) (p : Nat × Nat) : Prop := d < 4 → p.1 ≤ 6 ∧ h.1 (56 + 2 * d) 1 = nI p.1 ∧ h.1 78 d = nI p.1 ∧ (0 < p.1 → (1 ≤ p.2 ∧ p.2 ≤ 12) ∧ h.1 (56 + 2 * d) 2 = nI p.2 ∧ h.1 79 d = nI p.2)
theorem cod_N {h : MH} (S : SK h) : ∃ q : Nat → Nat × Nat, ∀ d, codNR h d (q d) := by
  refine Classical.axiomOfChoice (r := codNR h) (fun d => ?_)
  by_cases hd : d < 4
  · rcases S d hd with ⟨q1, q2⟩ | ⟨k, w, ls, hK, hC, hM⟩
    · exact ⟨(0, 0), fun _ => ⟨(by decide), q1, q2, fun z => absurd z (by decide)⟩⟩
    · exact ⟨(k, w), fun _ => ⟨hK.1.2.1, hC.1, hM.1, fun _ => ⟨⟨hK.1.2.2.1, hK.1.2.2.2⟩, hC.2.1, hM.2.1⟩⟩⟩
  · exact ⟨(0, 0), fun z => absurd z hd⟩
def ctA (h : MH) (q : Nat → Nat × Nat) (m r : Nat) : Nat := if m = 0 then (if h.1 66 r < 0 then 0 else 1) else if m = 2 then (if 0 < (q r).1 then 1 else 0) else if m = 3 then (if 0 < (q r).1 ∧ ((q r).2 = 1 ∨ (q r).2 = 2) then 1 else 0) else if m = 5 then (q r).1 else 0
def ctB (h : MH) (q : Nat → Nat × Nat) (m t : Nat) : Nat := if m = 1 then (if h.1 69 t < 0 then 0 else 1) else if m = 4 then (if 0 < (q t).1 then 1 else 0) else 0
theorem cThere {h : MH} {a n : Nat} (hn : n ≤ 1000) : f_X6_countThere h a n = some (nI (sumN (fun r => if h.1 (rf a r) 1 < 0 then 0 else 1) n)) := by
  have key : f_X6_countThere_L10 h 0 a n (nI n) 0 = some (nI (sumN (fun r => if h.1 (rf a r) 1 < 0 then 0 else 1) n)) := by
    unfold f_X6_countThere_L10
    refine lpo_sum _ n (fun i v hi => ?_) (fun v => ?_)
    · (try dsimp only)
      unfold f_X6_countThere_B10
      by_cases q : h.1 (rf a i) 1 < 0
      · simp (disch := omega) only [bd_w, bnd2_w, gd_w, nm_w, ix_n, tn_n, lin40, lin60, nI_s, nI_add, N_lt, N_eq, N_ltK, K_ltN, N_eqK, K_eqN, N_addK, K_addN, pk_mul, N_mulK, K_mulN, pk_sub, N_subK, pk_div, N_divK, N_rem, N_remK, N_nz, cIsRow, cIsText, cIsCover, cIsCode, mIsRow, mIsText, mIsCover, mIsCode, mIn, inR_d, btw_K, dec_t, dec_f, rf_rows, rf_texts, rf_covers, rf_codes, Bool.false_eq_true, eq_self, if_true, if_false, Nat.add_zero, Nat.zero_add, if_pos, if_neg, cMiss_dec, decide_eq_true q, if_pos q]
      · simp (disch := omega) only [bd_w, bnd2_w, gd_w, nm_w, ix_n, tn_n, lin40, lin60, nI_s, nI_add, N_lt, N_eq, N_ltK, K_ltN, N_eqK, K_eqN, N_addK, K_addN, pk_mul, N_mulK, K_mulN, pk_sub, N_subK, pk_div, N_divK, N_rem, N_remK, N_nz, cIsRow, cIsText, cIsCover, cIsCode, mIsRow, mIsText, mIsCover, mIsCode, mIn, inR_d, btw_K, dec_t, dec_f, rf_rows, rf_texts, rf_covers, rf_codes, Bool.false_eq_true, eq_self, if_true, if_false, Nat.add_zero, Nat.zero_add, if_pos, if_neg, cMiss_dec, decide_eq_false q, if_neg q]
    · (try dsimp only)
      unfold f_X6_countThere_B10
      simp (disch := omega) only [bd_w, bnd2_w, gd_w, nm_w, ix_n, tn_n, lin40, lin60, nI_s, nI_add, N_lt, N_eq, N_ltK, K_ltN, N_eqK, K_eqN, N_addK, K_addN, pk_mul, N_mulK, K_mulN, pk_sub, N_subK, pk_div, N_divK, N_rem, N_remK, N_nz, cIsRow, cIsText, cIsCover, cIsCode, mIsRow, mIsText, mIsCover, mIsCode, mIn, inR_d, btw_K, dec_t, dec_f, rf_rows, rf_texts, rf_covers, rf_codes, Bool.false_eq_true, eq_self, if_true, if_false, Nat.add_zero, Nat.zero_add, if_pos, if_neg]
  unfold f_X6_countThere
  rw [nm_v, key, bd_s]
section COUNT
variable {h : MH} {q k : Nat → Nat × Nat}
theorem cCovers2 (hq : ∀ c, covNR h c (q c)) : f_X6_countCovers h 0 = some (nI (sumN (ctA h q 2) 6)) := by
  have key : f_X6_countCovers_L14 h 0 0 6 0 = some (nI (sumN (ctA h q 2) 6)) := by
    unfold f_X6_countCovers_L14
    refine lpo_sum _ 6 (fun i v hi => ?_) (fun v => ?_)
    · (try dsimp only)
      obtain ⟨b1, b2, e1, e2, e3⟩ := hq i hi
      unfold f_X6_countCovers_B14 ctA
      by_cases n0 : (q i).1 = 0
      · rw [n0] at e1
        simp (disch := omega) only [bd_w, bnd2_w, gd_w, nm_w, ix_n, tn_n, lin40, lin60, nI_s, nI_add, N_lt, N_eq, N_ltK, K_ltN, N_eqK, K_eqN, N_addK, K_addN, pk_mul, N_mulK, K_mulN, pk_sub, N_subK, pk_div, N_divK, N_rem, N_remK, N_nz, cIsRow, cIsText, cIsCover, cIsCode, mIsRow, mIsText, mIsCover, mIsCode, mIn, inR_d, btw_K, dec_t, dec_f, rf_rows, rf_texts, rf_covers, rf_codes, Bool.false_eq_true, eq_self, if_true, if_false, Nat.add_zero, Nat.zero_add, if_pos, if_neg, cMissC_t e1]
      · simp (disch := omega) only [bd_w, bnd2_w, gd_w, nm_w, ix_n, tn_n, lin40, lin60, nI_s, nI_add, N_lt, N_eq, N_ltK, K_ltN, N_eqK, K_eqN, N_addK, K_addN, pk_mul, N_mulK, K_mulN, pk_sub, N_subK, pk_div, N_divK, N_rem, N_remK, N_nz, cIsRow, cIsText, cIsCover, cIsCode, mIsRow, mIsText, mIsCover, mIsCode, mIn, inR_d, btw_K, dec_t, dec_f, rf_rows, rf_texts, rf_covers, rf_codes, Bool.false_eq_true, eq_self, if_true, if_false, Nat.add_zero, Nat.zero_add, if_pos, if_neg, cMissC_f e1 (show 1 ≤ (q i).1 by omega) (show (q i).1 ≤ 1000000 by omega)]
    · (try dsimp only)
      unfold f_X6_countCovers_B14
      simp (disch := omega) only [bd_w, bnd2_w, gd_w, nm_w, ix_n, tn_n, lin40, lin60, nI_s, nI_add, N_lt, N_eq, N_ltK, K_ltN, N_eqK, K_eqN, N_addK, K_addN, pk_mul, N_mulK, K_mulN, pk_sub, N_subK, pk_div, N_divK, N_rem, N_remK, N_nz, cIsRow, cIsText, cIsCover, cIsCode, mIsRow, mIsText, mIsCover, mIsCode, mIn, inR_d, btw_K, dec_t, dec_f, rf_rows, rf_texts, rf_covers, rf_codes, Bool.false_eq_true, eq_self, if_true, if_false, Nat.add_zero, Nat.zero_add, if_pos, if_neg]
  unfold f_X6_countCovers
  rw [key, bd_s]
theorem cCovers3 (hq : ∀ c, covNR h c (q c)) : f_X6_countCovers h 1 = some (nI (sumN (ctA h q 3) 6)) := by
  have key : f_X6_countCovers_L14 h 1 0 6 0 = some (nI (sumN (ctA h q 3) 6)) := by
    unfold f_X6_countCovers_L14
    refine lpo_sum _ 6 (fun i v hi => ?_) (fun v => ?_)
    · (try dsimp only)
      obtain ⟨b1, b2, e1, e2, e3⟩ := hq i hi
      unfold f_X6_countCovers_B14 ctA
      by_cases n0 : (q i).1 = 0
      · rw [n0] at e1
        simp (disch := omega) only [bd_w, bnd2_w, gd_w, nm_w, ix_n, tn_n, lin40, lin60, nI_s, nI_add, N_lt, N_eq, N_ltK, K_ltN, N_eqK, K_eqN, N_addK, K_addN, pk_mul, N_mulK, K_mulN, pk_sub, N_subK, pk_div, N_divK, N_rem, N_remK, N_nz, cIsRow, cIsText, cIsCover, cIsCode, mIsRow, mIsText, mIsCover, mIsCode, mIn, inR_d, btw_K, dec_t, dec_f, rf_rows, rf_texts, rf_covers, rf_codes, Bool.false_eq_true, eq_self, if_true, if_false, Nat.add_zero, Nat.zero_add, if_pos, if_neg, cMissC_t e1]
      · obtain ⟨e4, e5⟩ := e3 (by omega)
        have e6 := cKindIs (m := 1) b2 (by decide) e4
        rw [show nI 1 = 1 from rfl] at e6
        by_cases z : (q i).2 = 1 ∨ (q i).2 = 2
        · rw [decide_eq_true (show (q i).2 = 1 ∨ 1 = 1 ∧ (q i).2 = 2 by omega)] at e6
          simp (disch := omega) only [bd_w, bnd2_w, gd_w, nm_w, ix_n, tn_n, lin40, lin60, nI_s, nI_add, N_lt, N_eq, N_ltK, K_ltN, N_eqK, K_eqN, N_addK, K_addN, pk_mul, N_mulK, K_mulN, pk_sub, N_subK, pk_div, N_divK, N_rem, N_remK, N_nz, cIsRow, cIsText, cIsCover, cIsCode, mIsRow, mIsText, mIsCover, mIsCode, mIn, inR_d, btw_K, dec_t, dec_f, rf_rows, rf_texts, rf_covers, rf_codes, Bool.false_eq_true, eq_self, if_true, if_false, Nat.add_zero, Nat.zero_add, if_pos, if_neg, cMissC_f e1 (show 1 ≤ (q i).1 by omega) (show (q i).1 ≤ 1000000 by omega), show ¬ ((1 : Int32) = 0) by decide, e6]
        · rw [decide_eq_false (show ¬ ((q i).2 = 1 ∨ 1 = 1 ∧ (q i).2 = 2) by omega)] at e6
          simp (disch := omega) only [bd_w, bnd2_w, gd_w, nm_w, ix_n, tn_n, lin40, lin60, nI_s, nI_add, N_lt, N_eq, N_ltK, K_ltN, N_eqK, K_eqN, N_addK, K_addN, pk_mul, N_mulK, K_mulN, pk_sub, N_subK, pk_div, N_divK, N_rem, N_remK, N_nz, cIsRow, cIsText, cIsCover, cIsCode, mIsRow, mIsText, mIsCover, mIsCode, mIn, inR_d, btw_K, dec_t, dec_f, rf_rows, rf_texts, rf_covers, rf_codes, Bool.false_eq_true, eq_self, if_true, if_false, Nat.add_zero, Nat.zero_add, if_pos, if_neg, cMissC_f e1 (show 1 ≤ (q i).1 by omega) (show (q i).1 ≤ 1000000 by omega), show ¬ ((1 : Int32) = 0) by decide, e6]
    · (try dsimp only)
      unfold f_X6_countCovers_B14
      simp (disch := omega) only [bd_w, bnd2_w, gd_w, nm_w, ix_n, tn_n, lin40, lin60, nI_s, nI_add, N_lt, N_eq, N_ltK, K_ltN, N_eqK, K_eqN, N_addK, K_addN, pk_mul, N_mulK, K_mulN, pk_sub, N_subK, pk_div, N_divK, N_rem, N_remK, N_nz, cIsRow, cIsText, cIsCover, cIsCode, mIsRow, mIsText, mIsCover, mIsCode, mIn, inR_d, btw_K, dec_t, dec_f, rf_rows, rf_texts, rf_covers, rf_codes, Bool.false_eq_true, eq_self, if_true, if_false, Nat.add_zero, Nat.zero_add, if_pos, if_neg]
  unfold f_X6_countCovers
  rw [key, bd_s]
theorem cDotSum (hq : ∀ c, covNR h c (q c)) : f_X6_countDots h = some (nI (sumN (ctA h q 5) 6)) := by
  have key : f_X6_countDots_L13 h 0 6 0 = some (nI (sumN (ctA h q 5) 6)) := by
    unfold f_X6_countDots_L13
    refine lpo_sum _ 6 (fun i v hi => ?_) (fun v => ?_)
    · (try dsimp only)
      obtain ⟨b1, b2, e1, e2, e3⟩ := hq i hi
      unfold f_X6_countDots_B13 ctA
      simp (disch := omega) only [bd_w, bnd2_w, gd_w, nm_w, ix_n, tn_n, lin40, lin60, nI_s, nI_add, N_lt, N_eq, N_ltK, K_ltN, N_eqK, K_eqN, N_addK, K_addN, pk_mul, N_mulK, K_mulN, pk_sub, N_subK, pk_div, N_divK, N_rem, N_remK, N_nz, cIsRow, cIsText, cIsCover, cIsCode, mIsRow, mIsText, mIsCover, mIsCode, mIn, inR_d, btw_K, dec_t, dec_f, rf_rows, rf_texts, rf_covers, rf_codes, Bool.false_eq_true, eq_self, if_true, if_false, Nat.add_zero, Nat.zero_add, if_pos, if_neg, e1]
    · (try dsimp only)
      unfold f_X6_countDots_B13
      simp (disch := omega) only [bd_w, bnd2_w, gd_w, nm_w, ix_n, tn_n, lin40, lin60, nI_s, nI_add, N_lt, N_eq, N_ltK, K_ltN, N_eqK, K_eqN, N_addK, K_addN, pk_mul, N_mulK, K_mulN, pk_sub, N_subK, pk_div, N_divK, N_rem, N_remK, N_nz, cIsRow, cIsText, cIsCover, cIsCode, mIsRow, mIsText, mIsCover, mIsCode, mIn, inR_d, btw_K, dec_t, dec_f, rf_rows, rf_texts, rf_covers, rf_codes, Bool.false_eq_true, eq_self, if_true, if_false, Nat.add_zero, Nat.zero_add, if_pos, if_neg]
  unfold f_X6_countDots
  rw [key, bd_s]
theorem cCodeSum (hk : ∀ d, codNR h d (k d)) : f_X6_countCodes h = some (nI (sumN (ctB h k 4) 4)) := by
  have key : f_X6_countCodes_L13 h 0 4 0 = some (nI (sumN (ctB h k 4) 4)) := by
    unfold f_X6_countCodes_L13
    refine lpo_sum _ 4 (fun i v hi => ?_) (fun v => ?_)
    · (try dsimp only)
      obtain ⟨b1, e1, e2, e3⟩ := hk i hi
      unfold f_X6_countCodes_B13 f_X0_isMissing ctB
      by_cases n0 : (k i).1 = 0
      · simp (disch := omega) only [bd_w, bnd2_w, gd_w, nm_w, ix_n, tn_n, lin40, lin60, nI_s, nI_add, N_lt, N_eq, N_ltK, K_ltN, N_eqK, K_eqN, N_addK, K_addN, pk_mul, N_mulK, K_mulN, pk_sub, N_subK, pk_div, N_divK, N_rem, N_remK, N_nz, cIsRow, cIsText, cIsCover, cIsCode, mIsRow, mIsText, mIsCover, mIsCode, mIn, inR_d, btw_K, dec_t, dec_f, rf_rows, rf_texts, rf_covers, rf_codes, Bool.false_eq_true, eq_self, if_true, if_false, Nat.add_zero, Nat.zero_add, if_pos, if_neg, e1]
      · obtain ⟨b3, e4, e5⟩ := e3 (by omega)
        simp (disch := omega) only [bd_w, bnd2_w, gd_w, nm_w, ix_n, tn_n, lin40, lin60, nI_s, nI_add, N_lt, N_eq, N_ltK, K_ltN, N_eqK, K_eqN, N_addK, K_addN, pk_mul, N_mulK, K_mulN, pk_sub, N_subK, pk_div, N_divK, N_rem, N_remK, N_nz, cIsRow, cIsText, cIsCover, cIsCode, mIsRow, mIsText, mIsCover, mIsCode, mIn, inR_d, btw_K, dec_t, dec_f, rf_rows, rf_texts, rf_covers, rf_codes, Bool.false_eq_true, eq_self, if_true, if_false, Nat.add_zero, Nat.zero_add, if_pos, if_neg, e1, e4]
    · (try dsimp only)
      unfold f_X6_countCodes_B13
      simp (disch := omega) only [bd_w, bnd2_w, gd_w, nm_w, ix_n, tn_n, lin40, lin60, nI_s, nI_add, N_lt, N_eq, N_ltK, K_ltN, N_eqK, K_eqN, N_addK, K_addN, pk_mul, N_mulK, K_mulN, pk_sub, N_subK, pk_div, N_divK, N_rem, N_remK, N_nz, cIsRow, cIsText, cIsCover, cIsCode, mIsRow, mIsText, mIsCover, mIsCode, mIn, inR_d, btw_K, dec_t, dec_f, rf_rows, rf_texts, rf_covers, rf_codes, Bool.false_eq_true, eq_self, if_true, if_false, Nat.add_zero, Nat.zero_add, if_pos, if_neg]
  unfold f_X6_countCodes
  rw [key, bd_s]
theorem mCntA {m : Nat} (hm : m ≤ 5) (hq : ∀ c, covNR h c (q c)) : f_X7_counts_L4 h (nI m) 0 0 = some (nI (sumN (ctA h q m) 6)) := by
  unfold f_X7_counts_L4
  refine lpo_sum _ 6 (fun i v hi => ?_) (fun v => ?_)
  · (try dsimp only)
    obtain ⟨b1, b2, e1, e2, e3⟩ := hq i hi
    unfold f_X7_counts_B4 f_X7_counts_J28_4 f_X7_counts_J29_4 f_X7_counts_J46_4 f_X7_counts_J74_4 f_X7_counts_J78_4 f_X7_counts_J79_4 ctA
    have z : m = 0 ∨ m = 1 ∨ m = 2 ∨ m = 3 ∨ m = 4 ∨ m = 5 := (by omega)
    rcases z with rfl | rfl | rfl | rfl | rfl | rfl
    · by_cases z : h.1 66 i < 0
      · simp (disch := omega) only [bd_w, bnd2_w, gd_w, nm_w, ix_n, tn_n, lin40, lin60, nI_s, nI_add, N_lt, N_eq, N_ltK, K_ltN, N_eqK, K_eqN, N_addK, K_addN, pk_mul, N_mulK, K_mulN, pk_sub, N_subK, pk_div, N_divK, N_rem, N_remK, N_nz, cIsRow, cIsText, cIsCover, cIsCode, mIsRow, mIsText, mIsCover, mIsCode, mIn, inR_d, btw_K, dec_t, dec_f, rf_rows, rf_texts, rf_covers, rf_codes, Bool.false_eq_true, eq_self, if_true, if_false, Nat.add_zero, Nat.zero_add, if_pos, if_neg, if_pos z]
      · simp (disch := omega) only [bd_w, bnd2_w, gd_w, nm_w, ix_n, tn_n, lin40, lin60, nI_s, nI_add, N_lt, N_eq, N_ltK, K_ltN, N_eqK, K_eqN, N_addK, K_addN, pk_mul, N_mulK, K_mulN, pk_sub, N_subK, pk_div, N_divK, N_rem, N_remK, N_nz, cIsRow, cIsText, cIsCover, cIsCode, mIsRow, mIsText, mIsCover, mIsCode, mIn, inR_d, btw_K, dec_t, dec_f, rf_rows, rf_texts, rf_covers, rf_codes, Bool.false_eq_true, eq_self, if_true, if_false, Nat.add_zero, Nat.zero_add, if_pos, if_neg, if_neg z]
    · simp (disch := omega) only [bd_w, bnd2_w, gd_w, nm_w, ix_n, tn_n, lin40, lin60, nI_s, nI_add, N_lt, N_eq, N_ltK, K_ltN, N_eqK, K_eqN, N_addK, K_addN, pk_mul, N_mulK, K_mulN, pk_sub, N_subK, pk_div, N_divK, N_rem, N_remK, N_nz, cIsRow, cIsText, cIsCover, cIsCode, mIsRow, mIsText, mIsCover, mIsCode, mIn, inR_d, btw_K, dec_t, dec_f, rf_rows, rf_texts, rf_covers, rf_codes, Bool.false_eq_true, eq_self, if_true, if_false, Nat.add_zero, Nat.zero_add, if_pos, if_neg]
    · by_cases n0 : (q i).1 = 0
      · simp (disch := omega) only [bd_w, bnd2_w, gd_w, nm_w, ix_n, tn_n, lin40, lin60, nI_s, nI_add, N_lt, N_eq, N_ltK, K_ltN, N_eqK, K_eqN, N_addK, K_addN, pk_mul, N_mulK, K_mulN, pk_sub, N_subK, pk_div, N_divK, N_rem, N_remK, N_nz, cIsRow, cIsText, cIsCover, cIsCode, mIsRow, mIsText, mIsCover, mIsCode, mIn, inR_d, btw_K, dec_t, dec_f, rf_rows, rf_texts, rf_covers, rf_codes, Bool.false_eq_true, eq_self, if_true, if_false, Nat.add_zero, Nat.zero_add, if_pos, if_neg, e2]
      · simp (disch := omega) only [bd_w, bnd2_w, gd_w, nm_w, ix_n, tn_n, lin40, lin60, nI_s, nI_add, N_lt, N_eq, N_ltK, K_ltN, N_eqK, K_eqN, N_addK, K_addN, pk_mul, N_mulK, K_mulN, pk_sub, N_subK, pk_div, N_divK, N_rem, N_remK, N_nz, cIsRow, cIsText, cIsCover, cIsCode, mIsRow, mIsText, mIsCover, mIsCode, mIn, inR_d, btw_K, dec_t, dec_f, rf_rows, rf_texts, rf_covers, rf_codes, Bool.false_eq_true, eq_self, if_true, if_false, Nat.add_zero, Nat.zero_add, if_pos, if_neg, e2]
    · by_cases n0 : (q i).1 = 0
      · simp (disch := omega) only [bd_w, bnd2_w, gd_w, nm_w, ix_n, tn_n, lin40, lin60, nI_s, nI_add, N_lt, N_eq, N_ltK, K_ltN, N_eqK, K_eqN, N_addK, K_addN, pk_mul, N_mulK, K_mulN, pk_sub, N_subK, pk_div, N_divK, N_rem, N_remK, N_nz, cIsRow, cIsText, cIsCover, cIsCode, mIsRow, mIsText, mIsCover, mIsCode, mIn, inR_d, btw_K, dec_t, dec_f, rf_rows, rf_texts, rf_covers, rf_codes, Bool.false_eq_true, eq_self, if_true, if_false, Nat.add_zero, Nat.zero_add, if_pos, if_neg, e2]
      · obtain ⟨e4, e5⟩ := e3 (by omega)
        by_cases z : (q i).2 = 1 ∨ (q i).2 = 2
        · simp (disch := omega) only [bd_w, bnd2_w, gd_w, nm_w, ix_n, tn_n, lin40, lin60, nI_s, nI_add, N_lt, N_eq, N_ltK, K_ltN, N_eqK, K_eqN, N_addK, K_addN, pk_mul, N_mulK, K_mulN, pk_sub, N_subK, pk_div, N_divK, N_rem, N_remK, N_nz, cIsRow, cIsText, cIsCover, cIsCode, mIsRow, mIsText, mIsCover, mIsCode, mIn, inR_d, btw_K, dec_t, dec_f, rf_rows, rf_texts, rf_covers, rf_codes, Bool.false_eq_true, eq_self, if_true, if_false, Nat.add_zero, Nat.zero_add, if_pos, if_neg, e2, e5]
        · simp (disch := omega) only [bd_w, bnd2_w, gd_w, nm_w, ix_n, tn_n, lin40, lin60, nI_s, nI_add, N_lt, N_eq, N_ltK, K_ltN, N_eqK, K_eqN, N_addK, K_addN, pk_mul, N_mulK, K_mulN, pk_sub, N_subK, pk_div, N_divK, N_rem, N_remK, N_nz, cIsRow, cIsText, cIsCover, cIsCode, mIsRow, mIsText, mIsCover, mIsCode, mIn, inR_d, btw_K, dec_t, dec_f, rf_rows, rf_texts, rf_covers, rf_codes, Bool.false_eq_true, eq_self, if_true, if_false, Nat.add_zero, Nat.zero_add, if_pos, if_neg, e2, e5]
    · simp (disch := omega) only [bd_w, bnd2_w, gd_w, nm_w, ix_n, tn_n, lin40, lin60, nI_s, nI_add, N_lt, N_eq, N_ltK, K_ltN, N_eqK, K_eqN, N_addK, K_addN, pk_mul, N_mulK, K_mulN, pk_sub, N_subK, pk_div, N_divK, N_rem, N_remK, N_nz, cIsRow, cIsText, cIsCover, cIsCode, mIsRow, mIsText, mIsCover, mIsCode, mIn, inR_d, btw_K, dec_t, dec_f, rf_rows, rf_texts, rf_covers, rf_codes, Bool.false_eq_true, eq_self, if_true, if_false, Nat.add_zero, Nat.zero_add, if_pos, if_neg]
    · simp (disch := omega) only [bd_w, bnd2_w, gd_w, nm_w, ix_n, tn_n, lin40, lin60, nI_s, nI_add, N_lt, N_eq, N_ltK, K_ltN, N_eqK, K_eqN, N_addK, K_addN, pk_mul, N_mulK, K_mulN, pk_sub, N_subK, pk_div, N_divK, N_rem, N_remK, N_nz, cIsRow, cIsText, cIsCover, cIsCode, mIsRow, mIsText, mIsCover, mIsCode, mIn, inR_d, btw_K, dec_t, dec_f, rf_rows, rf_texts, rf_covers, rf_codes, Bool.false_eq_true, eq_self, if_true, if_false, Nat.add_zero, Nat.zero_add, if_pos, if_neg, e2]
  · (try dsimp only)
    unfold f_X7_counts_B4
    simp (disch := omega) only [bd_w, bnd2_w, gd_w, nm_w, ix_n, tn_n, lin40, lin60, nI_s, nI_add, N_lt, N_eq, N_ltK, K_ltN, N_eqK, K_eqN, N_addK, K_addN, pk_mul, N_mulK, K_mulN, pk_sub, N_subK, pk_div, N_divK, N_rem, N_remK, N_nz, cIsRow, cIsText, cIsCover, cIsCode, mIsRow, mIsText, mIsCover, mIsCode, mIn, inR_d, btw_K, dec_t, dec_f, rf_rows, rf_texts, rf_covers, rf_codes, Bool.false_eq_true, eq_self, if_true, if_false, Nat.add_zero, Nat.zero_add, if_pos, if_neg]
theorem mCntB {m v0 : Nat} (hm : m ≤ 5) (hk : ∀ d, codNR h d (k d)) : f_X7_counts_L107 h (nI m) (nI v0) (nI 0) = some (nI (v0 + sumN (fun t => ctB h k m (0 + t)) (4 - 0))) := by
  unfold f_X7_counts_L107
  refine lpo_sumF (ctB h k m) 0 4 v0 (by decide) (fun i v _ hi => ?_) (fun v => ?_)
  · (try dsimp only)
    obtain ⟨b1, e1, e2, e3⟩ := hk i hi
    unfold f_X7_counts_B107 f_X7_counts_J127_107 ctB
    have z : m = 0 ∨ m = 1 ∨ m = 2 ∨ m = 3 ∨ m = 4 ∨ m = 5 := (by omega)
    rcases z with rfl | rfl | rfl | rfl | rfl | rfl
    · simp (disch := omega) only [bd_w, bnd2_w, gd_w, nm_w, ix_n, tn_n, lin40, lin60, nI_s, nI_add, N_lt, N_eq, N_ltK, K_ltN, N_eqK, K_eqN, N_addK, K_addN, pk_mul, N_mulK, K_mulN, pk_sub, N_subK, pk_div, N_divK, N_rem, N_remK, N_nz, cIsRow, cIsText, cIsCover, cIsCode, mIsRow, mIsText, mIsCover, mIsCode, mIn, inR_d, btw_K, dec_t, dec_f, rf_rows, rf_texts, rf_covers, rf_codes, Bool.false_eq_true, eq_self, if_true, if_false, Nat.add_zero, Nat.zero_add, if_pos, if_neg]
    · by_cases z : h.1 69 i < 0
      · simp (disch := omega) only [bd_w, bnd2_w, gd_w, nm_w, ix_n, tn_n, lin40, lin60, nI_s, nI_add, N_lt, N_eq, N_ltK, K_ltN, N_eqK, K_eqN, N_addK, K_addN, pk_mul, N_mulK, K_mulN, pk_sub, N_subK, pk_div, N_divK, N_rem, N_remK, N_nz, cIsRow, cIsText, cIsCover, cIsCode, mIsRow, mIsText, mIsCover, mIsCode, mIn, inR_d, btw_K, dec_t, dec_f, rf_rows, rf_texts, rf_covers, rf_codes, Bool.false_eq_true, eq_self, if_true, if_false, Nat.add_zero, Nat.zero_add, if_pos, if_neg, if_pos z]
      · simp (disch := omega) only [bd_w, bnd2_w, gd_w, nm_w, ix_n, tn_n, lin40, lin60, nI_s, nI_add, N_lt, N_eq, N_ltK, K_ltN, N_eqK, K_eqN, N_addK, K_addN, pk_mul, N_mulK, K_mulN, pk_sub, N_subK, pk_div, N_divK, N_rem, N_remK, N_nz, cIsRow, cIsText, cIsCover, cIsCode, mIsRow, mIsText, mIsCover, mIsCode, mIn, inR_d, btw_K, dec_t, dec_f, rf_rows, rf_texts, rf_covers, rf_codes, Bool.false_eq_true, eq_self, if_true, if_false, Nat.add_zero, Nat.zero_add, if_pos, if_neg, if_neg z]
    · simp (disch := omega) only [bd_w, bnd2_w, gd_w, nm_w, ix_n, tn_n, lin40, lin60, nI_s, nI_add, N_lt, N_eq, N_ltK, K_ltN, N_eqK, K_eqN, N_addK, K_addN, pk_mul, N_mulK, K_mulN, pk_sub, N_subK, pk_div, N_divK, N_rem, N_remK, N_nz, cIsRow, cIsText, cIsCover, cIsCode, mIsRow, mIsText, mIsCover, mIsCode, mIn, inR_d, btw_K, dec_t, dec_f, rf_rows, rf_texts, rf_covers, rf_codes, Bool.false_eq_true, eq_self, if_true, if_false, Nat.add_zero, Nat.zero_add, if_pos, if_neg]
    · simp (disch := omega) only [bd_w, bnd2_w, gd_w, nm_w, ix_n, tn_n, lin40, lin60, nI_s, nI_add, N_lt, N_eq, N_ltK, K_ltN, N_eqK, K_eqN, N_addK, K_addN, pk_mul, N_mulK, K_mulN, pk_sub, N_subK, pk_div, N_divK, N_rem, N_remK, N_nz, cIsRow, cIsText, cIsCover, cIsCode, mIsRow, mIsText, mIsCover, mIsCode, mIn, inR_d, btw_K, dec_t, dec_f, rf_rows, rf_texts, rf_covers, rf_codes, Bool.false_eq_true, eq_self, if_true, if_false, Nat.add_zero, Nat.zero_add, if_pos, if_neg]
    · by_cases n0 : (k i).1 = 0
      · simp (disch := omega) only [bd_w, bnd2_w, gd_w, nm_w, ix_n, tn_n, lin40, lin60, nI_s, nI_add, N_lt, N_eq, N_ltK, K_ltN, N_eqK, K_eqN, N_addK, K_addN, pk_mul, N_mulK, K_mulN, pk_sub, N_subK, pk_div, N_divK, N_rem, N_remK, N_nz, cIsRow, cIsText, cIsCover, cIsCode, mIsRow, mIsText, mIsCover, mIsCode, mIn, inR_d, btw_K, dec_t, dec_f, rf_rows, rf_texts, rf_covers, rf_codes, Bool.false_eq_true, eq_self, if_true, if_false, Nat.add_zero, Nat.zero_add, if_pos, if_neg, e2]
      · simp (disch := omega) only [bd_w, bnd2_w, gd_w, nm_w, ix_n, tn_n, lin40, lin60, nI_s, nI_add, N_lt, N_eq, N_ltK, K_ltN, N_eqK, K_eqN, N_addK, K_addN, pk_mul, N_mulK, K_mulN, pk_sub, N_subK, pk_div, N_divK, N_rem, N_remK, N_nz, cIsRow, cIsText, cIsCover, cIsCode, mIsRow, mIsText, mIsCover, mIsCode, mIn, inR_d, btw_K, dec_t, dec_f, rf_rows, rf_texts, rf_covers, rf_codes, Bool.false_eq_true, eq_self, if_true, if_false, Nat.add_zero, Nat.zero_add, if_pos, if_neg, e2]
    · simp (disch := omega) only [bd_w, bnd2_w, gd_w, nm_w, ix_n, tn_n, lin40, lin60, nI_s, nI_add, N_lt, N_eq, N_ltK, K_ltN, N_eqK, K_eqN, N_addK, K_addN, pk_mul, N_mulK, K_mulN, pk_sub, N_subK, pk_div, N_divK, N_rem, N_remK, N_nz, cIsRow, cIsText, cIsCover, cIsCode, mIsRow, mIsText, mIsCover, mIsCode, mIn, inR_d, btw_K, dec_t, dec_f, rf_rows, rf_texts, rf_covers, rf_codes, Bool.false_eq_true, eq_self, if_true, if_false, Nat.add_zero, Nat.zero_add, if_pos, if_neg]
  · (try dsimp only)
    unfold f_X7_counts_B107
    simp (disch := omega) only [bd_w, bnd2_w, gd_w, nm_w, ix_n, tn_n, lin40, lin60, nI_s, nI_add, N_lt, N_eq, N_ltK, K_ltN, N_eqK, K_eqN, N_addK, K_addN, pk_mul, N_mulK, K_mulN, pk_sub, N_subK, pk_div, N_divK, N_rem, N_remK, N_nz, cIsRow, cIsText, cIsCover, cIsCode, mIsRow, mIsText, mIsCover, mIsCode, mIn, inR_d, btw_K, dec_t, dec_f, rf_rows, rf_texts, rf_covers, rf_codes, Bool.false_eq_true, eq_self, if_true, if_false, Nat.add_zero, Nat.zero_add, if_pos, if_neg]
/-- both count alike -/
theorem counts_eq {m : Nat} (S : Sim h) (hm : m ≤ 5) : ∃ v, f_X6_count h (nI m) = some v ∧ f_X7_counts h (nI m) = some v := by
  obtain ⟨s1, s2, s3, s4, _⟩ := S
  obtain ⟨q, hq⟩ := cov_N s3
  obtain ⟨k, hk⟩ := cod_N s4
  refine ⟨nI (sumN (ctA h q m) 6 + sumN (ctB h k m) 4), ?_, ?_⟩
  · unfold f_X6_count
    simp only [sw, cThere (h := h) (a := 1) (n := 6) (by decide), cThere (h := h) (a := 2) (n := 4) (by decide), cCovers2 hq, cCovers3 hq, cCodeSum hk, cDotSum hq, bd_s]
    have z : m = 0 ∨ m = 1 ∨ m = 2 ∨ m = 3 ∨ m = 4 ∨ m = 5 := (by omega)
    rcases z with rfl | rfl | rfl | rfl | rfl | rfl
    · rw [if_pos rfl, sumN_0 (g := ctB h k 0) (n := 4) (fun j _ => rfl), Nat.add_zero]
      rw [sumN_congr (g := ctA h q 0) (fun j hj => ?_)]
      rw [rf_rows hj]
      unfold ctA
      rw [if_pos rfl]
      by_cases z : h.1 66 j < 0
      · rw [if_pos z, if_pos (by rw [miss_row (by decide) (s1 j hj)]; exact z)]
      · rw [if_neg z, if_neg (by rw [miss_row (by decide) (s1 j hj)]; exact z)]
    · rw [if_neg (by decide), if_pos rfl, sumN_0 (g := ctA h q 1) (n := 6) (fun j _ => rfl), Nat.zero_add]
      rw [sumN_congr (g := ctB h k 1) (fun j hj => ?_)]
      rw [rf_texts hj]
      unfold ctB
      rw [if_pos rfl]
      by_cases z : h.1 69 j < 0
      · rw [if_pos z, if_pos (by rw [miss_row (by decide) (s2 j hj)]; exact z)]
      · rw [if_neg z, if_neg (by rw [miss_row (by decide) (s2 j hj)]; exact z)]
    · rw [if_neg (by decide), if_neg (by decide), if_pos rfl, sumN_0 (g := ctB h k 2) (n := 4) (fun j _ => rfl), Nat.add_zero]
    · rw [if_neg (by decide), if_neg (by decide), if_neg (by decide), if_pos rfl, sumN_0 (g := ctB h k 3) (n := 4) (fun j _ => rfl), Nat.add_zero]
    · rw [if_neg (by decide), if_neg (by decide), if_neg (by decide), if_neg (by decide), if_pos rfl, sumN_0 (g := ctA h q 4) (n := 6) (fun j _ => rfl), Nat.zero_add]
    · rw [if_neg (by decide), if_neg (by decide), if_neg (by decide), if_neg (by decide), if_neg (by decide), if_pos rfl, sumN_0 (g := ctB h k 5) (n := 4) (fun j _ => rfl), Nat.add_zero]
  · unfold f_X7_counts
    rw [mCntA hm hq, bd_s, show (0 : Int32) = nI 0 from rfl, mCntB hm hk, bd_s]
    congr 3
end COUNT
theorem q_count {h : MH} (S : Sim h) (x : Int32) : ∃ v, f_X6_count h x = some v ∧ f_X7_count h x = some v := by
  cases hx : btw x 0 5 with
  | false =>
    refine ⟨-1, ?_, ?_⟩
    · unfold f_X6_count
      have z : ∀ m : Nat, m ≤ 5 → ¬ x = nI m := fun m hm e => by
        rw [e, btw_K (by omega) (by decide) (by decide), dec_t (by omega)] at hx
        exact absurd hx (by decide)
      simp only [sw, if_neg (z 0 (by decide)), if_neg (z (0 + 1) (by decide)), if_neg (z (0 + 1 + 1) (by decide)), if_neg (z (0 + 1 + 1 + 1) (by decide)), if_neg (z (0 + 1 + 1 + 1 + 1) (by decide)), if_neg (z (0 + 1 + 1 + 1 + 1 + 1) (by decide))]
    · unfold f_X7_count
      rw [mIn, bd_s, hx]
      rfl
  | true =>
    obtain ⟨m, -, hm, rfl⟩ := btw_N (a := 0) (b := 5) (by decide) (by decide) hx
    obtain ⟨v, e1, e2⟩ := counts_eq S hm
    refine ⟨v, e1, ?_⟩
    unfold f_X7_count
    rw [mIn, bd_s, hx, if_pos rfl, e2, bd_s]
