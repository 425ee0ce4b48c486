/-! codes -/
theorem code_cases {h : MH} (S : SK h) (d : Int32) : inR d 4 = false ∨ ∃ j, j < 4 ∧ d = nI j ∧ inR d 4 = true ∧ ((h.1 (56 + 2 * j) 1 = 0 ∧ h.1 78 j = 0) ∨ ∃ (k w : Nat) (ls : Nat → Nat), codK k w ls ∧ codC h (56 + 2 * j) k w ls ∧ codM h j k w ls) := by
  cases e : inR d 4 with
  | false => exact Or.inl rfl
  | true =>
    obtain ⟨j, hj, q⟩ := inR_t (by decide) e
    exact Or.inr ⟨j, hj, q, rfl, S j hj⟩
section CODES
variable {h : MH} {a d k w i : Nat} {ls : Nat → Nat}
theorem cMissK_t (e : h.1 a 1 = 0) : f_X0_isMissing h a = some true := by
  unfold f_X0_isMissing
  rw [e, if_pos (by decide)]
theorem cMissK_f (hK : codK k w ls) (hC : codC h a k w ls) : f_X0_isMissing h a = some false := by
  obtain ⟨⟨b1, b2, b3, b4⟩, b5⟩ := hK
  unfold f_X0_isMissing
  simp (disch := omega) only [bd_w, bnd2_w, gd_w, nm_w, ix_n, tn_n, lin40, lin60, nI_s, nI_add, N_lt, N_eq, N_ltK, K_ltN, N_eqK, K_eqN, N_addK, K_addN, pk_mul, N_mulK, K_mulN, pk_sub, N_subK, pk_div, N_divK, N_rem, N_remK, N_nz, cIsRow, cIsText, cIsCover, cIsCode, mIsRow, mIsText, mIsCover, mIsCode, mIn, inR_d, btw_K, dec_t, dec_f, rf_rows, rf_texts, rf_covers, rf_codes, Bool.false_eq_true, eq_self, if_true, if_false, Nat.add_zero, Nat.zero_add, if_pos, if_neg, hC.1, hC.2.1]
theorem cHasK {x : Int32} (hK : codK k w ls) (hC : codC h a k w ls) : f_X0_has h a x = some (inR x k) := by
  obtain ⟨⟨b1, b2, b3, b4⟩, b5⟩ := hK
  unfold f_X0_has
  rw [hC.1]
  cases q : inR x k with
  | true =>
    obtain ⟨j, hj, rfl⟩ := inR_t (by omega) q
    simp (disch := omega) only [bd_w, bnd2_w, gd_w, nm_w, ix_n, tn_n, lin40, lin60, nI_s, nI_add, N_lt, N_eq, N_ltK, K_ltN, N_eqK, K_eqN, N_addK, K_addN, pk_mul, N_mulK, K_mulN, pk_sub, N_subK, pk_div, N_divK, N_rem, N_remK, N_nz, cIsRow, cIsText, cIsCover, cIsCode, mIsRow, mIsText, mIsCover, mIsCode, mIn, inR_d, btw_K, dec_t, dec_f, rf_rows, rf_texts, rf_covers, rf_codes, Bool.false_eq_true, eq_self, if_true, if_false, Nat.add_zero, Nat.zero_add, if_pos, if_neg]
  | false =>
    by_cases h1 : x < 0
    · rw [if_pos h1]
    · rw [if_neg h1]
      have h2 : ¬ x < nI k := fun z => by
        rw [show inR x k = true from decide_eq_true ⟨h1, z⟩] at q
        exact absurd q (by decide)
      rw [if_neg h2]
theorem cLineAt (ha : shp a = (0, 0)) (hK : codK k w ls) (hC : codC h a k w ls) (hi : i < k) : f_X0_lineAt h a (nI i) = some (nI (ls i)) := by
  have b2 := hK.1.2.1
  unfold f_X0_lineAt
  rw [cHasK hK hC, bd_s, inR_n hi (by omega), if_pos rfl, ix_n (by omega) (by decide), gd_t, tn_n (by omega), rf_Cod ha, hC.2.2 i hi]
theorem mAskCode_b {x : Int32} (hx : inR x 4 = false) : f_X7_askedCode h x = some (-1, h) := by
  unfold f_X7_askedCode
  rw [mIsCode, bd_s, hx, if_neg (by decide)]
theorem mAskCode_m (hd : d < 4) (e : h.1 78 d = 0) : f_X7_askedCode h (nI d) = f_X7_meets h (nI 1) := by
  unfold f_X7_askedCode
  rw [mIsCode, bd_s, inR_n hd (by decide), if_pos rfl, ix_n hd (by decide), gd_t, tn_n (by omega), e, if_pos rfl]
  exact pM (by decide) (by decide)
theorem mAskCode_o (hd : d < 4) (hK : codK k w ls) (hM : codM h d k w ls) : f_X7_askedCode h (nI d) = some (0, h) := by
  obtain ⟨⟨b1, b2, b3, b4⟩, b5⟩ := hK
  unfold f_X7_askedCode
  rw [mIsCode, bd_s, inR_n hd (by decide), if_pos rfl, ix_n hd (by decide), gd_t, tn_n (by omega), hM.1, if_neg (nI0_ne b1 (by omega))]
theorem lin6 (d i : Nat) : (6 * nI d) + nI i = nI (6 * d + i) := by
  show nI 6 * nI d + nI i = _
  rw [pk_mul, nI_add]
theorem codC_of {h2 : MH} (e : ∀ b, a ≤ b → b ≤ a + 1 → h2.1 b = h.1 b) (hC : codC h a k w ls) : codC h2 a k w ls := by
  unfold codC
  rw [e a (by omega) (by omega), e (a + 1) (by omega) (by omega)]
  exact hC
theorem codM_of {h2 : MH} (e : ∀ b, 78 ≤ b → b ≤ 80 → h2.1 b = h.1 b) (hM : codM h d k w ls) : codM h2 d k w ls := by
  unfold codM
  rw [e 78 (by decide) (by decide), e 79 (by decide) (by decide), e 80 (by decide) (by decide)]
  exact hM
end CODES
theorem op_line {h : MH} (S : Sim h) (d x : Int32) : Op (f_X6_line h d x) (fun h1 => f_X7_line h1 d x) := by
  rcases code_cases S.2.2.2.1 d with hd | ⟨d, hd4, rfl, hd, ⟨m1, m2⟩ | ⟨k, w, ls, hK, hC, hM⟩⟩
  · exact op_same S (v := -1) (by unfold f_X6_line; rw [cIsCode, bd_s, hd, if_neg (by decide)]) (by show f_X7_line h _ _ = _; unfold f_X7_line; rw [mAskCode_b hd, bnd2_s, if_pos (by decide)])
  · refine op_found S (f := 1) (by decide) (by decide) ?_ ?_
    · unfold f_X6_line
      rw [cIsCode, bd_s, hd, if_pos rfl, ix_n hd4 (by decide), gd_t, tn_n (by omega), rf_codes hd4, cMissK_t m1, bd_s, if_pos rfl]
      exact pF (by decide) (by decide)
    · show f_X7_line (fd h 1) _ _ = _
      unfold f_X7_line
      rw [mAskCode_m hd4 (by rw [fd_ne (by decide) (by decide)]; exact m2), pB (by decide) (by decide)]
  · have b2 := hK.1.2.1
    cases hx : inR x k with
    | false =>
      refine op_found S (f := 2) (by decide) (by decide) ?_ ?_
      · unfold f_X6_line
        rw [cIsCode, bd_s, hd, if_pos rfl, ix_n hd4 (by decide), gd_t, tn_n (by omega), rf_codes hd4, cMissK_f hK hC, bd_s, if_neg (by decide), cHasK hK hC, bd_s, hx, if_neg (by decide)]
        exact pF (by decide) (by decide)
      · show f_X7_line (fd h 2) _ _ = _
        have hM2 : codM (fd h 2) d k w ls := codM_of (fun b q1 q2 => fd_ne (by omega) (by omega)) hM
        unfold f_X7_line
        rw [mAskCode_o hd4 hK hM2, bnd2_s, if_neg (by decide), ix_n hd4 (by decide), gd_t, tn_n (by omega), hM2.1, mIn, bd_s, btw_pred (by omega), hx, if_neg (by decide)]
        exact pM (by decide) (by decide)
    | true =>
      obtain ⟨i, hi, rfl⟩ := inR_t (by omega) hx
      refine op_same S (v := nI (ls i)) ?_ ?_
      · unfold f_X6_line
        rw [cIsCode, bd_s, hd, if_pos rfl, ix_n hd4 (by decide), gd_t, tn_n (by omega), rf_codes hd4, cMissK_f hK hC, bd_s, if_neg (by decide), cHasK hK hC, bd_s, hx, if_pos rfl, cLineAt (sh_cod hd4) hK hC hi, bd_s]
      · show f_X7_line h _ _ = _
        unfold f_X7_line
        rw [mAskCode_o hd4 hK hM, bnd2_s, if_neg (by decide), ix_n hd4 (by decide), gd_t, tn_n (by omega), hM.1, mIn, bd_s, btw_pred (by omega), hx, if_pos rfl, lin6, ix_n (by omega) (by decide), gd_t, tn_n (by omega), hM.2.2 i hi]
/-! a cover and a code -/
section BOTH
variable {h : MH} {a b c d kd n k w wt u : Nat} {ds cs ls : Nat → Nat}
theorem cBlocks (hKc : covK kd n ds cs u wt) (hC : covC h a kd n ds cs u wt) (hK : codK k w ls) (hD : codC h b k w ls) : f_X0_countBlocks h b a = some (nI (n / w)) := by
  obtain ⟨⟨b1, b2, b3, b4⟩, b5⟩ := hK
  have hn := hKc.1.2.1
  unfold f_X0_countBlocks
  simp (disch := omega) only [bd_w, bnd2_w, gd_w, nm_w, ix_n, tn_n, lin40, lin60, nI_s, nI_add, N_lt, N_eq, N_ltK, K_ltN, N_eqK, K_eqN, N_addK, K_addN, pk_mul, N_mulK, K_mulN, pk_sub, N_subK, pk_div, N_divK, N_rem, N_remK, N_nz, cIsRow, cIsText, cIsCover, cIsCode, mIsRow, mIsText, mIsCover, mIsCode, mIn, inR_d, btw_K, dec_t, dec_f, rf_rows, rf_texts, rf_covers, rf_codes, Bool.false_eq_true, eq_self, if_true, if_false, Nat.add_zero, Nat.zero_add, if_pos, if_neg, hD.2.1, hC.2.1]
theorem mBlocks (hc : c < 6) (hd : d < 4) (hKc : covK kd n ds cs u wt) (hC : covM h c kd n ds cs u wt) (hK : codK k w ls) (hD : codM h d k w ls) : f_X7_blocksOf h (nI c) (nI d) = some (nI (n / w)) := by
  obtain ⟨⟨b1, b2, b3, b4⟩, b5⟩ := hK
  have hn := hKc.1.2.1
  unfold f_X7_blocksOf
  simp (disch := omega) only [bd_w, bnd2_w, gd_w, nm_w, ix_n, tn_n, lin40, lin60, nI_s, nI_add, N_lt, N_eq, N_ltK, K_ltN, N_eqK, K_eqN, N_addK, K_addN, pk_mul, N_mulK, K_mulN, pk_sub, N_subK, pk_div, N_divK, N_rem, N_remK, N_nz, cIsRow, cIsText, cIsCover, cIsCode, mIsRow, mIsText, mIsCover, mIsCode, mIn, inR_d, btw_K, dec_t, dec_f, rf_rows, rf_texts, rf_covers, rf_codes, Bool.false_eq_true, eq_self, if_true, if_false, Nat.add_zero, Nat.zero_add, if_pos, if_neg, hD.2.1, hC.2.1]
theorem mAskBoth_o (hc : c < 6) (hd : d < 4) (hKc : covK kd n ds cs u wt) (hC : covM h c kd n ds cs u wt) (hK : codK k w ls) (hD : codM h d k w ls) : f_X7_askedBoth h (nI c) (nI d) = some (0, h) := by
  obtain ⟨⟨b1, b2, b3, b4⟩, b5⟩ := hK
  have hn := hKc.1.2.1
  have hn1 := hKc.1.1
  unfold f_X7_askedBoth
  simp (disch := omega) only [bd_w, bnd2_w, gd_w, nm_w, ix_n, tn_n, lin40, lin60, nI_s, nI_add, N_lt, N_eq, N_ltK, K_ltN, N_eqK, K_eqN, N_addK, K_addN, pk_mul, N_mulK, K_mulN, pk_sub, N_subK, pk_div, N_divK, N_rem, N_remK, N_nz, cIsRow, cIsText, cIsCover, cIsCode, mIsRow, mIsText, mIsCover, mIsCode, mIn, inR_d, btw_K, dec_t, dec_f, rf_rows, rf_texts, rf_covers, rf_codes, Bool.false_eq_true, eq_self, if_true, if_false, Nat.add_zero, Nat.zero_add, if_pos, if_neg, hD.1, hC.2.1]
end BOTH
theorem op_room {h : MH} (S : Sim h) (c d : Int32) : Op (f_X6_room h c d) (fun h1 => f_X7_room h1 c d) := by
  rcases cover_cases S.2.2.1 c with hc | ⟨c, hc6, rfl, hc, R1⟩
  · exact op_same S (v := -1) (by unfold f_X6_room; rw [cIsCover, bd_s, hc, if_neg (by decide)]) (by show f_X7_room h _ _ = _; unfold f_X7_room f_X7_askedBoth; rw [mIsCover, bd_s, hc, if_neg (by decide), bnd2_s, if_pos (by decide)])
  rcases code_cases S.2.2.2.1 d with hd | ⟨d, hd4, rfl, hd, R2⟩
  · exact op_same S (v := -1) (by unfold f_X6_room; rw [cIsCover, bd_s, hc, if_pos rfl, cIsCode, bd_s, hd, if_neg (by decide)]) (by show f_X7_room h _ _ = _; unfold f_X7_room f_X7_askedBoth; rw [mIsCover, bd_s, hc, if_pos rfl, mIsCode, bd_s, hd, if_neg (by decide), bnd2_s, if_pos (by decide)])
  rcases R1 with ⟨m1, m2⟩ | ⟨kd, n, ds, cs, w, wt, hK, hC, hM⟩
  · refine op_found S (f := 1) (by decide) (by decide) ?_ ?_
    · unfold f_X6_room
      simp (disch := omega) only [bd_w, bnd2_w, gd_w, nm_w, ix_n, tn_n, lin40, lin60, nI_s, nI_add, N_lt, N_eq, N_ltK, K_ltN, N_eqK, K_eqN, N_addK, K_addN, pk_mul, N_mulK, K_mulN, pk_sub, N_subK, pk_div, N_divK, N_rem, N_remK, N_nz, cIsRow, cIsText, cIsCover, cIsCode, mIsRow, mIsText, mIsCover, mIsCode, mIn, inR_d, btw_K, dec_t, dec_f, rf_rows, rf_texts, rf_covers, rf_codes, Bool.false_eq_true, eq_self, if_true, if_false, Nat.add_zero, Nat.zero_add, if_pos, if_neg, cMissC_t m1]
      exact pF (by decide) (by decide)
    · show f_X7_room (fd h 1) _ _ = _
      unfold f_X7_room f_X7_askedBoth
      simp (disch := omega) only [bd_w, bnd2_w, gd_w, nm_w, ix_n, tn_n, lin40, lin60, nI_s, nI_add, N_lt, N_eq, N_ltK, K_ltN, N_eqK, K_eqN, N_addK, K_addN, pk_mul, N_mulK, K_mulN, pk_sub, N_subK, pk_div, N_divK, N_rem, N_remK, N_nz, cIsRow, cIsText, cIsCover, cIsCode, mIsRow, mIsText, mIsCover, mIsCode, mIn, inR_d, btw_K, dec_t, dec_f, rf_rows, rf_texts, rf_covers, rf_codes, Bool.false_eq_true, eq_self, if_true, if_false, Nat.add_zero, Nat.zero_add, if_pos, if_neg, fd_ne, m2, show (1 : Int32) = nI 1 from rfl, pM (show 1 ≤ 1 by decide) (show 1 ≤ 5 by decide)]
      exact pB (by decide) (by decide)
  have hn := hK.1.2.1
  have hn1 := hK.1.1
  rcases R2 with ⟨m1, m2⟩ | ⟨k, u, ls, hK2, hC2, hM2⟩
  · refine op_found S (f := 1) (by decide) (by decide) ?_ ?_
    · unfold f_X6_room
      simp (disch := omega) only [bd_w, bnd2_w, gd_w, nm_w, ix_n, tn_n, lin40, lin60, nI_s, nI_add, N_lt, N_eq, N_ltK, K_ltN, N_eqK, K_eqN, N_addK, K_addN, pk_mul, N_mulK, K_mulN, pk_sub, N_subK, pk_div, N_divK, N_rem, N_remK, N_nz, cIsRow, cIsText, cIsCover, cIsCode, mIsRow, mIsText, mIsCover, mIsCode, mIn, inR_d, btw_K, dec_t, dec_f, rf_rows, rf_texts, rf_covers, rf_codes, Bool.false_eq_true, eq_self, if_true, if_false, Nat.add_zero, Nat.zero_add, if_pos, if_neg, cMissC_f hC.2.1 hn1 (show n ≤ 1000000 by omega), cMissK_t m1]
      exact pF (by decide) (by decide)
    · show f_X7_room (fd h 1) _ _ = _
      unfold f_X7_room f_X7_askedBoth
      simp (disch := omega) only [bd_w, bnd2_w, gd_w, nm_w, ix_n, tn_n, lin40, lin60, nI_s, nI_add, N_lt, N_eq, N_ltK, K_ltN, N_eqK, K_eqN, N_addK, K_addN, pk_mul, N_mulK, K_mulN, pk_sub, N_subK, pk_div, N_divK, N_rem, N_remK, N_nz, cIsRow, cIsText, cIsCover, cIsCode, mIsRow, mIsText, mIsCover, mIsCode, mIn, inR_d, btw_K, dec_t, dec_f, rf_rows, rf_texts, rf_covers, rf_codes, Bool.false_eq_true, eq_self, if_true, if_false, Nat.add_zero, Nat.zero_add, if_pos, if_neg, fd_ne, m2, hM.2.1, show (1 : Int32) = nI 1 from rfl, pM (show 1 ≤ 1 by decide) (show 1 ≤ 5 by decide)]
      exact pB (by decide) (by decide)
  refine op_same S (v := nI (k * (n / u))) ?_ ?_
  · unfold f_X6_room
    simp (disch := omega) only [bd_w, bnd2_w, gd_w, nm_w, ix_n, tn_n, lin40, lin60, nI_s, nI_add, N_lt, N_eq, N_ltK, K_ltN, N_eqK, K_eqN, N_addK, K_addN, pk_mul, N_mulK, K_mulN, pk_sub, N_subK, pk_div, N_divK, N_rem, N_remK, N_nz, cIsRow, cIsText, cIsCover, cIsCode, mIsRow, mIsText, mIsCover, mIsCode, mIn, inR_d, btw_K, dec_t, dec_f, rf_rows, rf_texts, rf_covers, rf_codes, Bool.false_eq_true, eq_self, if_true, if_false, Nat.add_zero, Nat.zero_add, if_pos, if_neg, cMissC_f hC.2.1 hn1 (show n ≤ 1000000 by omega), cMissK_f hK2 hC2, cBlocks hK hC hK2 hC2, hC2.1]
  · show f_X7_room h _ _ = _
    unfold f_X7_room
    rw [mAskBoth_o hc6 hd4 hK hM hK2 hM2]
    simp (disch := omega) only [bd_w, bnd2_w, gd_w, nm_w, ix_n, tn_n, lin40, lin60, nI_s, nI_add, N_lt, N_eq, N_ltK, K_ltN, N_eqK, K_eqN, N_addK, K_addN, pk_mul, N_mulK, K_mulN, pk_sub, N_subK, pk_div, N_divK, N_rem, N_remK, N_nz, cIsRow, cIsText, cIsCover, cIsCode, mIsRow, mIsText, mIsCover, mIsCode, mIn, inR_d, btw_K, dec_t, dec_f, rf_rows, rf_texts, rf_covers, rf_codes, Bool.false_eq_true, eq_self, if_true, if_false, Nat.add_zero, Nat.zero_add, if_pos, if_neg, mBlocks hc6 hd4 hK hM hK2 hM2, hM2.1, show ¬ ((0 : Int32) < 0) by decide]
