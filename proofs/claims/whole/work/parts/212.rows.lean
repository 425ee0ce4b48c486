theorem op_text {h : MH} (S : Sim h) (r n : Int32) : Op (f_X6_text h r n) (fun h1 => f_X7_text h1 r n) := by
  cases hr : inR r 4 with
  | false => exact op_same S (v := -1) (by unfold f_X6_text; rw [cIsText, bd_s, hr, if_neg (by decide)]) (by show f_X7_text h r n = _; unfold f_X7_text; rw [mIsText, bd_s, hr, if_neg (by decide)])
  | true =>
    obtain ⟨j, hj, rfl⟩ := inR_t (by decide) hr
    by_cases h40 : 60 < n
    · exact op_same S (v := -1) (by unfold f_X6_text; rw [cIsText, bd_s, hr, if_pos rfl, if_pos h40]) (by show f_X7_text h _ n = _; unfold f_X7_text; rw [mIsText, bd_s, hr, if_pos rfl, if_pos h40])
    by_cases h0 : n < 0
    · refine op_found S (f := 5) (by decide) (by decide) ?_ ?_
      · unfold f_X6_text
        rw [cIsText, bd_s, hr, if_pos rfl, if_neg h40, if_pos h0]
        exact pF (by decide) (by decide)
      · show f_X7_text (fd h 5) _ n = _
        unfold f_X7_text
        rw [mIsText, bd_s, hr, if_pos rfl, if_neg h40, if_pos h0]
        exact pM (by decide) (by decide)
    obtain ⟨m, hm, rfl⟩ := nI_of2 (M := 60) (n := 60) rfl h0 (Int32.not_lt.mp h40)
    have e1 : f_X6_text h (nI j) (nI m) = some (nI m, uA (uI h (30 + 2 * j) 1 (nI m)) (31 + 2 * j) (wr (h.1 (31 + 2 * j)) 0 (fun _ => 32) m)) := by
      unfold f_X6_text
      rw [cIsText, bd_s, hr, if_pos rfl, if_neg h40, if_neg h0, ix_n hj (by decide), gd_t, tn_n (by omega), rf_texts hj, cRenew (sh_text hj) (by omega), bd_s, show 30 + 2 * j + 1 = 31 + 2 * j by omega]
    have e2 : ∀ h' : MH, f_X7_text h' (nI j) (nI m) = some (nI m, uA (uI h' 69 j (nI m)) 70 (wr (h'.1 70) (60 * j) (fun _ => 32) 60)) := fun h' => by
      unfold f_X7_text
      rw [mIsText, bd_s, hr, if_pos rfl, if_neg h40, if_neg h0, ix_n hj (by decide), gd_t, nm_v, tn_n (by omega), mTextL hj, bd_s, uI_ne (by decide)]
    obtain ⟨s1, s2, s3, s4, s5, s6, s7, s8⟩ := S
    refine ⟨_, _, _, e1, e2 _, ?_⟩
    refine ⟨SR_of (fun a ha => by simp (disch := omega) only [uI_ne, uI_k, uI_at, uA_ne, uA_at]) s1, STx_upd (j := j) (fun a q1 q2 q3 q4 => by simp (disch := omega) only [uI_ne, uI_k, uI_at, uA_ne, uA_at]) (fun r h1 h2 => by simp (disch := omega) only [uI_ne, uI_k, uI_at, uA_ne, uA_at]) (fun q hq => by simp (disch := omega) only [uI_ne, uI_k, uI_at, uA_ne, uA_at]; rw [wr_out hq]) (Or.inr ⟨m, fun _ => 32, hm, ⟨by simp (disch := omega) only [uI_ne, uI_k, uI_at, uA_ne, uA_at], fun i hi => ?_⟩, by simp (disch := omega) only [uI_ne, uI_k, uI_at, uA_ne, uA_at], fun i hi => by simp (disch := omega) only [uI_ne, uI_k, uI_at, uA_ne, uA_at]; rw [wr_in (by omega)]⟩) s2, SC_of (fun a ha => by simp (disch := omega) only [uI_ne, uI_k, uI_at, uA_ne, uA_at]) s3, SK_of (fun a ha => by simp (disch := omega) only [uI_ne, uI_k, uI_at, uA_ne, uA_at]) s4, ?_, s6, ⟨?_, fun f h1 h5 => ?_⟩, s8⟩
    · rw [show 30 + 2 * j + 1 = 31 + 2 * j by omega]
      simp (disch := omega) only [uI_ne, uI_k, uI_at, uA_ne, uA_at]
      have := wr_in (f := h.1 (31 + 2 * j)) (g := fun _ => (32 : Int32)) (b := 0) hi
      rw [Nat.zero_add] at this
      exact this
    · unfold SA; simp (disch := omega) only [uI_ne, uI_k, uI_at, uA_ne, uA_at]; exact s5
    · simp (disch := omega) only [uI_ne, uI_k, uI_at, uA_ne, uA_at]; exact s7.1
    · simp (disch := omega) only [uI_ne, uI_k, uI_at, uA_ne, uA_at]; exact s7.2 f h1 h5
theorem op_put {h : MH} (S : Sim h) (r x v : Int32) : Op (f_X6_put h r x v) (fun h1 => f_X7_put h1 r x v) := by
  rcases text_cases S.2.1 r with hr | ⟨j, hj, rfl, hr, ⟨m1, m2⟩ | ⟨n, f, hn, hC, hM⟩⟩
  · refine op_same S (v := -1) (by unfold f_X6_put; rw [cIsText, bd_s, hr, if_neg (by decide)]) ?_
    show f_X7_put h r x v = _
    unfold f_X7_put
    rw [mAskText_b hr, bnd2_s, if_pos (by decide)]
  · refine op_found S (f := 1) (by decide) (by decide) ?_ ?_
    · unfold f_X6_put
      rw [cIsText, bd_s, hr, if_pos rfl, ix_n hj (by decide), gd_t, tn_n (by omega), rf_texts hj, cMiss_t m1, bd_s, if_pos rfl]
      exact pF (by decide) (by decide)
    · show f_X7_put (fd h 1) _ _ _ = _
      unfold f_X7_put
      rw [mAskText_m hj (by rw [fd_ne (by decide) (by decide)]; exact m2)]
      exact pB (by decide) (by decide)
  · cases hx : inR x n with
    | false =>
      refine op_found S (f := 2) (by decide) (by decide) ?_ ?_
      · unfold f_X6_put
        rw [cIsText, bd_s, hr, if_pos rfl, ix_n hj (by decide), gd_t, tn_n (by omega), rf_texts hj, cMiss_f hC.1 (by omega), bd_s, if_neg (by decide), cHas hC.1, bd_s, hx, if_neg (by decide)]
        exact pF (by decide) (by decide)
      · show f_X7_put (fd h 2) _ _ _ = _
        have e66 : (fd h 2).1 69 j = nI n := by rw [fd_ne (by decide) (by decide)]; exact hM.1
        unfold f_X7_put
        rw [mAskText_o (n := n) hj e66 (by omega), bnd2_s, if_neg (by decide), ix_n hj (by decide), gd_t, tn_n (by omega), e66, mIn, bd_s, btw_pred (by omega), hx, if_neg (by decide)]
        exact pM (by decide) (by decide)
    | true =>
      obtain ⟨i, hi, rfl⟩ := inR_t (by omega) hx
      have e1 : f_X6_put h (nI j) (nI i) v = some (f i + 1000, uI h (31 + 2 * j) i (Int8.toInt32 (Int32.toInt8 v))) := by
        unfold f_X6_put
        rw [cIsText, bd_s, hr, if_pos rfl, ix_n hj (by decide), gd_t, tn_n (by omega), rf_texts hj, cMiss_f hC.1 (by omega), bd_s, if_neg (by decide), cHas hC.1, bd_s, hx, if_pos rfl, cGet (sh_text hj) hC (by omega) hi, bd_s, cSet (n := n) (sh_text hj) hC.1 (by omega) hi, bd_s, show 30 + 2 * j + 1 = 31 + 2 * j by omega]
      have e2 : f_X7_put (uI h (31 + 2 * j) i (Int8.toInt32 (Int32.toInt8 v))) (nI j) (nI i) v = some (f i + 1000, uI (uI h (31 + 2 * j) i (Int8.toInt32 (Int32.toInt8 v))) 70 (60 * j + i) (Int8.toInt32 (Int32.toInt8 v))) := by
        have e66 : (uI h (31 + 2 * j) i (Int8.toInt32 (Int32.toInt8 v))).1 69 j = nI n := by rw [uI_ne (by omega)]; exact hM.1
        have e67 : (uI h (31 + 2 * j) i (Int8.toInt32 (Int32.toInt8 v))).1 70 (60 * j + i) = f i := by rw [uI_ne (by omega)]; exact hM.2 i hi
        unfold f_X7_put
        rw [mAskText_o (n := n) hj e66 (by omega), bnd2_s, if_neg (by decide), ix_n hj (by decide), gd_t, tn_n (by omega), e66, mIn, bd_s, btw_pred (by omega), hx, if_pos rfl, lin60, ix_n (by omega) (by decide), gd_t, nm_v, gd_t, nm_v, tn_n (by omega), e67]
      obtain ⟨s1, s2, s3, s4, s5, s6, s7, s8⟩ := S
      refine ⟨_, _, _, e1, e2, ?_⟩
      refine ⟨SR_of (fun a ha => by simp (disch := omega) only [uI_ne, uI_k, uI_at, uA_ne, uA_at]) s1, STx_upd (j := j) (fun a q1 q2 q3 q4 => by simp (disch := omega) only [uI_ne, uI_k, uI_at, uA_ne, uA_at]) (fun r h1 h2 => by simp (disch := omega) only [uI_ne, uI_k, uI_at, uA_ne, uA_at]) (fun q hq => by simp (disch := omega) only [uI_ne, uI_k, uI_at, uA_ne, uA_at]) (Or.inr ⟨n, upd f i (Int8.toInt32 (Int32.toInt8 v)), hn, ⟨by simp (disch := omega) only [uI_ne, uI_k, uI_at, uA_ne, uA_at]; exact hC.1, fun q hq => ?_⟩, by simp (disch := omega) only [uI_ne, uI_k, uI_at, uA_ne, uA_at]; exact hM.1, fun q hq => ?_⟩) s2, SC_of (fun a ha => by simp (disch := omega) only [uI_ne, uI_k, uI_at, uA_ne, uA_at]) s3, SK_of (fun a ha => by simp (disch := omega) only [uI_ne, uI_k, uI_at, uA_ne, uA_at]) s4, ?_, s6, ⟨?_, fun f h1 h5 => ?_⟩, s8⟩
      · rw [show 30 + 2 * j + 1 = 31 + 2 * j by omega]
        by_cases e : q = i
        · subst e; simp (disch := omega) only [uI_ne, uI_k, uI_at, uA_ne, uA_at]; rw [pk_us]
        · rw [pk_un e]; simp (disch := omega) only [uI_ne, uI_k, uI_at, uA_ne, uA_at]; exact rc31 hC hq
      · by_cases e : q = i
        · subst e; simp (disch := omega) only [uI_ne, uI_k, uI_at, uA_ne, uA_at]; rw [pk_us]
        · rw [pk_un e]; simp (disch := omega) only [uI_ne, uI_k, uI_at, uA_ne, uA_at]; exact hM.2 q hq
      · unfold SA; simp (disch := omega) only [uI_ne, uI_k, uI_at, uA_ne, uA_at]; exact s5
      · simp (disch := omega) only [uI_ne, uI_k, uI_at, uA_ne, uA_at]; exact s7.1
      · simp (disch := omega) only [uI_ne, uI_k, uI_at, uA_ne, uA_at]; exact s7.2 f h1 h5
/-- the sum of a row's ints, as longs -/
def sumL (f : Nat → Int32) : Nat → Int64
  | 0 => 0
  | n + 1 => sumL f n + (f n).toInt64
theorem cTotal {h : MH} {a n : Nat} {f : Nat → Int32} (ha : shp a = (5, 0)) (hC : rowC h a n f) (hn : n ≤ 60) : f_X5_total h a = some (sumL f n) := by
  have e : f_X5_total_L4 h a 0 0 = some (sumL f n) := by
    unfold f_X5_total_L4
    refine lpo_for (fun i => (sumL f i, nI i)) n (fun i hi => ?_) ?_
    · unfold f_X5_total_B4
      dsimp only
      rw [hC.1, if_pos (nI_lt hi (by omega)), ix_n (by omega) (by decide), gd_t, nm_v, tn_n (by omega), rf_Row ha, hC.2 i hi, nI_s]
      rfl
    · unfold f_X5_total_B4
      dsimp only
      rw [hC.1, if_neg (nI_nlt (Nat.le_refl _) (by omega))]
  unfold f_X5_total
  rw [e, bd_s]
theorem mTotal {h : MH} {j n : Nat} {f : Nat → Int32} (hj : j < 6) (hM : rowM h 66 67 40 j n f) (hn : n ≤ 40) : f_X7_mean_L17 h (nI j) 0 0 = some (sumL f n) := by
  unfold f_X7_mean_L17
  refine lpo_for (fun i => (sumL f i, nI i)) n (fun i hi => ?_) ?_
  · unfold f_X7_mean_B17
    dsimp only
    rw [ix_n hj (by decide), gd_t, tn_n (by omega), hM.1, if_pos (nI_lt hi (by omega)), mRowAt hj (by omega), bd_s, hM.2 i hi, nm_v, nI_s]
    rfl
  · unfold f_X7_mean_B17
    dsimp only
    rw [ix_n hj (by decide), gd_t, tn_n (by omega), hM.1, if_neg (nI_nlt (Nat.le_refl _) (by omega))]
theorem nzL_n {n : Nat} (h0 : 0 < n) (hn : n ≤ 1000000) : nzL (nI n).toInt64 = true := by
  refine decide_eq_true (p := ¬ _) (fun q => ?_)
  rw [nI_l (by omega)] at q
  exact absurd ((lN_eq (a := n) (b := 0) (by omega) (by omega)).mp q) (by omega)
theorem nI0_ne {n : Nat} (h0 : 0 < n) (hn : n ≤ 1000000) : ¬ nI n = 0 := nI_ne0 h0 (by omega)
theorem op_mean {h : MH} (S : Sim h) (r : Int32) : Op (f_X6_mean h r) (fun h1 => f_X7_mean h1 r) := by
  rcases row_cases S.1 r with hr | ⟨j, hj, rfl, hr, ⟨m1, m2⟩ | ⟨n, f, hn, hC, hM⟩⟩
  · exact op_same S (v := -1) (by unfold f_X6_mean; rw [cIsRow, bd_s, hr, if_neg (by decide)]) (by show f_X7_mean h r = _; unfold f_X7_mean; rw [mAskRow_b hr, bnd2_s, if_pos (by decide)])
  · refine op_found S (f := 1) (by decide) (by decide) ?_ ?_
    · unfold f_X6_mean
      rw [cIsRow, bd_s, hr, if_pos rfl, ix_n hj (by decide), gd_t, tn_n (by omega), rf_rows hj, cMiss_t m1, bd_s, if_pos rfl]
      exact pF (by decide) (by decide)
    · show f_X7_mean (fd h 1) _ = _
      unfold f_X7_mean
      rw [mAskRow_m hj (by rw [fd_ne (by decide) (by decide)]; exact m2)]
      exact pB (by decide) (by decide)
  · by_cases h0 : n = 0
    · subst h0
      refine op_found S (f := 4) (by decide) (by decide) ?_ ?_
      · unfold f_X6_mean
        rw [cIsRow, bd_s, hr, if_pos rfl, ix_n hj (by decide), gd_t, tn_n (by omega), rf_rows hj, cMiss_f hC.1 (by omega), bd_s, if_neg (by decide), hC.1, if_pos (by decide)]
        exact pF (by decide) (by decide)
      · show f_X7_mean (fd h 4) _ = _
        have hM2 : rowM (fd h 4) 66 67 40 j 0 f := ⟨by rw [fd_ne (by decide) (by decide)]; exact hM.1, fun i hi => by omega⟩
        unfold f_X7_mean
        rw [mAskRow_o (n := 0) hj hM2.1 (by omega), bnd2_s, if_neg (by decide), mTotal hj hM2 (by omega), bd_s, ix_n hj (by decide), gd_t, tn_n (by omega), hM2.1, if_pos (by decide)]
        exact pM (by decide) (by decide)
    · refine ⟨1, uI h 0 9 (Int64.toInt32 (sumL f n / (nI n).toInt64)), uI (uI h 0 9 (Int64.toInt32 (sumL f n / (nI n).toInt64))) 64 2 (Int64.toInt32 (sumL f n / (nI n).toInt64)), ?_, ?_, sim_ask S _⟩
      · unfold f_X6_mean
        rw [cIsRow, bd_s, hr, if_pos rfl, ix_n hj (by decide), gd_t, tn_n (by omega), rf_rows hj, cMiss_f hC.1 (by omega), bd_s, if_neg (by decide), hC.1, if_neg (show ¬ nI n < 1 from (nI_nlt (a := n) (b := 1) (by omega) (by omega) : ¬ nI n < nI 1)), cTotal (sh_row hj) hC (by omega), bd_s, nzL_n (by omega) (by omega), gd_t, nm_v]
      · show f_X7_mean (uI h 0 9 (Int64.toInt32 (sumL f n / (nI n).toInt64))) _ = _
        have hM2 : rowM (uI h 0 9 (Int64.toInt32 (sumL f n / (nI n).toInt64))) 66 67 40 j n f := ⟨by rw [uI_ne (by decide)]; exact hM.1, fun i hi => by rw [uI_ne (by decide)]; exact hM.2 i hi⟩
        unfold f_X7_mean f_X7_ask
        rw [mAskRow_o (n := n) hj hM2.1 (by omega), bnd2_s, if_neg (by decide), mTotal hj hM2 (by omega), bd_s, ix_n hj (by decide), gd_t, tn_n (by omega), hM2.1, if_neg (nI0_ne (by omega) (by omega)), gd_t, nzL_n (by omega) (by omega), gd_t, nm_v, bnd2_s]
