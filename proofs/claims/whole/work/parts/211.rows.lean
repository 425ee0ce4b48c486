theorem sim_ask {h : MH} (S : Sim h) (v : Int32) : Sim (uI (uI h 0 9 v) 64 2 v) := by
  obtain ⟨s1, s2, s3, s4, s5, s6, s7, s8⟩ := S
  refine ⟨SR_of (fun a ha => by simp (disch := omega) only [uI_ne, uI_k, uI_at, uA_ne, uA_at]) s1, STx_of (fun a ha => by simp (disch := omega) only [uI_ne, uI_k, uI_at, uA_ne, uA_at]) s2, SC_of (fun a ha => by simp (disch := omega) only [uI_ne, uI_k, uI_at, uA_ne, uA_at]) s3, SK_of (fun a ha => by simp (disch := omega) only [uI_ne, uI_k, uI_at, uA_ne, uA_at]) s4, ?_, s6, ⟨?_, fun f h1 h5 => ?_⟩, s8⟩
  · unfold SA; simp (disch := omega) only [uI_ne, uI_k, uI_at, uA_ne, uA_at]
  · simp (disch := omega) only [uI_ne, uI_k, uI_at, uA_ne, uA_at]; exact s7.1
  · simp (disch := omega) only [uI_ne, uI_k, uI_at, uA_ne, uA_at]; exact s7.2 f h1 h5
theorem cMiss_dec {h : MH} {a : Nat} : f_X5_isMissing h a = some (decide (h.1 a 1 < 0)) := by
  unfold f_X5_isMissing
  by_cases q : h.1 a 1 < 0 <;> simp [q]
/-- a call that looks for a row: refused, missing, or there -/
theorem row_cases {h : MH} (S : SR h) (r : Int32) : inR r 6 = false ∨ ∃ j, j < 6 ∧ r = nI j ∧ inR r 6 = true ∧ ((h.1 (18 + 2 * j) 1 = -1 ∧ h.1 66 j = -9) ∨ ∃ (n : Nat) (f : Nat → Int32), n ≤ 40 ∧ rowC h (18 + 2 * j) n f ∧ rowM h 66 67 40 j n f) := by
  cases hr : inR r 6 with
  | false => exact Or.inl rfl
  | true =>
    obtain ⟨j, hj, e⟩ := inR_t (by decide) hr
    exact Or.inr ⟨j, hj, e, rfl, S j hj⟩
theorem text_cases {h : MH} (S : STx h) (r : Int32) : inR r 4 = false ∨ ∃ j, j < 4 ∧ r = nI j ∧ inR r 4 = true ∧ ((h.1 (30 + 2 * j) 1 = -1 ∧ h.1 69 j = -9) ∨ ∃ (n : Nat) (f : Nat → Int32), n ≤ 60 ∧ rowC h (30 + 2 * j) n f ∧ rowM h 69 70 60 j n f) := by
  cases hr : inR r 4 with
  | false => exact Or.inl rfl
  | true =>
    obtain ⟨j, hj, e⟩ := inR_t (by decide) hr
    exact Or.inr ⟨j, hj, e, rfl, S j hj⟩
/-- behind a finding the answer is passed on -/
theorem pF {h : MH} {f : Nat} (h1 : 1 ≤ f) (h5 : f ≤ 5) : bnd2 (f_X6_found h (nI f)) (fun r h' => some (r, h')) = f_X6_found h (nI f) := by
  rw [cFound h1 h5]
  rfl
theorem pM {h : MH} {f : Nat} (h1 : 1 ≤ f) (h5 : f ≤ 5) : bnd2 (f_X7_meets h (nI f)) (fun r h' => some (r, h')) = f_X7_meets h (nI f) := by
  rw [mMeets h1 h5]
  rfl
/-- the reference's bar: what it finds is the answer -/
theorem pB {h : MH} {f : Nat} (h1 : 1 ≤ f) (h5 : f ≤ 5) {k : Int32 → MH → Option (Int32 × MH)} : bnd2 (f_X7_meets h (nI f)) (fun r h' => if r < 0 then some (r, h') else k r h') = f_X7_meets h (nI f) := by
  rw [mMeets h1 h5, bnd2_s, if_pos (by decide)]
theorem rc19 {h : MH} {j n i : Nat} {f : Nat → Int32} (hC : rowC h (18 + 2 * j) n f) (hi : i < n) : h.1 (19 + 2 * j) i = f i := by
  have := hC.2 i hi
  rwa [show 18 + 2 * j + 1 = 19 + 2 * j by omega] at this
theorem rc31 {h : MH} {j n i : Nat} {f : Nat → Int32} (hC : rowC h (30 + 2 * j) n f) (hi : i < n) : h.1 (31 + 2 * j) i = f i := by
  have := hC.2 i hi
  rwa [show 30 + 2 * j + 1 = 31 + 2 * j by omega] at this
theorem op_tear {h : MH} (S : Sim h) (r : Int32) : Op (f_X6_tear h r) (fun h1 => f_X7_tear h1 r) := by
  rcases row_cases S.1 r with hr | ⟨j, hj, rfl, hr, ⟨m1, m2⟩ | ⟨n, f, hn, hC, hM⟩⟩
  · exact op_same S (v := -1) (by unfold f_X6_tear; rw [cIsRow, bd_s, hr, if_neg (by decide)]) (by show f_X7_tear h r = _; unfold f_X7_tear; rw [mAskRow_b hr, bnd2_s, if_pos (by decide)])
  · refine op_found S (f := 1) (by decide) (by decide) ?_ ?_
    · unfold f_X6_tear
      rw [cIsRow, bd_s, hr, if_pos rfl, ix_n hj (by decide), gd_t, tn_n (by omega), rf_rows hj, cMiss_t m1, bd_s, if_pos rfl]
      exact pF (by decide) (by decide)
    · show f_X7_tear (fd h 1) _ = _
      unfold f_X7_tear
      rw [mAskRow_m hj (by rw [fd_ne (by decide) (by decide)]; exact m2)]
      exact pB (by decide) (by decide)
  · obtain ⟨s1, s2, s3, s4, s5, s6, s7, s8⟩ := S
    refine ⟨1, uI h (18 + 2 * j) 1 (-1), uI (uI h (18 + 2 * j) 1 (-1)) 66 j (-9), ?_, ?_, ?_⟩
    · unfold f_X6_tear
      rw [cIsRow, bd_s, hr, if_pos rfl, ix_n hj (by decide), gd_t, tn_n (by omega), rf_rows hj, cMiss_f hC.1 (by omega), bd_s, if_neg (by decide), gd_t]
      rfl
    · show f_X7_tear (uI h (18 + 2 * j) 1 (-1)) _ = _
      unfold f_X7_tear
      rw [mAskRow_o (n := n) hj (by rw [uI_ne (by omega)]; exact hM.1) (by omega), bnd2_s, if_neg (by decide), ix_n hj (by decide), gd_t, nm_v, tn_n (by omega)]
    · refine ⟨SR_upd (j := j) (fun a q1 q2 q3 q4 => by simp (disch := omega) only [uI_ne, uI_k, uI_at, uA_ne, uA_at]) (fun r h1 h2 => by simp (disch := omega) only [uI_ne, uI_k, uI_at, uA_ne, uA_at]) (fun q hq => by simp (disch := omega) only [uI_ne, uI_k, uI_at, uA_ne, uA_at]) (Or.inl ⟨by simp (disch := omega) only [uI_ne, uI_k, uI_at, uA_ne, uA_at], by simp (disch := omega) only [uI_ne, uI_k, uI_at, uA_ne, uA_at]⟩) s1, STx_of (fun a ha => by simp (disch := omega) only [uI_ne, uI_k, uI_at, uA_ne, uA_at]) s2, SC_of (fun a ha => by simp (disch := omega) only [uI_ne, uI_k, uI_at, uA_ne, uA_at]) s3, SK_of (fun a ha => by simp (disch := omega) only [uI_ne, uI_k, uI_at, uA_ne, uA_at]) s4, ?_, s6, ⟨?_, fun f h1 h5 => ?_⟩, s8⟩
      · unfold SA; simp (disch := omega) only [uI_ne, uI_k, uI_at, uA_ne, uA_at]; exact s5
      · simp (disch := omega) only [uI_ne, uI_k, uI_at, uA_ne, uA_at]; exact s7.1
      · simp (disch := omega) only [uI_ne, uI_k, uI_at, uA_ne, uA_at]; exact s7.2 f h1 h5
theorem op_at {h : MH} (S : Sim h) (r x : Int32) : Op (f_X6_at h r x) (fun h1 => f_X7_at h1 r x) := by
  rcases row_cases S.1 r with hr | ⟨j, hj, rfl, hr, ⟨m1, m2⟩ | ⟨n, f, hn, hC, hM⟩⟩
  · exact op_same S (v := -1) (by unfold f_X6_at; rw [cIsRow, bd_s, hr, if_neg (by decide)]) (by show f_X7_at h r x = _; unfold f_X7_at; rw [mAskRow_b hr, bnd2_s, if_pos (by decide)])
  · refine op_found S (f := 1) (by decide) (by decide) ?_ ?_
    · unfold f_X6_at
      rw [cIsRow, bd_s, hr, if_pos rfl, ix_n hj (by decide), gd_t, tn_n (by omega), rf_rows hj, cMiss_t m1, bd_s, if_pos rfl]
      exact pF (by decide) (by decide)
    · show f_X7_at (fd h 1) _ _ = _
      unfold f_X7_at
      rw [mAskRow_m hj (by rw [fd_ne (by decide) (by decide)]; exact m2)]
      exact pB (by decide) (by decide)
  · cases hx : inR x n with
    | false =>
      refine op_found S (f := 2) (by decide) (by decide) ?_ ?_
      · unfold f_X6_at
        rw [cIsRow, bd_s, hr, if_pos rfl, ix_n hj (by decide), gd_t, tn_n (by omega), rf_rows hj, cMiss_f hC.1 (by omega), bd_s, if_neg (by decide), cHas hC.1, bd_s, hx, if_neg (by decide)]
        exact pF (by decide) (by decide)
      · show f_X7_at (fd h 2) _ _ = _
        have e66 : (fd h 2).1 66 j = nI n := by rw [fd_ne (by decide) (by decide)]; exact hM.1
        unfold f_X7_at
        rw [mAskRow_o (n := n) hj e66 (by omega), bnd2_s, if_neg (by decide), ix_n hj (by decide), gd_t, tn_n (by omega), e66, mIn, bd_s, btw_pred (by omega), hx, if_neg (by decide)]
        exact pM (by decide) (by decide)
    | true =>
      obtain ⟨i, hi, rfl⟩ := inR_t (by omega) hx
      refine ⟨1, uI h 0 9 (f i), uI (uI h 0 9 (f i)) 64 2 (f i), ?_, ?_, sim_ask S _⟩
      · unfold f_X6_at
        rw [cIsRow, bd_s, hr, if_pos rfl, ix_n hj (by decide), gd_t, tn_n (by omega), rf_rows hj, cMiss_f hC.1 (by omega), bd_s, if_neg (by decide), cHas hC.1, bd_s, hx, if_pos rfl, cGet (sh_row hj) hC (by omega) hi, bd_s, nm_v]
      · show f_X7_at (uI h 0 9 (f i)) _ _ = _
        have e66 : (uI h 0 9 (f i)).1 66 j = nI n := by rw [uI_ne (by decide)]; exact hM.1
        unfold f_X7_at
        rw [mAskRow_o (n := n) hj e66 (by omega), bnd2_s, if_neg (by decide), ix_n hj (by decide), gd_t, tn_n (by omega), e66, mIn, bd_s, btw_pred (by omega), hx, if_pos rfl, mRowAt hj (by omega), bd_s, uI_ne (by decide), hM.2 i hi]
        rfl
theorem op_lay {h : MH} (S : Sim h) (r x v : Int32) : Op (f_X6_lay h r x v) (fun h1 => f_X7_lay h1 r x v) := by
  rcases row_cases S.1 r with hr | ⟨j, hj, rfl, hr, ⟨m1, m2⟩ | ⟨n, f, hn, hC, hM⟩⟩
  · refine op_same S (v := -1) (by unfold f_X6_lay; rw [cIsRow, bd_s, hr, if_neg (by decide)]) ?_
    show f_X7_lay h r x v = _
    unfold f_X7_lay f_X7_at
    rw [mAskRow_b hr, bnd2_s, if_pos (by decide), bnd2_s, if_pos (by decide)]
  · refine op_found S (f := 1) (by decide) (by decide) ?_ ?_
    · unfold f_X6_lay
      rw [cIsRow, bd_s, hr, if_pos rfl, ix_n hj (by decide), gd_t, tn_n (by omega), rf_rows hj, cMiss_t m1, bd_s, if_pos rfl]
      exact pF (by decide) (by decide)
    · show f_X7_lay (fd h 1) _ _ _ = _
      unfold f_X7_lay f_X7_at
      rw [mAskRow_m hj (by rw [fd_ne (by decide) (by decide)]; exact m2), pB (by decide) (by decide)]
      exact pB (by decide) (by decide)
  · cases hx : inR x n with
    | false =>
      refine op_found S (f := 2) (by decide) (by decide) ?_ ?_
      · unfold f_X6_lay
        rw [cIsRow, bd_s, hr, if_pos rfl, ix_n hj (by decide), gd_t, tn_n (by omega), rf_rows hj, cMiss_f hC.1 (by omega), bd_s, if_neg (by decide), cHas hC.1, bd_s, hx, if_neg (by decide)]
        exact pF (by decide) (by decide)
      · show f_X7_lay (fd h 2) _ _ _ = _
        have e66 : (fd h 2).1 66 j = nI n := by rw [fd_ne (by decide) (by decide)]; exact hM.1
        unfold f_X7_lay f_X7_at
        rw [mAskRow_o (n := n) hj e66 (by omega), bnd2_s, if_neg (by decide), ix_n hj (by decide), gd_t, tn_n (by omega), e66, mIn, bd_s, btw_pred (by omega), hx, if_neg (by decide), show (2 : Int32) = nI 2 from rfl, pM (by decide) (by decide)]
        exact pB (by decide) (by decide)
    | true =>
      obtain ⟨i, hi, rfl⟩ := inR_t (by omega) hx
      have e1 : f_X6_lay h (nI j) (nI i) v = some (1, uI (uI h 0 9 (f i)) (19 + 2 * j) i v) := by
        unfold f_X6_lay
        rw [cIsRow, bd_s, hr, if_pos rfl, ix_n hj (by decide), gd_t, tn_n (by omega), rf_rows hj, cMiss_f hC.1 (by omega), bd_s, if_neg (by decide), cHas hC.1, bd_s, hx, if_pos rfl, cGet (sh_row hj) hC (by omega) hi, bd_s, nm_v, cSet (n := n) (sh_row hj) (by rw [uI_ne (by omega)]; exact hC.1) (by omega) hi, bd_s, show 18 + 2 * j + 1 = 19 + 2 * j by omega]
      have e2 : f_X7_lay (uI (uI h 0 9 (f i)) (19 + 2 * j) i v) (nI j) (nI i) v = some (1, uI (uI (uI (uI h 0 9 (f i)) (19 + 2 * j) i v) 64 2 (f i)) 67 (40 * j + i) v) := by
        have e66 : (uI (uI h 0 9 (f i)) (19 + 2 * j) i v).1 66 j = nI n := by rw [uI_ne (by omega), uI_ne (by decide)]; exact hM.1
        have e67 : (uI (uI h 0 9 (f i)) (19 + 2 * j) i v).1 67 (40 * j + i) = f i := by rw [uI_ne (by omega), uI_ne (by decide)]; exact hM.2 i hi
        unfold f_X7_lay f_X7_at f_X7_ask
        rw [mAskRow_o (n := n) hj e66 (by omega), bnd2_s, if_neg (by decide), ix_n hj (by decide), gd_t, tn_n (by omega), e66, mIn, bd_s, btw_pred (by omega), hx, if_pos rfl, mRowAt hj (by omega), bd_s, e67, nm_v, bnd2_s, bnd2_s, if_neg (by decide), lin40, ix_n (by omega) (by decide), gd_t, nm_v, tn_n (by omega)]
      obtain ⟨s1, s2, s3, s4, s5, s6, s7, s8⟩ := S
      refine ⟨1, _, _, e1, e2, ?_⟩
      refine ⟨SR_upd (j := j) (fun a q1 q2 q3 q4 => by simp (disch := omega) only [uI_ne, uI_k, uI_at, uA_ne, uA_at]) (fun r h1 h2 => by simp (disch := omega) only [uI_ne, uI_k, uI_at, uA_ne, uA_at]) (fun q hq => by simp (disch := omega) only [uI_ne, uI_k, uI_at, uA_ne, uA_at]) (Or.inr ⟨n, upd f i v, hn, ⟨by simp (disch := omega) only [uI_ne, uI_k, uI_at, uA_ne, uA_at]; exact hC.1, fun q hq => ?_⟩, by simp (disch := omega) only [uI_ne, uI_k, uI_at, uA_ne, uA_at]; exact hM.1, fun q hq => ?_⟩) s1, STx_of (fun a ha => by simp (disch := omega) only [uI_ne, uI_k, uI_at, uA_ne, uA_at]) s2, SC_of (fun a ha => by simp (disch := omega) only [uI_ne, uI_k, uI_at, uA_ne, uA_at]) s3, SK_of (fun a ha => by simp (disch := omega) only [uI_ne, uI_k, uI_at, uA_ne, uA_at]) s4, ?_, s6, ⟨?_, fun f h1 h5 => ?_⟩, s8⟩
      · rw [show 18 + 2 * j + 1 = 19 + 2 * j by omega]
        by_cases e : q = i
        · subst e; simp (disch := omega) only [uI_ne, uI_k, uI_at, uA_ne, uA_at]; rw [pk_us]
        · rw [pk_un e]; simp (disch := omega) only [uI_ne, uI_k, uI_at, uA_ne, uA_at]; exact rc19 hC hq
      · by_cases e : q = i
        · subst e; simp (disch := omega) only [uI_ne, uI_k, uI_at, uA_ne, uA_at]; rw [pk_us]
        · rw [pk_un e]; simp (disch := omega) only [uI_ne, uI_k, uI_at, uA_ne, uA_at]; exact hM.2 q hq
      · unfold SA; simp (disch := omega) only [uI_ne, uI_k, uI_at, uA_ne, uA_at]
      · simp (disch := omega) only [uI_ne, uI_k, uI_at, uA_ne, uA_at]; exact s7.1
      · simp (disch := omega) only [uI_ne, uI_k, uI_at, uA_ne, uA_at]; exact s7.2 f h1 h5
