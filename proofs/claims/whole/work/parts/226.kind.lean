theorem cover_cases {h : MH} (S : SC h) (c : Int32) : inR c 6 = false ∨ ∃ j, j < 6 ∧ c = nI j ∧ inR c 6 = true ∧ ((h.1 (38 + 3 * j) 3 = 0 ∧ h.1 71 j = 0) ∨ ∃ (kd n : Nat) (ds cs : Nat → Nat) (w wt : Nat), covK kd n ds cs w wt ∧ covC h (38 + 3 * j) kd n ds cs w wt ∧ covM h j kd n ds cs w wt) := by
  rcases cov_cases c with e | ⟨j, hj, rfl, e⟩
  · exact Or.inl e
  · exact Or.inr ⟨j, hj, rfl, e, S j hj⟩
theorem cMissC_t {h : MH} {a : Nat} (e : h.1 a 3 = 0) : f_X1_isMissing h a = some true := by
  unfold f_X1_isMissing
  rw [e, if_pos (by decide)]
theorem cMissC_f {h : MH} {a n : Nat} (e : h.1 a 3 = nI n) (h0 : 1 ≤ n) (hn : n ≤ 1000000) : f_X1_isMissing h a = some false := by
  unfold f_X1_isMissing
  rw [e, if_neg (show ¬ nI n < 1 from (nI_nlt h0 (by omega) : ¬ nI n < nI 1))]
theorem mAskCov_b {h : MH} {x : Int32} (hx : inR x 6 = false) : f_X7_askedCover h x = some (-1, h) := by
  unfold f_X7_askedCover
  rw [mIsCover, bd_s, hx, if_neg (by decide)]
theorem mAskCov_m {h : MH} {c : Nat} (hc : c < 6) (e : h.1 71 c = 0) : f_X7_askedCover h (nI c) = f_X7_meets h (nI 1) := by
  unfold f_X7_askedCover
  rw [mIsCover, bd_s, inR_n hc (by decide), if_pos rfl, ix_n hc (by decide), gd_t, tn_n (by omega), e, if_pos rfl]
  exact pM (by decide) (by decide)
theorem mAskCov_o {h : MH} {c n : Nat} (hc : c < 6) (e : h.1 71 c = nI n) (h0 : 1 ≤ n) (hn : n ≤ 1000000) : f_X7_askedCover h (nI c) = some (0, h) := by
  unfold f_X7_askedCover
  rw [mIsCover, bd_s, inR_n hc (by decide), if_pos rfl, ix_n hc (by decide), gd_t, tn_n (by omega), e, if_neg (nI0_ne h0 hn)]
theorem op_kind {h : MH} (S : Sim h) (c : Int32) : Op (f_X6_kind h c) (fun h1 => f_X7_kind h1 c) := by
  rcases cover_cases S.2.2.1 c with hc | ⟨c, hc6, rfl, hc, ⟨m1, m2⟩ | ⟨kd, n, ds, cs, w, wt, hK, hC, hM⟩⟩
  · exact op_same S (v := -1) (by unfold f_X6_kind; rw [cIsCover, bd_s, hc, if_neg (by decide)]) (by show f_X7_kind h _ = _; unfold f_X7_kind; rw [mAskCov_b hc, bnd2_s, if_pos (by decide)])
  · refine op_found S (f := 1) (by decide) (by decide) ?_ ?_
    · unfold f_X6_kind
      rw [cIsCover, bd_s, hc, if_pos rfl, ix_n hc6 (by decide), gd_t, tn_n (by omega), rf_covers hc6, cMissC_t m1, bd_s, if_pos rfl]
      exact pF (by decide) (by decide)
    · show f_X7_kind (fd h 1) _ = _
      unfold f_X7_kind
      rw [mAskCov_m hc6 (by rw [fd_ne (by decide) (by decide)]; exact m2), pB (by decide) (by decide)]
  · refine op_same S (v := nI kd) ?_ ?_
    · unfold f_X6_kind
      rw [cIsCover, bd_s, hc, if_pos rfl, ix_n hc6 (by decide), gd_t, tn_n (by omega), rf_covers hc6, cMissC_f hC.2.1 hK.1.1 (by have := hK.1.2.1; omega), bd_s, if_neg (by decide), gd_t, hC.1]
    · show f_X7_kind h _ = _
      unfold f_X7_kind
      rw [mAskCov_o hc6 hM.2.1 hK.1.1 (by have := hK.1.2.1; omega), bnd2_s, if_neg (by decide), ix_n hc6 (by decide), gd_t, tn_n (by omega), hM.1]
theorem op_drop {h : MH} (S : Sim h) (c : Int32) : Op (f_X6_drop h c) (fun h1 => f_X7_drop h1 c) := by
  rcases cover_cases S.2.2.1 c with hc | ⟨c, hc6, rfl, hc, ⟨m1, m2⟩ | ⟨kd, n, ds, cs, w, wt, hK, hC, hM⟩⟩
  · exact op_same S (v := -1) (by unfold f_X6_drop; rw [cIsCover, bd_s, hc, if_neg (by decide)]) (by show f_X7_drop h _ = _; unfold f_X7_drop; rw [mAskCov_b hc, bnd2_s, if_pos (by decide)])
  · refine op_found S (f := 1) (by decide) (by decide) ?_ ?_
    · unfold f_X6_drop
      rw [cIsCover, bd_s, hc, if_pos rfl, ix_n hc6 (by decide), gd_t, tn_n (by omega), rf_covers hc6, cMissC_t m1, bd_s, if_pos rfl]
      exact pF (by decide) (by decide)
    · show f_X7_drop (fd h 1) _ = _
      unfold f_X7_drop
      rw [mAskCov_m hc6 (by rw [fd_ne (by decide) (by decide)]; exact m2), pB (by decide) (by decide)]
  · have hn := hK.1.2.1
    refine ⟨1, uI h (38 + 3 * c) 3 0, uI (uI h (38 + 3 * c) 3 0) 71 c 0, ?_, ?_, ?_⟩
    · unfold f_X6_drop f_X1_lose
      rw [cIsCover, bd_s, hc, if_pos rfl, ix_n hc6 (by decide), gd_t, tn_n (by omega), rf_covers hc6, cMissC_f hC.2.1 hK.1.1 (by omega), bd_s, if_neg (by decide), gd_t, nm_v, bd_s]
    · show f_X7_drop (uI h (38 + 3 * c) 3 0) _ = _
      unfold f_X7_drop
      rw [mAskCov_o (n := n) hc6 (by rw [uI_ne (by omega)]; exact hM.2.1) hK.1.1 (by omega), bnd2_s, if_neg (by decide), ix_n hc6 (by decide), gd_t, tn_n (by omega), nm_v]
    · refine sim_cov hc6 S (fun a q1 q2 => by simp (disch := omega) only [uI_ne, uI_k, uI_at, uA_ne, uA_at]) rfl (fun a d ha hd => ?_) (fun a q ha hq => ?_) (Or.inl ⟨by simp (disch := omega) only [uI_ne, uI_k, uI_at, uA_ne, uA_at], by simp (disch := omega) only [uI_ne, uI_k, uI_at, uA_ne, uA_at]⟩)
      · rcases ha with rfl | rfl | rfl | rfl <;> simp (disch := omega) only [uI_ne, uI_k, uI_at, uA_ne, uA_at]
      · rcases ha with rfl | rfl <;> simp (disch := omega) only [uI_ne, uI_k, uI_at, uA_ne, uA_at]
