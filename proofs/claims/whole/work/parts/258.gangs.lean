theorem op_makes {h : MH} (S : Sim h) (r g y : Int32) : Op (f_X6_makes h r g y) (fun h1 => f_X7_makes h1 r g y) := by
  by_cases g1 : g < 1
  · refine op_same S (v := -1) ?_ ?_
    · unfold f_X6_makes
      rw [cIsRow, bd_s, if_pos g1]
      cases inR r 6 <;> rfl
    · show f_X7_makes h _ _ _ = _
      unfold f_X7_makes
      rw [if_pos g1]
  cases hy : btw y 0 4095 with
  | false =>
    refine op_same S (v := -1) ?_ ?_
    · unfold f_X6_makes
      rw [cIsRow, bd_s, if_neg g1, cIsCopy, bd_s, hy]
      cases inR r 6 <;> rfl
    · show f_X7_makes h _ _ _ = _
      unfold f_X7_makes
      rw [if_neg g1, mIsName, bd_s, hy]
      rfl
  | true =>
  rcases row_cases S.1 r with hr | ⟨j, hj, rfl, hr, ⟨m1, m2⟩ | ⟨n, f, hn, hC, hM⟩⟩
  · exact op_same S (v := -1) (by unfold f_X6_makes; rw [cIsRow, bd_s, hr, if_neg (by decide)]) (by show f_X7_makes h _ _ _ = _; unfold f_X7_makes; rw [if_neg g1, mIsName, bd_s, hy, if_pos rfl, mAskNames_b hr, bnd2_s, if_pos (by decide)])
  · refine op_found S (f := 1) (by decide) (by decide) ?_ ?_
    · unfold f_X6_makes
      rw [cIsRow, bd_s, hr, if_pos rfl, if_neg g1, cIsCopy, bd_s, hy, if_pos rfl, ix_n hj (by decide), gd_t, tn_n (by omega), rf_rows hj, cMiss_t m1, bd_s, if_pos rfl]
      exact pF (by decide) (by decide)
    · show f_X7_makes (fd h 1) _ _ _ = _
      unfold f_X7_makes
      rw [if_neg g1, mIsName, bd_s, hy, if_pos rfl, mAskNames_m hj (by rw [fd_ne (by decide) (by decide)]; exact m2), pB (by decide) (by decide)]
  by_cases hz : n < 1 ∨ 10 < n
  · refine op_found S (f := 5) (by decide) (by decide) ?_ ?_
    · unfold f_X6_makes
      rw [cIsRow, bd_s, hr, if_pos rfl, if_neg g1, cIsCopy, bd_s, hy, if_pos rfl, ix_n hj (by decide), gd_t, tn_n (by omega), rf_rows hj, cMiss_f hC.1 (by omega), bd_s, if_neg (by decide), cWrong_s hC.1 (by omega) hz, bd_s, if_neg (by decide)]
      exact pF (by decide) (by decide)
    · show f_X7_makes (fd h 5) _ _ _ = _
      unfold f_X7_makes
      rw [if_neg g1, mIsName, bd_s, hy, if_pos rfl, mAskNames_s (n := n) hj (by rw [fd_ne (by decide) (by decide)]; exact hM.1) (by omega) hz, pB (by decide) (by decide)]
  have n1 : 1 ≤ n := (by omega)
  have n10 : n ≤ 10 := (by omega)
  cases ok : nmOk f n with
  | false =>
    refine op_found S (f := 3) (by decide) (by decide) ?_ ?_
    · unfold f_X6_makes
      rw [cIsRow, bd_s, hr, if_pos rfl, if_neg g1, cIsCopy, bd_s, hy, if_pos rfl, ix_n hj (by decide), gd_t, tn_n (by omega), rf_rows hj, cMiss_f hC.1 (by omega), bd_s, if_neg (by decide), cWrong (sh_row hj) hC n1 n10, ok, if_neg (by decide), bd_s, if_neg (by decide)]
      exact pF (by decide) (by decide)
    · show f_X7_makes (fd h 3) _ _ _ = _
      unfold f_X7_makes
      rw [if_neg g1, mIsName, bd_s, hy, if_pos rfl, mAskNames hj (rowM_of (fd_ne (by decide) (by decide)) (fd_ne (by decide) (by decide)) hM) n1 n10, ok, if_neg (by decide), pB (by decide) (by decide)]
  | true =>
    by_cases lt : g < shl 1 (nI n)
    · refine op_same S (v := if cmB g y (fun i => (f i).toNatClampNeg) n = true then 1 else 0) ?_ ?_
      · unfold f_X6_makes
        rw [cIsRow, bd_s, hr, if_pos rfl, if_neg g1, cIsCopy, bd_s, hy, if_pos rfl, ix_n hj (by decide), gd_t, tn_n (by omega), rf_rows hj, cMiss_f hC.1 (by omega), bd_s, if_neg (by decide), cWrong (sh_row hj) hC n1 n10, ok, if_pos rfl, bd_s, if_pos rfl, hC.1, if_pos lt, cCanMake (sh_row hj) hC hn ok, bd_s]
        cases cmB g y (fun i => (f i).toNatClampNeg) n <;> rfl
      · show f_X7_makes h _ _ _ = _
        unfold f_X7_makes
        rw [if_neg g1, mIsName, bd_s, hy, if_pos rfl, mAskNames hj hM n1 n10, ok, if_pos rfl, bnd2_s, if_neg (by decide), ix_n hj (by decide), gd_t, tn_n (by omega), hM.1, if_pos lt, mCanMake hj hM hn ok, bd_s]
        cases cmB g y (fun i => (f i).toNatClampNeg) n <;> rfl
    · refine op_same S (v := -1) ?_ ?_
      · unfold f_X6_makes
        rw [cIsRow, bd_s, hr, if_pos rfl, if_neg g1, cIsCopy, bd_s, hy, if_pos rfl, ix_n hj (by decide), gd_t, tn_n (by omega), rf_rows hj, cMiss_f hC.1 (by omega), bd_s, if_neg (by decide), cWrong (sh_row hj) hC n1 n10, ok, if_pos rfl, bd_s, if_pos rfl, hC.1, if_neg lt]
      · show f_X7_makes h _ _ _ = _
        unfold f_X7_makes
        rw [if_neg g1, mIsName, bd_s, hy, if_pos rfl, mAskNames hj hM n1 n10, ok, if_pos rfl, bnd2_s, if_neg (by decide), ix_n hj (by decide), gd_t, tn_n (by omega), hM.1, if_neg lt]
/-! the gangs counted -/
def gqS (m : Nat) (C : Int32) (f : Nat → Nat) (n : Nat) (v0 : Int32) : Nat → Nat × Int32
  | 0 => (0, v0)
  | t + 1 => if m < pop (t + 1) then gqS m C f n v0 t else if cmB (nI (t + 1)) C f n = true then ((gqS m C f n v0 t).1 + 1, (gqS m C f n v0 t).2 &&& nI (t + 1)) else gqS m C f n v0 t
theorem gqS_le {m : Nat} {C : Int32} {f : Nat → Nat} {n : Nat} {v0 : Int32} : ∀ t, (gqS m C f n v0 t).1 ≤ t
  | 0 => Nat.le_refl _
  | t + 1 => by
    have ih := gqS_le (m := m) (C := C) (f := f) (n := n) (v0 := v0) t
    unfold gqS
    split
    · omega
    · split
      · show (gqS m C f n v0 t).1 + 1 ≤ t + 1
        omega
      · omega
theorem pw10 {n : Nat} (hn : n ≤ 10) : 2 ^ n ≤ 1024 := Nat.pow_le_pow_right (n := 2) (by decide) hn
theorem shl1 {n : Nat} (hn : n ≤ 10) : shl 1 (nI n) = nI (2 ^ n) := by
  have := pw10 hn
  have e := N_shl (a := 1) (k := n) (by omega) (by rw [Nat.one_mul]; omega)
  rw [Nat.one_mul] at e
  exact e
section GUILTY
variable {h : MH} {a r n m : Nat} {f : Nat → Int32} {C v0 : Int32}
theorem cGuiltyL (ha : shp a = (5, 0)) (hC : rowC h a n f) (hm : m ≤ 4) (n10 : n ≤ 10) (ok : nmOk f n = true) : f_X6_guilty_L85 h (nI m) C a 0 v0 1 = some (nI (gqS m C (fun i => (f i).toNatClampNeg) n v0 (2 ^ n - 1)).1, (gqS m C (fun i => (f i).toNatClampNeg) n v0 (2 ^ n - 1)).2) := by
  have p := pw10 n10
  have p1 := Nat.two_pow_pos n
  unfold f_X6_guilty_L85
  rw [show ((0 : Int32), v0, (1 : Int32)) = (nI (gqS m C (fun i => (f i).toNatClampNeg) n v0 0).1, (gqS m C (fun i => (f i).toNatClampNeg) n v0 0).2, nI (0 + 1)) from rfl]
  refine lpo_for (fun t => (nI (gqS m C (fun i => (f i).toNatClampNeg) n v0 t).1, (gqS m C (fun i => (f i).toNatClampNeg) n v0 t).2, nI (t + 1))) (2 ^ n - 1) (fun t ht => ?_) ?_
  · (try dsimp only)
    have e : gqS m C (fun i => (f i).toNatClampNeg) n v0 (t + 1) = if m < pop (t + 1) then gqS m C (fun i => (f i).toNatClampNeg) n v0 t else if cmB (nI (t + 1)) C (fun i => (f i).toNatClampNeg) n = true then ((gqS m C (fun i => (f i).toNatClampNeg) n v0 t).1 + 1, (gqS m C (fun i => (f i).toNatClampNeg) n v0 t).2 &&& nI (t + 1)) else gqS m C (fun i => (f i).toNatClampNeg) n v0 t := rfl
    have pl := pop_le (v := t + 1) (by omega)
    unfold f_X6_guilty_B85
    rw [e, hC.1, shl1 n10, if_pos (nI_lt (by omega) (by omega)), cPop (by omega), bd_s, cCanMake ha hC (by omega) ok, bd_s, nm_v, nI_s, nI_s]
    by_cases q : m < pop (t + 1)
    · rw [if_pos (nI_lt q (by omega)), if_pos q]
    · rw [if_neg (nI_nlt (by omega) (by omega)), if_neg q]
      cases cmB (nI (t + 1)) C (fun i => (f i).toNatClampNeg) n <;> rfl
  · (try dsimp only)
    unfold f_X6_guilty_B85
    rw [hC.1, shl1 n10, if_neg (nI_nlt (by omega) (by omega))]
theorem mGuiltyL (hr : r < 6) (hM : rowM h 66 67 40 r n f) (hm : m ≤ 4) (n10 : n ≤ 10) (ok : nmOk f n = true) : f_X7_guilty_L51 h (nI r) (nI m) C 0 v0 1 = some (nI (gqS m C (fun i => (f i).toNatClampNeg) n v0 (2 ^ n - 1)).1, (gqS m C (fun i => (f i).toNatClampNeg) n v0 (2 ^ n - 1)).2) := by
  have p := pw10 n10
  have p1 := Nat.two_pow_pos n
  unfold f_X7_guilty_L51
  rw [show ((0 : Int32), v0, (1 : Int32)) = (nI (gqS m C (fun i => (f i).toNatClampNeg) n v0 0).1, (gqS m C (fun i => (f i).toNatClampNeg) n v0 0).2, nI (0 + 1)) from rfl]
  refine lpo_for (fun t => (nI (gqS m C (fun i => (f i).toNatClampNeg) n v0 t).1, (gqS m C (fun i => (f i).toNatClampNeg) n v0 t).2, nI (t + 1))) (2 ^ n - 1) (fun t ht => ?_) ?_
  · (try dsimp only)
    have e : gqS m C (fun i => (f i).toNatClampNeg) n v0 (t + 1) = if m < pop (t + 1) then gqS m C (fun i => (f i).toNatClampNeg) n v0 t else if cmB (nI (t + 1)) C (fun i => (f i).toNatClampNeg) n = true then ((gqS m C (fun i => (f i).toNatClampNeg) n v0 t).1 + 1, (gqS m C (fun i => (f i).toNatClampNeg) n v0 t).2 &&& nI (t + 1)) else gqS m C (fun i => (f i).toNatClampNeg) n v0 t := rfl
    have pl := pop_le (v := t + 1) (by omega)
    unfold f_X7_guilty_B51
    rw [e, ix_n hr (by decide), gd_t, tn_n (by omega), hM.1, shl1 n10, if_pos (nI_lt (by omega) (by omega)), mPop (by omega), bd_s, mCanMake hr hM (by omega) ok, bd_s, nm_v, nI_s, nI_s]
    by_cases q : m < pop (t + 1)
    · rw [if_pos (nI_lt q (by omega)), if_pos q]
    · rw [if_neg (nI_nlt (by omega) (by omega)), if_neg q]
      cases cmB (nI (t + 1)) C (fun i => (f i).toNatClampNeg) n <;> rfl
  · (try dsimp only)
    unfold f_X7_guilty_B51
    rw [ix_n hr (by decide), gd_t, tn_n (by omega), hM.1, shl1 n10, if_neg (nI_nlt (by omega) (by omega))]
end GUILTY
theorem op_guilty {h : MH} (S : Sim h) (r g y : Int32) : Op (f_X6_guilty h r g y) (fun h1 => f_X7_guilty h1 r g y) := by
  cases hg : btw g 1 4 with
  | false =>
    refine op_same S (v := -1) ?_ ?_
    · unfold f_X6_guilty
      rw [cIsRow, bd_s, btw_if, hg]
      cases inR r 6 <;> rfl
    · show f_X7_guilty h _ _ _ = _
      unfold f_X7_guilty
      rw [mIn, bd_s, hg]
      rfl
  | true =>
  cases hy : btw y 0 4095 with
  | false =>
    refine op_same S (v := -1) ?_ ?_
    · unfold f_X6_guilty
      rw [cIsRow, bd_s, btw_if, hg, if_pos rfl, cIsCopy, bd_s, hy]
      cases inR r 6 <;> rfl
    · show f_X7_guilty h _ _ _ = _
      unfold f_X7_guilty
      rw [mIn, bd_s, hg, if_pos rfl, mIsName, bd_s, hy]
      rfl
  | true =>
  obtain ⟨m, hm1, hm, rfl⟩ := btw_N (a := 1) (b := 4) (by decide) (by decide) hg
  rcases row_cases S.1 r with hr | ⟨j, hj, rfl, hr, ⟨m1, m2⟩ | ⟨n, f, hn, hC, hM⟩⟩
  · exact op_same S (v := -1) (by unfold f_X6_guilty; rw [cIsRow, bd_s, hr, if_neg (by decide)]) (by show f_X7_guilty h _ _ _ = _; unfold f_X7_guilty; rw [mIn, bd_s, hg, if_pos rfl, mIsName, bd_s, hy, if_pos rfl, mAskNames_b hr, bnd2_s, if_pos (by decide)])
  · refine op_found S (f := 1) (by decide) (by decide) ?_ ?_
    · unfold f_X6_guilty
      rw [cIsRow, bd_s, hr, if_pos rfl, btw_if, hg, if_pos rfl, cIsCopy, bd_s, hy, if_pos rfl, ix_n hj (by decide), gd_t, tn_n (by omega), rf_rows hj, cMiss_t m1, bd_s, if_pos rfl]
      exact pF (by decide) (by decide)
    · show f_X7_guilty (fd h 1) _ _ _ = _
      unfold f_X7_guilty
      rw [mIn, bd_s, hg, if_pos rfl, mIsName, bd_s, hy, if_pos rfl, mAskNames_m hj (by rw [fd_ne (by decide) (by decide)]; exact m2), pB (by decide) (by decide)]
  by_cases hz : n < 1 ∨ 10 < n
  · refine op_found S (f := 5) (by decide) (by decide) ?_ ?_
    · unfold f_X6_guilty
      rw [cIsRow, bd_s, hr, if_pos rfl, btw_if, hg, if_pos rfl, cIsCopy, bd_s, hy, if_pos rfl, ix_n hj (by decide), gd_t, tn_n (by omega), rf_rows hj, cMiss_f hC.1 (by omega), bd_s, if_neg (by decide), cWrong_s hC.1 (by omega) hz, bd_s, if_neg (by decide)]
      exact pF (by decide) (by decide)
    · show f_X7_guilty (fd h 5) _ _ _ = _
      unfold f_X7_guilty
      rw [mIn, bd_s, hg, if_pos rfl, mIsName, bd_s, hy, if_pos rfl, mAskNames_s (n := n) hj (by rw [fd_ne (by decide) (by decide)]; exact hM.1) (by omega) hz, pB (by decide) (by decide)]
  have n1 : 1 ≤ n := (by omega)
  have n10 : n ≤ 10 := (by omega)
  cases ok : nmOk f n with
  | false =>
    refine op_found S (f := 3) (by decide) (by decide) ?_ ?_
    · unfold f_X6_guilty
      rw [cIsRow, bd_s, hr, if_pos rfl, btw_if, hg, if_pos rfl, cIsCopy, bd_s, hy, if_pos rfl, ix_n hj (by decide), gd_t, tn_n (by omega), rf_rows hj, cMiss_f hC.1 (by omega), bd_s, if_neg (by decide), cWrong (sh_row hj) hC n1 n10, ok, if_neg (by decide), bd_s, if_neg (by decide)]
      exact pF (by decide) (by decide)
    · show f_X7_guilty (fd h 3) _ _ _ = _
      unfold f_X7_guilty
      rw [mIn, bd_s, hg, if_pos rfl, mIsName, bd_s, hy, if_pos rfl, mAskNames hj (rowM_of (fd_ne (by decide) (by decide)) (fd_ne (by decide) (by decide)) hM) n1 n10, ok, if_neg (by decide), pB (by decide) (by decide)]
  | true =>
    have p := pw10 n10
    have le := gqS_le (m := m) (C := y) (f := fun i => (f i).toNatClampNeg) (n := n) (v0 := shl 1 (nI n) - 1) (2 ^ n - 1)
    have e1 := cGuiltyL (C := y) (v0 := shl 1 (nI n) - 1) (sh_row hj) hC hm n10 ok
    have e2 : ∀ x : MH, rowM x 66 67 40 j n f → _ := fun x hX => mGuiltyL (C := y) (v0 := shl 1 (nI n) - 1) (h := x) hj hX hm n10 ok
    generalize gqS m y (fun i => (f i).toNatClampNeg) n (shl 1 (nI n) - 1) (2 ^ n - 1) = q at e1 e2 le
    obtain ⟨v, hv⟩ : ∃ v : Int32, v = if 0 < q.1 then q.2 else 0 := ⟨_, rfl⟩
    refine ⟨nI q.1, uI h 0 9 v, uI (uI h 0 9 v) 64 2 v, ?_, ?_, sim_ask S _⟩
    · unfold f_X6_guilty
      rw [cIsRow, bd_s, hr, if_pos rfl, btw_if, hg, if_pos rfl, cIsCopy, bd_s, hy, if_pos rfl, ix_n hj (by decide), gd_t, tn_n (by omega), rf_rows hj, cMiss_f hC.1 (by omega), bd_s, if_neg (by decide), cWrong (sh_row hj) hC n1 n10, ok, if_pos rfl, bd_s, if_pos rfl, hC.1, nm_v, e1, bd_s, nm_v, nm_v]
      (try dsimp only)
      by_cases z : 0 < q.1
      · rw [if_pos (show 0 < nI q.1 from (nI_lt z (by omega) : nI 0 < nI q.1)), hv, if_pos z]
      · rw [if_neg (show ¬ 0 < nI q.1 from (nI_nlt (show q.1 ≤ 0 by omega) (by decide) : ¬ nI 0 < nI q.1)), hv, if_neg z]
    · show f_X7_guilty (uI h 0 9 v) _ _ _ = _
      have hM2 : rowM (uI h 0 9 v) 66 67 40 j n f := rowM_of (uI_ne (by decide)) (uI_ne (by decide)) hM
      unfold f_X7_guilty f_X7_ask
      rw [mIn, bd_s, hg, if_pos rfl, mIsName, bd_s, hy, if_pos rfl, mAskNames hj hM2 n1 n10, ok, if_pos rfl, bnd2_s, if_neg (by decide), ix_n hj (by decide), gd_t, tn_n (by omega), hM2.1, nm_v, e2 _ hM2, bd_s, nm_v, nm_v, bnd2_s, bnd2_s]
      (try dsimp only)
      by_cases z : 0 < q.1
      · rw [if_neg (nI0_ne z (by omega)), hv, if_pos z]
      · rw [if_pos (show nI q.1 = 0 by rw [show q.1 = 0 by omega]; rfl), hv, if_neg z]
