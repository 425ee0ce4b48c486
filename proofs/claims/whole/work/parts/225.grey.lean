theorem btw_if {ρ : Type} {v lo hi : Int32} {A B : Option ρ} : (if v < lo then B else if hi < v then B else A) = if btw v lo hi = true then A else B := by
  unfold btw
  by_cases h1 : v < lo
  · simp [h1]
  · by_cases h2 : hi < v
    · simp [h1, h2]
    · simp [h1, h2]
theorem btw_N {v : Int32} {a b : Nat} (hb : b ≤ 1000000) (ha : a ≤ b) (e : btw v (nI a) (nI b) = true) : ∃ m, a ≤ m ∧ m ≤ b ∧ v = nI m := by
  obtain ⟨h1, h2⟩ := of_decide_eq_true (p := ¬ v < nI a ∧ ¬ nI b < v) e
  rw [Int32.lt_iff_toInt_lt, nI_toInt (by omega)] at h1
  rw [Int32.lt_iff_toInt_lt, nI_toInt (by omega)] at h2
  have h3 : ¬ v < 0 := by
    rw [Int32.lt_iff_toInt_lt, show (0 : Int32).toInt = 0 by decide]
    omega
  obtain ⟨m, hm, rfl⟩ := nI_of h3
  rw [nI_toInt hm] at h1 h2
  exact ⟨m, (by omega), (by omega), rfl⟩
theorem op_grey {h : MH} (S : Sim h) (c r w k : Int32) : Op (f_X6_grey h c r w k) (fun h1 => f_X7_grey h1 c r w k) := by
  rcases cov_cases c with hc | ⟨c, hc6, rfl, hc⟩
  · exact op_same S (v := -1) (by unfold f_X6_grey; rw [cIsCover, bd_s, hc, if_neg (by decide)]) (by show f_X7_grey h _ _ _ _ = _; unfold f_X7_grey; rw [mIsCover, bd_s, hc, if_neg (by decide)])
  rcases row_cases S.1 r with hr | ⟨j, hj, rfl, hr, R⟩
  · exact op_same S (v := -1) (by unfold f_X6_grey; rw [cIsCover, bd_s, hc, if_pos rfl, cIsRow, bd_s, hr, if_neg (by decide)]) (by show f_X7_grey h _ _ _ _ = _; unfold f_X7_grey; rw [mIsCover, bd_s, hc, if_pos rfl, mIsRow, bd_s, hr, if_neg (by decide)])
  cases hw : btw w 1 40 with
  | false => exact op_same S (v := -1) (by unfold f_X6_grey; rw [cIsCover, bd_s, hc, if_pos rfl, cIsRow, bd_s, hr, if_pos rfl, btw_if, hw, if_neg (by decide)]) (by show f_X7_grey h _ _ _ _ = _; unfold f_X7_grey; rw [mIsCover, bd_s, hc, if_pos rfl, mIsRow, bd_s, hr, if_pos rfl, mIn, bd_s, hw, if_neg (by decide)])
  | true =>
    obtain ⟨m, hm1, hm2, rfl⟩ := btw_N (a := 1) (b := 40) (by decide) (by decide) hw
    have cE : f_X6_grey h (nI c) (nI j) (nI m) k = if k = 0 then f_X6_drawn h (38 + 3 * c) (18 + 2 * j) 1 (nI m) else f_X6_drawn h (38 + 3 * c) (18 + 2 * j) 2 (nI m) := by
      unfold f_X6_grey
      rw [cIsCover, bd_s, hc, if_pos rfl, cIsRow, bd_s, hr, if_pos rfl, btw_if, hw, if_pos rfl, ix_n hc6 (by decide), gd_t, ix_n hj (by decide), gd_t, tn_n (by omega), tn_n (by omega), rf_covers hc6, rf_rows hj, bnd2_id, bnd2_id]
    have mE : ∀ x, f_X7_grey x (nI c) (nI j) (nI m) k = bnd2 (f_X7_askedDots x (nI j) 0) (fun r29 h29 => if r29 < 0 then some (r29, h29) else if k = 0 then f_X7_come (uI h29 75 c (nI m)) (nI c) 1 (nI j) else f_X7_come (uI h29 75 c (nI m)) (nI c) 2 (nI j)) := fun x => by
      unfold f_X7_grey
      rw [mIsCover, bd_s, hc, if_pos rfl, mIsRow, bd_s, hr, if_pos rfl, mIn, bd_s, hw, if_pos rfl, ix_n hc6 (by decide), tn_n (by omega)]
      simp only [bnd2_id]
      rfl
    by_cases k0 : k = 0
    · refine op_draw S (kd := 1) (w := m) (G := fun x => uI x 75 c (nI m)) hc6 hj (by decide) (by decide) R (Or.inr ⟨fun _ => rfl, (by decide), hm1, hm2⟩) (by rw [cE, if_pos k0]; rfl) (fun x => ?_)
      show f_X7_grey x _ _ _ _ = _
      rw [mE]
      simp only [if_pos k0]
      rfl
    · refine op_draw S (kd := 2) (w := m) (G := fun x => uI x 75 c (nI m)) hc6 hj (by decide) (by decide) R (Or.inr ⟨fun _ => rfl, (by decide), hm1, hm2⟩) (by rw [cE, if_neg k0]; rfl) (fun x => ?_)
      show f_X7_grey x _ _ _ _ = _
      rw [mE]
      simp only [if_neg k0]
      rfl
