theorem pop_cs {s w : Nat} (hw : w ≤ 12) (hs : s < 2 ^ w) : pop s = csT (fun _ => 1) s w := by
  unfold pop
  have e := sumN_split (fun i => s / 2 ^ i % 2) w (31 - w)
  rw [show w + (31 - w) = 31 by omega] at e
  rw [e, sumN_0 (g := fun i => s / 2 ^ (w + i) % 2) (fun i hi => by
    rw [tb01, tb_lt (Nat.lt_of_lt_of_le hs (Nat.pow_le_pow_right (by decide) (Nat.le_add_right w i)))]
    rfl)]
  exact sumN_congr (fun i hi => tb01)
theorem nd_dp {ls : Nat → Nat} {k w t : Nat} (hK : codK k w ls) : ndB ls k t (2 ^ w) = if (d1 ls k w).1 t = 1000000 then none else some ((d1 ls k w).2 t, (d1 ls k w).1 t) := by
  have w12 := hK.1.2.2.2
  refine dp_br (dp_inv w12 (fun q hq => (by decide)) t) (fun s hs => ?_) (fun s hs => pop_cs w12 hs)
  constructor
  · intro z
    have z := of_decide_eq_true z
    rw [sm_sy w12 hK.2] at z
    exact ⟨⟨hs, fun q hq => rfl⟩, z⟩
  · intro z
    refine decide_eq_true ?_
    rw [sm_sy w12 hK.2]
    exact z.2
def cR (C : Nat → Nat) (t : Nat) : Nat := if C t = 1000000 then 0 else 1
def cT (C : Nat → Nat) (t : Nat) : Nat := if C t = 1000000 then 0 else C t
def mxN (f : Nat → Nat) : Nat → Nat
  | 0 => 0
  | i + 1 => if mxN f i < f i then f i else mxN f i
theorem mxN_le {f : Nat → Nat} {b : Nat} (e : ∀ i, f i ≤ b) : ∀ n, mxN f n ≤ b
  | 0 => Nat.zero_le b
  | n + 1 => by
    show (if mxN f n < f n then f n else mxN f n) ≤ b
    have := e n
    have := mxN_le e n
    split <;> omega
theorem d1_le {ls : Nat → Nat} {k w t : Nat} (hK : codK k w ls) : cT (d1 ls k w).1 t ≤ 12 := by
  have w12 := hK.1.2.2.2
  unfold cT
  by_cases z : (d1 ls k w).1 t = 1000000
  · rw [if_pos z]
    exact Nat.zero_le _
  · rw [if_neg z]
    exact nd_le (pw12 w12) (by rw [nd_dp hK, if_neg z])
theorem nd_n {ls : Nat → Nat} {k w : Nat} (hK : codK k w ls) : sumN (fun t => ndC (ndB ls k t (2 ^ w))) 64 = sumN (cR (d1 ls k w).1) 64 := sumN_congr (fun t ht => by
  rw [nd_dp hK]
  unfold cR
  by_cases z : (d1 ls k w).1 t = 1000000
  · rw [if_pos z, if_pos z]
    rfl
  · rw [if_neg z, if_neg z]
    rfl)
theorem d1_0 {ls : Nat → Nat} {k w : Nat} (hK : codK k w ls) : (d1 ls k w).1 0 ≠ 1000000 :=
  ((dp_inv hK.1.2.2.2 (fun q hq => (by decide)) 0).2 0 ⟨Nat.two_pow_pos w, fun q hq => rfl⟩ (by
    have : ∀ j, syX ls k 0 j = 0 := fun j => by
      induction j with
      | zero => rfl
      | succ j ih =>
        unfold syX
        rw [Nat.zero_testBit, if_neg (by decide), ih]
    exact this w)).1
theorem d1_n {ls : Nat → Nat} {k w : Nat} (hK : codK k w ls) : 1 ≤ sumN (cR (d1 ls k w).1) 64 ∧ sumN (cR (d1 ls k w).1) 64 ≤ 64 := by
  have e : sumN (cR (d1 ls k w).1) 64 = cR (d1 ls k w).1 0 + sumN (fun q => cR (d1 ls k w).1 (q + 1)) 63 := sumN_shift _ 63
  have l := sumN_le (g := cR (d1 ls k w).1) (b := 1) (n := 64) (fun j hj => by unfold cR; split <;> omega)
  rw [show cR (d1 ls k w).1 0 = 1 from if_neg (d1_0 hK)] at e
  omega
section REACH
variable {h : MH} {C W : Nat → Nat}
theorem cReached (hC : ∀ t, C t ≤ 1000000) (D : ∀ t, t < 64 → setE h t (C t) (W t)) : f_X3_countReached h = some (nI (sumN (cR C) 64)) := by
  have key : f_X3_countReached_L13 h 0 64 0 = some (nI (sumN (cR C) 64)) := by
    unfold f_X3_countReached_L13
    refine lpo_sum (cR C) 64 (fun i v hi => ?_) (fun v => ?_)
    · (try dsimp only)
      have c1 := hC i
      unfold f_X3_countReached_B13 cR
      rw [if_pos (show nI i < 64 from (nI_lt hi (by decide) : nI i < nI 64)), ix_n hi (by decide), gd_t, nm_v, tn_n (by omega), (D i hi).1, nI_s]
      by_cases z : C i = 1000000
      · rw [if_pos z, if_pos (show nI (C i) = 1000000 by rw [z]; rfl)]
        rfl
      · rw [if_neg z, if_neg (show ¬ nI (C i) = 1000000 from fun y => z ((nI_eq (b := 1000000) (by omega) (by decide)).mp y)), nI_s]
    · (try dsimp only)
      unfold f_X3_countReached_B13
      rw [if_neg (by decide)]
  unfold f_X3_countReached
  rw [key, bd_s]
theorem cSumCosts (hC : ∀ t, C t ≤ 1000000) (D : ∀ t, t < 64 → setE h t (C t) (W t)) : f_X3_sumOfCosts h = some (nI (sumN (cT C) 64)) := by
  have key : f_X3_sumOfCosts_L13 h 0 64 0 = some (nI (sumN (cT C) 64)) := by
    unfold f_X3_sumOfCosts_L13
    refine lpo_sum (cT C) 64 (fun i v hi => ?_) (fun v => ?_)
    · (try dsimp only)
      have c1 := hC i
      unfold f_X3_sumOfCosts_B13 cT
      rw [if_pos (show nI i < 64 from (nI_lt hi (by decide) : nI i < nI 64)), ix_n hi (by decide), gd_t, nm_v, tn_n (by omega), (D i hi).1, nI_s]
      by_cases z : C i = 1000000
      · rw [if_pos z, if_pos (show nI (C i) = 1000000 by rw [z]; rfl)]
        rfl
      · rw [if_neg z, if_neg (show ¬ nI (C i) = 1000000 from fun y => z ((nI_eq (b := 1000000) (by omega) (by decide)).mp y)), nm_v, nI_add]
    · (try dsimp only)
      unfold f_X3_sumOfCosts_B13
      rw [if_neg (by decide)]
  unfold f_X3_sumOfCosts
  rw [key, bd_s]
theorem cMost (hC : ∀ t, C t ≤ 1000000) (D : ∀ t, t < 64 → setE h t (C t) (W t)) : f_X3_mostCost h = some (nI (mxN (cT C) 64)) := by
  have cb : ∀ t, cT C t ≤ 1000000 := fun t => by
    unfold cT
    have := hC t
    split <;> omega
  have key : f_X3_mostCost_L13 h 0 64 0 = some (nI (mxN (cT C) 64)) := by
    unfold f_X3_mostCost_L13
    refine lpo_for (fun i => (nI (mxN (cT C) i), nI i)) 64 (fun i hi => ?_) ?_
    · (try dsimp only)
      have c1 := hC i
      have c2 := mxN_le cb i
      unfold f_X3_mostCost_B13
      rw [if_pos (show nI i < 64 from (nI_lt hi (by decide) : nI i < nI 64)), ix_n hi (by decide), gd_t, nm_v, tn_n (by omega), (D i hi).1, nI_s]
      show _ = some (Sum.inl (nI (if mxN (cT C) i < cT C i then cT C i else mxN (cT C) i), nI (i + 1)))
      by_cases z : C i = 1000000
      · rw [if_pos (show nI (C i) = 1000000 by rw [z]; rfl), if_neg (show ¬ mxN (cT C) i < cT C i by unfold cT; rw [if_pos z]; exact Nat.not_lt_zero _)]
      · rw [if_neg (show ¬ nI (C i) = 1000000 from fun y => z ((nI_eq (b := 1000000) (by omega) (by decide)).mp y)), show cT C i = C i from if_neg z]
        unfold f_J9_max_7cf53
        by_cases y : mxN (cT C) i < C i
        · rw [if_pos (nI_lt y (by omega)), bd_s, if_pos y]
        · rw [if_neg (nI_nlt (by omega) (by omega)), bd_s, if_neg y]
    · (try dsimp only)
      unfold f_X3_mostCost_B13
      rw [if_neg (by decide)]
  unfold f_X3_mostCost
  rw [key, bd_s]
theorem n9_nlt {x : Nat} (hx : x ≤ 1000000) : ¬ nI x < -9 := fun z => nlt0 hx (Int32.lt_trans z (by decide))
theorem mChg {x3 : Int32} (cb : ∀ t, cT C t ≤ 12) (D : ∀ t, t < 64 → h.1 83 t = ndV (if C t = 1000000 then none else some (W t, C t))) : f_X7_changes_L27 h x3 0 0 0 = some (nI (mxN (cT C) 64), nI (sumN (cT C) 64)) := by
  unfold f_X7_changes_L27
  refine lpo_for (fun i => (nI (mxN (cT C) i), nI (sumN (cT C) i), nI i)) 64 (fun i hi => ?_) ?_
  · (try dsimp only)
    have c2 := mxN_le cb i
    have c1 := cb i
    have c3 := sumN_le (g := cT C) (b := 12) (n := i) (fun j hj => cb j)
    unfold f_X7_changes_B27
    rw [if_pos (show nI i < 64 from (nI_lt hi (by decide) : nI i < nI 64)), ix_n hi (by decide), gd_t, tn_n (by omega), D i hi]
    show _ = some (Sum.inl (nI (if mxN (cT C) i < cT C i then cT C i else mxN (cT C) i), nI (sumN (cT C) i + cT C i), nI (i + 1)))
    have J : ∀ s0 : Int32, f_X7_changes_J58_27 h x3 (nI (sumN (cT C) i)) (nI i) s0 = some (.inl (s0, nI (sumN (cT C) i + cT C i), nI (i + 1))) := fun s0 => by
      unfold f_X7_changes_J58_27
      rw [ix_n hi (by decide), gd_t, tn_n (by omega), D i hi]
      by_cases z : C i = 1000000
      · rw [if_pos z, if_neg (show ¬ 0 < ndV none from (by decide)), nm_v, nI_s, N_addK, show cT C i = 0 from if_pos z]
      · have ce : cT C i = C i := if_neg z
        rw [ce] at c1
        rw [if_neg z, gd_t, show ndV (some (W i, C i)) = nI (C i) from rfl, ce]
        by_cases y : 0 < C i
        · rw [if_pos (show 0 < nI (C i) from (nI_lt y (by omega) : nI 0 < nI (C i))), nm_v, nI_add, nI_s]
        · have y0 : C i = 0 := (by omega)
          rw [y0, if_neg (by decide), nm_v, N_addK, nI_s]
    by_cases z : C i = 1000000
    · rw [if_pos z, if_neg (show ¬ nI (mxN (cT C) i) < ndV none from n9_nlt (by omega)), J, if_neg (show ¬ mxN (cT C) i < cT C i by rw [show cT C i = 0 from if_pos z]; exact Nat.not_lt_zero _)]
    · have ce : cT C i = C i := if_neg z
      rw [if_neg z, show ndV (some (W i, C i)) = nI (C i) from rfl, gd_t, J, J, ce]
      rw [ce] at c1
      by_cases y : mxN (cT C) i < C i
      · rw [if_pos (nI_lt y (by omega)), if_pos y]
      · rw [if_neg (nI_nlt (by omega) (by omega)), if_neg y]
  · (try dsimp only)
    unfold f_X7_changes_B27
    rw [if_neg (by decide)]
end REACH
theorem op_reach {h : MH} (S : Sim h) (d : Int32) : Op (f_X6_reach h d) (fun h1 => f_X7_reach h1 d) := by
  rcases code_cases S.2.2.2.1 d with hd | ⟨d, hd4, rfl, hd, ⟨m1, m2⟩ | ⟨k, w, ls, hK, hC, hM⟩⟩
  · exact op_same S (v := -1) (by unfold f_X6_reach; rw [cIsCode, bd_s, hd, if_neg (by decide)]) (by show f_X7_reach h _ = _; unfold f_X7_reach; rw [mAskCode_b hd, bnd2_s, if_pos (by decide)])
  · refine op_found S (f := 1) (by decide) (by decide) ?_ ?_
    · unfold f_X6_reach
      rw [cIsCode, bd_s, hd, if_pos rfl, ix_n hd4 (by decide), gd_t, tn_n (by omega), rf_codes hd4, cMissK_t m1, bd_s, if_pos rfl]
      exact pF (by decide) (by decide)
    · show f_X7_reach (fd h 1) _ = _
      unfold f_X7_reach
      rw [mAskCode_m hd4 (by rw [fd_ne (by decide) (by decide)]; exact m2), pB (by decide) (by decide)]
  · obtain ⟨g, e, F, D⟩ := cWeigh (by omega) (sh_cod hd4) hK hC
    have gM : codM g d k w ls := codM_of (fun b q1 q2 => F.2 b (by omega) (by omega)) hM
    obtain ⟨g2, e2, F2, D2⟩ := mNeeds hd4 hK gM
    have fr : ∀ a, a ≠ 11 → a ≠ 12 → a ≠ 83 → g2.1 a = h.1 a := fun a q1 q2 q3 => by rw [F2.2 a q3, F.2 a q1 q2]
    refine ⟨nI (sumN (cR (d1 ls k w).1) 64), g, g2, ?_, ?_, ?_⟩
    · unfold f_X6_reach
      rw [cIsCode, bd_s, hd, if_pos rfl, ix_n hd4 (by decide), gd_t, tn_n (by omega), rf_codes hd4, cMissK_f hK hC, bd_s, if_neg (by decide), gd_t, e, bd_s, cReached (C := (d1 ls k w).1) (W := (d1 ls k w).2) (fun t => dp_le) D, bd_s]
    · show f_X7_reach g _ = _
      unfold f_X7_reach
      rw [mAskCode_o hd4 hK gM, bnd2_s, if_neg (by decide), e2, bnd2_s, nd_n hK]
    · refine sim_scr S (fun a ha => fr a (by omega) (by omega) (by omega)) ?_ ?_ ?_ ?_
      · rw [fr 0 (by decide) (by decide) (by decide), fr 64 (by decide) (by decide) (by decide)]
        exact S.2.2.2.2.1
      · rw [fr 0 (by decide) (by decide) (by decide), fr 64 (by decide) (by decide) (by decide)]
        exact S.2.2.2.2.2.2.1.1
      · unfold SF
        rw [F2.1, F.1]
        exact S.2.2.2.2.2.1
      · unfold SW
        rw [F2.1, F.1]
        exact S.2.2.2.2.2.2.2
theorem op_changes {h : MH} (S : Sim h) (d : Int32) : Op (f_X6_changes h d) (fun h1 => f_X7_changes h1 d) := by
  rcases code_cases S.2.2.2.1 d with hd | ⟨d, hd4, rfl, hd, ⟨m1, m2⟩ | ⟨k, w, ls, hK, hC, hM⟩⟩
  · exact op_same S (v := -1) (by unfold f_X6_changes; rw [cIsCode, bd_s, hd, if_neg (by decide)]) (by show f_X7_changes h _ = _; unfold f_X7_changes; rw [mAskCode_b hd, bnd2_s, if_pos (by decide)])
  · refine op_found S (f := 1) (by decide) (by decide) ?_ ?_
    · unfold f_X6_changes
      rw [cIsCode, bd_s, hd, if_pos rfl, ix_n hd4 (by decide), gd_t, tn_n (by omega), rf_codes hd4, cMissK_t m1, bd_s, if_pos rfl]
      exact pF (by decide) (by decide)
    · show f_X7_changes (fd h 1) _ = _
      unfold f_X7_changes
      rw [mAskCode_m hd4 (by rw [fd_ne (by decide) (by decide)]; exact m2), pB (by decide) (by decide)]
  · obtain ⟨g, e, F, D⟩ := cWeigh (by omega) (sh_cod hd4) hK hC
    have nn := d1_n hK
    have cb : ∀ t, cT (d1 ls k w).1 t ≤ 12 := fun t => d1_le hK
    have sb := sumN_le (g := cT (d1 ls k w).1) (b := 12) (n := 64) (fun j hj => cb j)
    have gM : codM (tlC g (sumN (cT (d1 ls k w).1) 64) (sumN (cR (d1 ls k w).1) 64)) d k w ls := codM_of (fun b q1 q2 => by rw [tlC_1]; exact F.2 b (by omega) (by omega)) hM
    obtain ⟨g2, e2, F2, D2⟩ := mNeeds hd4 hK gM
    have fr : ∀ a, a ≠ 11 → a ≠ 12 → a ≠ 83 → g2.1 a = h.1 a := fun a q1 q2 q3 => by rw [F2.2 a q3, tlC_1, F.2 a q1 q2]
    refine ⟨nI (mxN (cT (d1 ls k w).1) 64), tlC g (sumN (cT (d1 ls k w).1) 64) (sumN (cR (d1 ls k w).1) 64), tlM g2 (sumN (cT (d1 ls k w).1) 64) (sumN (cR (d1 ls k w).1) 64), ?_, ?_, ?_⟩
    · unfold f_X6_changes
      rw [cIsCode, bd_s, hd, if_pos rfl, ix_n hd4 (by decide), gd_t, tn_n (by omega), rf_codes hd4, cMissK_f hK hC, bd_s, if_neg (by decide), gd_t, e, bd_s, cSumCosts (C := (d1 ls k w).1) (W := (d1 ls k w).2) (fun t => dp_le) D, bd_s, cReached (C := (d1 ls k w).1) (W := (d1 ls k w).2) (fun t => dp_le) D, bd_s, nI_l (by omega), nI_l (by omega), cTold (by omega) (by omega) (by omega), bd_s, cMost (h := tlC g (sumN (cT (d1 ls k w).1) 64) (sumN (cR (d1 ls k w).1) 64)) (C := (d1 ls k w).1) (W := (d1 ls k w).2) (fun t => dp_le) (fun t ht => by unfold setE; rw [tlC_1]; exact D t ht), bd_s]
    · show f_X7_changes (tlC g _ _) _ = _
      unfold f_X7_changes
      rw [mAskCode_o hd4 hK gM, bnd2_s, if_neg (by decide), e2, bnd2_s, nd_n hK, mChg (C := (d1 ls k w).1) (W := (d1 ls k w).2) cb (fun t ht => by rw [D2 t ht, nd_dp hK]), bd_s, nI_l (by omega), nI_l (by omega), mTold (by omega) (by omega) (by omega), bnd2_s]
    · refine sim_scr S (fun a ha => by rw [tlM_1]; exact fr a (by omega) (by omega) (by omega)) ?_ ?_ ?_ ?_
      · rw [tlM_1, fr 0 (by decide) (by decide) (by decide), fr 64 (by decide) (by decide) (by decide)]
        exact S.2.2.2.2.1
      · rw [tlM_1, fr 0 (by decide) (by decide) (by decide), fr 64 (by decide) (by decide) (by decide)]
        exact S.2.2.2.2.2.2.1.1
      · exact sf_told (h := g) (by rw [F2.1])
      · unfold SW
        rw [tlM_w, F2.1, tlC_w, F.1]
        exact S.2.2.2.2.2.2.2
