def lsT (ds : Nat → Nat) (i j : Nat) : Nat := if ds j < ds i then 1 else 0
def lsN (ds : Nat → Nat) (n i : Nat) : Nat := 0 + sumN (fun q => lsT ds i (i + 1 + q)) (n - (i + 1))
theorem lsN_le {ds : Nat → Nat} {n i : Nat} : lsN ds n i ≤ n := by
  have := sumN_le (g := fun q => lsT ds i (i + 1 + q)) (b := 1) (n := n - (i + 1)) (fun j _ => by
    show (if ds (i + 1 + j) < ds i then 1 else 0) ≤ 1
    split <;> omega)
  unfold lsN
  omega
def rkS (ds : Nat → Nat) (n : Nat) : Nat → Nat
  | 0 => 0
  | i + 1 => (rkS ds n i * (n - i) + lsN ds n i) % 1000003
theorem rkS_lt {ds : Nat → Nat} {n : Nat} : ∀ i, rkS ds n i < 1000003
  | 0 => show 0 < 1000003 by decide
  | i + 1 => Nat.mod_lt _ (by decide)
section RANK
variable {h : MH} {a c kd n i : Nat} {ds cs : Nat → Nat} {w wt : Nat}
theorem cLess (ha : shp a = (1, 0)) (hK : covK kd n ds cs w wt) (hC : covC h a kd n ds cs w wt) (hi : i < n) : f_X1_countLessBehind h a (nI i) = some (nI (lsN ds n i)) := by
  have hn := hK.1.2.1
  have bi := hK.2.1 i hi
  have key : f_X1_countLessBehind_L6 h a (nI i) (nI 0) (nI (i + 1)) = some (nI (lsN ds n i)) := by
    unfold f_X1_countLessBehind_L6
    refine lpo_sumF (lsT ds i) (i + 1) n 0 (by omega) (fun j v j1 hj => ?_) (fun v => ?_)
    · (try dsimp only)
      have bj := hK.2.1 j hj
      unfold f_X1_countLessBehind_B6 lsT
      rw [hC.2.1, if_pos (nI_lt hj (by omega)), cDotAt ha hK hC hj, bd_s, cDotAt ha hK hC hi, bd_s, nI_s, nI_s]
      by_cases z : ds j < ds i
      · rw [if_pos (nI_lt z (by omega)), if_pos z]
      · rw [if_neg (nI_nlt (by omega) (by omega)), if_neg z]
        rfl
    · (try dsimp only)
      unfold f_X1_countLessBehind_B6
      rw [hC.2.1, if_neg (nI_nlt (Nat.le_refl _) (by omega))]
  unfold f_X1_countLessBehind
  rw [nm_v, nI_s, show (0 : Int32) = nI 0 from rfl, key, bd_s]
theorem mLess {l3 : Int64} (hc : c < 6) (hK : covK kd n ds cs w wt) (hM : covM h c kd n ds cs w wt) (hi : i < n) : f_X7_rank_L53 h (nI c) l3 (nI i) (nI 0) (nI (i + 1)) = some (nI (lsN ds n i)) := by
  have hn := hK.1.2.1
  have bi := hK.2.1 i hi
  unfold f_X7_rank_L53
  refine lpo_sumF (lsT ds i) (i + 1) n 0 (by omega) (fun j v j1 hj => ?_) (fun v => ?_)
  · (try dsimp only)
    have bj := hK.2.1 j hj
    unfold f_X7_rank_B53 lsT
    rw [ix_n hc (by decide), gd_t, tn_n (by omega), hM.2.1, if_pos (nI_lt hj (by omega)), mDotAt hc hK hM hj, bd_s, mDotAt hc hK hM hi, bd_s, nm_v, nm_v, nI_s, nI_s]
    by_cases z : ds j < ds i
    · rw [if_pos (nI_lt z (by omega)), if_pos z]
    · rw [if_neg (nI_nlt (by omega) (by omega)), if_neg z, N_addK]
  · (try dsimp only)
    unfold f_X7_rank_B53
    rw [ix_n hc (by decide), gd_t, tn_n (by omega), hM.2.1, if_neg (nI_nlt (Nat.le_refl _) (by omega))]
theorem rk_step (hn : n ≤ 40) (hi : i < n) : lrm ((lN (rkS ds n i) * (nI n - nI i).toInt64) + (nI (lsN ds n i)).toInt64) 1000003 = lN (rkS ds n (i + 1)) := by
  have l1 := rkS_lt (ds := ds) (n := n) i
  have l2 := lsN_le (ds := ds) (n := n) (i := i)
  have l3 : rkS ds n i * (n - i) ≤ 1000003 * 40 := Nat.mul_le_mul (by omega) (by omega)
  rw [nIsub (by omega), nI_l (by omega), nI_l (by omega), lN_mul, lN_add, show (1000003 : Int64) = lN 1000003 from rfl, lrm_N (by omega) (by decide) (by decide)]
  rfl
theorem cRankL (ha : shp a = (1, 0)) (hK : covK kd n ds cs w wt) (hC : covC h a kd n ds cs w wt) : f_X6_rank_L49 h a 0 0 = some (lN (rkS ds n n)) := by
  have hn := hK.1.2.1
  unfold f_X6_rank_L49
  refine lpo_for (fun i => (lN (rkS ds n i), nI i)) n (fun i hi => ?_) ?_
  · (try dsimp only)
    unfold f_X6_rank_B49
    rw [hC.2.1, if_pos (nI_lt hi (by omega)), cLess ha hK hC hi, bd_s, nm_v, rk_step hn hi, nI_s]
  · (try dsimp only)
    unfold f_X6_rank_B49
    rw [hC.2.1, if_neg (nI_nlt (Nat.le_refl _) (by omega))]
theorem mRankL (hc : c < 6) (hK : covK kd n ds cs w wt) (hM : covM h c kd n ds cs w wt) : f_X7_rank_L33 h (nI c) 0 0 = some (lN (rkS ds n n)) := by
  have hn := hK.1.2.1
  unfold f_X7_rank_L33
  refine lpo_for (fun i => (lN (rkS ds n i), nI i)) n (fun i hi => ?_) ?_
  · (try dsimp only)
    unfold f_X7_rank_B33
    rw [ix_n hc (by decide), gd_t, tn_n (by omega), hM.2.1, if_pos (nI_lt hi (by omega)), nm_v, nI_s, show (0 : Int32) = nI 0 from rfl, mLess hc hK hM hi, bd_s, gd_t, nm_v, rk_step hn hi]
  · (try dsimp only)
    unfold f_X7_rank_B33
    rw [ix_n hc (by decide), gd_t, tn_n (by omega), hM.2.1, if_neg (nI_nlt (Nat.le_refl _) (by omega))]
end RANK
theorem op_rank {h : MH} (S : Sim h) (c : Int32) : Op (f_X6_rank h c) (fun h1 => f_X7_rank h1 c) := by
    rcases cover_cases S.2.2.1 c with hc | ⟨c, hc6, rfl, hc, ⟨m1, m2⟩ | ⟨kd, n, ds, cs, w, wt, hK, hC, hM⟩⟩
    · exact op_same S (v := -1) (by unfold f_X6_rank; rw [cIsCover, bd_s, hc, if_neg (by decide)]) (by show f_X7_rank h _ = _; unfold f_X7_rank; rw [mAskCov_b hc, bnd2_s, if_pos (by decide)])
    · refine op_found S (f := 1) (by decide) (by decide) ?_ ?_
      · unfold f_X6_rank
        rw [cIsCover, bd_s, hc, if_pos rfl, ix_n hc6 (by decide), gd_t, tn_n (by omega), rf_covers hc6, cMissC_t m1, bd_s, if_pos rfl]
        exact pF (by decide) (by decide)
      · show f_X7_rank (fd h 1) _ = _
        unfold f_X7_rank
        rw [mAskCov_m hc6 (by rw [fd_ne (by decide) (by decide)]; exact m2), pB (by decide) (by decide)]
    · have hn := hK.1.2.1
      have hn1 := hK.1.1
      have hk4 := hK.1.2.2.1
      by_cases k4 : kd = 4
      · refine op_same S (v := nI (rkS ds n n)) ?_ ?_
        · unfold f_X6_rank
          rw [cIsCover, bd_s, hc, if_pos rfl, ix_n hc6 (by decide), gd_t, tn_n (by omega), rf_covers hc6, cMissC_f hC.2.1 hK.1.1 (by omega), bd_s, if_neg (by decide), hC.1, if_pos (show nI kd = 4 by rw [k4]; rfl), cRankL (sh_cov hc6) hK hC, bd_s, lN_i]
        · show f_X7_rank h _ = _
          unfold f_X7_rank
          rw [mAskCov_o (n := n) hc6 hM.2.1 hK.1.1 (by omega), bnd2_s, if_neg (by decide), ix_n hc6 (by decide), gd_t, tn_n (by omega), hM.1, if_pos (show nI kd = 4 by rw [k4]; rfl), mRankL hc6 hK hM, bd_s, lN_i]
      · have k4n : ¬ nI kd = 4 := fun z => k4 ((nI_eq (b := 4) (by omega) (by decide)).mp z)
        refine op_found S (f := 3) (by decide) (by decide) ?_ ?_
        · unfold f_X6_rank
          rw [cIsCover, bd_s, hc, if_pos rfl, ix_n hc6 (by decide), gd_t, tn_n (by omega), rf_covers hc6, cMissC_f hC.2.1 hK.1.1 (by omega), bd_s, if_neg (by decide), hC.1, if_neg k4n]
          exact pF (by decide) (by decide)
        · show f_X7_rank (fd h 3) _ = _
          have hM2 : covM (fd h 3) c kd n ds cs w wt := covM_of (fun b q1 q2 => fd_ne (by omega) (by omega)) hM
          unfold f_X7_rank
          rw [mAskCov_o (n := n) hc6 hM2.2.1 hK.1.1 (by omega), bnd2_s, if_neg (by decide), ix_n hc6 (by decide), gd_t, tn_n (by omega), hM2.1, if_neg k4n]
          exact pM (by decide) (by decide)
