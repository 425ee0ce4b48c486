theorem ev_od : ∀ d, d < 256 → nI d &&& (-2) = nI (2 * (d / 2)) ∧ nI d ||| 1 = nI (2 * (d / 2) + 1) := by decide +kernel
/-- the common denominator, and a pair's term over it -/
def prL (ds : Nat → Nat) (n : Nat) : Nat := prodN (cEq (halfN ds) n) 128
def prM (ds : Nat → Nat) (n v : Nat) : Nat := gapN (cEq ds n (2 * v)) (cEq ds n (2 * v + 1)) * gapN (cEq ds n (2 * v)) (cEq ds n (2 * v + 1))
def prT (ds : Nat → Nat) (n v : Nat) : Nat := prM ds n v * (prL ds n / cEq (halfN ds) n v)
theorem cEq_le {f : Nat → Nat} {n v : Nat} : cEq f n v ≤ n := by
  have := sumN_le (g := fun q => if f q = v then 1 else 0) (b := 1) (n := n) (fun j _ => by
    show (if f j = v then 1 else 0) ≤ 1
    split <;> omega)
  unfold cEq
  omega
theorem sq_neg {a b : Nat} (ha : a ≤ 40) (hb : b ≤ 40) : (nI a - nI b) * (nI a - nI b) = nI (gapN a b * gapN a b) := by
  by_cases z : b ≤ a
  · rw [nIsub z, pk_mul, show gapN a b = a - b by unfold gapN; omega]
  · rw [show nI a - nI b = -(nI b - nI a) from Int32.neg_sub.symm, Int32.neg_mul_neg, nIsub (show a ≤ b by omega), pk_mul, show gapN a b = b - a by unfold gapN; omega]
theorem sq_negL {a b : Nat} (ha : a ≤ 40) (hb : b ≤ 40) : (nI a - nI b).toInt64 * (nI a - nI b).toInt64 = lN (gapN a b * gapN a b) := by
  by_cases z : b ≤ a
  · rw [nIsub z, nI_l (by omega), lN_mul, show gapN a b = a - b by unfold gapN; omega]
  · have e : (nI a - nI b).toInt64 = -(lN (b - a)) := by
      rw [show nI a - nI b = -(nI b - nI a) from Int32.neg_sub.symm, nIsub (show a ≤ b by omega)]
      apply Int64.toInt_inj.mp
      rw [Int32.toInt_toInt64, Int32.toInt_neg, nI_toInt (by omega), Int64.toInt_neg, pk_lT (by omega), Int.bmod_eq_of_le (by omega) (by omega), Int.bmod_eq_of_le (by omega) (by omega)]
    rw [e, Int64.neg_mul_neg, lN_mul, show gapN a b = b - a by unfold gapN; omega]
section PAIRS
variable {h : MH} {a c kd n : Nat} {ds cs : Nat → Nat} {w wt : Nat}
theorem prL_pos : 0 < prL ds n := prodN_pos 128
theorem prL_le (hK : covK kd n ds cs w wt) : prL ds n ≤ 1099511627776 := by
  have hn := hK.1.2.1
  have e : sumN (cEq (halfN ds) n) 128 = n := cEq_all (fun q hq => by
    have := hK.2.1 q hq
    show ds q / 2 < 128
    omega)
  have l := prodN_le (c := cEq (halfN ds) n) 128
  rw [e] at l
  exact Nat.le_trans l (Nat.pow_le_pow_right (by decide) hn : 2 ^ n ≤ 2 ^ 40)
theorem prT_eq {v : Nat} (h0 : 0 < cEq (halfN ds) n v) (hv : v < 128) : prT ds n v * cEq (halfN ds) n v = prM ds n v * prL ds n := by
  have d : cEq (halfN ds) n v ∣ prL ds n := prodN_dvd (c := cEq (halfN ds) n) h0 hv
  unfold prT
  rw [Nat.mul_assoc, Nat.div_mul_cancel d]
theorem gap_le_c {v : Nat} : gapN (cEq ds n (2 * v)) (cEq ds n (2 * v + 1)) ≤ cEq (halfN ds) n v := by
  have := half_sum (ds := ds) (n := n) (v := v)
  unfold gapN
  omega
theorem prT_le {v : Nat} (h0 : 0 < cEq (halfN ds) n v) (hv : v < 128) : prT ds n v ≤ cEq (halfN ds) n v * prL ds n := by
  have e := prT_eq (ds := ds) (n := n) h0 hv
  have g := gap_le_c (ds := ds) (n := n) (v := v)
  have l : prM ds n v * prL ds n ≤ cEq (halfN ds) n v * prL ds n * cEq (halfN ds) n v := by
    rw [Nat.mul_right_comm]
    exact Nat.mul_le_mul (Nat.mul_le_mul g g) (Nat.le_refl _)
  rw [← e] at l
  exact Nat.le_of_mul_le_mul_right l h0
/-- the sums of terms: of those that came first, and of all below v -/
def clS (ds : Nat → Nat) (n i : Nat) : Nat := sumN (fun q => if fstB (halfN ds) q = true then prT ds n (halfN ds q) else 0) i
def clN (ds : Nat → Nat) (i : Nat) : Nat := sumN (fun q => if fstB (halfN ds) q = true then 1 else 0) i
def rfS (ds : Nat → Nat) (n v : Nat) : Nat := sumN (fun v => if 0 < cEq (halfN ds) n v then prT ds n v else 0) v
def rfN (ds : Nat → Nat) (n v : Nat) : Nat := sumN (fun v => if 0 < cEq (halfN ds) n v then 1 else 0) v
theorem half_lt (hK : covK kd n ds cs w wt) : ∀ q, q < n → halfN ds q < 128 := fun q hq => by
  have := hK.2.1 q hq
  show ds q / 2 < 128
  omega
theorem cl_rf (hK : covK kd n ds cs w wt) : clS ds n n = rfS ds n 128 ∧ clN ds n = rfN ds n 128 :=
  ⟨first_sum (f := halfN ds) (g := prT ds n) (half_lt hK), first_sum (f := halfN ds) (g := fun _ => 1) (half_lt hK)⟩
theorem rfS_le (hK : covK kd n ds cs w wt) {v : Nat} (hv : v ≤ 128) : rfS ds n v ≤ 40 * prL ds n := by
  have hn := hK.1.2.1
  have e : sumN (cEq (halfN ds) n) 128 = n := cEq_all (half_lt hK)
  have l1 : rfS ds n v ≤ sumN (fun u => cEq (halfN ds) n u * prL ds n) v := sumN_le2 (fun u hu => by
    show (if 0 < cEq (halfN ds) n u then prT ds n u else 0) ≤ cEq (halfN ds) n u * prL ds n
    by_cases z : 0 < cEq (halfN ds) n u
    · rw [if_pos z]
      exact prT_le z (by omega)
    · rw [if_neg z]
      exact Nat.zero_le _)
  rw [sumN_mul] at l1
  have l2 := sumN_split (cEq (halfN ds) n) v (128 - v)
  rw [show v + (128 - v) = 128 by omega, e] at l2
  exact Nat.le_trans l1 (Nat.mul_le_mul (by omega) (Nat.le_refl _))
theorem clS_le (hK : covK kd n ds cs w wt) {i : Nat} (hi : i ≤ n) : clS ds n i ≤ 40 * prL ds n := by
  have l := rfS_le hK (Nat.le_refl 128)
  rw [← (cl_rf hK).1] at l
  have l2 := sumN_split (fun q => if fstB (halfN ds) q = true then prT ds n (halfN ds q) else 0) i (n - i)
  rw [show i + (n - i) = n by omega] at l2
  unfold clS at l ⊢
  omega
theorem cFirst (ha : shp a = (1, 0)) (hK : covK kd n ds cs w wt) (hC : covC h a kd n ds cs w wt) {i : Nat} (hi : i < n) : f_X1_isFirstOfPair h a (nI i) = some (fstB (halfN ds) i) := by
  have hn := hK.1.2.1
  have bi := hK.2.1 i hi
  unfold f_X1_isFirstOfPair f_X1_isFirstOfPair_L2 fstB
  have key := lpo_find (step := fun s : Int32 => f_X1_isFirstOfPair_B2 h a (nI i) s) (b1 := Sum.inr false) (b2 := Sum.inl ()) (fun j => nI j) i (fun j => ¬ decide (¬ halfN ds j = halfN ds i) = true) (fun j hj z => ?_) (fun j hj z => ?_) ?_
  · rcases key with ⟨z, e⟩ | ⟨z, e⟩
    · rw [allB_f z, show (0 : Int32) = nI 0 from rfl, e]
      rfl
    · rw [allB_t.mpr (fun i hi2 => Classical.not_not.mp (z i hi2)), show (0 : Int32) = nI 0 from rfl, e]
      rfl
  · (try dsimp only)
    have bj := hK.2.1 j (by omega)
    have z2 : ¬ ds j / 2 = ds i / 2 := of_decide_eq_true (Classical.not_not.mp z)
    unfold f_X1_isFirstOfPair_B2
    rw [if_pos (nI_lt hj (by omega)), cDotAt ha hK hC (show j < n by omega), bd_s, cDotAt ha hK hC hi, bd_s, show (1 : Int32) = nI 1 from rfl, N_shr (by omega) (by decide), N_shr (by omega) (by decide), if_neg (fun y => z2 ((nI_eq (by omega) (by omega)).mp y)), nI_add]
  · (try dsimp only)
    have bj := hK.2.1 j (by omega)
    have z2 : ds j / 2 = ds i / 2 := Classical.byContradiction (fun y => z (decide_eq_true y))
    unfold f_X1_isFirstOfPair_B2
    rw [if_pos (nI_lt hj (by omega)), cDotAt ha hK hC (show j < n by omega), bd_s, cDotAt ha hK hC hi, bd_s, show (1 : Int32) = nI 1 from rfl, N_shr (by omega) (by decide), N_shr (by omega) (by decide), if_pos (show nI (ds j / 2 ^ 1) = nI (ds i / 2 ^ 1) by rw [Nat.pow_one, z2])]
  · (try dsimp only)
    unfold f_X1_isFirstOfPair_B2
    rw [if_neg (nI_nlt (Nat.le_refl _) (by omega))]
theorem cCountDot (ha : shp a = (1, 0)) (hK : covK kd n ds cs w wt) (hC : covC h a kd n ds cs w wt) {x : Nat} (hx : x ≤ 1000) : f_X1_countDot h a (nI x) = some (nI (cEq ds n x)) := by
  have hn := hK.1.2.1
  have key : f_X1_countDot_L4 h a (nI x) 0 0 = some (nI (cEq ds n x)) := by
    unfold f_X1_countDot_L4 cEq
    refine lpo_sum _ n (fun i v hi => ?_) (fun v => ?_)
    · (try dsimp only)
      have bi := hK.2.1 i hi
      unfold f_X1_countDot_B4
      rw [hC.2.1, if_pos (nI_lt hi (by omega)), ix_n (by omega) (by decide), gd_t, tn_n (by omega), rf_Cov0 ha, (hC.2.2.2.2 i hi).1, nI_s, nI_s]
      by_cases z : ds i = x
      · rw [if_pos (by rw [z]), if_pos z]
      · rw [if_neg (fun y => z ((nI_eq (by omega) (by omega)).mp y)), if_neg z]
        rfl
    · (try dsimp only)
      unfold f_X1_countDot_B4
      rw [hC.2.1, if_neg (nI_nlt (Nat.le_refl _) (by omega))]
  unfold f_X1_countDot
  rw [key, bd_s]
theorem covC_tl {x y : Nat} (hC : covC h a kd n ds cs w wt) : covC (tlC h x y) a kd n ds cs w wt := covC_of (fun b _ _ => by rw [tlC_1]) hC
theorem cPairsL (ha : shp a = (1, 0)) (hK : covK kd n ds cs w wt) (hC : covC h a kd n ds cs w wt) : f_X6_pairs_L44 (tlC h 0 1) a 0 0 = some (nI (clN ds n), tlC h (clS ds n n) (prL ds n)) := by
  have hn := hK.1.2.1
  have Lp := prL_pos (ds := ds) (n := n)
  have Ll := prL_le hK
  unfold f_X6_pairs_L44
  rw [show ((0 : Int32), (0 : Int32), tlC h 0 1) = (nI (clN ds 0), nI 0, tlC h (clS ds n 0) (prL ds n)) by
    rw [show clS ds n 0 = 0 from rfl, tlC_eq (h := h) (x := 0) (y := 1) (u := 0) (v := prL ds n) (by decide) Lp (by rw [Nat.zero_mul, Nat.zero_mul])]
    rfl]
  refine lpo_for (fun i => (nI (clN ds i), nI i, tlC h (clS ds n i) (prL ds n))) n (fun i hi => ?_) ?_
  · (try dsimp only)
    have bi := hK.2.1 i hi
    have en : clN ds (i + 1) = clN ds i + (if fstB (halfN ds) i = true then 1 else 0) := rfl
    have es : clS ds n (i + 1) = clS ds n i + (if fstB (halfN ds) i = true then prT ds n (halfN ds i) else 0) := rfl
    have Sl := clS_le hK (show i ≤ n by omega)
    obtain ⟨q1, q2⟩ := ev_od (ds i) (by omega)
    have c0 : 0 < cEq (halfN ds) n (halfN ds i) := cEq_pos.mpr ⟨i, hi, rfl⟩
    have hv := half_lt hK i hi
    have c1 := cEq_le (f := ds) (n := n) (v := 2 * (ds i / 2))
    have c2 := cEq_le (f := ds) (n := n) (v := 2 * (ds i / 2) + 1)
    have c3 := cEq_le (f := halfN ds) (n := n) (v := halfN ds i)
    have hs := half_sum (ds := ds) (n := n) (v := ds i / 2)
    have gl : gapN (cEq ds n (2 * (ds i / 2))) (cEq ds n (2 * (ds i / 2) + 1)) ≤ 40 := gapN_le (by omega) (by omega)
    have gm : gapN (cEq ds n (2 * (ds i / 2))) (cEq ds n (2 * (ds i / 2) + 1)) * gapN (cEq ds n (2 * (ds i / 2))) (cEq ds n (2 * (ds i / 2) + 1)) ≤ 40 * 40 := Nat.mul_le_mul gl gl
    have e16 := tlC_16 (h := h) (A := clS ds n i) (B := prL ds n)
    have Te := prT_eq (ds := ds) (n := n) c0 hv
    have ra := rd_add (S := clS ds n i) (T := prT ds n (halfN ds i)) Lp c0 Te
    have bp := rd_pos (x := clS ds n i) Lp
    have Al : clS ds n i / Nat.gcd (clS ds n i) (prL ds n) ≤ 40 * prL ds n := Nat.le_trans (Nat.div_le_self _ _) Sl
    have Bl : prL ds n / Nat.gcd (clS ds n i) (prL ds n) ≤ prL ds n := Nat.div_le_self _ _
    unfold f_X6_pairs_B44 f_X2_add
    rw [tlC_1, hC.2.1, if_pos (nI_lt hi (by omega)), cFirst ha hK (covC_tl hC) hi, bd_s, en, es, nI_s]
    cases fz : fstB (halfN ds) i with
    | false =>
      simp only [Bool.false_eq_true, if_false, Nat.add_zero]
      rw [nI_s]
    | true =>
      rw [if_pos rfl, if_pos rfl, if_pos rfl, cDotAt ha hK (covC_tl hC) hi, bd_s, q1, cCountDot ha hK (covC_tl hC) (by omega), bd_s, bd_s, q2, cCountDot ha hK (covC_tl hC) (by omega), bd_s, sq_neg (by omega) (by omega), nI_add, hs, nI_l (show cEq (halfN ds) n (ds i / 2) < 2 ^ 31 by have : cEq (halfN ds) n (ds i / 2) ≤ n := cEq_le; omega), nI_l (by omega), e16.1, e16.2, nI_s]
      change (cEq (halfN ds) n (halfN ds i) : Nat) ≤ n at c3
      have m1 : clS ds n i / Nat.gcd (clS ds n i) (prL ds n) * cEq (halfN ds) n (halfN ds i) ≤ 40 * prL ds n * 40 := Nat.mul_le_mul Al (by omega)
      have m2 : gapN (cEq ds n (2 * (ds i / 2))) (cEq ds n (2 * (ds i / 2) + 1)) * gapN (cEq ds n (2 * (ds i / 2))) (cEq ds n (2 * (ds i / 2) + 1)) * (prL ds n / Nat.gcd (clS ds n i) (prL ds n)) ≤ 1600 * prL ds n := Nat.mul_le_mul gm Bl
      have m3 : prL ds n / Nat.gcd (clS ds n i) (prL ds n) * cEq (halfN ds) n (halfN ds i) ≤ prL ds n * 40 := Nat.mul_le_mul Bl (by omega)
      have m4 : 0 < prL ds n / Nat.gcd (clS ds n i) (prL ds n) * cEq (halfN ds) n (halfN ds i) := Nat.mul_pos bp c0
      rw [show ds i / 2 = halfN ds i from rfl] at m2 ⊢
      rw [lN_mul, lN_mul, lN_mul, lN_add, cTold (by omega) m4 (by omega), bd_s, bd_s, tlC_tlC, show gapN (cEq ds n (2 * halfN ds i)) (cEq ds n (2 * halfN ds i + 1)) * gapN (cEq ds n (2 * halfN ds i)) (cEq ds n (2 * halfN ds i + 1)) = prM ds n (halfN ds i) from rfl, tlC_eq m4 Lp ra]
  · (try dsimp only)
    unfold f_X6_pairs_B44
    rw [tlC_1, hC.2.1, if_neg (nI_nlt (Nat.le_refl _) (by omega))]
theorem mPairs40 {l3 l5 : Int64} {x7 : Int32} {v : Nat} (hc : c < 6) (hK : covK kd n ds cs w wt) (hM : covM h c kd n ds cs w wt) (hv : v < 128) : f_X7_pairs_L40 h (nI c) l3 l5 x7 (nI v) 0 0 0 = some (nI (cEq ds n (2 * v)), nI (cEq ds n (2 * v + 1))) := by
  have hn := hK.1.2.1
  unfold f_X7_pairs_L40
  refine lpo_for (fun i => (nI (cEq ds i (2 * v)), nI (cEq ds i (2 * v + 1)), nI i)) n (fun i hi => ?_) ?_
  · (try dsimp only)
    have bi := hK.2.1 i hi
    have e1 : cEq ds (i + 1) (2 * v) = cEq ds i (2 * v) + (if ds i = 2 * v then 1 else 0) := rfl
    have e2 : cEq ds (i + 1) (2 * v + 1) = cEq ds i (2 * v + 1) + (if ds i = 2 * v + 1 then 1 else 0) := rfl
    unfold f_X7_pairs_B40 f_X7_pairs_J72_40
    rw [ix_n hc (by decide), gd_t, tn_n (by omega), hM.2.1, if_pos (nI_lt hi (by omega)), mDotAt hc hK hM hi, bd_s, e1, e2, K_mulN]
    by_cases z1 : ds i = 2 * v
    · rw [if_pos (show nI (ds i) = nI (2 * v) by rw [z1]), if_pos z1, nm_v, bd_s, nI_s, nI_s, if_neg (show ¬ nI (ds i) = nI (2 * v + 1) from fun y => by have := (nI_eq (by omega) (by omega)).mp y; omega), if_neg (show ¬ ds i = 2 * v + 1 by omega), nm_v]
      simp only [nI_s, N_addK, Nat.add_zero]
    · rw [if_neg (show ¬ nI (ds i) = nI (2 * v) from fun y => z1 ((nI_eq (by omega) (by omega)).mp y)), if_neg z1, nm_v, bd_s, N_addK (2 * v)]
      by_cases z2 : ds i = 2 * v + 1
      · rw [if_pos (show nI (ds i) = nI (2 * v + 1) by rw [z2]), if_pos z2, nm_v]
        simp only [nI_s, N_addK, Nat.add_zero]
      · rw [if_neg (show ¬ nI (ds i) = nI (2 * v + 1) from fun y => z2 ((nI_eq (by omega) (by omega)).mp y)), if_neg z2, nm_v]
        simp only [nI_s, N_addK, Nat.add_zero]
  · (try dsimp only)
    unfold f_X7_pairs_B40
    rw [ix_n hc (by decide), gd_t, tn_n (by omega), hM.2.1, if_neg (nI_nlt (Nat.le_refl _) (by omega))]
end PAIRS
