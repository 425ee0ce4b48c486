def lstN (s : Int32) (T : Nat) : Nat := (s.toInt + T + 1).toNat / 2
section SHARE
variable {h : MH} {a c kd n : Nat} {ds cs : Nat → Nat} {w wt : Nat} {s : Int32}
theorem sum_toInt {T : Nat} (hT : T ≤ 10200) (s1 : -10200 ≤ s.toInt) (s2 : s.toInt ≤ 10200) : (s + nI T + 1).toInt = s.toInt + T + 1 := by
  rw [Int32.toInt_add, Int32.toInt_add, nI_toInt (by omega), show (1 : Int32).toInt = 1 by decide, Int.bmod_eq_of_le (n := s.toInt + (T : Int)) (by omega) (by omega), Int.bmod_eq_of_le (by omega) (by omega)]
theorem cFloor {T : Nat} (hT : T ≤ 10200) (s1 : -10200 ≤ s.toInt) (s2 : s.toInt ≤ 10200) : ∃ r, f_J9_floorDiv_7cf53 (s + nI T + 1) 2 = some r ∧ ((lstN s T = 0 ∧ ¬ 0 < r) ∨ (0 < lstN s T ∧ r = nI (lstN s T))) := by
  have e := sum_toInt hT s1 s2
  generalize s + nI T + 1 = x at e
  by_cases z : 0 ≤ s.toInt + T + 1
  · obtain ⟨k, hk⟩ : ∃ k : Nat, s.toInt + T + 1 = (k : Int) := ⟨(s.toInt + T + 1).toNat, by omega⟩
    have ex : x = nI k := by
      apply Int32.toInt_inj.mp
      rw [e, hk, nI_toInt (by omega)]
    have el : lstN s T = k / 2 := by
      unfold lstN
      rw [hk]
      rfl
    have kx : k ^^^ 2 < 32768 := Nat.xor_lt_two_pow (n := 15) (show k < 2 ^ 15 by omega) (by decide)
    refine ⟨nI (k / 2), ?_, ?_⟩
    · unfold f_J9_floorDiv_7cf53
      rw [ex, show nz 2 = true by decide, gd_t, nm_v, show (2 : Int32) = nI 2 from rfl, N_xor, pk_div (by omega) (by decide) (by decide), if_neg (nlt0 (by omega))]
    · rw [el]
      by_cases y : k / 2 = 0
      · rw [y]
        exact Or.inl ⟨rfl, (by decide)⟩
      · exact Or.inr ⟨(by omega), rfl⟩
  · have el : lstN s T = 0 := by
      unfold lstN
      rw [Int.toNat_of_nonpos (by omega)]
    have ed : (x / 2).toInt = x.toInt.tdiv 2 := Int32.toInt_div_of_ne_right x 2 (by decide)
    have et : x.toInt.tdiv 2 = -((-(s.toInt + T + 1)) / 2) := by
      rw [e, show s.toInt + T + 1 = -(-(s.toInt + T + 1)) by omega, Int.neg_tdiv, Int.tdiv_eq_ediv_of_nonneg (by omega), Int.neg_neg]
    have q1 : x.toInt.tdiv 2 ≤ 0 := by omega
    have q2 : -20000 ≤ x.toInt.tdiv 2 := by omega
    have n1 : ¬ 0 < x / 2 := by
      rw [Int32.lt_iff_toInt_lt, ed, show (0 : Int32).toInt = 0 by decide]
      omega
    have n2 : ¬ 0 < x / 2 - 1 := by
      rw [Int32.lt_iff_toInt_lt, Int32.toInt_sub, ed, show (0 : Int32).toInt = 0 by decide, show (1 : Int32).toInt = 1 by decide, Int.bmod_eq_of_le (by omega) (by omega)]
      omega
    unfold f_J9_floorDiv_7cf53
    rw [show nz 2 = true by decide, gd_t, nm_v]
    by_cases y1 : x ^^^ 2 < 0
    · by_cases y2 : x / 2 * 2 = x
      · exact ⟨x / 2, by rw [if_pos y1, if_pos y2], Or.inl ⟨el, n1⟩⟩
      · exact ⟨x / 2 - 1, by rw [if_pos y1, if_neg y2], Or.inl ⟨el, n2⟩⟩
    · exact ⟨x / 2, by rw [if_neg y1], Or.inl ⟨el, n1⟩⟩
theorem cTotalD (ha : shp a = (1, 0)) (hK : covK kd n ds cs w wt) (hC : covC h a kd n ds cs w wt) : f_X1_totalOfDots h a = some (nI (sumN ds n)) := by
  have hn := hK.1.2.1
  have key : f_X1_totalOfDots_L4 h a 0 0 = some (nI (sumN ds n)) := by
    unfold f_X1_totalOfDots_L4
    refine lpo_sum ds n (fun i v hi => ?_) (fun v => ?_)
    · (try dsimp only)
      unfold f_X1_totalOfDots_B4
      rw [hC.2.1, if_pos (nI_lt hi (by omega)), ix_n (by omega) (by decide), gd_t, nm_v, tn_n (by omega), rf_Cov0 ha, (hC.2.2.2.2 i hi).1, nI_add, nI_s]
    · (try dsimp only)
      unfold f_X1_totalOfDots_B4
      rw [hC.2.1, if_neg (nI_nlt (Nat.le_refl _) (by omega))]
  unfold f_X1_totalOfDots
  rw [key, bd_s]
theorem cGreat (ha : shp a = (1, 0)) (hK : covK kd n ds cs w wt) (hC : covC h a kd n ds cs w wt) (s1 : -10200 ≤ s.toInt) (s2 : s.toInt ≤ 10200) (hw : SW h) : ∃ k, f_X4_countAsGreat h a s = some (lN (wUp ds n (lstN s (sumN ds n))), k) ∧ lgW h k := by
  have hn := hK.1.2.1
  have T := sum_le255 hK (Nat.le_refl n)
  obtain ⟨r, er, hr⟩ := cFloor (s := s) T s1 s2
  unfold f_X4_countAsGreat
  rw [hC.2.1, nm_v, lsh_n n (by omega), cTotalD ha hK hC, bd_s, er, bd_s]
  rcases hr with ⟨l0, r0⟩ | ⟨l1, rfl⟩
  · refine ⟨h, ?_, rfl, hw, fun _ _ => rfl⟩
    rw [if_neg r0, l0, wUp_0]
  · have pl : lstN s (sumN ds n) ≤ 10201 := by
      unfold lstN
      omega
    generalize lstN s (sumN ds n) = p at l1 pl
    rw [if_pos (show 0 < nI p from (nI_lt l1 (by omega) : nI 0 < nI p)), show nI p - 1 = nI (p - 1) from nIsub (b := 1) l1]
    by_cases z : p ≤ sumN ds n
    · rw [nIsub z]
      by_cases y : p - 1 < sumN ds n - p
      · obtain ⟨k, ek, lk⟩ := cUpTo (L := p - 1) ha hK hC (by omega) hw
        refine ⟨k, ?_, lk⟩
        have lo := wUp_lo (ds := ds) (n := n) (p := p) (by omega)
        rw [if_pos (nI_lt y (by omega)), ek, bnd2_s, show p - 1 + 1 = p by omega, lN_sub (by omega)]
        congr 3
        omega
      · obtain ⟨k, ek, lk⟩ := cUpTo (L := sumN ds n - p) ha hK hC (by omega) hw
        refine ⟨k, ?_, lk⟩
        rw [if_neg (nI_nlt (by omega) (by omega)), ek, bnd2_s, wUp_hi z]
    · have ng : nI (sumN ds n) - nI p < 0 := pk_sneg (by omega) (by omega)
      obtain ⟨k, ek, lk⟩ := cUpTo_n (a := a) ng hw
      refine ⟨k, ?_, lk⟩
      rw [if_neg (fun y => absurd (Int32.lt_trans y ng) (nlt0 (by omega))), ek, bnd2_s, wUp_none (by omega)]
      rfl
/-! the reference's -/
theorem mShare30 {x1 x2 : Int32} : ∃ k, f_X7_falseShare_L30 h x1 x2 0 = some k ∧ lgE 85 h k ∧ ∀ q, q ≤ 10200 → k.2.1 85 q = lN (wW ds 0 q) := by
  have key := lpo_ind (step := fun s : Int32 × MH => f_X7_falseShare_B30 s.2 x1 x2 s.1) (fun i s => s.1 = nI i ∧ lgE 85 h s.2 ∧ ∀ q, q < i → s.2.2.1 85 q = lN (wW ds 0 q)) (fun k => lgE 85 h k ∧ ∀ q, q ≤ 10200 → k.2.1 85 q = lN (wW ds 0 q)) 10201 0 (0, h) ⟨rfl, lgE_r, fun q hq => absurd hq (Nat.not_lt_zero q)⟩ (fun i s hi I => ?_) (fun s I => ?_)
  · exact key
  · obtain ⟨s1, s2⟩ := s
    obtain ⟨e1, e2, e3⟩ := I
    have f1 : s1 = nI i := e1
    have f2 : lgE 85 h s2 := e2
    refine ⟨(nI (i + 1), uL s2 85 i (lN (wW ds 0 i))), ?_, rfl, lgE_u f2, fun q hq => ?_⟩
    · (try dsimp only)
      unfold f_X7_falseShare_B30
      rw [f1, if_neg (show ¬ 10200 < nI i from (nI_nlt (show i ≤ 10200 by omega) (by decide) : ¬ nI 10200 < nI i)), ix_n (by omega) (by decide), gd_t, gd_t, nm_v, nm_v, tn_n (by omega), nI_s]
      by_cases y : i = 0
      · rw [if_pos (show nI i = 0 by rw [y]; rfl), show wW ds 0 i = 1 from if_pos y]
        rfl
      · rw [if_neg (nI0_ne (by omega) (by omega)), show wW ds 0 i = 0 from if_neg y]
        rfl
    · show (uL s2 85 i (lN (wW ds 0 i))).2.1 85 q = _
      have hq2 : q < i + 1 := hq
      by_cases z : q = i
      · rw [z, uL_at]
      · rw [uL_k z]
        exact e3 q (by omega)
  · obtain ⟨s1, s2⟩ := s
    obtain ⟨e1, e2, e3⟩ := I
    have f1 : s1 = nI (0 + 10201) := e1
    have f2 : lgE 85 h s2 := e2
    refine ⟨s2, ?_, f2, fun q hq => e3 q (show q < 0 + 10201 by omega)⟩
    (try dsimp only)
    unfold f_X7_falseShare_B30
    rw [f1, if_pos (show 10200 < nI (0 + 10201) from (nI_lt (show 10200 < 0 + 10201 by omega) (by decide) : nI 10200 < nI (0 + 10201)))]
theorem mShare105 {x1 x2 x7 : Int32} {l5 : Int64} {i : Nat} (hA : sumN ds i + ds i ≤ 10200) (hF : ∀ q, q ≤ sumN ds i → h.2.1 85 q = lN (wW ds i q)) : ∃ k, f_X7_falseShare_L105 h x1 x2 (nI (sumN ds i)) l5 x7 (nI (ds i)) (nI (sumN ds i + ds i)) = some k ∧ lgE 85 h k ∧ ∀ q, q ≤ sumN ds i + ds i → k.2.1 85 q = lN (wW ds (i + 1) q) := by
  have big : ∀ q, sumN ds i < q → wW ds i q = 0 := fun q hq => wW_big hq
  have ws : ∀ q, wW ds (i + 1) q = wW ds i q + (if ds i ≤ q then wW ds i (q - ds i) else 0) := fun q => rfl
  generalize sumN ds i = A at *
  generalize ds i = v at *
  generalize wW ds (i + 1) = W2 at *
  generalize wW ds i = W at *
  have key := lpo_ind (step := fun s : Int32 × MH => f_X7_falseShare_B105 s.2 x1 x2 (nI A) l5 x7 (nI v) s.1) (fun t s => s.1 = nI (A + v + 1 - t) + (-1) ∧ lgE 85 h s.2 ∧ ∀ q, q ≤ A + v → (A + v < q + t → s.2.2.1 85 q = lN (W2 q)) ∧ (q + t ≤ A + v → q ≤ A → s.2.2.1 85 q = lN (W q))) (fun k => lgE 85 h k ∧ ∀ q, q ≤ A + v → k.2.1 85 q = lN (W2 q)) (A + v + 1) 0 (nI (A + v), h) ⟨by rw [Nat.sub_zero, nI_dn (by omega)]; rfl, lgE_r, fun q hq => ⟨fun z => by omega, fun _ y => hF q y⟩⟩ (fun t s ht I => ?_) (fun s I => ?_)
  · exact key
  · obtain ⟨s1, s2⟩ := s
    obtain ⟨e1, e2, e3⟩ := I
    have f1 : s1 = nI (A + v + 1 - t) + (-1) := e1
    have f2 : lgE 85 h s2 := e2
    have f3 : ∀ q, q ≤ A + v → (A + v < q + t → s2.2.1 85 q = lN (W2 q)) ∧ (q + t ≤ A + v → q ≤ A → s2.2.1 85 q = lN (W q)) := e3
    refine ⟨(nI (A + v + 1 - (t + 1)) + (-1), uL s2 85 (A + v - t) (lN (W2 (A + v - t)))), ?_, rfl, lgE_u f2, fun q hq => ⟨fun z => ?_, fun z y => ?_⟩⟩
    · (try dsimp only)
      unfold f_X7_falseShare_B105 f_X7_falseShare_J134_105
      rw [f1, nI_dn (by omega), show A + v + 1 - t - 1 = A + v - t by omega, show A + v + 1 - (t + 1) = A + v - t by omega, if_neg (nlt0 (by omega)), ws, ix_n (by omega) (by decide), gd_t, gd_t, gd_t, nm_v, nm_v, nm_v, nm_v, tn_n (by omega)]
      by_cases y1 : A < A + v - t
      · rw [if_pos (nI_lt y1 (by omega)), big _ y1]
        by_cases y2 : v ≤ A + v - t
        · rw [if_neg (nI_nlt y2 (by omega)), if_pos y2, nIsub y2, ix_n (by omega) (by decide), gd_t, tn_n (by omega), (f3 (A + v - t - v) (by omega)).2 (by omega) (by omega), lN_0, lN_add]
        · rw [if_pos (nI_lt (by omega) (by omega)), if_neg y2]
          rfl
      · rw [if_neg (nI_nlt (by omega) (by omega)), (f3 (A + v - t) (by omega)).2 (by omega) (by omega)]
        by_cases y2 : v ≤ A + v - t
        · rw [if_neg (nI_nlt y2 (by omega)), if_pos y2, nIsub y2, ix_n (by omega) (by decide), gd_t, tn_n (by omega), (f3 (A + v - t - v) (by omega)).2 (by omega) (by omega), lN_add, gd_t]
        · rw [if_pos (nI_lt (by omega) (by omega)), if_neg y2, lN_0, lN_add, gd_t]
    · show (uL s2 85 (A + v - t) (lN (W2 (A + v - t)))).2.1 85 q = _
      by_cases x : q = A + v - t
      · rw [x, uL_at]
      · rw [uL_k x]
        exact (f3 q hq).1 (by omega)
    · show (uL s2 85 (A + v - t) (lN (W2 (A + v - t)))).2.1 85 q = _
      rw [uL_k (by omega)]
      exact (f3 q hq).2 (by omega) y
  · obtain ⟨s1, s2⟩ := s
    obtain ⟨e1, e2, e3⟩ := I
    have f1 : s1 = nI (A + v + 1 - (0 + (A + v + 1))) + (-1) := e1
    have f2 : lgE 85 h s2 := e2
    refine ⟨s2, ?_, f2, fun q hq => (e3 q hq).1 (by omega)⟩
    (try dsimp only)
    unfold f_X7_falseShare_B105
    rw [f1, show A + v + 1 - (0 + (A + v + 1)) = 0 by omega, if_pos (by decide)]
theorem mShare70 {x2 : Int32} (hc : c < 6) (hK : covK kd n ds cs w wt) (hM : covM h c kd n ds cs w wt) (hF : ∀ q, q ≤ 10200 → h.2.1 85 q = lN (wW ds 0 q)) : ∃ b, f_X7_falseShare_L70 h (nI c) x2 0 1 0 = some b ∧ (b.1 = nI (sumN ds n) ∧ b.2.1 = lN (2 ^ n) ∧ lgE 85 h b.2.2 ∧ ∀ q, q ≤ sumN ds n → b.2.2.2.1 85 q = lN (wW ds n q)) := by
  have hn := hK.1.2.1
  have key := lpo_ind (step := fun s : Int32 × Int64 × Int32 × MH => f_X7_falseShare_B70 s.2.2.2 (nI c) x2 s.1 s.2.1 s.2.2.1) (fun i s => s.1 = nI (sumN ds i) ∧ s.2.1 = lN (2 ^ i) ∧ s.2.2.1 = nI i ∧ lgE 85 h s.2.2.2 ∧ ∀ q, q ≤ sumN ds i → s.2.2.2.2.1 85 q = lN (wW ds i q)) (fun b => b.1 = nI (sumN ds n) ∧ b.2.1 = lN (2 ^ n) ∧ lgE 85 h b.2.2 ∧ ∀ q, q ≤ sumN ds n → b.2.2.2.1 85 q = lN (wW ds n q)) n 0 (0, 1, 0, h) ⟨rfl, rfl, rfl, lgE_r, fun q hq => hF q (by have hq : q ≤ 0 := hq; omega)⟩ (fun i s hi I => ?_) (fun s I => ?_)
  · exact key
  · obtain ⟨s1, s2, s3, s4⟩ := s
    obtain ⟨e1, e2, e3, e4, e5⟩ := I
    have f1 : s1 = nI (sumN ds i) := e1
    have f2 : s2 = lN (2 ^ i) := e2
    have f3 : s3 = nI i := e3
    have f4 : lgE 85 h s4 := e4
    have f5 : ∀ q, q ≤ sumN ds i → s4.2.1 85 q = lN (wW ds i q) := e5
    have sl := sum_le255 hK (show i + 1 ≤ n by omega)
    have sl : sumN ds i + ds i ≤ 10200 := sl
    have M4 : covM s4 c kd n ds cs w wt := covM_of (fun b _ _ => by rw [f4.1]) hM
    obtain ⟨k, ek, k1, k2⟩ := mShare105 (h := s4) (x1 := nI c) (x2 := x2) (x7 := nI i) (l5 := lN (2 ^ (i + 1))) sl f5
    refine ⟨(nI (sumN ds i + ds i), lN (2 ^ (i + 1)), nI (i + 1), k), ?_, rfl, rfl, rfl, ⟨by rw [k1.1, f4.1], by rw [k1.2.1, f4.2.1], fun b hb => by rw [k1.2.2 b hb, f4.2.2 b hb]⟩, k2⟩
    (try dsimp only)
    unfold f_X7_falseShare_B70
    rw [f1, f2, f3, ix_n hc (by decide), gd_t, tn_n (by omega), M4.2.1, if_pos (nI_lt (by omega) (by omega)), mDotAt hc hK M4 (by omega), bd_s, nm_v, nm_v, nI_add, show (2 : Int64) = lN 2 from rfl, lN_mul, ← Nat.pow_succ, ek, bd_s, nm_v, nI_s]
  · obtain ⟨s1, s2, s3, s4⟩ := s
    obtain ⟨e1, e2, e3, e4, e5⟩ := I
    have f1 : s1 = nI (sumN ds (0 + n)) := e1
    have f2 : s2 = lN (2 ^ (0 + n)) := e2
    have f3 : s3 = nI (0 + n) := e3
    have f4 : lgE 85 h s4 := e4
    have f5 : ∀ q, q ≤ sumN ds (0 + n) → s4.2.1 85 q = lN (wW ds (0 + n) q) := e5
    rw [Nat.zero_add] at f1 f2 f3 f5
    have M4 : covM s4 c kd n ds cs w wt := covM_of (fun b _ _ => by rw [f4.1]) hM
    refine ⟨(s1, s2, s4), ?_, f1, f2, f4, f5⟩
    (try dsimp only)
    unfold f_X7_falseShare_B70
    rw [f3, ix_n hc (by decide), gd_t, tn_n (by omega), M4.2.1, if_neg (nI_nlt (Nat.le_refl _) (by omega))]
theorem mShare182 {T : Nat} {l5 : Int64} {W : Nat → Nat} (hT : T ≤ 10200) (s1 : -10200 ≤ s.toInt) (s2 : s.toInt ≤ 10200) (hF : ∀ q, q ≤ T → h.2.1 85 q = lN (W q)) : f_X7_falseShare_L182 h s (nI T) l5 0 0 = some (lN (sumN (fun k => if lstN s T ≤ k then W k else 0) (T + 1))) := by
  unfold f_X7_falseShare_L182
  refine lpo_for (fun k => (lN (sumN (fun k => if lstN s T ≤ k then W k else 0) k), nI k)) (T + 1) (fun k hk => ?_) ?_
  · (try dsimp only)
    have es : sumN (fun k => if lstN s T ≤ k then W k else 0) (k + 1) = sumN (fun k => if lstN s T ≤ k then W k else 0) k + (if lstN s T ≤ k then W k else 0) := rfl
    have ec : (2 * nI k - nI T < s) ↔ ¬ lstN s T ≤ k := by
      rw [show (2 : Int32) * nI k = nI (2 * k) from K_mulN k 2, Int32.lt_iff_toInt_lt, pk_sub_toInt (by omega) (by omega)]
      unfold lstN
      omega
    unfold f_X7_falseShare_B182
    rw [if_neg (nI_nlt (by omega) (by omega)), ix_n (by omega) (by decide), gd_t, nm_v, nm_v, tn_n (by omega), hF k (by omega), es, nI_s, ← lN_add]
    by_cases z : lstN s T ≤ k
    · rw [if_neg (fun y => (ec.mp y) z), if_pos z]
    · rw [if_pos (ec.mpr z), if_neg z]
      rfl
  · (try dsimp only)
    unfold f_X7_falseShare_B182
    rw [if_pos (nI_lt (by omega) (by omega))]
end SHARE
theorem wUp_le {ds : Nat → Nat} {n p : Nat} : wUp ds n p ≤ 2 ^ n := by
  by_cases z : p ≤ sumN ds n + 1
  · have := wUp_lo (ds := ds) (n := n) z
    omega
  · rw [wUp_none (by omega)]
    exact Nat.zero_le _
theorem op_falseShare {h : MH} (S : Sim h) (c y : Int32) : Op (f_X6_falseShare h c y) (fun h1 => f_X7_falseShare h1 c y) := by
  cases hy : btw y (-10200) 10200 with
  | false =>
    refine op_same S (v := -1) ?_ ?_
    · unfold f_X6_falseShare
      rw [cIsCover, bd_s, btw_if, hy]
      cases inR c 6 <;> rfl
    · show f_X7_falseShare h _ _ = _
      unfold f_X7_falseShare
      rw [mIn, bd_s, hy]
      rfl
  | true =>
    obtain ⟨y1, y2⟩ := of_decide_eq_true (p := ¬ y < -10200 ∧ ¬ 10200 < y) hy
    rw [Int32.lt_iff_toInt_lt, show (-10200 : Int32).toInt = -10200 by decide] at y1
    rw [Int32.lt_iff_toInt_lt, show (10200 : Int32).toInt = 10200 by decide] at y2
    have s1 : -10200 ≤ y.toInt := by omega
    have s2 : y.toInt ≤ 10200 := by omega
    rcases cover_cases S.2.2.1 c with hc | ⟨c, hc6, rfl, hc, ⟨m1, m2⟩ | ⟨kd, n, ds, cs, w, wt, hK, hC, hM⟩⟩
    · exact op_same S (v := -1) (by unfold f_X6_falseShare; rw [cIsCover, bd_s, hc, if_neg (by decide)]) (by show f_X7_falseShare h _ _ = _; unfold f_X7_falseShare; rw [mIn, bd_s, hy, if_pos rfl, mAskCov_b hc, bnd2_s, if_pos (by decide)])
    · refine op_found S (f := 1) (by decide) (by decide) ?_ ?_
      · unfold f_X6_falseShare
        rw [cIsCover, bd_s, hc, if_pos rfl, btw_if, hy, if_pos rfl, ix_n hc6 (by decide), gd_t, tn_n (by omega), rf_covers hc6, cMissC_t m1, bd_s, if_pos rfl]
        exact pF (by decide) (by decide)
      · show f_X7_falseShare (fd h 1) _ _ = _
        unfold f_X7_falseShare
        rw [mIn, bd_s, hy, if_pos rfl, mAskCov_m hc6 (by rw [fd_ne (by decide) (by decide)]; exact m2), pB (by decide) (by decide)]
    · have hn := hK.1.2.1
      have hn1 := hK.1.1
      have T := sum_le255 hK (Nat.le_refl n)
      have SWh := S.2.2.2.2.2.2.2
      obtain ⟨k, ek, k1, k2, k3⟩ := cGreat (sh_cov hc6) hK hC s1 s2 SWh
      have ul := wUp_le (ds := ds) (n := n) (p := lstN y (sumN ds n))
      have p2 : 2 ^ n ≤ 2 ^ 40 := Nat.pow_le_pow_right (by decide) hn
      have pp := Nat.two_pow_pos n
      generalize hN : wUp ds n (lstN y (sumN ds n)) = N at ek ul
      have gM : covM (tlC k N (2 ^ n)) c kd n ds cs w wt := covM_of (fun b _ _ => by rw [tlC_1, k1]) hM
      obtain ⟨m1, e1, l1, z1⟩ := mShare30 (h := tlC k N (2 ^ n)) (ds := ds) (x1 := nI c) (x2 := y)
      have M1 : covM m1 c kd n ds cs w wt := covM_of (fun b _ _ => by rw [l1.1]) gM
      obtain ⟨b, e2, b1, b2, l2, z2⟩ := mShare70 (x2 := y) hc6 hK M1 z1
      have e3 := mShare182 (l5 := b.2.1) T s1 s2 z2
      have e4 : sumN (fun k => if lstN y (sumN ds n) ≤ k then wW ds n k else 0) (sumN ds n + 1) = N := hN
      rw [e4] at e3
      refine ⟨1, tlC k N (2 ^ n), tlM b.2.2 N (2 ^ n), ?_, ?_, ?_⟩
      · unfold f_X6_falseShare
        rw [cIsCover, bd_s, hc, if_pos rfl, btw_if, hy, if_pos rfl, ix_n hc6 (by decide), gd_t, tn_n (by omega), rf_covers hc6, cMissC_f hC.2.1 hK.1.1 (by omega), bd_s, if_neg (by decide), ek, bnd2_s, k1, hC.2.1, lsh_n n (by omega), cTold (by omega) pp (by omega), bd_s]
      · show f_X7_falseShare (tlC k N (2 ^ n)) _ _ = _
        unfold f_X7_falseShare
        rw [mIn, bd_s, hy, if_pos rfl, mAskCov_o (n := n) hc6 gM.2.1 hK.1.1 (by omega), bnd2_s, if_neg (by decide), e1, bd_s, e2, bd_s, b1, e3, bd_s, b2, mTold (by omega) pp (by omega), bnd2_s]
      · refine sim_scr S (fun a ha => ?_) ?_ ?_ (sf_told (h := k) (by rw [l2.2.2 16 (by decide), l1.2.2 16 (by decide)])) ?_
        · rw [tlM_1, l2.1, l1.1, tlC_1, k1]
        · rw [tlM_1, l2.1, l1.1, tlC_1, k1]
          exact S.2.2.2.2.1
        · rw [tlM_1, l2.1, l1.1, tlC_1, k1]
          exact S.2.2.2.2.2.2.1.1
        · unfold SW
          rw [tlM_w, l2.2.1, l1.2.1, tlC_w]
          exact k2
