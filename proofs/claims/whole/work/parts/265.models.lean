/-! models -/
def mdOk (f : Nat → Int32) : Bool := allB (fun i => btw (f i) 0 999) 8
theorem md_N {f : Nat → Int32} {i : Nat} (e : mdOk f = true) (hi : i < 8) : f i = nI (f i).toNatClampNeg ∧ (f i).toNatClampNeg ≤ 999 := by
  obtain ⟨k, -, hk, q⟩ := btw_N (a := 0) (b := 999) (by decide) (by decide) (allB_t.mp e i hi)
  rw [q, tn_n (by omega)]
  exact ⟨rfl, hk⟩
theorem sumL_N {f : Nat → Int32} {F : Nat → Nat} : ∀ {n : Nat}, (∀ i, i < n → f i = nI (F i) ∧ F i ≤ 1000000) → sumL f n = lN (sumN F n)
  | 0, _ => rfl
  | n + 1, e => by
    obtain ⟨q1, q2⟩ := e n (by omega)
    show sumL f n + (f n).toInt64 = lN (sumN F n + F n)
    rw [sumL_N (n := n) (fun i hi => e i (by omega)), q1, nI_l (by omega), lN_add]
theorem labs {p q : Nat} (hp : p < 4611686018427387904) (hq : q < 4611686018427387904) : f_J9_abs_067f4 (lN p - lN q) = some (lN (gapN p q)) := by
  unfold f_J9_abs_067f4 gapN
  by_cases z : q ≤ p
  · rw [lN_sub z, if_neg (show ¬ lN (p - q) < 0 from fun y => by have := (pk_lLT (a := p - q) (b := 0) (by omega) (by decide)).mp y; omega), show p - q + (q - p) = p - q by omega]
  · have e : lN p - lN q = -(lN (q - p)) := by rw [← lN_sub (show p ≤ q by omega), Int64.neg_sub]
    have l : lN p - lN q < 0 := by
      rw [e, Int64.lt_iff_toInt_lt, Int64.toInt_neg, pk_lT (by omega), Int.bmod_eq_of_le (by omega) (by omega), show (0 : Int64).toInt = 0 by decide]
      omega
    rw [if_pos l, e, Int64.neg_neg, show p - q + (q - p) = q - p by omega]
theorem lpos {p q : Nat} (hp : p < 4611686018427387904) (hq : q < 4611686018427387904) : (0 < lN p - lN q) ↔ q < p := by
  by_cases z : q ≤ p
  · rw [lN_sub z, lN_0, pk_lLT (by decide) (by omega)]
    omega
  · have e : lN p - lN q = -(lN (q - p)) := by rw [← lN_sub (show p ≤ q by omega), Int64.neg_sub]
    rw [e, Int64.lt_iff_toInt_lt, Int64.toInt_neg, pk_lT (by omega), Int.bmod_eq_of_le (by omega) (by omega), show (0 : Int64).toInt = 0 by decide]
    omega
theorem lneg {p q : Nat} (hp : p < 4611686018427387904) (hq : q < 4611686018427387904) : (lN p - lN q < 0) ↔ p < q := by
  by_cases z : q ≤ p
  · rw [lN_sub z, lN_0, pk_lLT (by omega) (by decide)]
    omega
  · have e : lN p - lN q = -(lN (q - p)) := by rw [← lN_sub (show p ≤ q by omega), Int64.neg_sub]
    rw [e, Int64.lt_iff_toInt_lt, Int64.toInt_neg, pk_lT (by omega), Int.bmod_eq_of_le (by omega) (by omega), show (0 : Int64).toInt = 0 by decide]
    omega
def gpT (F G : Nat → Nat) (i : Nat) : Nat := gapN (F i * sumN G 8) (G i * sumN F 8)
def grS (F G : Nat → Nat) : Nat → Nat
  | 0 => 0
  | i + 1 => if G i * sumN F 8 < F i * sumN G 8 then grS F G i ||| 2 ^ i else grS F G i
section MODELS
variable {h : MH} {a b r s : Nat} {f g : Nat → Int32} {F G : Nat → Nat}
def fitM (f : Nat → Int32) (F : Nat → Nat) : Prop := ∀ i, i < 8 → f i = nI (F i) ∧ F i ≤ 999
theorem fit_sum (hF : fitM f F) : sumN F 8 ≤ 7992 := sumN_le (b := 999) (fun j hj => (hF j hj).2)
theorem fit_mul (hF : fitM f F) (hG : fitM g G) {i : Nat} (hi : i < 8) : F i * sumN G 8 ≤ 7984008 ∧ G i * sumN F 8 ≤ 7984008 :=
  ⟨Nat.mul_le_mul (hF i hi).2 (fit_sum hG), Nat.mul_le_mul (hG i hi).2 (fit_sum hF)⟩
theorem fit_total (hF : fitM f F) : sumL f 8 = lN (sumN F 8) := sumL_N (fun i hi => ⟨(hF i hi).1, by have := (hF i hi).2; omega⟩)
theorem cLead (ha : shp a = (5, 0)) (hb : shp b = (5, 0)) (hA : rowC h a 8 f) (hB : rowC h b 8 g) (hF : fitM f F) (hG : fitM g G) {i : Nat} (hi : i < 8) : f_X6_leadOf h a b (nI i) = some (lN (F i * sumN G 8) - lN (G i * sumN F 8)) := by
  obtain ⟨q1, q2⟩ := hF i hi
  obtain ⟨q3, q4⟩ := hG i hi
  unfold f_X6_leadOf
  rw [cGet ha hA (by decide) hi, bd_s, cTotal hb hB (by decide), bd_s, cGet hb hB (by decide) hi, bd_s, cTotal ha hA (by decide), bd_s, fit_total hF, fit_total hG, q1, q3, nI_l (by omega), nI_l (by omega), lN_mul, lN_mul]
theorem cGapOf (ha : shp a = (5, 0)) (hb : shp b = (5, 0)) (hA : rowC h a 8 f) (hB : rowC h b 8 g) (hF : fitM f F) (hG : fitM g G) : f_X6_gapOf h a b = some (lN (sumN (gpT F G) 8)) := by
  have key : f_X6_gapOf_L5 h a b 0 0 = some (lN (sumN (gpT F G) 8)) := by
    unfold f_X6_gapOf_L5
    refine lpo_for (fun i => (lN (sumN (gpT F G) i), nI i)) 8 (fun i hi => ?_) ?_
    · (try dsimp only)
      obtain ⟨m1, m2⟩ := fit_mul hF hG hi
      unfold f_X6_gapOf_B5
      rw [if_pos (show nI i < 8 from (nI_lt hi (by decide) : nI i < nI 8)), cLead ha hb hA hB hF hG hi, bd_s, labs (by omega) (by omega), bd_s, nm_v, lN_add, nI_s]
      rfl
    · (try dsimp only)
      unfold f_X6_gapOf_B5
      rw [if_neg (by decide)]
  unfold f_X6_gapOf
  rw [key, bd_s]
theorem gp_le (hF : fitM f F) (hG : fitM g G) : sumN (gpT F G) 8 ≤ 8 * 7984008 := sumN_le (fun i hi => gapN_le (fit_mul hF hG hi).1 (fit_mul hF hG hi).2)
theorem grS_lt : ∀ i, grS F G i < 2 ^ i
  | 0 => show 0 < 1 by decide
  | i + 1 => by
    have ih := grS_lt i
    have p : 2 ^ (i + 1) = 2 * 2 ^ i := by rw [Nat.pow_succ]; omega
    unfold grS
    split
    · exact Nat.or_lt_two_pow (by omega) (by omega)
    · omega
theorem shl1s {i : Nat} (hi : i < 31) : shl 1 (nI i) = nI (2 ^ i) := by
  have p : 2 ^ i ≤ 2 ^ 30 := Nat.pow_le_pow_right (by decide) (by omega)
  have e := N_shl (a := 1) (k := i) (by omega) (by rw [Nat.one_mul]; omega)
  rw [Nat.one_mul] at e
  exact e
theorem cGreater (ha : shp a = (5, 0)) (hb : shp b = (5, 0)) (hA : rowC h a 8 f) (hB : rowC h b 8 g) (hF : fitM f F) (hG : fitM g G) : f_X6_greaterShares h a b = some (nI (grS F G 8)) := by
  have key : f_X6_greaterShares_L4 h a b 0 0 = some (nI (grS F G 8)) := by
    unfold f_X6_greaterShares_L4
    refine lpo_for (fun i => (nI (grS F G i), nI i)) 8 (fun i hi => ?_) ?_
    · (try dsimp only)
      obtain ⟨m1, m2⟩ := fit_mul hF hG hi
      unfold f_X6_greaterShares_B4
      rw [if_pos (show nI i < 8 from (nI_lt hi (by decide) : nI i < nI 8)), cLead ha hb hA hB hF hG hi, bd_s, nm_v, shl1s (by omega), N_or, nI_s]
      by_cases z : G i * sumN F 8 < F i * sumN G 8
      · rw [if_pos ((lpos (by omega) (by omega)).mpr z), show grS F G (i + 1) = grS F G i ||| 2 ^ i from if_pos z]
      · rw [if_neg (fun y => z ((lpos (by omega) (by omega)).mp y)), show grS F G (i + 1) = grS F G i from if_neg z]
    · (try dsimp only)
      unfold f_X6_greaterShares_B4
      rw [if_neg (by decide)]
  unfold f_X6_greaterShares
  rw [key, bd_s]
theorem cWrongM_s {n m : Nat} (ea : h.1 a 1 = nI n) (eb : h.1 b 1 = nI m) (hn : n ≤ 60) (hm : m ≤ 60) (z : ¬ n = 8 ∨ ¬ m = 8) : f_X6_wrongInModels h a b = some 5 := by
  unfold f_X6_wrongInModels
  rw [ea, eb]
  by_cases z1 : n = 8
  · rw [if_pos (show nI n = 8 by rw [z1]; rfl), if_neg (show ¬ nI m = 8 from fun y => by have := (nI_eq (b := 8) (by omega) (by decide)).mp y; omega)]
  · rw [if_neg (show ¬ nI n = 8 from fun y => z1 ((nI_eq (b := 8) (by omega) (by decide)).mp y))]
theorem cWrongM_u (ha : shp a = (5, 0)) (hb : shp b = (5, 0)) (hA : rowC h a 8 f) (hB : rowC h b 8 g) (z : mdOk f = false ∨ mdOk g = false) : f_X6_wrongInModels h a b = some 3 := by
  unfold f_X6_wrongInModels
  rw [hA.1, hB.1, if_pos (show nI 8 = 8 from rfl), if_pos (show nI 8 = 8 from rfl), cWithin ha hA (by decide), bd_s, cWithin hb hB (by decide), bd_s]
  unfold mdOk at z
  by_cases z1 : allB (fun i => btw (f i) 0 999) 8 = true
  · rw [if_pos z1, if_neg (fun y => by rcases z with z | z; rw [z] at z1; exact absurd z1 (by decide); rw [z] at y; exact absurd y (by decide))]
  · rw [if_neg z1]
theorem cWrongM (ha : shp a = (5, 0)) (hb : shp b = (5, 0)) (hA : rowC h a 8 f) (hB : rowC h b 8 g) (hF : fitM f F) (hG : fitM g G) : f_X6_wrongInModels h a b = some (if 0 < sumN F 8 ∧ 0 < sumN G 8 then 0 else 4) := by
  have o1 : allB (fun i => btw (f i) 0 999) 8 = true := allB_t.mpr (fun i hi => by
    have := (hF i hi).2
    rw [(hF i hi).1, btw_K (by omega) (by decide) (by decide), dec_t (by omega)])
  have o2 : allB (fun i => btw (g i) 0 999) 8 = true := allB_t.mpr (fun i hi => by
    have := (hG i hi).2
    rw [(hG i hi).1, btw_K (by omega) (by decide) (by decide), dec_t (by omega)])
  have s1 := fit_sum hF
  have s2 := fit_sum hG
  unfold f_X6_wrongInModels
  rw [hA.1, hB.1, if_pos (show nI 8 = 8 from rfl), if_pos (show nI 8 = 8 from rfl), cWithin ha hA (by decide), bd_s, cWithin hb hB (by decide), bd_s, o1, o2, if_pos rfl, if_pos rfl, cTotal ha hA (by decide), bd_s, cTotal hb hB (by decide), bd_s, fit_total hF, fit_total hG]
  by_cases z1 : sumN F 8 = 0
  · rw [z1, if_pos (show lN 0 = 0 from rfl), if_neg (by omega)]
  · rw [if_neg (lN_ne0 (by omega) (by omega))]
    by_cases z2 : sumN G 8 = 0
    · rw [z2, if_pos (show lN 0 = 0 from rfl), if_neg (by omega)]
    · rw [if_neg (lN_ne0 (by omega) (by omega)), if_pos (by omega)]
/-! the reference's look at a model -/
def acS (f : Nat → Int32) : Nat → Int32
  | 0 => 0
  | k + 1 => if allB (fun i => btw (f i) 0 999) (k + 1) = true then acS f k + f k else acS f k + 0
theorem mAskC_L (hr : r < 6) (hM : rowM h 66 67 40 r 8 f) : f_X7_askedCounts_L7 h (nI r) 0 1 0 = some (acS f 8, b2i (mdOk f)) := by
  unfold f_X7_askedCounts_L7 mdOk
  rw [show ((0 : Int32), (1 : Int32), (0 : Int32)) = (acS f 0, b2i (allB (fun i => btw (f i) 0 999) 0), nI 0) from rfl]
  refine lpo_for (fun k => (acS f k, b2i (allB (fun i => btw (f i) 0 999) k), nI k)) 8 (fun k hk => ?_) ?_
  · (try dsimp only)
    have e : allB (fun i => btw (f i) 0 999) (k + 1) = (allB (fun i => btw (f i) 0 999) k && btw (f k) 0 999) := rfl
    have e2 : acS f (k + 1) = if allB (fun i => btw (f i) 0 999) (k + 1) = true then acS f k + f k else acS f k + 0 := rfl
    unfold f_X7_askedCounts_B7 f_X7_askedCounts_J39_7 f_X7_askedCounts_J40_7
    rw [e2, e, if_pos (show nI k < 8 from (nI_lt hk (by decide) : nI k < nI 8)), mRowAt hr (by omega), hM.2 k hk, nI_s]
    cases allB (fun i => btw (f i) 0 999) k with
    | false => rfl
    | true =>
      rw [if_neg (show ¬ b2i true = 0 by decide), bd_s, mIn, bd_s]
      cases btw (f k) 0 999 with
      | false => rfl
      | true => rfl
  · (try dsimp only)
    unfold f_X7_askedCounts_B7
    rw [if_neg (by decide)]
theorem acS_N (ok : mdOk f = true) (hF : fitM f F) : ∀ {k : Nat}, k ≤ 8 → acS f k = nI (sumN F k)
  | 0, _ => rfl
  | k + 1, hk => by
    have e : allB (fun i => btw (f i) 0 999) (k + 1) = true := allB_t.mpr (fun i hi => allB_t.mp ok i (by omega))
    show (if allB (fun i => btw (f i) 0 999) (k + 1) = true then acS f k + f k else acS f k + 0) = nI (sumN F k + F k)
    rw [if_pos e, acS_N ok hF (k := k) (by omega), (hF k (by omega)).1, nI_add]
theorem mAskC_u (hr : r < 6) (hM : rowM h 66 67 40 r 8 f) (ok : mdOk f = false) : f_X7_askedCounts h (nI r) = f_X7_meets h (nI 3) := by
  unfold f_X7_askedCounts
  rw [mAskC_L hr hM, bd_s, ok]
  exact pM (by decide) (by decide)
theorem mAskC (hr : r < 6) (hM : rowM h 66 67 40 r 8 f) (ok : mdOk f = true) (hF : fitM f F) : f_X7_askedCounts h (nI r) = some (nI (sumN F 8), h) := by
  unfold f_X7_askedCounts
  rw [mAskC_L hr hM, bd_s, ok]
  show (if b2i true = 0 then bnd2 (f_X7_meets h 3) (fun r71 h71 => some (r71, h71)) else some (acS f 8, h)) = _
  rw [if_neg (show ¬ b2i true = 0 by decide), acS_N ok hF (Nat.le_refl 8)]
theorem mBestL (hr : r < 6) (hs : s < 6) (hA : rowM h 66 67 40 r 8 f) (hB : rowM h 66 67 40 s 8 g) (hF : fitM f F) (hG : fitM g G) : f_X7_bestTest_L119 h (nI r) (nI s) (nI (sumN F 8)) (nI (sumN G 8)) 0 0 0 = some (lN (sumN (gpT F G) 8), nI (grS F G 8)) := by
  have s1 := fit_sum hF
  have s2 := fit_sum hG
  unfold f_X7_bestTest_L119
  rw [show ((0 : Int64), (0 : Int32), (0 : Int32)) = (lN (sumN (gpT F G) 0), nI (grS F G 0), nI 0) from rfl]
  refine lpo_for (fun i => (lN (sumN (gpT F G) i), nI (grS F G i), nI i)) 8 (fun i hi => ?_) ?_
  · (try dsimp only)
    obtain ⟨m1, m2⟩ := fit_mul hF hG hi
    obtain ⟨q1, q2⟩ := hF i hi
    obtain ⟨q3, q4⟩ := hG i hi
    have ab := labs (p := F i * sumN G 8) (q := G i * sumN F 8) (by omega) (by omega)
    have J : ∀ u : Int64, f_X7_bestTest_J169_119 h (nI r) (nI s) (nI (sumN F 8)) (nI (sumN G 8)) (nI (grS F G i)) (nI i) (lN (F i * sumN G 8) - lN (G i * sumN F 8)) (lN (sumN (gpT F G) i)) u = some (.inl (lN (sumN (gpT F G) i) + u, nI (grS F G (i + 1)), nI (i + 1))) := fun u => by
      unfold f_X7_bestTest_J169_119
      rw [nm_v, nm_v, nm_v, shl1s (by omega), N_or, nI_s]
      by_cases z : G i * sumN F 8 < F i * sumN G 8
      · rw [if_pos ((lpos (by omega) (by omega)).mpr z), show grS F G (i + 1) = grS F G i ||| 2 ^ i from if_pos z]
      · rw [if_neg (fun y => z ((lpos (by omega) (by omega)).mp y)), show grS F G (i + 1) = grS F G i from if_neg z, show (0 : Int32) = nI 0 from rfl, N_or, Nat.or_zero]
    unfold f_X7_bestTest_B119
    rw [if_pos (show nI i < 8 from (nI_lt hi (by decide) : nI i < nI 8)), mRowAt hr (by omega), bd_s, mRowAt hs (by omega), bd_s, hA.2 i hi, hB.2 i hi, q1, q3, nI_l (by omega), nI_l (by omega), nI_l (by omega), nI_l (by omega), lN_mul, lN_mul, nm_v, J, J]
    have es : sumN (gpT F G) (i + 1) = sumN (gpT F G) i + gapN (F i * sumN G 8) (G i * sumN F 8) := rfl
    rw [es, ← lN_add]
    unfold f_J9_abs_067f4 at ab
    by_cases z : lN (F i * sumN G 8) - lN (G i * sumN F 8) < 0
    · rw [if_pos z] at ab ⊢
      rw [Option.some.inj ab]
    · rw [if_neg z] at ab ⊢
      rw [Option.some.inj ab]
  · (try dsimp only)
    unfold f_X7_bestTest_B119
    rw [if_neg (by decide)]
end MODELS
