section PRICE2
variable {h : MH} {c kd n i : Nat} {ds cs : Nat → Nat} {w wt : Nat}
theorem mP61 {v j : Nat} (hc : c < 6) (hK : covK kd n ds cs w wt) (hM : covM h c kd n ds cs w wt) (hi : i < n) (hj : j < n) (h1 : 1 ≤ w) (hw : w ≤ 40) : f_X7_priceOf_B61 h (nI c) (nI i) (nI w) (nI v) (nI j) = some (Sum.inl (nI (v + touchT ds w i j), nI (j + 1))) := by
  have hn := hK.1.2.1
  have nz1 : nz (nI w) = true := decide_eq_true (nI0_ne h1 (by omega))
  have di := Nat.div_le_self i w
  have dj := Nat.div_le_self j w
  have di2 : i / w < 2147483648 := Nat.lt_of_le_of_lt di (by omega)
  have dj2 : j / w < 2147483648 := Nat.lt_of_le_of_lt dj (by omega)
  have g1 : gapN i j < 2147483648 := Nat.lt_of_le_of_lt (gapN_le (B := 40) (by omega) (by omega)) (by decide)
  have t := mP134 (x3 := nI w) (v := v) hc hK hM hi hj true
  rw [show b2i true = 1 from rfl] at t
  unfold f_X7_priceOf_B61
  rw [ix_n hc (by decide), gd_t, tn_n (by omega), hM.2.1, if_pos (nI_lt hj (by omega)), nz1, gd_t, gd_t, pk_div (by omega) (by omega) (by omega), pk_div (by omega) (by omega) (by omega), mAbs (by omega) (by omega), bd_s, mP93 hc hK hM hi hj h1 hw]
  unfold f_X7_priceOf_J129_61 touchT nbr
  rw [t]
  by_cases q1 : j / w = i / w
  · rw [if_pos (show nI (j / w) = nI (i / w) by rw [q1]), decide_eq_true q1, Bool.true_and]
    by_cases q2 : gapN i j = 1
    · rw [if_pos (show nI (gapN i j) = 1 by rw [q2]; rfl), decide_eq_true q2, Bool.true_or]
    · rw [if_neg (show ¬ nI (gapN i j) = 1 from fun q => q2 ((nI_eq (b := 1) g1 (by decide)).mp q)), decide_eq_false q2, Bool.false_or]
  · rw [if_neg (show ¬ nI (j / w) = nI (i / w) from fun q => q1 ((nI_eq dj2 di2).mp q)), decide_eq_false q1, Bool.false_and, Bool.false_or]
theorem mP61L (hc : c < 6) (hK : covK kd n ds cs w wt) (hM : covM h c kd n ds cs w wt) (hi : i < n) (h1 : 1 ≤ w) (hw : w ≤ 40) : f_X7_priceOf_L61 h (nI c) (nI i) (nI w) 1 0 = some (nI (1 + sumN (touchT ds w i) n)) := by
  have hn := hK.1.2.1
  unfold f_X7_priceOf_L61
  rw [show ((1 : Int32), (0 : Int32)) = (nI (1 + sumN (touchT ds w i) 0), nI 0) from rfl]
  refine lpo_for (fun j => (nI (1 + sumN (touchT ds w i) j), nI j)) n (fun j hj => ?_) ?_
  · (try dsimp only)
    rw [mP61 hc hK hM hi hj h1 hw, Nat.add_assoc]
    rfl
  · (try dsimp only)
    unfold f_X7_priceOf_B61
    rw [ix_n hc (by decide), gd_t, tn_n (by omega), hM.2.1, if_neg (nI_nlt (Nat.le_refl _) (by omega))]
end PRICE2
