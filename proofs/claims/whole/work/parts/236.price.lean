/-- j touches i in a picture w wide -/
def nbr (w i j : Nat) : Bool := (decide (j / w = i / w) && decide (gapN i j = 1)) || (decide (gapN i j = w) && (decide (i % w = j % w) && decide (gapN (i / w) (j / w) = 1)))
def touchT (ds : Nat → Nat) (w i j : Nat) : Nat := if nbr w i j = true then gapN (ds i) (ds j) else 0
theorem gapN_le {a b B : Nat} (ha : a ≤ B) (hb : b ≤ B) : gapN a b ≤ B := by
  unfold gapN
  omega
section PRICE
variable {h : MH} {c kd n i : Nat} {ds cs : Nat → Nat} {w wt : Nat}
theorem mP134 {x3 : Int32} {v j : Nat} (hc : c < 6) (hK : covK kd n ds cs w wt) (hM : covM h c kd n ds cs w wt) (hi : i < n) (hj : j < n) (b : Bool) : f_X7_priceOf_J134_61 h (nI c) (nI i) x3 (nI v) (nI j) (b2i b) = some (Sum.inl (nI (v + (if b = true then gapN (ds i) (ds j) else 0)), nI (j + 1))) := by
  have b1 := hK.2.1 i hi
  have b2 := hK.2.1 j hj
  unfold f_X7_priceOf_J134_61
  rw [mDotAt hc hK hM hi, bd_s, mDotAt hc hK hM hj, bd_s, mAbs (by omega) (by omega), bd_s, nm_v, nm_v, nI_add, nI_s]
  cases b with
  | false => rw [if_pos (show b2i false = 0 from rfl), if_neg (by decide), show (0 : Int32) = nI 0 from rfl, nI_add]
  | true => rw [if_neg (show ¬ b2i true = 0 by decide), if_pos rfl]
theorem mP93 {v j : Nat} (hc : c < 6) (hK : covK kd n ds cs w wt) (hM : covM h c kd n ds cs w wt) (hi : i < n) (hj : j < n) (h1 : 1 ≤ w) (hw : w ≤ 40) : f_X7_priceOf_J93_61 h (nI c) (nI i) (nI w) (nI v) (nI j) = some (Sum.inl (nI (v + (if (decide (gapN i j = w) && (decide (i % w = j % w) && decide (gapN (i / w) (j / w) = 1))) = true then gapN (ds i) (ds j) else 0)), nI (j + 1))) := by
  have hn := hK.1.2.1
  have nz1 : nz (nI w) = true := decide_eq_true (nI0_ne h1 (by omega))
  have rmi : irm (nI i) (nI w) = nI (i % w) := pk_rem (by omega) (by omega) (by omega)
  have rmj : irm (nI j) (nI w) = nI (j % w) := pk_rem (by omega) (by omega) (by omega)
  have ml := Nat.mod_lt i (show w > 0 from h1)
  have mj := Nat.mod_lt j (show w > 0 from h1)
  have di := Nat.div_le_self i w
  have dj := Nat.div_le_self j w
  have t := mP134 (x3 := nI w) (v := v) hc hK hM hi hj true
  have f := mP134 (x3 := nI w) (v := v) hc hK hM hi hj false
  rw [show b2i true = 1 from rfl] at t
  rw [show b2i false = 0 from rfl] at f
  have g1 : gapN i j < 2147483648 := by unfold gapN; omega
  have g2 : gapN (i / w) (j / w) < 2147483648 := Nat.lt_of_le_of_lt (gapN_le (B := 40) (Nat.le_trans di (by omega)) (Nat.le_trans dj (by omega))) (by decide)
  unfold f_X7_priceOf_J93_61 f_X7_priceOf_J129_61 f_X7_priceOf_J133_61
  rw [mAbs (by omega) (by omega), bd_s, nz1, gd_t, gd_t, gd_t, gd_t, rmi, rmj, pk_div (by omega) (by omega) (by omega), pk_div (by omega) (by omega) (by omega), mAbs (by omega) (by omega), bd_s, t, f]
  by_cases q1 : gapN i j = w
  · rw [if_pos (show nI (gapN i j) = nI w by rw [q1]), decide_eq_true q1, Bool.true_and]
    by_cases q2 : i % w = j % w
    · rw [if_pos (show nI (i % w) = nI (j % w) by rw [q2]), decide_eq_true q2, Bool.true_and]
      by_cases q3 : gapN (i / w) (j / w) = 1
      · rw [if_pos (show nI (gapN (i / w) (j / w)) = 1 by rw [q3]; rfl), decide_eq_true q3]
      · rw [if_neg (show ¬ nI (gapN (i / w) (j / w)) = 1 from fun q => q3 ((nI_eq (b := 1) g2 (by decide)).mp q)), decide_eq_false q3]
    · rw [if_neg (show ¬ nI (i % w) = nI (j % w) from fun q => q2 ((nI_eq (by omega) (by omega)).mp q)), decide_eq_false q2, Bool.false_and]
  · rw [if_neg (show ¬ nI (gapN i j) = nI w from fun q => q1 ((nI_eq g1 (by omega)).mp q)), decide_eq_false q1, Bool.false_and]
end PRICE
