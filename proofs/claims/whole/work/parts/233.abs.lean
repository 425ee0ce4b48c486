theorem neg_lt {k : Nat} (h0 : 0 < k) (hk : k ≤ 1000000) : -(nI k) < 0 := by
  rw [Int32.lt_iff_toInt_lt, Int32.toInt_neg, nI_toInt (by omega), Int.bmod_eq_of_le (by omega) (by omega), show (0 : Int32).toInt = 0 by decide]
  omega
def gapN (a b : Nat) : Nat := (a - b) + (b - a)
theorem mAbs {a b : Nat} (ha : a ≤ 1000000) (hb : b ≤ 1000000) : f_X7_abs (nI a - nI b) = some (nI (gapN a b)) := by
  unfold f_X7_abs gapN
  by_cases q : b ≤ a
  · rw [nIsub q, if_neg (nlt0 (by omega)), show a - b + (b - a) = a - b by omega]
  · rw [← Int32.neg_sub, nIsub (show a ≤ b by omega), if_pos (neg_lt (by omega) (by omega)), Int32.neg_neg, show a - b + (b - a) = b - a by omega]
theorem cAbs {a b : Nat} (ha : a ≤ 1000000) (hb : b ≤ 1000000) : f_J9_abs_0f7a4 (nI a - nI b) = some (nI (gapN a b)) := mAbs ha hb
