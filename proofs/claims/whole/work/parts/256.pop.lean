/-! bits counted -/
def pop (v : Nat) : Nat := sumN (fun i => v / 2 ^ i % 2) 31
theorem pop_all : ∀ a, a < 64 → ∀ b, b < 64 → f_J6_bitCount_0f7a4 (nI (64 * a + b)) = some (nI (pop (64 * a + b))) ∧ pop (64 * a + b) ≤ 12 := by decide +kernel
theorem cPop {v : Nat} (hv : v < 4096) : f_J6_bitCount_0f7a4 (nI v) = some (nI (pop v)) := by
  have := (pop_all (v / 64) (by omega) (v % 64) (by omega)).1
  rw [show 64 * (v / 64) + v % 64 = v by omega] at this
  exact this
theorem pop_le {v : Nat} (hv : v < 4096) : pop v ≤ 12 := by
  have := (pop_all (v / 64) (by omega) (v % 64) (by omega)).2
  rw [show 64 * (v / 64) + v % 64 = v by omega] at this
  exact this
theorem mPop {v : Nat} (hv : v < 2147483648) : f_X7_bits (nI v) = some (nI (pop v)) := by
  have key : f_X7_bits_L4 (nI v) 0 0 = some (nI (pop v)) := by
    unfold f_X7_bits_L4 pop
    refine lpo_sum _ 31 (fun i u hi => ?_) (fun u => ?_)
    · (try dsimp only)
      unfold f_X7_bits_B4
      rw [if_pos (show nI i < 31 from (nI_lt hi (by decide) : nI i < nI 31)), N_bit hv (by omega), nm_v, nI_add, nI_s]
    · (try dsimp only)
      unfold f_X7_bits_B4
      rw [if_neg (by decide)]
  unfold f_X7_bits
  rw [key, bd_s]
theorem xor_lt12 {a b : Nat} (ha : a < 4096) (hb : b < 4096) : a ^^^ b < 4096 := Nat.xor_lt_two_pow (n := 12) ha hb
theorem and_lt12 {a b : Nat} (ha : a < 4096) : a &&& b < 4096 := Nat.lt_of_le_of_lt Nat.and_le_left ha
theorem and4095 {a : Nat} (ha : a < 4096) : a &&& 4095 = a := by
  have := Nat.and_two_pow_sub_one_eq_mod a 12
  rw [show 2 ^ 12 - 1 = 4095 from rfl] at this
  rw [this, Nat.mod_eq_of_lt ha]
