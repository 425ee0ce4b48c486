theorem div_pred {w j : Nat} (h1 : 1 ≤ w) : (j / w = (j + 1) / w) ↔ 0 < (j + 1) % w := by
  have e1 := Nat.div_add_mod j w
  have e2 := Nat.div_add_mod (j + 1) w
  have l1 := Nat.mod_lt j (show w > 0 from h1)
  have l2 := Nat.mod_lt (j + 1) (show w > 0 from h1)
  constructor
  · intro q
    rw [← q] at e2
    omega
  · intro q
    rw [Nat.succ_div]
    rw [if_neg (fun d => by have := Nat.mod_eq_zero_of_dvd d; omega)]
    rfl
theorem mod_succ_pos {w j : Nat} (h1 : 1 ≤ w) : 0 < (j + 1) % w ↔ j % w < w - 1 := by
  have l1 := Nat.mod_lt j (show w > 0 from h1)
  rw [Nat.add_mod]
  by_cases q : w = 1
  · subst q
    simp
    omega
  · rw [Nat.mod_eq_of_lt (show 1 < w by omega)]
    by_cases z : j % w + 1 = w
    · rw [z, Nat.mod_self]
      omega
    · rw [Nat.mod_eq_of_lt (show j % w + 1 < w by omega)]
      omega
