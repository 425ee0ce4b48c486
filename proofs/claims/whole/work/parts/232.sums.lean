/-! sums over places -/
def sumN (g : Nat → Nat) : Nat → Nat
  | 0 => 0
  | n + 1 => sumN g n + g n
theorem sumN_add {f g : Nat → Nat} : ∀ (n : Nat), sumN (fun j => f j + g j) n = sumN f n + sumN g n
  | 0 => rfl
  | n + 1 => by
    unfold sumN
    rw [sumN_add n]
    omega
theorem sumN_congr {f g : Nat → Nat} : ∀ {n : Nat}, (∀ j, j < n → f j = g j) → sumN f n = sumN g n
  | 0, _ => rfl
  | n + 1, e => by
    unfold sumN
    rw [sumN_congr (n := n) (fun j hj => e j (by omega)), e n (by omega)]
theorem sumN_one {g : Nat → Nat} {k : Nat} (z : ∀ j, j ≠ k → g j = 0) : ∀ (n : Nat), sumN g n = if k < n then g k else 0
  | 0 => by rw [if_neg (Nat.not_lt_zero k)]; rfl
  | n + 1 => by
    unfold sumN
    rw [sumN_one z n]
    by_cases q : n = k
    · subst q
      rw [if_neg (Nat.lt_irrefl n), if_pos (Nat.lt_succ_self n)]
      omega
    · rw [z n q]
      by_cases r : k < n
      · rw [if_pos r, if_pos (by omega)]
        omega
      · rw [if_neg r, if_neg (by omega)]
theorem sumN_le {g : Nat → Nat} {b : Nat} : ∀ {n : Nat}, (∀ j, j < n → g j ≤ b) → sumN g n ≤ n * b
  | 0, _ => Nat.zero_le _
  | n + 1, e => by
    unfold sumN
    have h1 := sumN_le (n := n) (fun j hj => e j (by omega))
    have h2 := e n (by omega)
    rw [Nat.succ_mul]
    omega
