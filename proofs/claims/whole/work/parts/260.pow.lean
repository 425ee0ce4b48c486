/-! powers, and a curve's points, modulo 251 -/
theorem cPow {b k : Nat} (hb : b ≤ 1000000) (hk : k ≤ 1000) : f_X6_powerOf (nI b) (nI k) = some (nI (b ^ k % 251)) := by
  have key : f_X6_powerOf_L4 (nI b) (nI k) 1 0 = some (nI (b ^ k % 251)) := by
    unfold f_X6_powerOf_L4
    refine lpo_for (fun i => (nI (b ^ i % 251), nI i)) k (fun i hi => ?_) ?_
    · (try dsimp only)
      have l := Nat.mod_lt (b ^ i) (show 251 > 0 by decide)
      have l2 : b ^ i % 251 * b ≤ 250 * 1000000 := Nat.mul_le_mul (by omega) hb
      unfold f_X6_powerOf_B4
      rw [if_pos (nI_lt hi (by omega)), nm_v, pk_mul, N_remK (by omega) (by decide) (by decide), nI_s, Nat.mod_mul_mod, ← Nat.pow_succ]
    · (try dsimp only)
      unfold f_X6_powerOf_B4
      rw [if_neg (nI_nlt (Nat.le_refl _) (by omega))]
  unfold f_X6_powerOf
  rw [key, bd_s]
theorem mInv {b : Nat} (hb : b ≤ 1000000) : f_X7_inverse (nI b) = some (nI (b ^ 249 % 251)) := by
  have key : f_X7_inverse_L4 (nI b) 1 0 = some (nI (b ^ 249 % 251)) := by
    unfold f_X7_inverse_L4
    refine lpo_for (fun i => (nI (b ^ i % 251), nI i)) 249 (fun i hi => ?_) ?_
    · (try dsimp only)
      have l := Nat.mod_lt (b ^ i) (show 251 > 0 by decide)
      have l2 : b ^ i % 251 * b ≤ 250 * 1000000 := Nat.mul_le_mul (by omega) hb
      unfold f_X7_inverse_B4
      rw [if_pos (show nI i < 249 from (nI_lt hi (by decide) : nI i < nI 249)), nm_v, pk_mul, N_remK (by omega) (by decide) (by decide), nI_s, Nat.mod_mul_mod, ← Nat.pow_succ]
    · (try dsimp only)
      unfold f_X7_inverse_B4
      rw [if_neg (by decide)]
  unfold f_X7_inverse
  rw [key, bd_s]
def polyN (c : Nat → Nat) (x : Nat) : Nat → Nat
  | 0 => 0
  | m + 1 => polyN c x m + c m * x ^ m
theorem polyN_shift (c : Nat → Nat) (x : Nat) : ∀ m, polyN c x (m + 1) = c 0 + x * polyN (fun k => c (k + 1)) x m
  | 0 => by
    show 0 + c 0 * x ^ 0 = c 0 + x * 0
    rw [Nat.pow_zero]
    omega
  | m + 1 => by
    show polyN c x (m + 1) + c (m + 1) * x ^ (m + 1) = c 0 + x * (polyN (fun k => c (k + 1)) x m + c (m + 1) * x ^ m)
    rw [polyN_shift c x m, Nat.mul_add, Nat.pow_succ, Nat.add_assoc, Nat.mul_left_comm x, Nat.mul_comm x (x ^ m)]
def curC (V : Nat) (key : Int32) (k : Nat) : Nat := if k = 0 then V else keyB (keyN key k) % 251
/-- what the class has at place i behind p powers -/
def cPt (V : Nat) (key : Int32) (p i : Nat) : Nat := polyN (curC V key) (i + 1) (p + 1) % 251
theorem polyN_s (c : Nat → Nat) (x m : Nat) : polyN c x (m + 1) = polyN c x m + c m * x ^ m := rfl
theorem curC_0 {V : Nat} {key : Int32} : curC V key 0 = V := if_pos rfl
theorem curC_s {V : Nat} {key : Int32} {p : Nat} : curC V key (p + 1) = keyB (keyN key (p + 1)) % 251 := if_neg (by omega)
theorem cPt_0 {V : Nat} {key : Int32} {i : Nat} (hV : V < 251) : cPt V key 0 i = V := by
  unfold cPt
  rw [polyN_s, curC_0, Nat.pow_zero, Nat.mul_one, show polyN (curC V key) (i + 1) 0 = 0 from rfl, Nat.zero_add, Nat.mod_eq_of_lt hV]
theorem cPt_s {V : Nat} {key : Int32} {p i : Nat} : (cPt V key p i + keyB (keyN key (p + 1)) % 251 * ((i + 1) ^ (p + 1) % 251)) % 251 = cPt V key (p + 1) i := by
  unfold cPt
  rw [polyN_s _ _ (p + 1), curC_s]
  generalize keyB (keyN key (p + 1)) % 251 = b
  generalize polyN (curC V key) (i + 1) (p + 1) = c
  rw [Nat.mod_add_mod, ← Nat.add_mod_mod, Nat.mul_mod_mod, Nat.add_mod_mod]
/-- what the reference has behind s steps from above -/
def hPt (V : Nat) (key : Int32) (T x s : Nat) : Nat := polyN (fun k => curC V key (T - s + k)) x s % 251
theorem hPt_s {V : Nat} {key : Int32} {T x s : Nat} (hs : s < T) : (hPt V key T x s * x + curC V key (T - 1 - s)) % 251 = hPt V key T x (s + 1) := by
  unfold hPt
  rw [polyN_shift]
  have e : (fun k => curC V key (T - (s + 1) + (k + 1))) = fun k => curC V key (T - s + k) := by
    funext k
    congr 1
    omega
  rw [e, show T - (s + 1) + 0 = T - 1 - s by omega, Nat.add_mod, Nat.mod_mul_mod, ← Nat.add_mod, Nat.add_comm, Nat.mul_comm x]
theorem hPt_T {V : Nat} {key : Int32} {T i : Nat} (h1 : 1 ≤ T) : hPt V key T (i + 1) T = cPt V key (T - 1) i := by
  unfold hPt cPt
  rw [show T - 1 + 1 = T by omega]
  have e : (fun k => curC V key (T - T + k)) = curC V key := by
    funext k
    congr 1
    omega
  rw [e]
theorem curC_lt {V : Nat} {key : Int32} {k : Nat} (hV : V < 251) : curC V key k < 251 := by
  unfold curC
  split
  · exact hV
  · exact Nat.mod_lt _ (by decide)
theorem cPt_lt {V : Nat} {key : Int32} {p i : Nat} : cPt V key p i < 251 := Nat.mod_lt _ (by decide)
theorem hPt_lt {V : Nat} {key : Int32} {T x s : Nat} : hPt V key T x s < 251 := Nat.mod_lt _ (by decide)
