/-! fractions in lowest terms -/
theorem lN_0 : (0 : Int64) = lN 0 := rfl
theorem lN_one : (1 : Int64) = lN 1 := rfl
theorem lN_ne0 {a : Nat} (h0 : 0 < a) (ha : a < 9223372036854775808) : ¬ lN a = 0 := fun z => by
  have := (pk_lEQ (a := a) (b := 0) ha (by decide)).mp z
  omega
theorem nzL_N {a : Nat} (h0 : 0 < a) (ha : a < 9223372036854775808) : nzL (lN a) = true := decide_eq_true (lN_ne0 h0 ha)
theorem lrm_N {a b : Nat} (ha : a < 9223372036854775808) (h0 : 0 < b) (hb : b < 9223372036854775808) : lrm (lN a) (lN b) = lN (a % b) := pk_lRem ha h0 hb
theorem gcd_step {a b : Nat} : Nat.gcd a b = Nat.gcd b (a % b) := by
  rw [Nat.gcd_comm a b, Nat.gcd_rec b a, Nat.gcd_comm]
theorem gcd_pos {a b : Nat} (hb : 0 < b) : 0 < Nat.gcd a b := Nat.gcd_pos_of_pos_right a hb
theorem mEu {h : MH} {l1 l3 : Int64} {x5 : Int32} : ∀ (k b a : Nat), b ≤ k → a < 9223372036854775808 → b < 9223372036854775808 → f_X7_tell_L6 h l1 l3 x5 (lN a) (lN b) = some (lN (Nat.gcd a b))
  | 0, b, a, hk, ha, hb => by
    have : b = 0 := (by omega)
    subst this
    unfold f_X7_tell_L6
    rw [Nat.gcd_zero_right]
    refine lpo_out ?_
    (try dsimp only)
    unfold f_X7_tell_B6
    rw [if_pos (show lN 0 = 0 from rfl)]
  | k + 1, b, a, hk, ha, hb => by
    by_cases b0 : b = 0
    · subst b0
      unfold f_X7_tell_L6
      rw [Nat.gcd_zero_right]
      refine lpo_out ?_
      (try dsimp only)
      unfold f_X7_tell_B6
      rw [if_pos (show lN 0 = 0 from rfl)]
    · have l := Nat.mod_lt a (show b > 0 by omega)
      have ih := mEu (h := h) (l1 := l1) (l3 := l3) (x5 := x5) k (a % b) b (by omega) hb (by omega)
      unfold f_X7_tell_L6 at ih ⊢
      rw [gcd_step, ← ih]
      refine lpo_in ?_
      (try dsimp only)
      unfold f_X7_tell_B6
      rw [if_neg (lN_ne0 (by omega) hb), nzL_N (by omega) hb, gd_t, nm_v, lrm_N ha (by omega) hb]
theorem cEu : ∀ (k a b t : Nat), b < 2 ^ k → t + 2 * k ≤ 100 → a < 9223372036854775808 → b < 9223372036854775808 → f_X2_commonDivisor_L9 (lN a) (lN b) (nI t) = some (lN (Nat.gcd a b)) := by
  have out : ∀ a t : Nat, t ≤ 100 → f_X2_commonDivisor_L9 (lN a) (lN 0) (nI t) = some (lN a) := fun a t ht => by
    unfold f_X2_commonDivisor_L9
    refine lpo_out ?_
    (try dsimp only)
    unfold f_X2_commonDivisor_B9
    by_cases z : t < 100
    · rw [if_pos (show nI t < 100 from (nI_lt z (by decide) : nI t < nI 100)), if_pos (show lN 0 = 0 from rfl)]
    · rw [if_neg (show ¬ nI t < 100 from (nI_nlt (by omega) (by omega) : ¬ nI t < nI 100))]
  have go : ∀ a b t : Nat, t < 100 → 0 < b → a < 9223372036854775808 → b < 9223372036854775808 → f_X2_commonDivisor_L9 (lN a) (lN b) (nI t) = f_X2_commonDivisor_L9 (lN b) (lN (a % b)) (nI (t + 1)) := fun a b t ht b0 ha hb => by
    unfold f_X2_commonDivisor_L9
    refine lpo_in ?_
    (try dsimp only)
    unfold f_X2_commonDivisor_B9
    rw [if_pos (show nI t < 100 from (nI_lt ht (by decide) : nI t < nI 100)), if_neg (lN_ne0 b0 hb), nzL_N b0 hb, gd_t, nm_v, lrm_N ha b0 hb, nI_s]
  intro k
  induction k with
  | zero =>
    intro a b t hk ht ha hb
    have : b = 0 := by
      rw [Nat.pow_zero] at hk
      omega
    subst this
    rw [Nat.gcd_zero_right]
    exact out a t (by omega)
  | succ k ih =>
    intro a b t hk ht ha hb
    by_cases b0 : b = 0
    · subst b0
      rw [Nat.gcd_zero_right]
      exact out a t (by omega)
    · have l := Nat.mod_lt a (show b > 0 by omega)
      rw [go a b t (by omega) (by omega) ha hb, gcd_step]
      by_cases r0 : a % b = 0
      · rw [r0, Nat.gcd_zero_right]
        exact out b (t + 1) (by omega)
      · have l2 := Nat.mod_lt b (show a % b > 0 by omega)
        have e := Nat.div_add_mod b (a % b)
        have d1 : 1 ≤ b / (a % b) := (Nat.one_le_div_iff (by omega)).mpr (by omega)
        have m1 : a % b * 1 ≤ a % b * (b / (a % b)) := Nat.mul_le_mul (Nat.le_refl _) d1
        have p : 2 ^ (k + 1) = 2 * 2 ^ k := by rw [Nat.pow_succ]; omega
        rw [go b (a % b) (t + 1) (by omega) (by omega) hb (by omega), gcd_step]
        exact ih (a % b) (b % (a % b)) (t + 1 + 1) (by omega) (by omega) (by omega) (by omega)
/-- the fraction that the class tells -/
def tlC (h : MH) (A B : Nat) : MH := uL (uL h 16 0 (lN (A / Nat.gcd A B))) 16 1 (lN (B / Nat.gcd A B))
def tlM (h : MH) (A B : Nat) : MH := uL (uL h 64 3 (lN (A / Nat.gcd A B))) 64 4 (lN (B / Nat.gcd A B))
theorem cTold {h : MH} {A B : Nat} (hA : A < 9223372036854775808) (h0 : 0 < B) (hB : B < 2 ^ 49) : f_X2_become h (lN A) (lN B) = some (tlC h A B) := by
  have g0 := gcd_pos (a := A) h0
  have gl := Nat.gcd_le_right A h0
  have key := cEu 49 A B 0 hB (by decide) hA (by omega)
  unfold f_X2_become f_X2_commonDivisor
  rw [show (0 : Int32) = nI 0 from rfl, key, bd_s, bd_s, if_neg (show ¬ lN (Nat.gcd A B) < 1 from fun z => by have := (pk_lLT (a := Nat.gcd A B) (b := 1) (by omega) (by decide)).mp z; omega), nzL_N g0 (by omega), gd_t, nm_v, gd_t, nm_v, pk_lDiv (by omega) g0 (by omega), pk_lDiv (by omega) g0 (by omega)]
  rfl
theorem mTold {h : MH} {A B : Nat} {v : Int32} (hA : A < 9223372036854775808) (h0 : 0 < B) (hB : B < 9223372036854775808) : f_X7_tell h (lN A) (lN B) v = some (v, tlM h A B) := by
  have g0 := gcd_pos (a := A) h0
  have gl := Nat.gcd_le_right A h0
  unfold f_X7_tell
  rw [mEu B B A (Nat.le_refl _) hA hB, bd_s, nzL_N g0 (by omega), gd_t, nm_v, gd_t, nm_v, pk_lDiv (by omega) g0 (by omega), pk_lDiv (by omega) g0 (by omega)]
  rfl
theorem tlC_1 {h : MH} {A B : Nat} : (tlC h A B).1 = h.1 := rfl
theorem tlM_1 {h : MH} {A B : Nat} : (tlM h A B).1 = h.1 := rfl
theorem tlC_w {h : MH} {A B : Nat} : (tlC h A B).2.2 = h.2.2 := rfl
theorem tlM_w {h : MH} {A B : Nat} : (tlM h A B).2.2 = h.2.2 := rfl
theorem uL_n {h : MH} {a b k : Nat} {v : Int64} (hb : b ≠ a) : (uL h a k v).2.1 b = h.2.1 b := by
  funext j
  simp [uL, hb]
theorem tlC_16 {h : MH} {A B : Nat} : (tlC h A B).2.1 16 0 = lN (A / Nat.gcd A B) ∧ (tlC h A B).2.1 16 1 = lN (B / Nat.gcd A B) := by
  unfold tlC
  rw [uL_k (by decide), uL_at, uL_at]
  exact ⟨rfl, rfl⟩
theorem tlM_64 {h : MH} {A B : Nat} : (tlM h A B).2.1 64 3 = lN (A / Nat.gcd A B) ∧ (tlM h A B).2.1 64 4 = lN (B / Nat.gcd A B) := by
  unfold tlM
  rw [uL_k (by decide), uL_at, uL_at]
  exact ⟨rfl, rfl⟩
theorem tlC_n {h : MH} {A B b : Nat} (hb : b ≠ 16) : (tlC h A B).2.1 b = h.2.1 b := by
  unfold tlC
  rw [uL_n hb, uL_n hb]
theorem tlM_n {h : MH} {A B b : Nat} (hb : b ≠ 64) : (tlM h A B).2.1 b = h.2.1 b := by
  unfold tlM
  rw [uL_n hb, uL_n hb]
theorem sf_told {h k : MH} {A B : Nat} (e : k.2.1 16 = (tlC h A B).2.1 16) : SF (tlM k A B) := by
  unfold SF
  rw [tlM_n (by decide), e, tlC_16.1, tlC_16.2, tlM_64.1, tlM_64.2]
  exact ⟨rfl, rfl⟩
