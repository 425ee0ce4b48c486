/-! bits gathered into a number -/
theorem tb01 {a j : Nat} : a / 2 ^ j % 2 = if a.testBit j = true then 1 else 0 := by
  rw [Nat.testBit_eq_decide_div_mod_eq]
  have := Nat.mod_two_eq_zero_or_one (a / 2 ^ j)
  rcases this with z | z <;> rw [z] <;> rfl
theorem N_tb {a j : Nat} (ha : a < 2147483648) (hj : j < 32) : (shr (nI a) (nI j)) &&& 1 = nI (if a.testBit j = true then 1 else 0) := by rw [N_bit ha hj, tb01]
def bnN (b : Nat → Bool) : Nat → Nat
  | 0 => 0
  | i + 1 => bnN b i ||| (if b i = true then 2 ^ i else 0)
theorem bnN_tb {b : Nat → Bool} {i : Nat} : ∀ {k : Nat}, (bnN b k).testBit i = (decide (i < k) && b i)
  | 0 => by
    show (0 : Nat).testBit i = _
    rw [Nat.zero_testBit, decide_eq_false (Nat.not_lt_zero i), Bool.false_and]
  | k + 1 => by
    show (bnN b k ||| (if b k = true then 2 ^ k else 0)).testBit i = _
    rw [Nat.testBit_or, bnN_tb (k := k)]
    by_cases z : i = k
    · subst z
      rw [decide_eq_false (Nat.lt_irrefl i), decide_eq_true (Nat.lt_succ_self i), Bool.false_and, Bool.false_or, Bool.true_and]
      cases b i with
      | false => exact Nat.zero_testBit i
      | true =>
        rw [if_pos rfl, Nat.testBit_two_pow]
        exact decide_eq_true rfl
    · have e : (if b k = true then 2 ^ k else 0).testBit i = false := by
        by_cases y : b k = true
        · rw [if_pos y, Nat.testBit_two_pow]
          exact decide_eq_false (fun x => z x.symm)
        · rw [if_neg y]
          exact Nat.zero_testBit i
      rw [e, Bool.or_false]
      congr 1
      apply decide_eq_decide.mpr
      omega
theorem bnN_lt {b : Nat → Bool} : ∀ k, bnN b k < 2 ^ k
  | 0 => show 0 < 1 by decide
  | k + 1 => by
    have ih := bnN_lt (b := b) k
    have p : 2 ^ (k + 1) = 2 * 2 ^ k := by rw [Nat.pow_succ]; omega
    show bnN b k ||| (if b k = true then 2 ^ k else 0) < 2 ^ (k + 1)
    refine Nat.or_lt_two_pow (by omega) ?_
    split <;> omega
theorem bnN_congr {b c : Nat → Bool} : ∀ {k : Nat}, (∀ i, i < k → b i = c i) → bnN b k = bnN c k
  | 0, _ => rfl
  | k + 1, e => by
    show bnN b k ||| (if b k = true then 2 ^ k else 0) = bnN c k ||| (if c k = true then 2 ^ k else 0)
    rw [bnN_congr (k := k) (fun i hi => e i (by omega)), e k (by omega)]
theorem bn_step {b : Nat → Bool} {i : Nat} (hi : i < 31) : nI (bnN b i) ||| shl (nI (if b i = true then 1 else 0)) (nI i) = nI (bnN b (i + 1)) := by
  have p : 2 ^ i ≤ 2 ^ 30 := Nat.pow_le_pow_right (by decide) (by omega)
  show _ = nI (bnN b i ||| (if b i = true then 2 ^ i else 0))
  cases b i with
  | false => rw [if_neg (by decide), if_neg (by decide), N_shl (by omega) (by omega), N_or, Nat.zero_mul]
  | true => rw [if_pos rfl, if_pos rfl, N_shl (by omega) (by omega), N_or, Nat.one_mul]
/-! what a set of places sums to -/
def colN (ls : Nat → Nat) (k j : Nat) : Nat := bnN (fun i => (ls i).testBit j) k
def syX (ls : Nat → Nat) (k s : Nat) : Nat → Nat
  | 0 => 0
  | j + 1 => if s.testBit j = true then syX ls k s j ^^^ colN ls k j else syX ls k s j
theorem syX_lt {ls : Nat → Nat} {k s : Nat} : ∀ j, syX ls k s j < 2 ^ k
  | 0 => Nat.two_pow_pos k
  | j + 1 => by
    unfold syX
    split
    · exact Nat.xor_lt_two_pow (syX_lt j) (bnN_lt k)
    · exact syX_lt j
def prt (v : Nat) : Nat → Bool
  | 0 => false
  | j + 1 => prt v j ^^ v.testBit j
theorem prt_pop {v : Nat} : ∀ j, sumN (fun i => v / 2 ^ i % 2) j % 2 = if prt v j = true then 1 else 0
  | 0 => rfl
  | j + 1 => by
    show (sumN (fun i => v / 2 ^ i % 2) j + v / 2 ^ j % 2) % 2 = if (prt v j ^^ v.testBit j) = true then 1 else 0
    have ih := prt_pop (v := v) j
    rw [tb01]
    generalize sumN (fun i => v / 2 ^ i % 2) j = S at ih ⊢
    revert ih
    cases prt v j with
    | false =>
      intro ih
      have ih2 : S % 2 = 0 := ih
      cases v.testBit j with
      | false =>
        show (S + 0) % 2 = 0
        omega
      | true =>
        show (S + 1) % 2 = 1
        omega
    | true =>
      intro ih
      have ih2 : S % 2 = 1 := ih
      cases v.testBit j with
      | false =>
        show (S + 0) % 2 = 1
        omega
      | true =>
        show (S + 1) % 2 = 0
        omega
theorem prt_more {v w : Nat} (hv : v < 2 ^ w) : ∀ d, prt v (w + d) = prt v w
  | 0 => rfl
  | d + 1 => by
    show (prt v (w + d) ^^ v.testBit (w + d)) = _
    rw [prt_more hv d, Nat.testBit_lt_two_pow (Nat.lt_of_lt_of_le hv (Nat.pow_le_pow_right (by decide) (Nat.le_add_right w d))), Bool.xor_false]
theorem syX_tb {ls : Nat → Nat} {k s i : Nat} : ∀ j, (syX ls k s j).testBit i = (decide (i < k) && prt (s &&& ls i) j)
  | 0 => by
    show (0 : Nat).testBit i = _
    rw [Nat.zero_testBit, show prt (s &&& ls i) 0 = false from rfl, Bool.and_false]
  | j + 1 => by
    have ih := syX_tb (ls := ls) (k := k) (s := s) (i := i) j
    show (if s.testBit j = true then syX ls k s j ^^^ colN ls k j else syX ls k s j).testBit i = (decide (i < k) && (prt (s &&& ls i) j ^^ (s &&& ls i).testBit j))
    rw [Nat.testBit_and]
    by_cases z : s.testBit j = true
    · rw [if_pos z, Nat.testBit_xor, ih, z, Bool.true_and]
      unfold colN
      rw [bnN_tb]
      cases decide (i < k) <;> cases prt (s &&& ls i) j <;> cases (ls i).testBit j <;> rfl
    · rw [if_neg z, ih, show s.testBit j = false from Bool.eq_false_iff.mpr z, Bool.false_and, Bool.xor_false]
def smN (ls : Nat → Nat) (k s : Nat) : Nat := bnN (fun i => decide (pop (s &&& ls i) % 2 = 1)) k
theorem sm_sy {ls : Nat → Nat} {k s w : Nat} (hw : w ≤ 12) (hl : ∀ i, i < k → ls i < 2 ^ w) : smN ls k s = syX ls k s w := by
  apply Nat.eq_of_testBit_eq
  intro i
  unfold smN
  rw [bnN_tb, syX_tb]
  by_cases z : i < k
  · rw [decide_eq_true z, Bool.true_and, Bool.true_and]
    have lt : s &&& ls i < 2 ^ w := Nat.lt_of_le_of_lt Nat.and_le_right (hl i z)
    have m := prt_more lt (31 - w)
    rw [show w + (31 - w) = 31 by omega] at m
    have p := prt_pop (v := s &&& ls i) 31
    rw [m] at p
    show decide (sumN (fun j => (s &&& ls i) / 2 ^ j % 2) 31 % 2 = 1) = _
    rw [p]
    cases prt (s &&& ls i) w <;> rfl
  · rw [decide_eq_false z, Bool.false_and, Bool.false_and]
section SYN
variable {h : MH} {a d k w : Nat} {ls : Nat → Nat}
theorem pw12 {w : Nat} (hw : w ≤ 12) : 2 ^ w ≤ 4096 := Nat.pow_le_pow_right (n := 2) (by decide) hw
theorem ls_lt (hK : codK k w ls) {i : Nat} (hi : i < k) : ls i < 4096 := Nat.lt_of_lt_of_le (hK.2 i hi) (pw12 hK.1.2.2.2)
theorem cColumn (ha : shp a = (0, 0)) (hK : codK k w ls) (hC : codC h a k w ls) {j : Nat} (hj : j < 31) : f_X0_columnAt h a (nI j) = some (nI (colN ls k j)) := by
  have k6 := hK.1.2.1
  have key : f_X0_columnAt_L4 h a (nI j) 0 0 = some (nI (colN ls k j)) := by
    unfold f_X0_columnAt_L4 colN
    refine lpo_for (fun i => (nI (bnN (fun i => (ls i).testBit j) i), nI i)) k (fun i hi => ?_) ?_
    · (try dsimp only)
      have l := ls_lt hK hi
      unfold f_X0_columnAt_B4
      rw [hC.1, if_pos (nI_lt hi (by omega)), cLineAt ha hK hC hi, bd_s, nm_v, N_tb (by omega) (by omega), bn_step (b := fun i => (ls i).testBit j) (by omega), nI_s]
    · (try dsimp only)
      unfold f_X0_columnAt_B4
      rw [hC.1, if_neg (nI_nlt (Nat.le_refl _) (by omega))]
  unfold f_X0_columnAt
  rw [key, bd_s]
theorem mSums (hd : d < 4) (hK : codK k w ls) (hM : codM h d k w ls) {s : Nat} (hs : s < 2147483648) : f_X7_sums h (nI d) (nI s) = some (nI (smN ls k s)) := by
  have k6 := hK.1.2.1
  have key : f_X7_sums_L5 h (nI d) (nI s) 0 0 = some (nI (smN ls k s)) := by
    unfold f_X7_sums_L5 smN
    refine lpo_for (fun i => (nI (bnN (fun i => decide (pop (s &&& ls i) % 2 = 1)) i), nI i)) k (fun i hi => ?_) ?_
    · (try dsimp only)
      have l : s &&& ls i ≤ s := Nat.and_le_left
      have e : nI (pop (s &&& ls i)) &&& 1 = nI (if decide (pop (s &&& ls i) % 2 = 1) = true then 1 else 0) := by
        show nI (pop (s &&& ls i)) &&& nI 1 = _
        rw [N_and, Nat.and_one_is_mod]
        have := Nat.mod_two_eq_zero_or_one (pop (s &&& ls i))
        rcases this with z | z <;> rw [z] <;> rfl
      unfold f_X7_sums_B5
      rw [ix_n hd (by decide), gd_t, tn_n (j := d) (by omega), hM.1, if_pos (nI_lt hi (by omega)), lin6, ix_n (by omega) (by decide), gd_t, tn_n (by omega), hM.2.2 i hi, N_and, mPop (by omega), bd_s, nm_v, e, bn_step (b := fun i => decide (pop (s &&& ls i) % 2 = 1)) (by omega), nI_s]
    · (try dsimp only)
      unfold f_X7_sums_B5
      rw [ix_n hd (by decide), gd_t, tn_n (by omega), hM.1, if_neg (nI_nlt (Nat.le_refl _) (by omega))]
  unfold f_X7_sums
  rw [key, bd_s]
end SYN
