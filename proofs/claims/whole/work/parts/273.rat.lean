/-! fractions that are alike have the same lowest terms -/
theorem rd_same {x y u v : Nat} (hy : 0 < y) (hv : 0 < v) (e : x * v = u * y) : x / Nat.gcd x y = u / Nat.gcd u v ∧ y / Nat.gcd x y = v / Nat.gcd u v := by
  have g0 := gcd_pos (a := x) hy
  have k0 := gcd_pos (a := u) hv
  have e1 : Nat.gcd x y * v = Nat.gcd u v * y := by
    rw [← Nat.gcd_mul_right, ← Nat.gcd_mul_right, e, Nat.mul_comm v y]
  have e2 : x * Nat.gcd u v = u * Nat.gcd x y := by
    rw [← Nat.gcd_mul_left, ← Nat.gcd_mul_left, e, Nat.mul_comm u x]
  obtain ⟨a, ha⟩ := Nat.gcd_dvd_left x y
  obtain ⟨b, hb⟩ := Nat.gcd_dvd_right x y
  obtain ⟨c, hc⟩ := Nat.gcd_dvd_left u v
  obtain ⟨d, hd⟩ := Nat.gcd_dvd_right u v
  generalize Nat.gcd x y = g at *
  generalize Nat.gcd u v = k at *
  subst ha
  subst hb
  subst hc
  subst hd
  rw [Nat.mul_div_cancel_left _ g0, Nat.mul_div_cancel_left _ g0, Nat.mul_div_cancel_left _ k0, Nat.mul_div_cancel_left _ k0]
  have f1 : g * k * d = g * k * b := by
    rw [Nat.mul_assoc, e1, Nat.mul_assoc g k b, Nat.mul_left_comm]
  have f2 : g * k * a = g * k * c := by
    rw [Nat.mul_right_comm, e2, Nat.mul_right_comm, Nat.mul_comm k g]
  have p : 0 < g * k := Nat.mul_pos g0 k0
  exact ⟨Nat.eq_of_mul_eq_mul_left p f2, (Nat.eq_of_mul_eq_mul_left p f1).symm⟩
theorem rd_cross {x y : Nat} : x / Nat.gcd x y * y = x * (y / Nat.gcd x y) := by
  obtain ⟨a, ha⟩ := Nat.gcd_dvd_left x y
  obtain ⟨b, hb⟩ := Nat.gcd_dvd_right x y
  by_cases z : Nat.gcd x y = 0
  · rw [z, Nat.div_zero, Nat.div_zero, Nat.zero_mul, Nat.mul_zero]
  · have g0 : 0 < Nat.gcd x y := (by omega)
    generalize Nat.gcd x y = g at *
    subst ha
    subst hb
    rw [Nat.mul_div_cancel_left _ g0, Nat.mul_div_cancel_left _ g0]
    rw [Nat.mul_left_comm, Nat.mul_assoc]
theorem rd_pos {x y : Nat} (hy : 0 < y) : 0 < y / Nat.gcd x y := Nat.div_pos (Nat.gcd_le_right x hy) (gcd_pos hy)
/-- one more term -/
theorem rd_add {S L c m T : Nat} (hL : 0 < L) (hc : 0 < c) (hT : T * c = m * L) : (S / Nat.gcd S L * c + m * (L / Nat.gcd S L)) * L = (S + T) * (L / Nat.gcd S L * c) := by
  have e := rd_cross (x := S) (y := L)
  generalize S / Nat.gcd S L = A at *
  generalize L / Nat.gcd S L = B at *
  rw [Nat.add_mul, Nat.add_mul, Nat.mul_right_comm A c L, e, Nat.mul_right_comm m B L, ← hT]
  congr 1
  · rw [Nat.mul_assoc]
  · rw [Nat.mul_assoc, Nat.mul_comm c B]
theorem tlC_eq {h : MH} {x y u v : Nat} (hy : 0 < y) (hv : 0 < v) (e : x * v = u * y) : tlC h x y = tlC h u v := by
  obtain ⟨e1, e2⟩ := rd_same hy hv e
  unfold tlC
  rw [e1, e2]
theorem tlM_eq {h : MH} {x y u v : Nat} (hy : 0 < y) (hv : 0 < v) (e : x * v = u * y) : tlM h x y = tlM h u v := by
  obtain ⟨e1, e2⟩ := rd_same hy hv e
  unfold tlM
  rw [e1, e2]
theorem uL4 {h : MH} {a i j : Nat} {p q r s : Int64} (hij : i ≠ j) : uL (uL (uL (uL h a i p) a j q) a i r) a j s = uL (uL h a i r) a j s := by
  unfold uL
  congr 2
  funext b k
  by_cases z1 : b = a
  · by_cases z2 : k = j
    · simp [z1, z2]
    · by_cases z3 : k = i <;> simp [z1, z2, z3]
  · simp [z1]
theorem tlC_tlC {h : MH} {x y u v : Nat} : tlC (tlC h x y) u v = tlC h u v := by
  unfold tlC
  exact uL4 (by decide)
theorem tlM_tlM {h : MH} {x y u v : Nat} : tlM (tlM h x y) u v = tlM h u v := by
  unfold tlM
  exact uL4 (by decide)
/-! what pairs there are -/
def halfN (ds : Nat → Nat) (q : Nat) : Nat := ds q / 2
theorem half_sum {ds : Nat → Nat} {n v : Nat} : cEq ds n (2 * v) + cEq ds n (2 * v + 1) = cEq (halfN ds) n v := by
  unfold cEq
  rw [← sumN_add]
  refine sumN_congr (fun q _ => ?_)
  unfold halfN
  by_cases z1 : ds q = 2 * v
  · rw [if_pos z1, if_neg (by omega), if_pos (by omega)]
  · by_cases z2 : ds q = 2 * v + 1
    · rw [if_neg z1, if_pos z2, if_pos (by omega)]
    · rw [if_neg z1, if_neg z2, if_neg (by omega)]
theorem cEq_all {f : Nat → Nat} {m : Nat} : ∀ {n : Nat}, (∀ q, q < n → f q < m) → sumN (cEq f n) m = n
  | 0, _ => sumN_0 (fun _ _ => rfl)
  | n + 1, e => by
    have es : sumN (cEq f (n + 1)) m = sumN (fun v => cEq f n v + (if f n = v then 1 else 0)) m := rfl
    rw [es, sumN_add, cEq_all (n := n) (fun q hq => e q (by omega)), sumN_one (k := f n) (fun v hv => if_neg (fun z => hv z.symm)) m, if_pos (e n (by omega)), if_pos rfl]
/-- the sum over those that come for the first time is the sum over all that there are -/
def fstB (f : Nat → Nat) (i : Nat) : Bool := allB (fun j => decide (¬ f j = f i)) i
theorem cEq_pos {f : Nat → Nat} {v : Nat} : ∀ {n : Nat}, 0 < cEq f n v ↔ ∃ q, q < n ∧ f q = v
  | 0 => ⟨fun z => absurd z (Nat.lt_irrefl 0), fun ⟨q, hq, _⟩ => absurd hq (Nat.not_lt_zero q)⟩
  | n + 1 => by
    have es : cEq f (n + 1) v = cEq f n v + (if f n = v then 1 else 0) := rfl
    have ih := cEq_pos (f := f) (v := v) (n := n)
    rw [es]
    constructor
    · intro z
      by_cases y : f n = v
      · exact ⟨n, (by omega), y⟩
      · rw [if_neg y] at z
        obtain ⟨q, hq, e⟩ := ih.mp z
        exact ⟨q, (by omega), e⟩
    · intro ⟨q, hq, e⟩
      by_cases y : q = n
      · rw [y] at e
        rw [if_pos e]
        omega
      · have := ih.mpr ⟨q, (by omega), e⟩
        omega
theorem fstB_iff {f : Nat → Nat} {i : Nat} : fstB f i = true ↔ cEq f i (f i) = 0 := by
  unfold fstB
  rw [allB_t]
  constructor
  · intro z
    refine Nat.eq_zero_of_not_pos (fun y => ?_)
    obtain ⟨q, hq, e⟩ := cEq_pos.mp y
    exact of_decide_eq_true (z q hq) e
  · intro z q hq
    refine decide_eq_true (fun e => ?_)
    have := cEq_pos.mpr ⟨q, hq, e⟩
    omega
theorem first_sum {f g : Nat → Nat} {m : Nat} : ∀ {n : Nat}, (∀ q, q < n → f q < m) → sumN (fun q => if fstB f q = true then g (f q) else 0) n = sumN (fun v => if 0 < cEq f n v then g v else 0) m
  | 0, _ => (sumN_0 (fun v _ => if_neg (Nat.lt_irrefl 0))).symm
  | n + 1, e => by
    have ih := first_sum (f := f) (g := g) (m := m) (n := n) (fun q hq => e q (by omega))
    show sumN (fun q => if fstB f q = true then g (f q) else 0) n + (if fstB f n = true then g (f n) else 0) = _
    rw [ih]
    have es : ∀ v, v < m → (if 0 < cEq f (n + 1) v then g v else 0) = (if 0 < cEq f n v then g v else 0) + (if v = f n ∧ cEq f n v = 0 then g v else 0) := fun v _ => by
      have ez : cEq f (n + 1) v = cEq f n v + (if f n = v then 1 else 0) := rfl
      rw [ez]
      by_cases y : f n = v
      · rw [if_pos y]
        by_cases z : cEq f n v = 0
        · rw [if_pos (by omega), if_neg (by omega), if_pos ⟨y.symm, z⟩]
          omega
        · rw [if_pos (by omega), if_pos (by omega), if_neg (fun w => z w.2)]
          omega
      · rw [if_neg y, if_neg (show ¬ (v = f n ∧ cEq f n v = 0) from fun w => y w.1.symm)]
        rfl
    rw [sumN_congr es, sumN_add, sumN_one (k := f n) (g := fun v => if v = f n ∧ cEq f n v = 0 then g v else 0) (fun v hv => if_neg (fun w => hv w.1)) m, if_pos (e n (by omega))]
    congr 1
    by_cases z : fstB f n = true
    · rw [if_pos z, if_pos ⟨rfl, fstB_iff.mp z⟩]
    · rw [if_neg z, if_neg (fun w => z (fstB_iff.mpr w.2))]
/-! a common denominator -/
def prodN (c : Nat → Nat) : Nat → Nat
  | 0 => 1
  | n + 1 => prodN c n * (if c n = 0 then 1 else c n)
theorem prodN_pos {c : Nat → Nat} : ∀ n, 0 < prodN c n
  | 0 => show 0 < 1 by decide
  | n + 1 => Nat.mul_pos (prodN_pos n) (by split <;> omega)
theorem lt_pow2 : ∀ k, k < 2 ^ k
  | 0 => show 0 < 1 by decide
  | k + 1 => by
    have := lt_pow2 k
    rw [Nat.pow_succ]
    omega
theorem prodN_le {c : Nat → Nat} : ∀ n, prodN c n ≤ 2 ^ sumN c n
  | 0 => Nat.le_refl _
  | n + 1 => by
    show prodN c n * (if c n = 0 then 1 else c n) ≤ 2 ^ (sumN c n + c n)
    rw [Nat.pow_add]
    refine Nat.mul_le_mul (prodN_le n) ?_
    have := lt_pow2 (c n)
    split <;> omega
theorem prodN_dvd {c : Nat → Nat} {v : Nat} (h0 : 0 < c v) : ∀ {n : Nat}, v < n → c v ∣ prodN c n
  | 0, h => absurd h (Nat.not_lt_zero v)
  | n + 1, h => by
    show c v ∣ prodN c n * (if c n = 0 then 1 else c n)
    by_cases z : v = n
    · rw [← z, if_neg (by omega)]
      exact Nat.dvd_mul_left _ _
    · exact Nat.dvd_trans (prodN_dvd h0 (n := n) (by omega)) (Nat.dvd_mul_right _ _)
