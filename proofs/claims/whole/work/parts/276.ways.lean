/-! in how many ways some of the dots come to k -/
def wW (ds : Nat → Nat) : Nat → Nat → Nat
  | 0, k => if k = 0 then 1 else 0
  | i + 1, k => wW ds i k + (if ds i ≤ k then wW ds i (k - ds i) else 0)
theorem wW_s {ds : Nat → Nat} {i k : Nat} : wW ds (i + 1) k = wW ds i k + (if ds i ≤ k then wW ds i (k - ds i) else 0) := rfl
theorem wW_big {ds : Nat → Nat} : ∀ {i k : Nat}, sumN ds i < k → wW ds i k = 0
  | 0, k, h => if_neg (by
    have h : 0 < k := h
    omega)
  | i + 1, k, h => by
    have h : sumN ds i + ds i < k := h
    rw [wW_s, wW_big (i := i) (by omega)]
    by_cases z : ds i ≤ k
    · rw [if_pos z, wW_big (i := i) (by omega)]
    · rw [if_neg z]
theorem sumN_from {f : Nat → Nat} {d : Nat} : ∀ m, sumN (fun k => if d ≤ k then f (k - d) else 0) m = sumN f (m - d)
  | 0 => by
    rw [Nat.zero_sub]
    rfl
  | m + 1 => by
    show sumN (fun k => if d ≤ k then f (k - d) else 0) m + (if d ≤ m then f (m - d) else 0) = _
    rw [sumN_from m]
    by_cases z : d ≤ m
    · rw [if_pos z, show m + 1 - d = m - d + 1 by omega]
      rfl
    · rw [if_neg z, show m + 1 - d = 0 by omega, show m - d = 0 by omega]
      rfl
theorem wW_all {ds : Nat → Nat} : ∀ {i m : Nat}, sumN ds i < m → sumN (wW ds i) m = 2 ^ i
  | 0, m, h => by
    have h : 0 < m := h
    have e : sumN (wW ds 0) m = sumN (fun k => if k = 0 then 1 else 0) m := sumN_congr (fun k _ => rfl)
    rw [e, sumN_one (k := 0) (fun j hj => if_neg hj) m, if_pos h]
    rfl
  | i + 1, m, h => by
    have h : sumN ds i + ds i < m := h
    have e : sumN (wW ds (i + 1)) m = sumN (fun k => wW ds i k + (if ds i ≤ k then wW ds i (k - ds i) else 0)) m := sumN_congr (fun k _ => rfl)
    rw [e, sumN_add, sumN_from (f := wW ds i), wW_all (i := i) (m := m) (by omega), wW_all (i := i) (m := m - ds i) (by omega), Nat.pow_succ]
    omega
theorem wW_sym {ds : Nat → Nat} : ∀ {i k : Nat}, k ≤ sumN ds i → wW ds i (sumN ds i - k) = wW ds i k
  | 0, k, h => by
    have h : k ≤ 0 := h
    rw [show k = 0 by omega]
    rfl
  | i + 1, k, h => by
    have h : k ≤ sumN ds i + ds i := h
    show wW ds (i + 1) (sumN ds i + ds i - k) = _
    rw [wW_s, wW_s]
    have e1 : (if ds i ≤ sumN ds i + ds i - k then wW ds i (sumN ds i + ds i - k - ds i) else 0) = wW ds i k := by
      by_cases z : k ≤ sumN ds i
      · rw [if_pos (by omega), show sumN ds i + ds i - k - ds i = sumN ds i - k by omega, wW_sym z]
      · rw [wW_big (i := i) (k := k) (by omega)]
        by_cases y : ds i ≤ sumN ds i + ds i - k
        · omega
        · rw [if_neg y]
    have e2 : wW ds i (sumN ds i + ds i - k) = (if ds i ≤ k then wW ds i (k - ds i) else 0) := by
      by_cases z : ds i ≤ k
      · rw [if_pos z, ← wW_sym (i := i) (k := k - ds i) (by omega)]
        congr 1
        omega
      · rw [if_neg z, wW_big (i := i) (by omega)]
    rw [e1, e2, Nat.add_comm]
theorem sumN_rev (f : Nat → Nat) : ∀ m, sumN (fun k => f (m - 1 - k)) m = sumN f m
  | 0 => rfl
  | m + 1 => by
    rw [sumN_shift (fun k => f (m + 1 - 1 - k)) m]
    show f (m + 1 - 1 - 0) + sumN (fun k => f (m + 1 - 1 - (k + 1))) m = sumN f m + f m
    have e : sumN (fun k => f (m + 1 - 1 - (k + 1))) m = sumN (fun k => f (m - 1 - k)) m := sumN_congr (fun k _ => by
      show f (m + 1 - 1 - (k + 1)) = f (m - 1 - k)
      congr 1
      omega)
    rw [e, sumN_rev f m, show m + 1 - 1 - 0 = m by omega]
    omega
/-- the ways to come to p or more -/
def wUp (ds : Nat → Nat) (n p : Nat) : Nat := sumN (fun k => if p ≤ k then wW ds n k else 0) (sumN ds n + 1)
theorem wUp_0 {ds : Nat → Nat} {n : Nat} : wUp ds n 0 = 2 ^ n := by
  unfold wUp
  rw [sumN_congr (g := wW ds n) (fun k _ => if_pos (Nat.zero_le k))]
  exact wW_all (by omega)
theorem wUp_lo {ds : Nat → Nat} {n p : Nat} (hp : p ≤ sumN ds n + 1) : wUp ds n p + sumN (wW ds n) p = 2 ^ n := by
  have e := wW_all (ds := ds) (i := n) (m := sumN ds n + 1) (by omega)
  have s1 := sumN_split (wW ds n) p (sumN ds n + 1 - p)
  rw [show p + (sumN ds n + 1 - p) = sumN ds n + 1 by omega] at s1
  have s2 := sumN_split (fun k => if p ≤ k then wW ds n k else 0) p (sumN ds n + 1 - p)
  rw [show p + (sumN ds n + 1 - p) = sumN ds n + 1 by omega, sumN_0 (g := fun k => if p ≤ k then wW ds n k else 0) (n := p) (fun k hk => if_neg (by omega)), sumN_congr (f := fun i => if p ≤ p + i then wW ds n (p + i) else 0) (g := fun i => wW ds n (p + i)) (fun k _ => if_pos (by omega))] at s2
  unfold wUp
  omega
theorem wUp_hi {ds : Nat → Nat} {n p : Nat} (hp : p ≤ sumN ds n) : wUp ds n p = sumN (wW ds n) (sumN ds n - p + 1) := by
  have s2 := sumN_split (fun k => if p ≤ k then wW ds n k else 0) p (sumN ds n - p + 1)
  rw [show p + (sumN ds n - p + 1) = sumN ds n + 1 by omega, sumN_0 (g := fun k => if p ≤ k then wW ds n k else 0) (n := p) (fun k hk => if_neg (by omega)), sumN_congr (f := fun i => if p ≤ p + i then wW ds n (p + i) else 0) (g := fun i => wW ds n (sumN ds n - p + 1 - 1 - i)) (fun k hk => by
    rw [if_pos (by omega), ← wW_sym (k := p + k) (by omega)]
    congr 1
    omega), sumN_rev (wW ds n), Nat.zero_add] at s2
  exact s2
theorem wUp_none {ds : Nat → Nat} {n p : Nat} (hp : sumN ds n < p) : wUp ds n p = 0 := sumN_0 (fun k hk => if_neg (by omega))
theorem wW_more {ds : Nat → Nat} {i m p : Nat} (h : sumN ds i < m) (hp : m ≤ p) : sumN (wW ds i) p = sumN (wW ds i) m := by
  rw [wW_all h, wW_all (show sumN ds i < p by omega)]
/-! rooms of longs -/
def lgE (a : Nat) (h k : MH) : Prop := k.1 = h.1 ∧ k.2.2 = h.2.2 ∧ ∀ b, b ≠ a → k.2.1 b = h.2.1 b
theorem lgE_r {a : Nat} {h : MH} : lgE a h h := ⟨rfl, rfl, fun _ _ => rfl⟩
theorem lgE_u {a i : Nat} {h k : MH} {v : Int64} (e : lgE a h k) : lgE a h (uL k a i v) := ⟨by rw [uL_1]; exact e.1, by rw [uL_w]; exact e.2.1, fun b hb => by rw [uL_n hb]; exact e.2.2 b hb⟩
theorem wok_t {h : MH} (e : h.2.2 = 1) : wok h = true := decide_eq_true e
theorem lgs_t {h : MH} (e : h.2.2 = 1) : lgs h 87 5101 = true := by
  unfold lgs
  rw [wok_t e, show decide (87 = 87) = true from rfl, show decide (5101 = 5101) = true from rfl, Bool.and_true, Bool.and_true, Bool.or_true]
theorem lsh_n : ∀ n, n < 41 → lshl 1 (nI n) = lN (2 ^ n) := by decide +kernel
