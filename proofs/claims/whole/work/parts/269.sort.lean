/-! a loop by what holds behind i steps -/
theorem lpo_ind {σ β : Type} {step : σ → Option (σ ⊕ β)} (I : Nat → σ → Prop) (Q : β → Prop) : ∀ (n : Nat) (k : Nat) (s0 : σ), I k s0 → (∀ i s, i < k + n → I i s → ∃ s2, step s = some (.inl s2) ∧ I (i + 1) s2) → (∀ s, I (k + n) s → ∃ b, step s = some (.inr b) ∧ Q b) → ∃ b, lpo step s0 = some b ∧ Q b
  | 0, k, s0, h0, _, hx => by
    obtain ⟨b, e, q⟩ := hx s0 h0
    exact ⟨b, lpo_out e, q⟩
  | n + 1, k, s0, h0, hs, hx => by
    obtain ⟨s1, e, h1⟩ := hs k s0 (by omega) h0
    obtain ⟨b, e2, q⟩ := lpo_ind I Q n (k + 1) s1 h1 (fun i s hi => hs i s (by omega)) (fun s z => hx s (by rw [show k + (n + 1) = k + 1 + n by omega]; exact z))
    exact ⟨b, by rw [lpo_in e, e2], q⟩
/-! rotations -/
def bfN (D : Nat → Nat) (i t : Nat) : Nat → Nat := fun q => if q = t then D i else if t < q ∧ q ≤ i then D (q - 1) else D q
theorem sumN_shift (f : Nat → Nat) : ∀ m, sumN f (m + 1) = f 0 + sumN (fun q => f (q + 1)) m
  | 0 => by
    show 0 + f 0 = f 0 + 0
    omega
  | m + 1 => by
    show sumN f (m + 1) + f (m + 1) = f 0 + (sumN (fun q => f (q + 1)) m + f (m + 1))
    rw [sumN_shift f m]
    omega
theorem bf_sum (D g : Nat → Nat) {i t n : Nat} (ht : t ≤ i) (hi : i < n) : sumN (fun q => g (bfN D i t q)) n = sumN (fun q => g (D q)) n := by
  obtain ⟨m, rfl⟩ : ∃ m, i = t + m := ⟨i - t, (by omega)⟩
  obtain ⟨r, rfl⟩ : ∃ r, n = (t + (m + 1)) + r := ⟨n - (t + (m + 1)), (by omega)⟩
  rw [sumN_split _ (t + (m + 1)) r, sumN_split _ (t + (m + 1)) r, sumN_split _ t (m + 1), sumN_split _ t (m + 1)]
  have e1 : sumN (fun q => g (bfN D (t + m) t q)) t = sumN (fun q => g (D q)) t := sumN_congr (fun j hj => by
    unfold bfN
    rw [if_neg (by omega), if_neg (by omega)])
  have e3 : sumN (fun k => g (bfN D (t + m) t (t + (m + 1) + k))) r = sumN (fun k => g (D (t + (m + 1) + k))) r := sumN_congr (fun j hj => by
    unfold bfN
    rw [if_neg (by omega), if_neg (by omega)])
  have e2 : sumN (fun k => g (bfN D (t + m) t (t + k))) (m + 1) = sumN (fun k => g (D (t + k))) (m + 1) := by
    rw [sumN_shift]
    have z : sumN (fun q => g (bfN D (t + m) t (t + (q + 1)))) m = sumN (fun k => g (D (t + k))) m := sumN_congr (fun j hj => by
      unfold bfN
      rw [if_neg (by omega), if_pos (by omega), show t + (j + 1) - 1 = t + j by omega])
    rw [z]
    show g (bfN D (t + m) t (t + 0)) + _ = sumN (fun k => g (D (t + k))) m + g (D (t + m))
    unfold bfN
    rw [if_pos (by omega)]
    omega
  rw [e1, e2, e3]
/-! how many are less than v -/
def cLt (D : Nat → Nat) (n v : Nat) : Nat := sumN (fun q => if D q < v then 1 else 0) n
theorem bf_cLt {D : Nat → Nat} {i t n v : Nat} (ht : t ≤ i) (hi : i < n) : cLt (bfN D i t) n v = cLt D n v := bf_sum D (fun x => if x < v then 1 else 0) ht hi
theorem cLt_mono {D : Nat → Nat} {n u v : Nat} (h : u ≤ v) : cLt D n u ≤ cLt D n v := sumN_le2 (fun j _ => by
  show (if D j < u then 1 else 0) ≤ (if D j < v then 1 else 0)
  by_cases z : D j < u
  · rw [if_pos z, if_pos (by omega)]
    exact Nat.le_refl _
  · rw [if_neg z]
    exact Nat.zero_le _)
theorem cLt_all {D : Nat → Nat} {v : Nat} : ∀ {n : Nat}, (∀ q, q < n → D q < v) → cLt D n v = n
  | 0, _ => rfl
  | n + 1, e => by
    show cLt D n v + (if D n < v then 1 else 0) = n + 1
    rw [cLt_all (n := n) (fun q hq => e q (by omega)), if_pos (e n (by omega))]
theorem cLt_none {D : Nat → Nat} {n v : Nat} (e : ∀ q, q < n → ¬ D q < v) : cLt D n v = 0 := sumN_0 (fun q hq => if_neg (e q hq))
/-- a row in rising order is known by its counts -/
theorem sorted_at {D : Nat → Nat} {n p v : Nat} (hs : ∀ x y, x < y → y < n → D x ≤ D y) (hp : p < n) : D p < v ↔ p < cLt D n v := by
  constructor
  · intro z
    have e : cLt D n v = cLt D (p + 1) v + sumN (fun i => if D (p + 1 + i) < v then 1 else 0) (n - (p + 1)) := by
      have := sumN_split (fun q => if D q < v then 1 else 0) (p + 1) (n - (p + 1))
      rw [show p + 1 + (n - (p + 1)) = n by omega] at this
      exact this
    rw [cLt_all (n := p + 1) (fun q hq => by
      by_cases y : q = p
      · rw [y]
        exact z
      · have := hs q p (by omega) hp
        omega)] at e
    omega
  · intro z
    refine Classical.byContradiction (fun y => ?_)
    have e : cLt D n v = cLt D p v + sumN (fun i => if D (p + i) < v then 1 else 0) (n - p) := by
      have := sumN_split (fun q => if D q < v then 1 else 0) p (n - p)
      rw [show p + (n - p) = n by omega] at this
      exact this
    have z2 : sumN (fun i => if D (p + i) < v then 1 else 0) (n - p) = 0 := sumN_0 (fun i hi => if_neg (fun w => by
      by_cases x : i = 0
      · rw [x] at w
        exact y w
      · have := hs p (p + i) (by omega) (by omega)
        omega))
    have z3 : cLt D p v ≤ p := by
      have := sumN_le (g := fun q => if D q < v then 1 else 0) (b := 1) (n := p) (fun j _ => by
        show (if D j < v then 1 else 0) ≤ 1
        split <;> omega)
      unfold cLt
      omega
    omega
/-- one more put in its place -/
theorem ins_sorted {D : Nat → Nat} {i t : Nat} (ht : t ≤ i) (hs : ∀ x y, x < y → y < i → D x ≤ D y) (h1 : ∀ q, q < t → D q ≤ D i) (h2 : t < i → D i < D t) : ∀ x y, x < y → y < i + 1 → bfN D i t x ≤ bfN D i t y := by
  intro x y hxy hy
  unfold bfN
  by_cases y1 : y = t
  · rw [if_neg (show ¬ x = t by omega), if_neg (show ¬ (t < x ∧ x ≤ i) by omega), if_pos y1]
    exact h1 x (by omega)
  · rw [if_neg y1]
    by_cases y2 : t < y
    · rw [if_pos (show t < y ∧ y ≤ i by omega)]
      by_cases x1 : x = t
      · rw [if_pos x1]
        have z := h2 (by omega)
        by_cases w : t = y - 1
        · rw [← w]
          omega
        · have := hs t (y - 1) (by omega) (by omega)
          omega
      · rw [if_neg x1]
        by_cases x2 : t < x
        · rw [if_pos (show t < x ∧ x ≤ i by omega)]
          exact hs (x - 1) (y - 1) (by omega) (by omega)
        · rw [if_neg (by omega)]
          by_cases w : x = y - 1
          · rw [← w]
            exact Nat.le_refl _
          · exact hs x (y - 1) (by omega) (by omega)
    · rw [if_neg (show ¬ (t < y ∧ y ≤ i) by omega), if_neg (show ¬ x = t by omega), if_neg (show ¬ (t < x ∧ x ≤ i) by omega)]
      exact hs x y hxy (by omega)
section FORWARD
variable {h : MH} {a n i t : Nat} {D : Nat → Nat}
/-- the dots of a cover of the class are D, all else is as in g -/
def dotsC (g : MH) (a n : Nat) (D : Nat → Nat) (h : MH) : Prop := (∀ b, b ≠ a + 1 → h.1 b = g.1 b) ∧ h.2 = g.2 ∧ ∀ q, q < n → h.1 (a + 1) q = nI (D q)
theorem cForward {g : MH} (ha : shp a = (1, 0)) (e : g.1 a 3 = nI n) (hn : n ≤ 40) (hi : i < n) (ht : t ≤ i) (hD : dotsC g a n D h) : ∃ h2, f_X1_bringForward h a (nI i) (nI t) = some h2 ∧ dotsC g a n (bfN D i t) h2 := by
  obtain ⟨d1, d2, d3⟩ := hD
  have e3 : h.1 a 3 = nI n := by rw [d1 a (by omega)]; exact e
  have ac : acp (nI t) (nI (t + 1)) (nI (i - t)) 40 40 = true := by
    unfold acp
    refine decide_eq_true ⟨⟨nlt0 (by omega), nlt0 (by omega), nlt0 (by omega)⟩, ?_, ?_⟩
    · rw [tn_n (by omega), tn_n (by omega)]
      omega
    · rw [tn_n (by omega), tn_n (by omega)]
      omega
  refine ⟨uI (uA h (a + 1) (va_cpy (h.1 (a + 1)) (h.1 (a + 1)) t (t + 1) (i - t))) (a + 1) t (h.1 (a + 1) i), ?_, fun b hb => ?_, ?_, fun q hq => ?_⟩
  · unfold f_X1_bringForward
    rw [cHasC e3, bd_s, inR_n hi (by omega), if_pos rfl, cHasC e3, bd_s, inR_n (show t < n by omega) (by omega), if_pos rfl, if_neg (nI_nlt ht (by omega)), ix_n (by omega) (by decide), gd_t, nm_v, nI_s, nIsub ht, ac, gd_t, nm_v, ix_n (by omega) (by decide), gd_t, nm_v, rf_Cov0 ha, tn_n (by omega), tn_n (by omega), tn_n (by omega), tn_n (by omega)]
  · rw [uI_ne hb, uA_ne hb]
    exact d1 b hb
  · rw [uI_2, uA_2]
    exact d2
  · unfold bfN
    by_cases q1 : q = t
    · rw [q1, uI_at, if_pos rfl]
      exact d3 i hi
    · rw [uI_k q1, uA_at, if_neg q1]
      by_cases q2 : t < q ∧ q ≤ i
      · rw [if_pos q2, pk_cpy_in (by omega) (by omega), show t + (q - (t + 1)) = q - 1 by omega]
        exact d3 _ (by omega)
      · rw [if_neg q2, pk_cpy_out (by omega)]
        exact d3 q hq
theorem cSortAt {g : MH} (ha : shp a = (1, 0)) (hn : n ≤ 40) (hi : i < n) (b255 : ∀ q, q < n → D q ≤ 255) (hD : dotsC g a n D h) : ∃ t, f_X1_sort_L14 h a (nI i) (nI i) 0 = some (nI t) ∧ t ≤ i ∧ (∀ q, q < t → D q ≤ D i) ∧ (t < i → D i < D t) := by
  obtain ⟨d1, d2, d3⟩ := hD
  have B : ∀ j, j < i → f_X1_sort_B14 h a (nI i) (nI i) (nI j) = if D i < D j then some (.inl (nI j, nI (j + 1))) else some (.inl (nI i, nI (j + 1))) := fun j hj => by
    have b1 := b255 i hi
    have b2 := b255 j (by omega)
    unfold f_X1_sort_B14
    rw [if_pos (nI_lt hj (by omega)), if_pos rfl, ix_n (by omega) (by decide), gd_t, ix_n (by omega) (by decide), gd_t, tn_n (by omega), tn_n (by omega), rf_Cov0 ha, d3 i hi, d3 j (by omega), nI_s]
    by_cases z : D i < D j
    · rw [if_pos (nI_lt z (by omega)), if_pos z]
    · rw [if_neg (nI_nlt (by omega) (by omega)), if_neg z]
  unfold f_X1_sort_L14
  rw [show (0 : Int32) = nI 0 from rfl]
  by_cases ex : ∃ j, j < i ∧ D i < D j
  · obtain ⟨m, ⟨m1, m2⟩, m3⟩ := pk_least (fun j => j < i ∧ D i < D j) ex
    refine ⟨m, ?_, (by omega), fun q hq => Nat.le_of_not_lt (fun z => m3 q hq ⟨(by omega), z⟩), fun _ => m2⟩
    have e1 := lpo_it (step := fun s : Int32 × Int32 => f_X1_sort_B14 h a (nI i) s.1 s.2) (fun j => (nI i, nI j)) m (fun j hj => by
      (try dsimp only)
      rw [B j (by omega), if_neg (fun z => m3 j hj ⟨(by omega), z⟩)])
    rw [e1]
    have e2 : (fun s : Int32 × Int32 => f_X1_sort_B14 h a (nI i) s.1 s.2) (nI i, nI m) = some (.inl (nI m, nI (m + 1))) := by
      (try dsimp only)
      rw [B m m1, if_pos m2]
    rw [lpo_in e2]
    refine lpo_out ?_
    (try dsimp only)
    unfold f_X1_sort_B14
    by_cases z : m + 1 < i
    · rw [if_pos (nI_lt z (by omega)), if_neg (fun y => by have := (nI_eq (by omega) (by omega)).mp y; omega)]
    · rw [if_neg (nI_nlt (by omega) (by omega))]
  · refine ⟨i, ?_, Nat.le_refl _, fun q hq => Nat.le_of_not_lt (fun z => ex ⟨q, hq, z⟩), fun z => absurd z (Nat.lt_irrefl _)⟩
    refine lpo_for (fun j => (nI i, nI j)) i (fun j hj => ?_) ?_
    · (try dsimp only)
      rw [B j hj, if_neg (fun z => ex ⟨j, hj, z⟩)]
    · (try dsimp only)
      unfold f_X1_sort_B14
      rw [if_neg (nI_nlt (Nat.le_refl _) (by omega))]
theorem bf_le {i t b : Nat} (ht : t ≤ i) (hi : i < n) (hb : ∀ q, q < n → D q ≤ b) : ∀ q, q < n → bfN D i t q ≤ b := by
  intro q hq
  unfold bfN
  split
  · exact hb i hi
  · split
    · exact hb (q - 1) (by omega)
    · exact hb q hq
theorem cSort {kd w wt : Nat} {cs : Nat → Nat} (ha : shp a = (1, 0)) (hK : covK kd n D cs w wt) (hC : covC h a kd n D cs w wt) : ∃ h2 S, f_X1_sort h a = some h2 ∧ dotsC h a n S h2 ∧ (∀ q, q < n → S q ≤ 255) ∧ ∀ p v, p < n → (S p < v ↔ p < cLt D n v) := by
  have hn := hK.1.2.1
  have hn1 := hK.1.1
  have key := lpo_ind (step := fun s : Int32 × MH => f_X1_sort_B2 s.2 a s.1) (fun i s => s.1 = nI i ∧ ∃ S, dotsC h a n S s.2 ∧ (∀ q, q < n → S q ≤ 255) ∧ (∀ x y, x < y → y < i → S x ≤ S y) ∧ ∀ v, cLt S n v = cLt D n v) (fun h2 => ∃ S, dotsC h a n S h2 ∧ (∀ q, q < n → S q ≤ 255) ∧ ∀ p v, p < n → (S p < v ↔ p < cLt D n v)) (n - 1) 1 (1, h) ⟨rfl, D, ⟨fun _ _ => rfl, rfl, fun q hq => (hC.2.2.2.2 q hq).1⟩, hK.2.1, fun x y h1 h2 => by omega, fun _ => rfl⟩ (fun i s hi I => ?_) (fun s I => ?_)
  · obtain ⟨h2, e, S, q1, q2, q3⟩ := key
    refine ⟨h2, S, ?_, q1, q2, q3⟩
    unfold f_X1_sort f_X1_sort_L2
    rw [e, bd_s]
  · obtain ⟨s1, s2⟩ := s
    obtain ⟨e1, S, d, b, so, ct⟩ := I
    have e1 : s1 = nI i := e1
    subst e1
    obtain ⟨t, et, t1, t2, t3⟩ := cSortAt ha hn (show i < n by omega) b d
    obtain ⟨h3, e3, d3⟩ := cForward ha hC.2.1 hn (show i < n by omega) t1 d
    refine ⟨(nI (i + 1), h3), ?_, rfl, bfN S i t, d3, bf_le t1 (by omega) b, ins_sorted t1 so t2 t3, fun v => by rw [bf_cLt t1 (by omega), ct v]⟩
    (try dsimp only)
    have e71 : s2.1 a 3 = nI n := by rw [d.1 a (by omega)]; exact hC.2.1
    have et : f_X1_sort_L14 s2 a (nI i) (nI i) 0 = some (nI t) := et
    have e3 : f_X1_bringForward s2 a (nI i) (nI t) = some h3 := e3
    unfold f_X1_sort_B2
    rw [e71, if_pos (nI_lt (by omega) (by omega)), et, bd_s, e3, bd_s, nI_s]
  · obtain ⟨s1, s2⟩ := s
    obtain ⟨e1, S, d, b, so, ct⟩ := I
    have e1 : s1 = nI (1 + (n - 1)) := e1
    rw [show 1 + (n - 1) = n by omega] at e1 so
    subst e1
    refine ⟨s2, ?_, S, d, b, fun p v hp => by rw [← ct v]; exact sorted_at so hp⟩
    (try dsimp only)
    have e71 : s2.1 a 3 = nI n := by rw [d.1 a (by omega)]; exact hC.2.1
    unfold f_X1_sort_B2
    rw [e71, if_neg (nI_nlt (Nat.le_refl _) (by omega))]
end FORWARD
