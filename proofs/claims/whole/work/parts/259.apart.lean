def minR (g : Nat → Nat) (v : Nat) : Nat → Nat
  | 0 => v
  | k + 1 => if g k < minR g v k then g k else minR g v k
theorem le_minR {g : Nat → Nat} {v k : Nat} : ∀ {m : Nat}, k ≤ minR g v m ↔ k ≤ v ∧ ∀ q, q < m → k ≤ g q
  | 0 => ⟨fun z => ⟨z, fun q hq => absurd hq (Nat.not_lt_zero q)⟩, fun z => z.1⟩
  | m + 1 => by
    have ih := le_minR (g := g) (v := v) (k := k) (m := m)
    have e : k ≤ minR g v (m + 1) ↔ k ≤ minR g v m ∧ k ≤ g m := by
      show k ≤ (if g m < minR g v m then g m else minR g v m) ↔ _
      split <;> omega
    rw [e, ih]
    refine ⟨fun z => ⟨z.1.1, fun q hq => ?_⟩, fun z => ⟨⟨z.1, fun q hq => z.2 q (by omega)⟩, z.2 m (by omega)⟩⟩
    by_cases c : q = m
    · rw [c]
      exact z.2
    · exact z.1.2 q (by omega)
theorem eq_of_le_iff {a b : Nat} (e : ∀ k, k ≤ a ↔ k ≤ b) : a = b := Nat.le_antisymm ((e a).mp (Nat.le_refl a)) ((e b).mpr (Nat.le_refl b))
def dfD (f : Nat → Int32) (i j : Nat) : Nat := pop ((f i).toNatClampNeg ^^^ (f j).toNatClampNeg)
def cmT (f : Nat → Int32) (n : Nat) : Nat → Nat
  | 0 => 12
  | i + 1 => minR (fun q => dfD f i (i + 1 + q)) (cmT f n i) (n - (i + 1))
def rmT (f : Nat → Int32) : Nat → Nat
  | 0 => 99
  | i + 1 => minR (fun q => dfD f i q) (rmT f i) i
theorem le_cmT {f : Nat → Int32} {n k : Nat} : ∀ {i : Nat}, k ≤ cmT f n i ↔ k ≤ 12 ∧ ∀ p, p < i → ∀ q, q < n - (p + 1) → k ≤ dfD f p (p + 1 + q)
  | 0 => ⟨fun z => ⟨z, fun q hq => absurd hq (Nat.not_lt_zero q)⟩, fun z => z.1⟩
  | i + 1 => by
    show k ≤ minR (fun q => dfD f i (i + 1 + q)) (cmT f n i) (n - (i + 1)) ↔ _
    rw [le_minR, le_cmT (i := i)]
    refine ⟨fun z => ⟨z.1.1, fun p hp => ?_⟩, fun z => ⟨⟨z.1, fun p hp => z.2 p (by omega)⟩, z.2 i (by omega)⟩⟩
    by_cases c : p = i
    · rw [c]
      exact z.2
    · exact z.1.2 p (by omega)
theorem le_rmT {f : Nat → Int32} {k : Nat} : ∀ {i : Nat}, k ≤ rmT f i ↔ k ≤ 99 ∧ ∀ p, p < i → ∀ q, q < p → k ≤ dfD f p q
  | 0 => ⟨fun z => ⟨z, fun q hq => absurd hq (Nat.not_lt_zero q)⟩, fun z => z.1⟩
  | i + 1 => by
    show k ≤ minR (fun q => dfD f i q) (rmT f i) i ↔ _
    rw [le_minR, le_rmT (i := i)]
    refine ⟨fun z => ⟨z.1.1, fun p hp => ?_⟩, fun z => ⟨⟨z.1, fun p hp => z.2 p (by omega)⟩, z.2 i (by omega)⟩⟩
    by_cases c : p = i
    · rw [c]
      exact z.2
    · exact z.1.2 p (by omega)
theorem cmT_rmT {f : Nat → Int32} {n : Nat} (h2 : 2 ≤ n) (b : ∀ i j, i < n → j < n → dfD f i j ≤ 12) : cmT f n n = rmT f n := by
  apply eq_of_le_iff
  intro k
  have cm : ∀ i j, dfD f i j = dfD f j i := fun i j => by
    unfold dfD
    rw [Nat.xor_comm]
  rw [le_cmT, le_rmT]
  constructor
  · intro z
    refine ⟨(by omega), fun p hp q hq => ?_⟩
    have := z.2 q (by omega) (p - (q + 1)) (by omega)
    rw [show q + 1 + (p - (q + 1)) = p by omega] at this
    rw [cm]
    exact this
  · intro z
    have z2 := z.2 1 (by omega) 0 (by omega)
    have z3 := b 1 0 (by omega) (by omega)
    refine ⟨(by omega), fun p hp q hq => ?_⟩
    rw [cm]
    exact z.2 (p + 1 + q) (by omega) p (by omega)
def encT (v : Nat) : Int32 := if v = 99 then -9 else nI v
section APART
variable {h : MH} {a r n i v : Nat} {f : Nat → Int32}
theorem minR_le {g : Nat → Nat} {v m : Nat} : minR g v m ≤ v := (le_minR.mp (Nat.le_refl _)).1
theorem cmT_le {i : Nat} : cmT f n i ≤ 12 := (le_cmT.mp (Nat.le_refl _)).1
theorem rmT_le {i : Nat} : rmT f i ≤ 99 := (le_rmT.mp (Nat.le_refl _)).1
theorem cApartI (ha : shp a = (5, 0)) (hC : rowC h a n f) (n10 : n ≤ 10) (ok : nmOk f n = true) (hi : i < n) (hv : v ≤ 12) : f_X6_apart_L78 h a (nI v) (nI i) (nI (i + 1)) = some (nI (minR (fun q => dfD f i (i + 1 + q)) v (n - (i + 1)))) := by
  unfold f_X6_apart_L78
  refine lpo_for (fun k => (nI (minR (fun q => dfD f i (i + 1 + q)) v k), nI (i + 1 + k))) (n - (i + 1)) (fun k hk => ?_) ?_
  · (try dsimp only)
    obtain ⟨q1, q2⟩ := nm_N ok hi
    obtain ⟨q3, q4⟩ := nm_N (i := i + 1 + k) ok (by omega)
    have ml := minR_le (g := fun q => dfD f i (i + 1 + q)) (v := v) (m := k)
    have xl := xor_lt12 q2 q4
    have pl := pop_le xl
    have e : minR (fun q => dfD f i (i + 1 + q)) v (k + 1) = if dfD f i (i + 1 + k) < minR (fun q => dfD f i (i + 1 + q)) v k then dfD f i (i + 1 + k) else minR (fun q => dfD f i (i + 1 + q)) v k := rfl
    unfold f_X6_apart_B78 f_J9_min_7cf53
    rw [e, hC.1, if_pos (nI_lt (by omega) (by omega)), cGet ha hC (by omega) hi, bd_s, cGet ha hC (by omega) (show i + 1 + k < n by omega), bd_s, q1, q3, N_xor, cPop xl, bd_s, nI_s, show pop ((f i).toNatClampNeg ^^^ (f (i + 1 + k)).toNatClampNeg) = dfD f i (i + 1 + k) from rfl]
    have pl2 : dfD f i (i + 1 + k) ≤ 12 := pl
    by_cases z : dfD f i (i + 1 + k) < minR (fun q => dfD f i (i + 1 + q)) v k
    · rw [if_pos (nI_lt z (by omega)), bd_s, if_pos z]
      rfl
    · rw [if_neg (nI_nlt (by omega) (by omega)), bd_s, if_neg z]
      rfl
  · (try dsimp only)
    unfold f_X6_apart_B78
    rw [hC.1, if_neg (nI_nlt (by omega) (by omega))]
theorem cApart (ha : shp a = (5, 0)) (hC : rowC h a n f) (n10 : n ≤ 10) (ok : nmOk f n = true) : f_X6_apart_L63 h a 12 0 = some (nI (cmT f n n)) := by
  unfold f_X6_apart_L63
  refine lpo_for (fun i => (nI (cmT f n i), nI i)) n (fun i hi => ?_) ?_
  · (try dsimp only)
    unfold f_X6_apart_B63
    rw [hC.1, if_pos (nI_lt hi (by omega)), nm_v, nI_s, cApartI ha hC n10 ok hi cmT_le, bd_s]
    rfl
  · (try dsimp only)
    unfold f_X6_apart_B63
    rw [hC.1, if_neg (nI_nlt (Nat.le_refl _) (by omega))]
theorem mApartI (hr : r < 6) (hM : rowM h 66 67 40 r n f) (n10 : n ≤ 10) (ok : nmOk f n = true) (hi : i < n) (hv : v ≤ 99) : f_X7_apart_L32 h (nI r) (encT v) (nI i) 0 = some (encT (minR (fun q => dfD f i q) v i)) := by
  unfold f_X7_apart_L32
  refine lpo_for (fun k => (encT (minR (fun q => dfD f i q) v k), nI k)) i (fun k hk => ?_) ?_
  · (try dsimp only)
    obtain ⟨q1, q2⟩ := nm_N ok hi
    obtain ⟨q3, q4⟩ := nm_N (i := k) ok (by omega)
    have ml := minR_le (g := fun q => dfD f i q) (v := v) (m := k)
    have xl := xor_lt12 q2 q4
    have pl := pop_le xl
    have e : minR (fun q => dfD f i q) v (k + 1) = if dfD f i k < minR (fun q => dfD f i q) v k then dfD f i k else minR (fun q => dfD f i q) v k := rfl
    unfold f_X7_apart_B32
    rw [e, if_pos (nI_lt hk (by omega)), mRowAt hr (by omega), bd_s, mRowAt hr (by omega), bd_s, hM.2 i hi, hM.2 k (by omega), q1, q3, N_xor, mPop (by omega), bd_s, nI_s, show pop ((f i).toNatClampNeg ^^^ (f k).toNatClampNeg) = dfD f i k from rfl]
    have pl2 : dfD f i k ≤ 12 := pl
    generalize minR (fun q => dfD f i q) v k = u at ml
    generalize dfD f i k = d at pl2
    by_cases z : u = 99
    · rw [z, if_pos (show d < 99 by omega), show encT 99 = -9 from rfl, if_pos (by decide), show encT d = nI d from if_neg (by omega)]
    · rw [show encT u = nI u from if_neg z, if_neg (nlt0 (by omega))]
      by_cases z2 : d < u
      · rw [if_pos (nI_lt z2 (by omega)), if_pos z2, show encT d = nI d from if_neg (by omega)]
      · rw [if_neg (nI_nlt (by omega) (by omega)), if_neg z2, show encT u = nI u from if_neg z]
  · (try dsimp only)
    unfold f_X7_apart_B32
    rw [if_neg (nI_nlt (Nat.le_refl _) (by omega))]
theorem mApart (hr : r < 6) (hM : rowM h 66 67 40 r n f) (n10 : n ≤ 10) (ok : nmOk f n = true) : f_X7_apart_L18 h (nI r) (-9) 0 = some (encT (rmT f n)) := by
  unfold f_X7_apart_L18
  refine lpo_for (fun i => (encT (rmT f i), nI i)) n (fun i hi => ?_) ?_
  · (try dsimp only)
    unfold f_X7_apart_B18
    rw [ix_n hr (by decide), gd_t, tn_n (by omega), hM.1, if_pos (nI_lt hi (by omega)), mApartI hr hM n10 ok hi rmT_le, bd_s, nI_s]
    rfl
  · (try dsimp only)
    unfold f_X7_apart_B18
    rw [ix_n hr (by decide), gd_t, tn_n (by omega), hM.1, if_neg (nI_nlt (Nat.le_refl _) (by omega))]
end APART
theorem op_apart {h : MH} (S : Sim h) (r : Int32) : Op (f_X6_apart h r) (fun h1 => f_X7_apart h1 r) := by
  rcases row_cases S.1 r with hr | ⟨j, hj, rfl, hr, ⟨m1, m2⟩ | ⟨n, f, hn, hC, hM⟩⟩
  · exact op_same S (v := -1) (by unfold f_X6_apart; rw [cIsRow, bd_s, hr, if_neg (by decide)]) (by show f_X7_apart h _ = _; unfold f_X7_apart; rw [mAskNames_b hr, bnd2_s, if_pos (by decide)])
  · refine op_found S (f := 1) (by decide) (by decide) ?_ ?_
    · unfold f_X6_apart
      rw [cIsRow, bd_s, hr, if_pos rfl, ix_n hj (by decide), gd_t, tn_n (by omega), rf_rows hj, cMiss_t m1, bd_s, if_pos rfl]
      exact pF (by decide) (by decide)
    · show f_X7_apart (fd h 1) _ = _
      unfold f_X7_apart
      rw [mAskNames_m hj (by rw [fd_ne (by decide) (by decide)]; exact m2), pB (by decide) (by decide)]
  by_cases hz : n < 1 ∨ 10 < n
  · refine op_found S (f := 5) (by decide) (by decide) ?_ ?_
    · unfold f_X6_apart
      rw [cIsRow, bd_s, hr, if_pos rfl, ix_n hj (by decide), gd_t, tn_n (by omega), rf_rows hj, cMiss_f hC.1 (by omega), bd_s, if_neg (by decide), cWrong_s hC.1 (by omega) hz, bd_s, if_neg (by decide)]
      exact pF (by decide) (by decide)
    · show f_X7_apart (fd h 5) _ = _
      unfold f_X7_apart
      rw [mAskNames_s (n := n) hj (by rw [fd_ne (by decide) (by decide)]; exact hM.1) (by omega) hz, pB (by decide) (by decide)]
  have n1 : 1 ≤ n := (by omega)
  have n10 : n ≤ 10 := (by omega)
  cases ok : nmOk f n with
  | false =>
    refine op_found S (f := 3) (by decide) (by decide) ?_ ?_
    · unfold f_X6_apart
      rw [cIsRow, bd_s, hr, if_pos rfl, ix_n hj (by decide), gd_t, tn_n (by omega), rf_rows hj, cMiss_f hC.1 (by omega), bd_s, if_neg (by decide), cWrong (sh_row hj) hC n1 n10, ok, if_neg (by decide), bd_s, if_neg (by decide)]
      exact pF (by decide) (by decide)
    · show f_X7_apart (fd h 3) _ = _
      unfold f_X7_apart
      rw [mAskNames hj (rowM_of (fd_ne (by decide) (by decide)) (fd_ne (by decide) (by decide)) hM) n1 n10, ok, if_neg (by decide), pB (by decide) (by decide)]
  | true =>
    by_cases n2 : n < 2
    · have en : n = 1 := (by omega)
      subst en
      refine op_same S (v := -9) ?_ ?_
      · unfold f_X6_apart
        rw [cIsRow, bd_s, hr, if_pos rfl, ix_n hj (by decide), gd_t, tn_n (by omega), rf_rows hj, cMiss_f hC.1 (by omega), bd_s, if_neg (by decide), cWrong (sh_row hj) hC n1 n10, ok, if_pos rfl, bd_s, if_pos rfl, hC.1, if_pos (by decide)]
      · show f_X7_apart h _ = _
        unfold f_X7_apart
        rw [mAskNames hj hM n1 n10, ok, if_pos rfl, bnd2_s, if_neg (by decide), mApart hj hM n10 ok, bd_s]
        rfl
    · have e := cmT_rmT (f := f) (n := n) (by omega) (fun i k hi hk => pop_le (xor_lt12 (nm_N ok hi).2 (nm_N ok hk).2))
      have le := cmT_le (f := f) (n := n) (i := n)
      refine op_same S (v := nI (cmT f n n)) ?_ ?_
      · unfold f_X6_apart
        rw [cIsRow, bd_s, hr, if_pos rfl, ix_n hj (by decide), gd_t, tn_n (by omega), rf_rows hj, cMiss_f hC.1 (by omega), bd_s, if_neg (by decide), cWrong (sh_row hj) hC n1 n10, ok, if_pos rfl, bd_s, if_pos rfl, hC.1, if_neg (show ¬ nI n < 2 from (nI_nlt (show 2 ≤ n by omega) (by omega) : ¬ nI n < nI 2)), cApart (sh_row hj) hC n10 ok, bd_s]
      · show f_X7_apart h _ = _
        unfold f_X7_apart
        rw [mAskNames hj hM n1 n10, ok, if_pos rfl, bnd2_s, if_neg (by decide), mApart hj hM n10 ok, bd_s, ← e, show encT (cmT f n n) = nI (cmT f n n) from if_neg (by omega)]
