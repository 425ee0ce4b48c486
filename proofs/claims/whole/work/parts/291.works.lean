/-! the reference's search for a block -/
def hdF (h k : MH) : Prop := k.2 = h.2 ∧ (∀ a, a ≠ 64 → a ≠ 68 → a ≠ 82 → k.1 a = h.1 a) ∧ ∀ j, j ≠ 25 → j ≠ 26 → k.1 64 j = h.1 64 j
theorem hdF_t {h k m : MH} (F : hdF h k) (G : hdF k m) : hdF h m := ⟨G.1.trans F.1, fun a q1 q2 q3 => (G.2.1 a q1 q2 q3).trans (F.2.1 a q1 q2 q3), fun j q1 q2 => (G.2.2 j q1 q2).trans (F.2.2 j q1 q2)⟩
def bstV : Option (Nat × Nat) → Int32
  | none => -9
  | some p => nI p.1
def lstV : Option (Nat × Nat) → Int32
  | none => 0
  | some p => nI p.2
def mkB (kd : Nat) (cs : Nat → Nat) (wt : Nat) (O : Nat → Nat) (w b : Nat) : Nat := bnN (fun i => wetB kd cs wt (O (b * w + i))) w
theorem mk_ok {kd wt w b s : Nat} {cs O : Nat → Nat} (hs : s < 2 ^ w) : s &&& mkB kd cs wt O w b = 0 ↔ ∀ q, s.testBit q = true → avB kd cs wt O w b q = true := by
  constructor
  · intro z q hq
    have hqw : q < w := Nat.lt_of_not_le (fun y => by
      rw [tb_lt (Nat.lt_of_lt_of_le hs (Nat.pow_le_pow_right (by decide) y))] at hq
      exact absurd hq (by decide))
    have e : (s &&& mkB kd cs wt O w b).testBit q = false := by rw [z, Nat.zero_testBit]
    unfold mkB at e
    rw [Nat.testBit_and, hq, Bool.true_and, bnN_tb, decide_eq_true hqw, Bool.true_and] at e
    unfold avB
    rw [e]
    rfl
  · intro z
    apply Nat.eq_of_testBit_eq
    intro q
    unfold mkB
    rw [Nat.zero_testBit, Nat.testBit_and, bnN_tb]
    cases hq : s.testBit q with
    | false => rfl
    | true =>
      have := z q hq
      unfold avB at this
      revert this
      cases wetB kd cs wt (O (b * w + q)) with
      | false =>
        intro _
        rw [Bool.and_false, Bool.and_false]
      | true =>
        intro y
        exact absurd y (by decide)
section HIDES
variable {h : MH} {c d r kd n k w u wt b m t : Nat} {ds cs ls O : Nat → Nat}
theorem mHideIn {x4 : Int32} (hc : c < 6) (hKc : covK kd n ds cs u wt) (hM : covM h c kd n ds cs u wt) (w12 : w ≤ 12) (hO : ∀ q, q < n → h.1 77 q = nI (O q) ∧ O q < n) (hb : b * w + w ≤ n) : f_X7_hides_L14 h (nI c) (nI d) (nI b) x4 (nI w) 0 0 = some (nI (mkB kd cs wt O w b), uA h 68 (wr (h.1 68) 0 (fun i => nI (prB kd n ds cs u O w b i)) w)) := by
  have hn := hKc.1.2.1
  unfold f_X7_hides_L14
  have key := lpo_for (step := fun s : Int32 × Int32 × MH => f_X7_hides_B14 s.2.2 (nI c) (nI d) (nI b) x4 (nI w) s.1 s.2.1) (b := (nI (mkB kd cs wt O w b), uA h 68 (wr (h.1 68) 0 (fun i => nI (prB kd n ds cs u O w b i)) w))) (fun i => (nI (bnN (fun i => wetB kd cs wt (O (b * w + i))) i), nI i, uA h 68 (wr (h.1 68) 0 (fun i => nI (prB kd n ds cs u O w b i)) i))) w (fun i hi => ?_) ?_
  · rw [wr_0] at key
    exact key
  · (try dsimp only)
    obtain ⟨o1, o2⟩ := hO (b * w + i) (by omega)
    obtain ⟨p1, p2⟩ := price_N hKc o2
    have p3 : priceV kd n ds u (O (b * w + i)) (cs (O (b * w + i))) = nI (prB kd n ds cs u O w b i) := p1
    have m1 : covM (uA h 68 (wr (h.1 68) 0 (fun i => nI (prB kd n ds cs u O w b i)) i)) c kd n ds cs u wt := covM_of (fun x q1 q2 => uA_ne (by omega)) hM
    have m2 : covM (uA h 68 (wr (h.1 68) 0 (fun i => nI (prB kd n ds cs u O w b i)) (i + 1))) c kd n ds cs u wt := covM_of (fun x q1 q2 => uA_ne (by omega)) hM
    have bs : nI (bnN (fun i => wetB kd cs wt (O (b * w + i))) i) ||| shl (nI (if wetB kd cs wt (O (b * w + i)) = true then 1 else 0)) (nI i) = nI (bnN (fun i => wetB kd cs wt (O (b * w + i))) (i + 1)) := bn_step (by omega)
    have bn : bnN (fun i => wetB kd cs wt (O (b * w + i))) (i + 1) = bnN (fun i => wetB kd cs wt (O (b * w + i))) i ||| (if wetB kd cs wt (O (b * w + i)) = true then 2 ^ i else 0) := rfl
    unfold f_X7_hides_B14
    rw [if_pos (nI_lt hi (by omega)), lin_bw, ix_n (show b * w + i < 40 by omega) (by decide), gd_t, tn_n (j := b * w + i) (by omega), uA_ne (show 77 ≠ 68 by decide), o1, mPrice hc hKc m1 o2, bd_s, p3, ix_n (show i < 40 by omega) (by decide), gd_t, nm_v, tn_n (j := i) (by omega), gd_t, wr_0s (g := fun i => nI (prB kd n ds cs u O w b i)) rfl, uA_ne (show 77 ≠ 68 by decide), o1, mIsWet hc hKc m2 o2, bd_s, nI_s]
    revert bs bn
    cases wetB kd cs wt (O (b * w + i)) with
    | true =>
      intro bs _
      rw [if_pos rfl] at bs
      have bs2 : nI (bnN (fun i => wetB kd cs wt (O (b * w + i))) i) ||| shl 1 (nI i) = nI (bnN (fun i => wetB kd cs wt (O (b * w + i))) (i + 1)) := bs
      rw [if_pos rfl, bs2, nm_v]
    | false =>
      intro _ bn
      rw [if_neg (by decide)] at bn
      have e0 : nI (bnN (fun i => wetB kd cs wt (O (b * w + i))) i) ||| 0 = nI (bnN (fun i => wetB kd cs wt (O (b * w + i))) (i + 1)) := by
        rw [bn]
        exact N_or _ 0
      rw [if_neg (by decide), e0, nm_v]
  · (try dsimp only)
    unfold f_X7_hides_B14 mkB
    rw [if_neg (nI_nlt (Nat.le_refl _) (by omega))]
theorem mHideCost {pr : Nat → Nat} {x3 x4 x6 x7 x8 : Int32} {s : Nat} (w12 : w ≤ 12) (e : ∀ i, i < w → h.1 68 i = nI (pr i)) (hs : s < 4096) : f_X7_hides_L129 h (nI d) x3 x4 (nI w) x6 x7 x8 (nI s) 0 0 = some (nI (csT pr s w)) := by
  unfold f_X7_hides_L129 csT
  refine lpo_sum (fun q => if s.testBit q = true then pr q else 0) w (fun i v hi => ?_) (fun v => ?_)
  · (try dsimp only)
    unfold f_X7_hides_B129
    rw [if_pos (nI_lt hi (by omega)), mHasN (by omega) (by omega), bd_s, nI_s]
    cases s.testBit i with
    | true => rw [if_pos rfl, ix_n (show i < 40 by omega) (by decide), gd_t, nm_v, tn_n (by omega), e i hi, nI_add, if_pos rfl]
    | false => rw [if_neg (by decide), nm_v, N_addK, if_neg (by decide)]
  · (try dsimp only)
    unfold f_X7_hides_B129
    rw [if_neg (nI_nlt (Nat.le_refl _) (by omega))]
theorem mHideBest {pr : Nat → Nat} {x3 : Int32} {M : Nat} (hd : d < 4) (hK : codK k w ls) (hD : codM h d k w ls) (hM : M < 4096) (ht : t < 64) (pl : ∀ q, q < w → pr q ≤ 1000) (e : ∀ i, i < w → h.1 68 i = nI (pr i)) : f_X7_hides_L94 h (nI d) x3 (nI t) (nI w) (nI M) (-9) 0 0 = some (bstV (brF (fun s => decide (s &&& M = 0) && decide (smN ls k s = t)) (fun s => csT pr s w) (2 ^ w)), lstV (brF (fun s => decide (s &&& M = 0) && decide (smN ls k s = t)) (fun s => csT pr s w) (2 ^ w))) := by
  have w12 := hK.1.2.2.2
  have p12 := pw12 w12
  unfold f_X7_hides_L94
  refine lpo_for (fun s => (bstV (brF (fun s => decide (s &&& M = 0) && decide (smN ls k s = t)) (fun s => csT pr s w) s), lstV (brF (fun s => decide (s &&& M = 0) && decide (smN ls k s = t)) (fun s => csT pr s w) s), nI s)) (2 ^ w) (fun s hs => ?_) ?_
  · (try dsimp only)
    have s64 := sm64 hK (s := s)
    have al : s &&& M ≤ s := Nat.and_le_left
    have st : brF (fun s => decide (s &&& M = 0) && decide (smN ls k s = t)) (fun s => csT pr s w) (s + 1) = if (decide (s &&& M = 0) && decide (smN ls k s = t)) = true then (match brF (fun s => decide (s &&& M = 0) && decide (smN ls k s = t)) (fun s => csT pr s w) s with
      | none => some (s, csT pr s w)
      | some p => if csT pr s w < p.2 then some (s, csT pr s w) else some p) else brF (fun s => decide (s &&& M = 0) && decide (smN ls k s = t)) (fun s => csT pr s w) s := rfl
    have cl : csT pr s w ≤ w * 1000 := cs_le pl
    unfold f_X7_hides_B94
    rw [shl1s (by omega), if_pos (nI_lt hs (by omega)), N_and, nI_s, mSums hd hK hD (by omega), bd_s]
    rw [st]
    by_cases z : s &&& M = 0
    · rw [if_pos (show nI (s &&& M) = 0 by rw [z]; rfl), decide_eq_true z, Bool.true_and]
      by_cases y : smN ls k s = t
      · rw [if_pos (show nI (smN ls k s) = nI t by rw [y]), decide_eq_true y, if_pos rfl, mHideCost w12 e (by omega), bd_s]
        cases x : brF (fun s => decide (s &&& M = 0) && decide (smN ls k s = t)) (fun s => csT pr s w) s with
        | none =>
          (try dsimp only)
          rw [if_pos (show bstV none < 0 from (by decide))]
          rfl
        | some p =>
          obtain ⟨q1, q2, q3, q4⟩ := br_some x
          have pl2 : p.2 ≤ w * 1000 := by
            rw [q3]
            exact cs_le pl
          (try dsimp only)
          rw [if_neg (show ¬ bstV (some p) < 0 from nlt0 (show p.1 ≤ 1000000 by omega))]
          by_cases v : csT pr s w < p.2
          · rw [if_pos (show nI (csT pr s w) < lstV (some p) from nI_lt v (by omega)), if_pos v]
            rfl
          · rw [if_neg (show ¬ nI (csT pr s w) < lstV (some p) from nI_nlt (by omega) (by omega)), if_neg v]
      · rw [if_neg (show ¬ nI (smN ls k s) = nI t from fun x => y ((nI_eq (by omega) (by omega)).mp x)), decide_eq_false y, if_neg (by decide)]
    · rw [if_neg (show ¬ nI (s &&& M) = 0 from fun x => z ((nI_eq (b := 0) (by omega) (by decide)).mp x)), decide_eq_false z, Bool.false_and, if_neg (by decide)]
  · (try dsimp only)
    unfold f_X7_hides_B94
    rw [shl1s (by omega), if_neg (nI_nlt (Nat.le_refl _) (by omega))]
theorem mHideSet {G : Nat → Bool} {s X : Nat} {x8 : Int32} (w12 : w ≤ 12) (hn : n ≤ 40) (hO : ∀ q, q < n → h.1 77 q = nI (O q) ∧ O q < n) (hb : b * w + w ≤ n) (hs : s < 4096) (hG : ∀ i, i < w → G (b * w + i) = s.testBit i) (h25 : h.1 64 25 = nI X) (h82 : ∀ x, x < 40 → h.1 82 x = nI (if flT O G (b * w) x = true then 1 else 0)) : ∃ g, f_X7_hides_L197 h (nI b) (nI w) (nI s) x8 0 = some g ∧ hdF h g ∧ g.1 64 26 = h.1 64 26 ∧ g.1 64 25 = nI (X + csT (fun _ => 1) s w) ∧ ∀ x, x < 40 → g.1 82 x = nI (if flT O G (b * w + w) x = true then 1 else 0) := by
  have key := lpo_ind (step := fun z : Int32 × MH => f_X7_hides_B197 z.2 (nI b) (nI w) (nI s) x8 z.1) (fun i z => z.1 = nI i ∧ hdF h z.2 ∧ z.2.1 64 26 = h.1 64 26 ∧ z.2.1 64 25 = nI (X + csT (fun _ => 1) s i) ∧ ∀ x, x < 40 → z.2.1 82 x = nI (if flT O G (b * w + i) x = true then 1 else 0)) (fun g => hdF h g ∧ g.1 64 26 = h.1 64 26 ∧ g.1 64 25 = nI (X + csT (fun _ => 1) s w) ∧ ∀ x, x < 40 → g.1 82 x = nI (if flT O G (b * w + w) x = true then 1 else 0)) w 0 (0, h) ⟨rfl, ⟨rfl, fun _ _ _ _ => rfl, fun _ _ _ => rfl⟩, rfl, h25, h82⟩ (fun i z hi I => ?_) (fun z I => ?_)
  · exact key
  · obtain ⟨v, g⟩ := z
    obtain ⟨e, F, e26, e25, e82⟩ := I
    dsimp only at e F e26 e25 e82
    subst e
    dsimp only
    have hi : i < w := (by omega)
    obtain ⟨o1, o2⟩ := hO (b * w + i) (by omega)
    have fe : ∀ x, flT O G (b * w + (i + 1)) x = if x = O (b * w + i) then s.testBit i else flT O G (b * w + i) x := fun x => by
      rw [← hG i hi]
      rfl
    have ce : csT (fun _ => 1) s (i + 1) = csT (fun _ => 1) s i + (if s.testBit i = true then 1 else 0) := rfl
    have bi : b2i (s.testBit i) = nI (if s.testBit i = true then 1 else 0) := by cases s.testBit i <;> rfl
    unfold f_X7_hides_B197
    rw [if_pos (nI_lt hi (by omega)), if_neg (nlt0 (show s ≤ 1000000 by omega)), lin_bw, ix_n (show b * w + i < 40 by omega) (by decide), gd_t, mHasN (by omega) (by omega), bd_s, tn_n (j := b * w + i) (by omega), F.2.1 77 (by decide) (by decide) (by decide), o1, ix_n (show O (b * w + i) < 40 by omega) (by decide), gd_t, nm_v, tn_n (j := O (b * w + i)) (by omega), bd_s, uI_ne (show 64 ≠ 82 by decide), e25, nI_s i, bi]
    have fin : ∀ v : Int32, v = nI (X + csT (fun _ => 1) s (i + 1)) → ∃ s2 : Int32 × MH, some (Sum.inl (nI (i + 1), uI (uI g 82 (O (b * w + i)) (nI (if s.testBit i = true then 1 else 0))) 64 25 v)) = (some (Sum.inl s2) : Option ((Int32 × MH) ⊕ MH)) ∧ s2.1 = nI (i + 1) ∧ hdF h s2.2 ∧ s2.2.1 64 26 = h.1 64 26 ∧ s2.2.1 64 25 = nI (X + csT (fun _ => 1) s (i + 1)) ∧ ∀ x, x < 40 → s2.2.1 82 x = nI (if flT O G (b * w + (i + 1)) x = true then 1 else 0) := fun v hv => by
      refine ⟨_, rfl, rfl, ⟨F.1, fun a q1 q2 q3 => ?_, fun j q1 q2 => ?_⟩, ?_, ?_, fun x hx => ?_⟩
      · rw [uI_ne q1, uI_ne q3]
        exact F.2.1 a q1 q2 q3
      · rw [uI_k q1, uI_ne (by decide)]
        exact F.2.2 j q1 q2
      · rw [uI_k (by decide), uI_ne (by decide)]
        exact e26
      · rw [uI_at, hv]
      · rw [uI_ne (by decide), fe x]
        by_cases y : x = O (b * w + i)
        · rw [if_pos y, y, uI_at]
        · rw [if_neg y, uI_k y]
          exact e82 x hx
    by_cases y : s.testBit i = true
    · rw [if_pos y, nI_s, nm_v]
      exact fin _ (by rw [ce, if_pos y, Nat.add_assoc])
    · rw [if_neg y, N_addK, nm_v]
      exact fin _ (by rw [ce, if_neg y, Nat.add_assoc])
  · obtain ⟨v, g⟩ := z
    obtain ⟨e, F, e26, e25, e82⟩ := I
    dsimp only at e F e26 e25 e82
    rw [Nat.zero_add] at e e25 e82
    subst e
    dsimp only
    unfold f_X7_hides_B197
    exact ⟨g, by rw [if_neg (nI_nlt (Nat.le_refl _) (by omega))], F, e26, e25, e82⟩
end HIDES
