/-! the class's tables of sets -/
def setE (h : MH) (t C W : Nat) : Prop := h.1 11 t = nI C ∧ (C ≠ 1000000 → h.1 12 t = nI W)
def setF (h k : MH) : Prop := k.2 = h.2 ∧ ∀ a, a ≠ 11 → a ≠ 12 → k.1 a = h.1 a
theorem setF_r {h : MH} : setF h h := ⟨rfl, fun _ _ _ => rfl⟩
theorem setF_t {h k m : MH} (F : setF h k) (G : setF k m) : setF h m := ⟨G.1.trans F.1, fun a q1 q2 => (G.2 a q1 q2).trans (F.2 a q1 q2)⟩
theorem cStart {h : MH} : ∃ k, f_X3_startSets h = some k ∧ setF h k ∧ ∀ t, t < 64 → setE k t (if t = 0 then 0 else 1000000) 0 := by
  refine ⟨uI (uI (uA h 11 (wr (h.1 11) 0 (fun _ => 1000000) 64)) 11 0 0) 12 0 0, ?_, ⟨rfl, fun a q1 q2 => by rw [uI_ne q2, uI_ne q1, uA_ne q1]⟩, fun t ht => ⟨?_, fun z => ?_⟩⟩
  · unfold f_X3_startSets
    rw [fill40 (by decide), bd_s, show ix (0 : Int32) 64 = true from (by decide), gd_t, nm_v, tn_0, gd_t, nm_v]
  · rw [uI_ne (by decide)]
    by_cases z : t = 0
    · rw [if_pos z, z, uI_at]
      rfl
    · rw [if_neg z, uI_k z, uA_at, wr_0in ht]
      rfl
  · by_cases y : t = 0
    · rw [y, uI_at]
      rfl
    · rw [if_neg y] at z
      exact absurd rfl z
theorem cJoin {h : MH} {t C W C2 W2 j p : Nat} {s2 : Int32} (ht : t < 64) (hj : j < 31) (hC : C ≤ 1000000) (hC2 : C2 ≤ 1000000) (hp : p ≤ 1000) (E : setE h t C W) (e2 : C2 ≠ 1000000 → s2 = nI W2) : ∃ k, f_X3_joinPlace h (nI t) (nI C2) s2 (nI j) (nI p) = some k ∧ setF h k ∧ (∀ q, q ≠ t → k.1 11 q = h.1 11 q ∧ k.1 12 q = h.1 12 q) ∧ setE k t (if C2 = 1000000 then C else if C2 + p < C then C2 + p else C) (if C2 = 1000000 then W else if C2 + p < C then W2 ||| 2 ^ j else W) := by
  by_cases z : C2 = 1000000
  · refine ⟨h, ?_, setF_r, fun _ _ => ⟨rfl, rfl⟩, ?_⟩
    · unfold f_X3_joinPlace
      rw [if_pos (show nI C2 = 1000000 by rw [z]; rfl)]
    · rw [if_pos z, if_pos z]
      exact E
  · have zn : ¬ nI C2 = 1000000 := fun y => z ((nI_eq (b := 1000000) (by omega) (by decide)).mp y)
    rw [if_neg z, if_neg z]
    by_cases y : C2 + p < C
    · refine ⟨uI (uI h 11 t (nI (C2 + p))) 12 t (nI (W2 ||| 2 ^ j)), ?_, ⟨rfl, fun a q1 q2 => by rw [uI_ne q2, uI_ne q1]⟩, fun q hq => ⟨by rw [uI_ne (by decide), uI_k hq], by rw [uI_k hq, uI_ne (by decide)]⟩, ?_⟩
      · unfold f_X3_joinPlace
        rw [if_neg zn, ix_n ht (by decide), gd_t, tn_n (by omega), E.1, nI_add, if_pos (nI_lt y (by omega)), gd_t, nm_v, gd_t, nm_v, e2 z, shl1s hj, N_or]
      · rw [if_pos y, if_pos y]
        exact ⟨by rw [uI_ne (by decide), uI_at], fun _ => uI_at⟩
    · refine ⟨h, ?_, setF_r, fun _ _ => ⟨rfl, rfl⟩, ?_⟩
      · unfold f_X3_joinPlace
        rw [if_neg zn, ix_n ht (by decide), gd_t, tn_n (by omega), E.1, nI_add, if_neg (nI_nlt (by omega) (by omega))]
      · rw [if_neg y, if_neg y]
        exact E
theorem cGrow {h : MH} {C W : Nat → Nat} {c j p : Nat} (hc : c < 64) (hj : j < 31) (hp : p ≤ 1000) (hC : ∀ t, C t ≤ 1000000) (E : ∀ t, t < 64 → setE h t (C t) (W t)) : ∃ k, f_X3_growSets h (nI j) (nI c) (nI p) = some k ∧ setF h k ∧ ∀ t, t < 64 → setE k t (grC C c p t) (grW C W c j p t) := by
  have x64 : ∀ t, t < 64 → t ^^^ c < 64 := fun t ht => Nat.xor_lt_two_pow (n := 6) ht hc
  have xx : ∀ t, t ^^^ c ^^^ c = t := fun t => by rw [Nat.xor_assoc, Nat.xor_self, Nat.xor_zero]
  have same : ∀ t, t ^^^ c = t → grC C c p t = C t ∧ grW C W c j p t = W t := fun t e => by
    unfold grC grW
    rw [e]
    by_cases z : C t = 1000000
    · rw [if_pos z, if_pos z]
      exact ⟨rfl, rfl⟩
    · rw [if_neg z, if_neg z, if_neg (by omega), if_neg (by omega)]
      exact ⟨rfl, rfl⟩
  have key := lpo_ind (step := fun s : Int32 × MH => f_X3_growSets_B3 s.2 (nI j) (nI c) (nI p) s.1) (fun i s => s.1 = nI i ∧ setF h s.2 ∧ ∀ t, t < 64 → ((t < i ∨ t ^^^ c < i) → setE s.2 t (grC C c p t) (grW C W c j p t)) ∧ (¬ (t < i ∨ t ^^^ c < i) → setE s.2 t (C t) (W t))) (fun k => setF h k ∧ ∀ t, t < 64 → setE k t (grC C c p t) (grW C W c j p t)) 64 0 (0, h) ⟨rfl, setF_r, fun t ht => ⟨fun z => absurd z (by omega), fun _ => E t ht⟩⟩ (fun i s hi I => ?_) (fun s I => ?_)
  · obtain ⟨k, e, q⟩ := key
    refine ⟨k, ?_, q⟩
    unfold f_X3_growSets f_X3_growSets_L3
    rw [e, bd_s]
  · obtain ⟨v, g⟩ := s
    obtain ⟨e, F, D⟩ := I
    dsimp only at e F D
    subst e
    have hi : i < 64 := (by omega)
    dsimp only
    unfold f_X3_growSets_B3
    rw [if_pos (show nI i < 64 from (nI_lt hi (by decide) : nI i < nI 64)), N_xor, nm_v]
    have hv := x64 i hi
    by_cases z : i < i ^^^ c
    · have oi := (D i hi).2 (by omega)
      have ov := (D (i ^^^ c) hv).2 (by rw [xx]; omega)
      obtain ⟨k1, e1, F1, O1, E1⟩ := cJoin (C2 := C (i ^^^ c)) (W2 := W (i ^^^ c)) hi hj (hC i) (hC (i ^^^ c)) hp oi ov.2
      have ov1 : setE k1 (i ^^^ c) (C (i ^^^ c)) (W (i ^^^ c)) := ⟨by rw [(O1 (i ^^^ c) (by omega)).1]; exact ov.1, fun y => by rw [(O1 (i ^^^ c) (by omega)).2]; exact ov.2 y⟩
      obtain ⟨k2, e2, F2, O2, E2⟩ := cJoin (C2 := C i) (W2 := W i) hv hj (hC (i ^^^ c)) (hC i) hp ov1 oi.2
      rw [if_pos (nI_lt z (by omega)), if_pos (show nI (i ^^^ c) < 64 from (nI_lt hv (by decide) : nI (i ^^^ c) < nI 64)), ix_n hi (by decide), gd_t, nm_v, gd_t, nm_v, ix_n hv (by decide), gd_t, gd_t, tn_n (j := i) (by omega), tn_n (j := i ^^^ c) (by omega), oi.1, ov.1, e1, bd_s, e2, bd_s]
      refine ⟨(nI (i + 1), k2), by rw [nI_s], rfl, setF_t (setF_t F F1) F2, fun t ht => ?_⟩
      have n1 : setE k2 i (grC C c p i) (grW C W c j p i) := ⟨by rw [(O2 i (by omega)).1]; exact E1.1, fun y => by rw [(O2 i (by omega)).2]; exact E1.2 y⟩
      have n2 : setE k2 (i ^^^ c) (grC C c p (i ^^^ c)) (grW C W c j p (i ^^^ c)) := by
        unfold grC grW
        rw [xx]
        exact E2
      by_cases t1 : t = i
      · subst t1
        exact ⟨fun _ => n1, fun y => absurd (Or.inl (Nat.lt_succ_self t)) y⟩
      · by_cases t2 : t = i ^^^ c
        · subst t2
          exact ⟨fun _ => n2, fun y => absurd (Or.inr (by rw [xx]; exact Nat.lt_succ_self i)) y⟩
        · have t3 : t ^^^ c ≠ i := fun y => t2 (by rw [← y, xx])
          have w1 : k2.1 11 t = g.1 11 t := by rw [(O2 t t2).1, (O1 t t1).1]
          have w2 : k2.1 12 t = g.1 12 t := by rw [(O2 t t2).2, (O1 t t1).2]
          dsimp only
          unfold setE
          rw [w1, w2]
          exact ⟨fun y => (D t ht).1 (by omega), fun y => (D t ht).2 (by omega)⟩
    · rw [if_neg (nI_nlt (by omega) (by omega))]
      refine ⟨(nI (i + 1), g), by rw [nI_s], rfl, F, fun t ht => ⟨fun y => ?_, fun y => (D t ht).2 (by omega)⟩⟩
      by_cases q : t < i ∨ t ^^^ c < i
      · exact (D t ht).1 q
      · have t3 := xx t
        have te : t ^^^ c = t := by
          by_cases t1 : t = i
          · subst t1
            omega
          · have t4 : t ^^^ c = i := (by omega)
            rw [t4] at t3
            omega
        dsimp only
        rw [(same t te).1, (same t te).2]
        exact (D t ht).2 q
  · obtain ⟨v, g⟩ := s
    obtain ⟨e, F, D⟩ := I
    dsimp only at e F D
    subst e
    dsimp only
    unfold f_X3_growSets_B3
    refine ⟨g, by rw [if_neg (by decide)], F, fun t ht => (D t ht).1 (by omega)⟩
theorem dp_le {ls : Nat → Nat} {k : Nat} {av : Nat → Bool} {pr : Nat → Nat} {t : Nat} : ∀ {j : Nat}, (dpN ls k av pr j).1 t ≤ 1000000
  | 0 => by
    show (if t = 0 then 0 else 1000000) ≤ 1000000
    split <;> omega
  | j + 1 => by
    have ih := dp_le (ls := ls) (k := k) (av := av) (pr := pr) (t := t) (j := j)
    unfold dpN
    by_cases z : av j = true
    · rw [if_pos z]
      show grC (dpN ls k av pr j).1 (colN ls k j) (pr j) t ≤ 1000000
      unfold grC
      split
      · exact ih
      · split <;> omega
    · rw [if_neg z]
      exact ih
theorem col64 {k w : Nat} {ls : Nat → Nat} (hK : codK k w ls) {j : Nat} : colN ls k j < 64 := Nat.lt_of_lt_of_le (bnN_lt k) (show 2 ^ k ≤ 2 ^ 6 from Nat.pow_le_pow_right (by decide) hK.1.2.1)
theorem sm64 {k w : Nat} {ls : Nat → Nat} (hK : codK k w ls) {s : Nat} : smN ls k s < 64 := Nat.lt_of_lt_of_le (bnN_lt k) (show 2 ^ k ≤ 2 ^ 6 from Nat.pow_le_pow_right (by decide) hK.1.2.1)
abbrev d1 (ls : Nat → Nat) (k w : Nat) := dpN ls k (fun _ => true) (fun _ => 1) w
theorem cWeigh {h : MH} {a k w : Nat} {ls : Nat → Nat} (a13 : 13 ≤ a) (ha : shp a = (0, 0)) (hK : codK k w ls) (hC : codC h a k w ls) : ∃ g, f_X3_weigh h a = some g ∧ setF h g ∧ ∀ t, t < 64 → setE g t ((d1 ls k w).1 t) ((d1 ls k w).2 t) := by
  have w12 := hK.1.2.2.2
  obtain ⟨g0, e0, F0, D0⟩ := cStart (h := h)
  have key := lpo_ind (step := fun s : Int32 × MH => f_X3_weigh_B6 s.2 a s.1) (fun i s => s.1 = nI i ∧ setF h s.2 ∧ ∀ t, t < 64 → setE s.2 t ((d1 ls k i).1 t) ((d1 ls k i).2 t)) (fun g => setF h g ∧ ∀ t, t < 64 → setE g t ((d1 ls k w).1 t) ((d1 ls k w).2 t)) w 0 (0, g0) ⟨rfl, F0, D0⟩ (fun i s hi I => ?_) (fun s I => ?_)
  · obtain ⟨g, e, q⟩ := key
    refine ⟨g, ?_, q⟩
    unfold f_X3_weigh f_X3_weigh_L6
    rw [e0, bd_s, e, bd_s]
  · obtain ⟨v, g⟩ := s
    obtain ⟨e, F, D⟩ := I
    dsimp only at e F D
    subst e
    dsimp only
    have gC : codC g a k w ls := codC_of (fun b q1 q2 => F.2 b (by omega) (by omega)) hC
    obtain ⟨g2, e2, F2, D2⟩ := cGrow (j := i) (p := 1) (col64 hK (j := i)) (by omega) (by decide) (fun t => dp_le) D
    unfold f_X3_weigh_B6
    rw [gC.2.1, if_pos (nI_lt (show i < w by omega) (by omega)), cColumn ha hK gC (by omega), bd_s, show (1 : Int32) = nI 1 from rfl, e2, bd_s]
    exact ⟨(nI (i + 1), g2), by rw [nI_add], rfl, setF_t F F2, D2⟩
  · obtain ⟨v, g⟩ := s
    obtain ⟨e, F, D⟩ := I
    dsimp only at e F D
    subst e
    dsimp only
    have gC : codC g a k w ls := codC_of (fun b q1 q2 => F.2 b (by omega) (by omega)) hC
    unfold f_X3_weigh_B6
    refine ⟨g, by rw [gC.2.1, Nat.zero_add, if_neg (nI_nlt (Nat.le_refl _) (by omega))], F, ?_⟩
    rw [Nat.zero_add] at D
    exact D
