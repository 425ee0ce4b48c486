def cEq (D : Nat → Nat) (n v : Nat) : Nat := sumN (fun q => if D q = v then 1 else 0) n
theorem cLt_s {D : Nat → Nat} {n v : Nat} : cLt D n (v + 1) = cLt D n v + cEq D n v := by
  unfold cLt cEq
  rw [← sumN_add]
  refine sumN_congr (fun j _ => ?_)
  by_cases z : D j < v
  · rw [if_pos z, if_pos (by omega), if_neg (by omega)]
  · by_cases y : D j = v
    · rw [if_neg z, if_pos (by omega), if_pos y]
    · rw [if_neg z, if_neg (by omega), if_neg y]
theorem cLt_le {D : Nat → Nat} {n v : Nat} : cLt D n v ≤ n := by
  have := sumN_le (g := fun q => if D q < v then 1 else 0) (b := 1) (n := n) (fun j _ => by
    show (if D j < v then 1 else 0) ≤ 1
    split <;> omega)
  unfold cLt
  omega
theorem cEq_mono {D : Nat → Nat} {v i : Nat} : ∀ {n : Nat}, i ≤ n → cEq D i v ≤ cEq D n v := fun {n} h => by
  have := sumN_split (fun q => if D q = v then 1 else 0) i (n - i)
  rw [show i + (n - i) = n by omega] at this
  unfold cEq
  omega
/-- only the room 68 has changed -/
def mv68 (g h : MH) : Prop := (∀ b, b ≠ 68 → h.1 b = g.1 b) ∧ h.2 = g.2
section INTO
variable {h g : MH} {c kd n V : Nat} {D cs : Nat → Nat} {w wt : Nat}
theorem mInto14 (hc : c < 6) (hK : covK kd n D cs w wt) (hM : covM g c kd n D cs w wt) (hV : V < 256) (hg : mv68 g h) : ∃ b, f_X7_dotsInto_L14 h (nI c) (nI (cLt D n V)) (nI V) 0 = some b ∧ (b.1 = nI (cLt D n (V + 1)) ∧ mv68 g b.2 ∧ (∀ p, p < cLt D n V → b.2.1 68 p = h.1 68 p) ∧ ∀ p, cLt D n V ≤ p → p < cLt D n (V + 1) → b.2.1 68 p = nI V) := by
  have hn := hK.1.2.1
  have key := lpo_ind (step := fun s : Int32 × Int32 × MH => f_X7_dotsInto_B14 s.2.2 (nI c) s.1 (nI V) s.2.1) (fun i s => s.1 = nI (cLt D n V + cEq D i V) ∧ s.2.1 = nI i ∧ mv68 g s.2.2 ∧ (∀ p, p < cLt D n V → s.2.2.1 68 p = h.1 68 p) ∧ ∀ p, cLt D n V ≤ p → p < cLt D n V + cEq D i V → s.2.2.1 68 p = nI V) (fun b => b.1 = nI (cLt D n (V + 1)) ∧ mv68 g b.2 ∧ (∀ p, p < cLt D n V → b.2.1 68 p = h.1 68 p) ∧ ∀ p, cLt D n V ≤ p → p < cLt D n (V + 1) → b.2.1 68 p = nI V) n 0 (nI (cLt D n V), 0, h) ⟨rfl, rfl, hg, fun _ _ => rfl, fun p h1 h2 => absurd h2 (Nat.not_lt.mpr h1)⟩ (fun i s hi I => ?_) (fun s I => ?_)
  · exact key
  · obtain ⟨s1, s2, s3⟩ := s
    obtain ⟨e1, e2, f3, o, w3⟩ := I
    have e1 : s1 = nI (cLt D n V + cEq D i V) := e1
    have e2 : s2 = nI i := e2
    have f3 : mv68 g s3 := f3
    subst e1
    subst e2
    have b := hK.2.1 i (by omega)
    have m1 := cEq_mono (D := D) (v := V) (i := i + 1) (n := n) (by omega)
    have es : cEq D (i + 1) V = cEq D i V + (if D i = V then 1 else 0) := rfl
    have lt := cLt_s (D := D) (n := n) (v := V)
    have le := cLt_le (D := D) (n := n) (v := V + 1)
    have M3 : covM s3 c kd n D cs w wt := covM_of (fun b q1 q2 => f3.1 b (by omega)) hM
    by_cases z : D i = V
    · rw [if_pos z] at es
      refine ⟨(nI (cLt D n V + cEq D (i + 1) V), nI (i + 1), uI s3 68 (cLt D n V + cEq D i V) (nI V)), ?_, rfl, rfl, ⟨fun b hb => by rw [uI_ne hb]; exact f3.1 b hb, by rw [uI_2]; exact f3.2⟩, fun p hp => ?_, fun p p1 p2 => ?_⟩
      · (try dsimp only)
        unfold f_X7_dotsInto_B14
        rw [ix_n hc (by decide), gd_t, tn_n (j := c) (by omega), M3.2.1, if_pos (nI_lt (by omega) (by omega)), mDotAt hc hK M3 (by omega), bd_s, if_pos (by rw [z]), ix_n (by omega) (by decide), gd_t, nm_v, tn_n (by omega), nI_s, nI_s, es]
        rfl
      · show (uI s3 68 (cLt D n V + cEq D i V) (nI V)).1 68 p = _
        rw [uI_k (by omega)]
        exact o p hp
      · show (uI s3 68 (cLt D n V + cEq D i V) (nI V)).1 68 p = _
        have p2 : p < cLt D n V + cEq D (i + 1) V := p2
        by_cases y : p = cLt D n V + cEq D i V
        · rw [y, uI_at]
        · rw [uI_k y]
          exact w3 p p1 (by omega)
    · rw [if_neg z] at es
      refine ⟨(nI (cLt D n V + cEq D (i + 1) V), nI (i + 1), s3), ?_, rfl, rfl, f3, o, fun p p1 p2 => w3 p p1 ?_⟩
      · (try dsimp only)
        unfold f_X7_dotsInto_B14
        rw [ix_n hc (by decide), gd_t, tn_n (j := c) (by omega), M3.2.1, if_pos (nI_lt (by omega) (by omega)), mDotAt hc hK M3 (by omega), bd_s, if_neg (fun y => z ((nI_eq (by omega) (by omega)).mp y)), nI_s, es]
        rfl
      · have p2 : p < cLt D n V + cEq D (i + 1) V := p2
        omega
  · obtain ⟨s1, s2, s3⟩ := s
    obtain ⟨e1, e2, f3, o, w3⟩ := I
    have e1 : s1 = nI (cLt D n V + cEq D (0 + n) V) := e1
    have e2 : s2 = nI (0 + n) := e2
    have f3 : mv68 g s3 := f3
    rw [Nat.zero_add] at e1 e2 w3
    subst e1
    subst e2
    have M3 : covM s3 c kd n D cs w wt := covM_of (fun b q1 q2 => f3.1 b (by omega)) hM
    refine ⟨(nI (cLt D n V + cEq D n V), s3), ?_, by rw [cLt_s], f3, o, fun p p1 p2 => w3 p p1 (by rw [← cLt_s]; exact p2)⟩
    (try dsimp only)
    unfold f_X7_dotsInto_B14
    rw [ix_n hc (by decide), gd_t, tn_n (j := c) (by omega), M3.2.1, if_neg (nI_nlt (by omega) (by omega))]
theorem mInto {S : Nat → Nat} (hc : c < 6) (hK : covK kd n D cs w wt) (hM : covM h c kd n D cs w wt) (hS : ∀ p v, p < n → (S p < v ↔ p < cLt D n v)) : ∃ h2, f_X7_dotsInto h (nI c) = some (1, h2) ∧ mv68 h h2 ∧ ∀ p, p < n → h2.1 68 p = nI (S p) := by
  have hn := hK.1.2.1
  have key := lpo_ind (step := fun s : Int32 × Int32 × MH => f_X7_dotsInto_B4 s.2.2 (nI c) s.1 s.2.1) (fun V s => s.1 = nI (cLt D n V) ∧ s.2.1 = nI V ∧ mv68 h s.2.2 ∧ ∀ p, p < cLt D n V → ∃ m, s.2.2.1 68 p = nI m ∧ cLt D n m ≤ p ∧ p < cLt D n (m + 1)) (fun h2 => mv68 h h2 ∧ ∀ p, p < n → h2.1 68 p = nI (S p)) 256 0 (0, 0, h) ⟨by rw [cLt_none (v := 0) (fun q _ => Nat.not_lt_zero _)]; rfl, rfl, ⟨fun _ _ => rfl, rfl⟩, fun p hp => absurd hp (by rw [cLt_none (v := 0) (fun q _ => Nat.not_lt_zero _)]; exact Nat.not_lt_zero _)⟩ (fun V s hV I => ?_) (fun s I => ?_)
  · obtain ⟨h2, e, q1, q2⟩ := key
    refine ⟨h2, ?_, q1, q2⟩
    unfold f_X7_dotsInto f_X7_dotsInto_L4
    rw [e, bd_s]
  · obtain ⟨s1, s2, s3⟩ := s
    obtain ⟨e1, e2, f3, o⟩ := I
    have e1 : s1 = nI (cLt D n V) := e1
    have e2 : s2 = nI V := e2
    have f3 : mv68 h s3 := f3
    subst e1
    subst e2
    obtain ⟨b, eb, b1, b2, b3, b4⟩ := mInto14 (V := V) hc hK hM (by omega) f3
    refine ⟨(b.1, nI (V + 1), b.2), ?_, b1, rfl, b2, fun p hp => ?_⟩
    · (try dsimp only)
      unfold f_X7_dotsInto_B4
      rw [if_pos (show nI V < 256 from (nI_lt (show V < 256 by omega) (by decide) : nI V < nI 256)), eb, bd_s, nI_s]
    · have hp : p < cLt D n (V + 1) := hp
      by_cases z : p < cLt D n V
      · obtain ⟨m, m1, m2, m3⟩ := o p z
        exact ⟨m, by show b.2.1 68 p = nI m; rw [b3 p z]; exact m1, m2, m3⟩
      · exact ⟨V, b4 p (by omega) hp, (by omega), hp⟩
  · obtain ⟨s1, s2, s3⟩ := s
    obtain ⟨e1, e2, f3, o⟩ := I
    have e1 : s1 = nI (cLt D n (0 + 256)) := e1
    have e2 : s2 = nI (0 + 256) := e2
    have f3 : mv68 h s3 := f3
    subst e2
    refine ⟨s3, ?_, f3, fun p hp => ?_⟩
    · (try dsimp only)
      unfold f_X7_dotsInto_B4
      rw [if_neg (by decide)]
    · have all : cLt D n (0 + 256) = n := cLt_all (fun q hq => by have := hK.2.1 q hq; omega)
      obtain ⟨m, m1, m2, m3⟩ := o p (by rw [all]; exact hp)
      have z1 := (hS p (m + 1) hp).mpr m3
      have z2 : ¬ S p < m := fun y => by
        have := (hS p m hp).mp y
        omega
      rw [show S p = m by omega]
      exact m1
end INTO
