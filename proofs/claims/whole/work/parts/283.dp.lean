/-! the cheapest set for each sum: place by place -/
def okS (av : Nat → Bool) (s j : Nat) : Prop := s < 2 ^ j ∧ ∀ q, s.testBit q = true → av q = true
def csT (pr : Nat → Nat) (s j : Nat) : Nat := sumN (fun q => if s.testBit q = true then pr q else 0) j
def grC (C : Nat → Nat) (c p t : Nat) : Nat := if C (t ^^^ c) = 1000000 then C t else if C (t ^^^ c) + p < C t then C (t ^^^ c) + p else C t
def grW (C S : Nat → Nat) (c j p t : Nat) : Nat := if C (t ^^^ c) = 1000000 then S t else if C (t ^^^ c) + p < C t then S (t ^^^ c) ||| 2 ^ j else S t
def dpN (ls : Nat → Nat) (k : Nat) (av : Nat → Bool) (pr : Nat → Nat) : Nat → (Nat → Nat) × (Nat → Nat)
  | 0 => (fun t => if t = 0 then 0 else 1000000, fun _ => 0)
  | j + 1 => if av j = true then (grC (dpN ls k av pr j).1 (colN ls k j) (pr j), grW (dpN ls k av pr j).1 (dpN ls k av pr j).2 (colN ls k j) j (pr j)) else dpN ls k av pr j
theorem or_add {s j : Nat} (h : s < 2 ^ j) : s ||| 2 ^ j = s + 2 ^ j := by
  have e := Nat.two_pow_add_eq_or_of_lt h 1
  rw [Nat.mul_one] at e
  rw [Nat.or_comm, ← e, Nat.add_comm]
theorem tb_lt {s q : Nat} (h : s < 2 ^ q) : s.testBit q = false := Nat.testBit_lt_two_pow h
theorem tb_or {s j q : Nat} : (s ||| 2 ^ j).testBit q = (s.testBit q || decide (j = q)) := by rw [Nat.testBit_or, Nat.testBit_two_pow]
theorem sy_low {ls : Nat → Nat} {k s u : Nat} : ∀ {j : Nat}, (∀ q, q < j → s.testBit q = u.testBit q) → syX ls k s j = syX ls k u j
  | 0, _ => rfl
  | j + 1, e => by
    unfold syX
    rw [sy_low (j := j) (fun q hq => e q (by omega)), e j (by omega)]
theorem cs_low {pr : Nat → Nat} {s u j : Nat} (e : ∀ q, q < j → s.testBit q = u.testBit q) : csT pr s j = csT pr u j := sumN_congr (fun q hq => by rw [e q hq])
theorem or_low {s j q : Nat} (hq : q < j) : (s ||| 2 ^ j).testBit q = s.testBit q := by
  rw [tb_or, decide_eq_false (show ¬ j = q by omega), Bool.or_false]
theorem sy_with {ls : Nat → Nat} {k s j : Nat} : syX ls k (s ||| 2 ^ j) (j + 1) = syX ls k s j ^^^ colN ls k j := by
  show (if (s ||| 2 ^ j).testBit j = true then syX ls k (s ||| 2 ^ j) j ^^^ colN ls k j else _) = _
  rw [if_pos (by rw [tb_or, decide_eq_true rfl, Bool.or_true]), sy_low (fun q hq => or_low hq)]
theorem sy_wo {ls : Nat → Nat} {k s j : Nat} (h : s < 2 ^ j) : syX ls k s (j + 1) = syX ls k s j := if_neg (by rw [tb_lt h]; decide)
theorem cs_with {pr : Nat → Nat} {s j : Nat} : csT pr (s ||| 2 ^ j) (j + 1) = csT pr s j + pr j := by
  show csT pr (s ||| 2 ^ j) j + (if (s ||| 2 ^ j).testBit j = true then pr j else 0) = _
  rw [if_pos (by rw [tb_or, decide_eq_true rfl, Bool.or_true]), cs_low (fun q hq => or_low hq)]
theorem cs_wo {pr : Nat → Nat} {s j : Nat} (h : s < 2 ^ j) : csT pr s (j + 1) = csT pr s j := by
  show csT pr s j + (if s.testBit j = true then pr j else 0) = _
  rw [if_neg (by rw [tb_lt h]; decide)]
  rfl
theorem cs_le {pr : Nat → Nat} {s j : Nat} (hp : ∀ q, q < j → pr q ≤ 1000) : csT pr s j ≤ j * 1000 := sumN_le (fun q hq => by
  show (if s.testBit q = true then pr q else 0) ≤ 1000
  have := hp q hq
  split <;> omega)
def dpOk (ls : Nat → Nat) (k : Nat) (av : Nat → Bool) (pr : Nat → Nat) (j t C S : Nat) : Prop := (C ≠ 1000000 → okS av S j ∧ syX ls k S j = t ∧ csT pr S j = C) ∧ ∀ s, okS av s j → syX ls k s j = t → C ≠ 1000000 ∧ (C < csT pr s j ∨ (C = csT pr s j ∧ S ≤ s))
theorem dp_inv {ls : Nat → Nat} {k : Nat} {av : Nat → Bool} {pr : Nat → Nat} : ∀ {j : Nat}, j ≤ 12 → (∀ q, q < j → pr q ≤ 1000) → ∀ t, dpOk ls k av pr j t ((dpN ls k av pr j).1 t) ((dpN ls k av pr j).2 t)
  | 0, _, _, t => by
    refine ⟨fun z => ?_, fun s hs e => ?_⟩
    · have z : ¬ (if t = 0 then 0 else 1000000) = 1000000 := z
      by_cases y : t = 0
      · subst y
        exact ⟨⟨show 0 < 1 by decide, fun q hq => by
          have hq : (0 : Nat).testBit q = true := hq
          rw [Nat.zero_testBit] at hq
          exact absurd hq (by decide)⟩, rfl, rfl⟩
      · rw [if_neg y] at z
        exact absurd rfl z
    · have s0 : s = 0 := by
        have := hs.1
        rw [Nat.pow_zero] at this
        omega
      have t0 : t = 0 := e.symm
      subst t0
      refine ⟨show ¬ (if 0 = 0 then 0 else 1000000) = 1000000 by decide, Or.inr ⟨rfl, Nat.zero_le _⟩⟩
  | j + 1, hj, hp, t => by
    have ih := dp_inv (ls := ls) (k := k) (av := av) (pr := pr) (j := j) (by omega) (fun q hq => hp q (by omega))
    have p2 : 2 ^ (j + 1) = 2 * 2 ^ j := by rw [Nat.pow_succ]; omega
    have bnd : ∀ s, csT pr s j ≤ j * 1000 := fun s => cs_le (fun q hq => hp q (by omega))
    have pj := hp j (by omega)
    have up : ∀ s, s < 2 ^ (j + 1) → s.testBit j = true → 2 ^ j ≤ s := fun s h1 h2 => Nat.le_of_not_lt (fun z => by rw [tb_lt z] at h2; exact absurd h2 (by decide))
    have dn : ∀ s, s < 2 ^ (j + 1) → s.testBit j = false → s < 2 ^ j := fun s h1 h2 => by
      refine Nat.lt_of_not_le (fun z => ?_)
      have e : s = (s - 2 ^ j) ||| 2 ^ j := by rw [or_add (by omega)]; omega
      rw [e, tb_or, decide_eq_true rfl, Bool.or_true] at h2
      exact absurd h2 (by decide)
    by_cases a1 : av j = true
    · have et : dpN ls k av pr (j + 1) = (grC (dpN ls k av pr j).1 (colN ls k j) (pr j), grW (dpN ls k av pr j).1 (dpN ls k av pr j).2 (colN ls k j) j (pr j)) := if_pos a1
      rw [et]
      have xx : t ^^^ colN ls k j ^^^ colN ls k j = t := by rw [Nat.xor_assoc, Nat.xor_self, Nat.xor_zero]
      obtain ⟨i1, i2⟩ := ih t
      obtain ⟨i3, i4⟩ := ih (t ^^^ colN ls k j)
      show dpOk ls k av pr (j + 1) t (grC (dpN ls k av pr j).1 (colN ls k j) (pr j) t) (grW (dpN ls k av pr j).1 (dpN ls k av pr j).2 (colN ls k j) j (pr j) t)
      unfold grC grW
      generalize (dpN ls k av pr j).1 t = C at *
      generalize (dpN ls k av pr j).2 t = T at *
      generalize (dpN ls k av pr j).1 (t ^^^ colN ls k j) = C2 at *
      generalize (dpN ls k av pr j).2 (t ^^^ colN ls k j) = T2 at *
      have stay : (C ≠ 1000000 → okS av T (j + 1) ∧ syX ls k T (j + 1) = t ∧ csT pr T (j + 1) = C) := fun z => by
        obtain ⟨⟨o1, o2⟩, o3, o4⟩ := i1 z
        exact ⟨⟨(by omega), o2⟩, by rw [sy_wo o1, o3], by rw [cs_wo o1, o4]⟩
      have part : ∀ s, okS av s (j + 1) → syX ls k s (j + 1) = t → s.testBit j = true → ∃ s2, s2 < 2 ^ j ∧ s = s2 + 2 ^ j ∧ okS av s2 j ∧ syX ls k s2 j = t ^^^ colN ls k j ∧ csT pr s (j + 1) = csT pr s2 j + pr j := fun s hs e tb => by
        have ge := up s hs.1 tb
        have lt : s - 2 ^ j < 2 ^ j := by
          have := hs.1
          omega
        have es : s = (s - 2 ^ j) ||| 2 ^ j := by rw [or_add lt]; omega
        refine ⟨s - 2 ^ j, lt, (by omega), ⟨lt, fun q hq => hs.2 q (by rw [es, tb_or, hq, Bool.true_or])⟩, ?_, ?_⟩
        · rw [es, sy_with] at e
          rw [← e, Nat.xor_assoc, Nat.xor_self, Nat.xor_zero]
        · rw [es, cs_with, ← es]
      by_cases u : C2 = 1000000
      · rw [if_pos u, if_pos u]
        refine ⟨stay, fun s hs e => ?_⟩
        cases tb : s.testBit j with
        | false =>
          have lt := dn s hs.1 tb
          have := i2 s ⟨lt, hs.2⟩ (by rw [← e, sy_wo lt])
          rw [cs_wo lt]
          exact this
        | true =>
          obtain ⟨s2, q1, q2, q3, q4, q5⟩ := part s hs e tb
          exact absurd u (i4 s2 q3 q4).1
      · rw [if_neg u, if_neg u]
        obtain ⟨⟨o1, o2⟩, o3, o4⟩ := i3 u
        have b2 := bnd T2
        by_cases v : C2 + pr j < C
        · rw [if_pos v, if_pos v]
          refine ⟨fun _ => ⟨⟨?_, fun q hq => ?_⟩, ?_, ?_⟩, fun s hs e => ⟨by omega, ?_⟩⟩
          · rw [or_add o1]
            omega
          · rw [tb_or] at hq
            cases y : T2.testBit q with
            | true => exact o2 q y
            | false =>
              rw [y, Bool.false_or] at hq
              rw [← of_decide_eq_true hq]
              exact a1
          · rw [sy_with, o3, xx]
          · rw [cs_with, o4]
          · cases tb : s.testBit j with
            | false =>
              have lt := dn s hs.1 tb
              have := (i2 s ⟨lt, hs.2⟩ (by rw [← e, sy_wo lt])).2
              rw [cs_wo lt]
              omega
            | true =>
              obtain ⟨s2, q1, q2, q3, q4, q5⟩ := part s hs e tb
              have := (i4 s2 q3 q4).2
              rw [q5, or_add o1, q2]
              omega
        · rw [if_neg v, if_neg v]
          refine ⟨stay, fun s hs e => ?_⟩
          cases tb : s.testBit j with
          | false =>
            have lt := dn s hs.1 tb
            have := i2 s ⟨lt, hs.2⟩ (by rw [← e, sy_wo lt])
            rw [cs_wo lt]
            exact this
          | true =>
            obtain ⟨s2, q1, q2, q3, q4, q5⟩ := part s hs e tb
            have w2 := (i4 s2 q3 q4).2
            have cn : C ≠ 1000000 := by omega
            have tl := (stay cn).1.1
            have tl2 := (i1 cn).1.1
            refine ⟨cn, ?_⟩
            rw [q5]
            omega
    · have et : dpN ls k av pr (j + 1) = dpN ls k av pr j := if_neg a1
      rw [et]
      obtain ⟨i1, i2⟩ := ih t
      refine ⟨fun z => ?_, fun s hs e => ?_⟩
      · obtain ⟨⟨o1, o2⟩, o3, o4⟩ := i1 z
        exact ⟨⟨(by omega), o2⟩, by rw [sy_wo o1, o3], by rw [cs_wo o1, o4]⟩
      · have tb : s.testBit j = false := Bool.eq_false_iff.mpr (fun y => a1 (hs.2 j y))
        have lt := dn s hs.1 tb
        rw [cs_wo lt]
        exact i2 s ⟨lt, hs.2⟩ (by rw [← e, sy_wo lt])
/-! one after the other -/
def brF (V : Nat → Bool) (K : Nat → Nat) : Nat → Option (Nat × Nat)
  | 0 => none
  | m + 1 => if V m = true then (match brF V K m with
    | none => some (m, K m)
    | some p => if K m < p.2 then some (m, K m) else some p) else brF V K m
theorem br_none {V : Nat → Bool} {K : Nat → Nat} : ∀ {m : Nat}, brF V K m = none → ∀ s, s < m → ¬ V s = true
  | 0, _, s, hs => absurd hs (Nat.not_lt_zero s)
  | m + 1, e, s, hs => by
    unfold brF at e
    by_cases z : V m = true
    · rw [if_pos z] at e
      cases y : brF V K m with
      | none => rw [y] at e; cases e
      | some p =>
        rw [y] at e
        dsimp only at e
        split at e <;> cases e
    · rw [if_neg z] at e
      by_cases x : s = m
      · rw [x]
        exact z
      · exact br_none e s (by omega)
theorem br_some {V : Nat → Bool} {K : Nat → Nat} : ∀ {m : Nat} {p : Nat × Nat}, brF V K m = some p → p.1 < m ∧ V p.1 = true ∧ p.2 = K p.1 ∧ ∀ s, s < m → V s = true → p.2 < K s ∨ (p.2 = K s ∧ p.1 ≤ s)
  | 0, p, e => by cases e
  | m + 1, p, e => by
    unfold brF at e
    by_cases z : V m = true
    · rw [if_pos z] at e
      cases y : brF V K m with
      | none =>
        rw [y] at e
        have e2 : (m, K m) = p := Option.some.inj e
        subst e2
        refine ⟨Nat.lt_succ_self m, z, rfl, fun s hs v => ?_⟩
        by_cases x : s = m
        · rw [x]
          exact Or.inr ⟨rfl, Nat.le_refl _⟩
        · exact absurd v (br_none y s (by omega))
      | some q =>
        rw [y] at e
        dsimp only at e
        obtain ⟨q1, q2, q3, q4⟩ := br_some y
        by_cases x : K m < q.2
        · rw [if_pos x] at e
          have e2 : (m, K m) = p := Option.some.inj e
          subst e2
          refine ⟨Nat.lt_succ_self m, z, rfl, fun s hs v => ?_⟩
          by_cases x2 : s = m
          · rw [x2]
            exact Or.inr ⟨rfl, Nat.le_refl _⟩
          · have := q4 s (by omega) v
            show K m < K s ∨ (K m = K s ∧ m ≤ s)
            omega
        · rw [if_neg x] at e
          have e2 : q = p := Option.some.inj e
          subst e2
          refine ⟨(by omega), q2, q3, fun s hs v => ?_⟩
          by_cases x2 : s = m
          · rw [x2]
            omega
          · exact q4 s (by omega) v
    · rw [if_neg z] at e
      obtain ⟨q1, q2, q3, q4⟩ := br_some e
      refine ⟨(by omega), q2, q3, fun s hs v => ?_⟩
      by_cases x2 : s = m
      · rw [x2] at v
        exact absurd v z
      · exact q4 s (by omega) v
/-- both find the same -/
theorem dp_br {ls : Nat → Nat} {k w : Nat} {av : Nat → Bool} {pr : Nat → Nat} {t C S : Nat} {V : Nat → Bool} {K : Nat → Nat} (hd : dpOk ls k av pr w t C S) (hV : ∀ s, s < 2 ^ w → (V s = true ↔ okS av s w ∧ syX ls k s w = t)) (hK : ∀ s, s < 2 ^ w → K s = csT pr s w) : brF V K (2 ^ w) = if C = 1000000 then none else some (S, C) := by
  obtain ⟨d1, d2⟩ := hd
  cases y : brF V K (2 ^ w) with
  | none =>
    have no := br_none y
    by_cases z : C = 1000000
    · rw [if_pos z]
    · obtain ⟨o, e, _⟩ := d1 z
      exact absurd ((hV S o.1).mpr ⟨o, e⟩) (no S o.1)
  | some p =>
    obtain ⟨p1, p2, p3, p4⟩ := br_some y
    obtain ⟨o, e⟩ := (hV p.1 p1).mp p2
    obtain ⟨c0, c1⟩ := d2 p.1 o e
    obtain ⟨o2, e2, e3⟩ := d1 c0
    have c2 := p4 S o2.1 ((hV S o2.1).mpr ⟨o2, e2⟩)
    rw [hK S o2.1, e3] at c2
    rw [hK p.1 p1] at p3
    rw [if_neg c0]
    have z1 : p.2 = C := by omega
    have z2 : p.1 = S := by omega
    rw [← z1, ← z2]
