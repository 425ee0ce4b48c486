/-! parts joined -/
def prOk (f : Nat → Int32) (k : Nat) : Bool := (btw (f (2 * k)) 1 10 && btw (f (2 * k + 1)) 0 250) && allB (fun q => neI (f (2 * k)) (f (2 * q))) k
section JOIN
variable {h : MH} {a r m : Nat} {f : Nat → Int32}
theorem cParts51 (ha : shp a = (5, 0)) (hC : rowC h a (2 * m) f) (hm : m ≤ 5) {k : Nat} (hk : k < m) : f_X6_areParts_L51 h a (nI (2 * k)) (f (2 * k)) 0 = some (if allB (fun q => neI (f (2 * k)) (f (2 * q))) k = true then Sum.inl () else Sum.inr false) := by
  unfold f_X6_areParts_L51
  have key := lpo_find (step := fun s : Int32 => f_X6_areParts_B51 h a (nI (2 * k)) (f (2 * k)) s) (b1 := Sum.inr false) (b2 := Sum.inl ()) (fun q => nI (2 * q)) k (fun q => ¬ neI (f (2 * k)) (f (2 * q)) = true) (fun q hq z => ?_) (fun q hq z => ?_) ?_
  · rcases key with ⟨z, e⟩ | ⟨z, e⟩
    · rw [allB_f z, show (0 : Int32) = nI (2 * 0) from rfl, e]
      rfl
    · rw [if_pos (allB_t.mpr (fun i hi2 => Classical.not_not.mp (z i hi2))), show (0 : Int32) = nI (2 * 0) from rfl, e]
  · (try dsimp only)
    have z := of_decide_eq_true (p := ¬ f (2 * k) = f (2 * q)) (Classical.not_not.mp z)
    unfold f_X6_areParts_B51
    rw [if_pos (nI_lt (by omega) (by omega)), cGet ha hC (by omega) (show 2 * q < 2 * m by omega), bd_s, if_neg (fun y => z y.symm), N_addK]
    rfl
  · (try dsimp only)
    have z2 : f (2 * q) = f (2 * k) := by
      refine Classical.byContradiction (fun y => z (decide_eq_true (p := ¬ f (2 * k) = f (2 * q)) (fun x => y x.symm)))
    unfold f_X6_areParts_B51
    rw [if_pos (nI_lt (by omega) (by omega)), cGet ha hC (by omega) (show 2 * q < 2 * m by omega), bd_s, if_pos z2]
  · (try dsimp only)
    unfold f_X6_areParts_B51
    rw [if_neg (nI_nlt (Nat.le_refl _) (by omega))]
theorem cAreParts (ha : shp a = (5, 0)) (hC : rowC h a (2 * m) f) (hm : m ≤ 5) : f_X6_areParts h a = some (allB (prOk f) m) := by
  have B : ∀ k, k < m → f_X6_areParts_B2 h a (nI (2 * k)) = if prOk f k = true then some (.inl (nI (2 * (k + 1)))) else some (.inr (.inr false)) := fun k hk => by
    unfold f_X6_areParts_B2 prOk
    rw [hC.1, if_pos (nI_lt (by omega) (by omega)), cGet ha hC (by omega) (show 2 * k < 2 * m by omega), bd_s, nI_s, cGet ha hC (by omega) (show 2 * k + 1 < 2 * m by omega), bd_s, btw_if, inR_if (n := 251) (N := 251) rfl, cParts51 ha hC hm hk, bd_s, show btw (f (2 * k + 1)) 0 250 = inR (f (2 * k + 1)) 251 from btw_inR rfl (by decide), N_addK]
    cases btw (f (2 * k)) 1 10 with
    | false => rfl
    | true =>
      cases inR (f (2 * k + 1)) 251 with
      | false => rfl
      | true => cases allB (fun q => neI (f (2 * k)) (f (2 * q))) k <;> rfl
  unfold f_X6_areParts f_X6_areParts_L2
  have key := lpo_find (step := fun s : Int32 => f_X6_areParts_B2 h a s) (b1 := Sum.inr false) (b2 := Sum.inl ()) (fun k => nI (2 * k)) m (fun k => ¬ prOk f k = true) (fun k hk z => ?_) (fun k hk z => ?_) ?_
  · rcases key with ⟨z, e⟩ | ⟨z, e⟩
    · rw [allB_f z, show (0 : Int32) = nI (2 * 0) from rfl, e]
      rfl
    · rw [allB_t.mpr (fun i hi2 => Classical.not_not.mp (z i hi2)), show (0 : Int32) = nI (2 * 0) from rfl, e]
      rfl
  · (try dsimp only)
    rw [B k hk, if_pos (Classical.not_not.mp z)]
  · (try dsimp only)
    rw [B k hk, if_neg z]
  · (try dsimp only)
    unfold f_X6_areParts_B2
    rw [hC.1, if_neg (nI_nlt (Nat.le_refl _) (by omega))]
theorem mJoin103 {x3 : Int32} (hr : r < 6) (hM : rowM h 66 67 40 r (2 * m) f) (hm : m ≤ 5) {k : Nat} (hk : k < m) (g : Bool) : f_X7_join_L103 h (nI r) x3 (b2i g) (nI (2 * k)) 0 = some (b2i (g && allB (fun q => neI (f (2 * k)) (f (2 * q))) k)) := by
  unfold f_X7_join_L103
  rw [show (b2i g, (0 : Int32)) = (b2i (g && allB (fun q => neI (f (2 * k)) (f (2 * q))) 0), nI (2 * 0)) by cases g <;> rfl]
  refine lpo_for (fun q => (b2i (g && allB (fun q => neI (f (2 * k)) (f (2 * q))) q), nI (2 * q))) k (fun q hq => ?_) ?_
  · (try dsimp only)
    unfold f_X7_join_B103
    rw [if_pos (nI_lt (by omega) (by omega)), mRowAt hr (by omega), bd_s, mRowAt hr (by omega), bd_s, hM.2 _ (by omega), hM.2 _ (by omega), N_addK]
    show _ = some (Sum.inl (b2i (g && (allB (fun q => neI (f (2 * k)) (f (2 * q))) q && neI (f (2 * k)) (f (2 * q)))), nI (2 * q + 2)))
    generalize allB (fun q => neI (f (2 * k)) (f (2 * q))) q = A
    cases g <;> cases A <;> by_cases c : f (2 * k) = f (2 * q) <;> simp [b2i, neI, c]
  · (try dsimp only)
    unfold f_X7_join_B103
    rw [if_neg (nI_nlt (Nat.le_refl _) (by omega))]
theorem mJoin47 (hr : r < 6) (hM : rowM h 66 67 40 r (2 * m) f) (hm : m ≤ 5) : f_X7_join_L47 h (nI r) (nI (2 * m)) 1 0 = some (b2i (allB (prOk f) m)) := by
  unfold f_X7_join_L47
  rw [show ((1 : Int32), (0 : Int32)) = (b2i (allB (prOk f) 0), nI (2 * 0)) from rfl]
  refine lpo_for (fun k => (b2i (allB (prOk f) k), nI (2 * k))) m (fun k hk => ?_) ?_
  · (try dsimp only)
    have t := mJoin103 (x3 := nI (2 * m)) hr hM hm hk true
    have u := mJoin103 (x3 := nI (2 * m)) hr hM hm hk false
    rw [show b2i true = 1 from rfl] at t
    rw [show b2i false = 0 from rfl] at u
    have e : allB (prOk f) (k + 1) = (allB (prOk f) k && prOk f k) := rfl
    unfold f_X7_join_B47 f_X7_join_J97_47 f_X7_join_J98_47
    rw [e, if_pos (nI_lt (by omega) (by omega)), mRowAt hr (by omega), bd_s, nI_s, mRowAt hr (by omega), bd_s, hM.2 _ (by omega), hM.2 _ (by omega), mIn, bd_s, mIn, bd_s, t, bd_s, u, bd_s, N_addK]
    cases allB (prOk f) k with
    | false => rfl
    | true =>
      rw [if_neg (show ¬ b2i true = 0 by decide), Bool.true_and]
      unfold prOk
      cases btw (f (2 * k)) 1 10 with
      | false => rfl
      | true =>
        cases btw (f (2 * k + 1)) 0 250 with
        | false => rfl
        | true => rfl
  · (try dsimp only)
    unfold f_X7_join_B47
    rw [if_neg (nI_nlt (Nat.le_refl _) (by omega))]
end JOIN
/-- above, below: what a part weighs -/
def abP (x : Nat → Nat) (j : Nat) : Nat → Nat × Nat
  | 0 => (1, 1)
  | k + 1 => if k = j then abP x j k else ((abP x j k).1 * x k % 251, (abP x j k).2 * (x k + 251 - x j) % 251)
def byP (x p : Nat → Nat) (j : Nat) : Nat → Nat
  | 0 => p j
  | k + 1 => if k = j then byP x p j k else (byP x p j k * x k % 251) * (((x k + 251 - x j) % 251) ^ 249 % 251) % 251
theorem abP_lt {x : Nat → Nat} {j : Nat} : ∀ k, (abP x j k).1 < 251 ∧ (abP x j k).2 < 251
  | 0 => ⟨show 1 < 251 by decide, show 1 < 251 by decide⟩
  | k + 1 => by
    unfold abP
    split
    · exact abP_lt k
    · exact ⟨Nat.mod_lt _ (by decide), Nat.mod_lt _ (by decide)⟩
theorem byP_lt {x p : Nat → Nat} {j : Nat} (hp : p j < 251) : ∀ k, byP x p j k < 251
  | 0 => hp
  | k + 1 => by
    unfold byP
    split
    · exact byP_lt hp k
    · exact Nat.mod_lt _ (by decide)
theorem by_ab {x p : Nat → Nat} {j : Nat} : ∀ k, byP x p j k % 251 = (p j * ((abP x j k).1 * ((abP x j k).2 ^ 249 % 251))) % 251
  | 0 => by
    show p j % 251 = (p j * (1 * (1 ^ 249 % 251))) % 251
    rw [Nat.one_pow]
    omega
  | k + 1 => by
    have ih := by_ab (x := x) (p := p) (j := j) k
    by_cases c : k = j
    · rw [show byP x p j (k + 1) = byP x p j k from if_pos c, show abP x j (k + 1) = abP x j k from if_pos c]
      exact ih
    · rw [show byP x p j (k + 1) = (byP x p j k * x k % 251) * (((x k + 251 - x j) % 251) ^ 249 % 251) % 251 from if_neg c, show abP x j (k + 1) = ((abP x j k).1 * x k % 251, (abP x j k).2 * (x k + 251 - x j) % 251) from if_neg c]
      generalize byP x p j k = b at ih
      generalize x k + 251 - x j = d
      generalize abP x j k = q at ih
      generalize x k = y
      generalize p j = e at ih
      have M : ∀ a a2 b b2 : Nat, a % 251 = a2 % 251 → b % 251 = b2 % 251 → (a * b) % 251 = (a2 * b2) % 251 := fun a a2 b b2 h1 h2 => by rw [Nat.mul_mod, h1, h2, ← Nat.mul_mod]
      have ih2 : b % 251 = (e * (q.1 * q.2 ^ 249)) % 251 := by
        rw [ih]
        exact M e e _ _ rfl (M q.1 q.1 _ _ rfl (Nat.mod_mod _ _))
      have L : (b * y % 251) * ((d % 251) ^ 249 % 251) % 251 = ((e * (q.1 * q.2 ^ 249)) * y) * d ^ 249 % 251 := by
        refine M _ _ _ _ ?_ ?_
        · rw [Nat.mod_mod]
          exact M _ _ _ _ ih2 rfl
        · rw [Nat.mod_mod, ← Nat.pow_mod]
      have R : (e * ((q.1 * y % 251) * ((q.2 * d % 251) ^ 249 % 251))) % 251 = (e * ((q.1 * y) * (q.2 * d) ^ 249)) % 251 := by
        refine M e e _ _ rfl (M _ _ _ _ (Nat.mod_mod _ _) ?_)
        rw [Nat.mod_mod, ← Nat.pow_mod]
      show (b * y % 251) * ((d % 251) ^ 249 % 251) % 251 % 251 = (e * ((q.1 * y % 251) * ((q.2 * d % 251) ^ 249 % 251))) % 251
      rw [Nat.mod_mod, L, R, Nat.mul_pow]
      generalize q.2 ^ 249 = u
      generalize d ^ 249 = v
      congr 1
      ac_rfl
def jnS (x p : Nat → Nat) (m : Nat) : Nat → Nat
  | 0 => 0
  | k + 1 => (jnS x p m k + byP x p k m) % 251
theorem jnS_lt {x p : Nat → Nat} {m : Nat} : ∀ k, jnS x p m k < 251
  | 0 => show 0 < 251 by decide
  | k + 1 => Nat.mod_lt _ (by decide)
theorem jnS_c {x p : Nat → Nat} {m k : Nat} : (jnS x p m k + p k * ((abP x k m).1 * ((abP x k m).2 ^ 249 % 251) % 251)) % 251 = jnS x p m (k + 1) := by
  show _ = (jnS x p m k + byP x p k m) % 251
  rw [← Nat.add_mod_mod, Nat.mul_mod_mod, ← by_ab, Nat.add_mod_mod]
theorem nI_sa {a b c : Nat} (h : b ≤ a + c) : nI a - nI b + nI c = nI (a + c - b) := by
  rw [← pk_sub h, ← nI_add, Int32.sub_eq_add_neg, Int32.sub_eq_add_neg, Int32.add_assoc, Int32.add_comm (-nI b), ← Int32.add_assoc]
section JOIN2
variable {h : MH} {a r m j : Nat} {f : Nat → Int32} {x p : Nat → Nat}
theorem cWeight (ha : shp a = (5, 0)) (hC : rowC h a (2 * m) f) (hm : m ≤ 5) (hj : j < m) (hx : ∀ k, k < m → f (2 * k) = nI (x k) ∧ x k ≤ 10) : f_X6_weightOfPart h a (nI (2 * j)) = some (nI ((abP x j m).1 * ((abP x j m).2 ^ 249 % 251) % 251)) := by
  obtain ⟨xj, xj10⟩ := hx j hj
  have key : f_X6_weightOfPart_L7 h a (nI (2 * j)) 1 1 0 = some (nI (abP x j m).1, nI (abP x j m).2) := by
    unfold f_X6_weightOfPart_L7
    rw [show ((1 : Int32), (1 : Int32), (0 : Int32)) = (nI (abP x j 0).1, nI (abP x j 0).2, nI (2 * 0)) from rfl]
    refine lpo_for (fun k => (nI (abP x j k).1, nI (abP x j k).2, nI (2 * k))) m (fun k hk => ?_) ?_
    · (try dsimp only)
      obtain ⟨xk, xk10⟩ := hx k hk
      obtain ⟨l1, l2⟩ := abP_lt (x := x) (j := j) k
      have l3 : (abP x j k).1 * x k ≤ 250 * 10 := Nat.mul_le_mul (by omega) xk10
      have l4 : (abP x j k).2 * (x k + 251 - x j) ≤ 250 * 261 := Nat.mul_le_mul (by omega) (by omega)
      unfold f_X6_weightOfPart_B7
      rw [hC.1, if_pos (nI_lt (by omega) (by omega)), cGet ha hC (by omega) (show 2 * k < 2 * m by omega), bd_s, nm_v, bd_s, cGet ha hC (by omega) (show 2 * j < 2 * m by omega), bd_s, nm_v, xk, xj, show (251 : Int32) = nI 251 from rfl, nI_sa (by omega), pk_mul, pk_mul, N_rem (by omega) (by decide) (by decide), N_rem (by omega) (by decide) (by decide), N_addK]
      by_cases c : k = j
      · rw [if_pos (by rw [c]), show abP x j (k + 1) = abP x j k from if_pos c]
        rfl
      · rw [if_neg (fun z => c (by have := (nI_eq (by omega) (by omega)).mp z; omega)), show abP x j (k + 1) = ((abP x j k).1 * x k % 251, (abP x j k).2 * (x k + 251 - x j) % 251) from if_neg c]
        rfl
    · (try dsimp only)
      unfold f_X6_weightOfPart_B7
      rw [hC.1, if_neg (nI_nlt (Nat.le_refl _) (by omega))]
  obtain ⟨l1, l2⟩ := abP_lt (x := x) (j := j) m
  have l3 := Nat.mod_lt ((abP x j m).2 ^ 249) (show 251 > 0 by decide)
  have l4 : (abP x j m).1 * ((abP x j m).2 ^ 249 % 251) ≤ 250 * 250 := Nat.mul_le_mul (by omega) (by omega)
  unfold f_X6_weightOfPart
  rw [key, bd_s, show (249 : Int32) = nI 249 from rfl, cPow (by omega) (by decide), bd_s, pk_mul, N_remK (by omega) (by decide) (by decide)]
theorem cJoinL (ha : shp a = (5, 0)) (hC : rowC h a (2 * m) f) (hm : m ≤ 5) (hx : ∀ k, k < m → f (2 * k) = nI (x k) ∧ x k ≤ 10) (hp : ∀ k, k < m → f (2 * k + 1) = nI (p k) ∧ p k ≤ 250) : f_X6_join_L80 h a 0 0 = some (nI (jnS x p m m)) := by
  unfold f_X6_join_L80
  rw [show ((0 : Int32), (0 : Int32)) = (nI (jnS x p m 0), nI (2 * 0)) from rfl]
  refine lpo_for (fun k => (nI (jnS x p m k), nI (2 * k))) m (fun k hk => ?_) ?_
  · (try dsimp only)
    obtain ⟨pk, pk2⟩ := hp k hk
    have l1 := jnS_lt (x := x) (p := p) (m := m) k
    have l3 := Nat.mod_lt ((abP x k m).1 * ((abP x k m).2 ^ 249 % 251)) (show 251 > 0 by decide)
    have l4 : p k * ((abP x k m).1 * ((abP x k m).2 ^ 249 % 251) % 251) ≤ 250 * 250 := Nat.mul_le_mul (by omega) (by omega)
    unfold f_X6_join_B80
    rw [hC.1, if_pos (nI_lt (by omega) (by omega)), nI_s, cGet ha hC (by omega) (show 2 * k + 1 < 2 * m by omega), bd_s, cWeight ha hC hm hk hx, bd_s, nm_v, pk, pk_mul, nI_add, N_remK (by omega) (by decide) (by decide), jnS_c, N_addK]
    rfl
  · (try dsimp only)
    unfold f_X6_join_B80
    rw [hC.1, if_neg (nI_nlt (Nat.le_refl _) (by omega))]
theorem mJoin188 {x5 : Int32} (hr : r < 6) (hM : rowM h 66 67 40 r (2 * m) f) (hm : m ≤ 5) (hj : j < m) (hx : ∀ k, k < m → f (2 * k) = nI (x k) ∧ x k ≤ 10) (hp : p j ≤ 250) : f_X7_join_L188 h (nI r) (nI (2 * m)) x5 (nI (2 * j)) (nI (p j)) 0 = some (nI (byP x p j m)) := by
  obtain ⟨xj, xj10⟩ := hx j hj
  unfold f_X7_join_L188
  rw [show (nI (p j), (0 : Int32)) = (nI (byP x p j 0), nI (2 * 0)) from rfl]
  refine lpo_for (fun k => (nI (byP x p j k), nI (2 * k))) m (fun k hk => ?_) ?_
  · (try dsimp only)
    obtain ⟨xk, xk10⟩ := hx k hk
    have l1 := byP_lt (x := x) (p := p) (j := j) (by omega) k
    have l2 : byP x p j k * x k ≤ 250 * 10 := Nat.mul_le_mul (by omega) xk10
    have l3 := Nat.mod_lt (x k + 251 - x j) (show 251 > 0 by decide)
    have l4 := Nat.mod_lt (((x k + 251 - x j) % 251) ^ 249) (show 251 > 0 by decide)
    have l5 := Nat.mod_lt (byP x p j k * x k) (show 251 > 0 by decide)
    have l6 : byP x p j k * x k % 251 * (((x k + 251 - x j) % 251) ^ 249 % 251) ≤ 250 * 250 := Nat.mul_le_mul (by omega) (by omega)
    unfold f_X7_join_B188
    rw [if_pos (nI_lt (by omega) (by omega)), mRowAt hr (by omega), bd_s, bd_s, mRowAt hr (by omega), bd_s, hM.2 _ (by omega), hM.2 _ (by omega), xk, xj, show (251 : Int32) = nI 251 from rfl, nI_sa (by omega), N_rem (by omega) (by decide) (by decide), mInv (by omega), bd_s, nm_v, pk_mul, N_rem (by omega) (by decide) (by decide), pk_mul, N_rem (by omega) (by decide) (by decide), N_addK]
    by_cases c : k = j
    · rw [if_pos (by rw [c]), show byP x p j (k + 1) = byP x p j k from if_pos c]
      rfl
    · rw [if_neg (fun z => c (by have := (nI_eq (by omega) (by omega)).mp z; omega)), show byP x p j (k + 1) = (byP x p j k * x k % 251) * (((x k + 251 - x j) % 251) ^ 249 % 251) % 251 from if_neg c]
      rfl
  · (try dsimp only)
    unfold f_X7_join_B188
    rw [if_neg (nI_nlt (Nat.le_refl _) (by omega))]
theorem mJoinL (hr : r < 6) (hM : rowM h 66 67 40 r (2 * m) f) (hm : m ≤ 5) (hx : ∀ k, k < m → f (2 * k) = nI (x k) ∧ x k ≤ 10) (hp : ∀ k, k < m → f (2 * k + 1) = nI (p k) ∧ p k ≤ 250) : f_X7_join_L168 h (nI r) (nI (2 * m)) 0 0 = some (nI (jnS x p m m)) := by
  unfold f_X7_join_L168
  rw [show ((0 : Int32), (0 : Int32)) = (nI (jnS x p m 0), nI (2 * 0)) from rfl]
  refine lpo_for (fun k => (nI (jnS x p m k), nI (2 * k))) m (fun k hk => ?_) ?_
  · (try dsimp only)
    obtain ⟨pk, pk2⟩ := hp k hk
    have l1 := jnS_lt (x := x) (p := p) (m := m) k
    have l2 := byP_lt (x := x) (p := p) (j := k) (by omega) m
    unfold f_X7_join_B168
    rw [if_pos (nI_lt (by omega) (by omega)), nI_s, mRowAt hr (by omega), bd_s, hM.2 _ (by omega), pk, mJoin188 hr hM hm hk hx pk2, bd_s, nm_v, nI_add, N_remK (by omega) (by decide) (by decide), N_addK]
    rfl
  · (try dsimp only)
    unfold f_X7_join_B168
    rw [if_neg (nI_nlt (Nat.le_refl _) (by omega))]
end JOIN2
theorem op_join {h : MH} (S : Sim h) (r : Int32) : Op (f_X6_join h r) (fun h1 => f_X7_join h1 r) := by
  rcases row_cases S.1 r with hr | ⟨j, hj, rfl, hr, ⟨m1, m2⟩ | ⟨n, f, hn, hC, hM⟩⟩
  · exact op_same S (v := -1) (by unfold f_X6_join; rw [cIsRow, bd_s, hr, if_neg (by decide)]) (by show f_X7_join h _ = _; unfold f_X7_join; rw [mAskRow_b hr, bnd2_s, if_pos (by decide)])
  · refine op_found S (f := 1) (by decide) (by decide) ?_ ?_
    · unfold f_X6_join
      rw [cIsRow, bd_s, hr, if_pos rfl, ix_n hj (by decide), gd_t, tn_n (by omega), rf_rows hj, cMiss_t m1, bd_s, if_pos rfl]
      exact pF (by decide) (by decide)
    · show f_X7_join (fd h 1) _ = _
      unfold f_X7_join
      rw [mAskRow_m hj (by rw [fd_ne (by decide) (by decide)]; exact m2)]
      exact pB (by decide) (by decide)
  by_cases hz : n < 2 ∨ 10 < n ∨ ¬ n % 2 = 0
  · refine op_found S (f := 5) (by decide) (by decide) ?_ ?_
    · unfold f_X6_join
      rw [cIsRow, bd_s, hr, if_pos rfl, ix_n hj (by decide), gd_t, tn_n (by omega), rf_rows hj, cMiss_f hC.1 (by omega), bd_s, if_neg (by decide), hC.1, N_remK (by omega) (by decide) (by decide)]
      by_cases z1 : n < 2
      · rw [if_pos (show nI n < 2 from (nI_lt z1 (by decide) : nI n < nI 2))]
        exact pF (by decide) (by decide)
      · rw [if_neg (show ¬ nI n < 2 from (nI_nlt (by omega) (by omega) : ¬ nI n < nI 2))]
        by_cases z2 : 10 < n
        · rw [if_pos (show 10 < nI n from (nI_lt z2 (by omega) : nI 10 < nI n))]
          exact pF (by decide) (by decide)
        · rw [if_neg (show ¬ 10 < nI n from (nI_nlt (by omega) (by omega) : ¬ nI 10 < nI n)), if_neg (show ¬ nI (n % 2) = 0 from nI0_ne (by omega) (by omega))]
          exact pF (by decide) (by decide)
    · show f_X7_join (fd h 5) _ = _
      have e66 : (fd h 5).1 66 j = nI n := by rw [fd_ne (by decide) (by decide)]; exact hM.1
      unfold f_X7_join
      rw [mAskRow_o (n := n) hj e66 (by omega), bnd2_s, if_neg (by decide), ix_n hj (by decide), gd_t, tn_n (by omega), e66, nm_v, N_remK (by omega) (by decide) (by decide)]
      by_cases z1 : n % 2 = 0
      · rw [if_pos (show nI (n % 2) = 0 by rw [z1]; rfl), mIn, bd_s, btw_K (by omega) (by decide) (by decide), dec_f (by omega), if_neg (by decide)]
        exact pM (by decide) (by decide)
      · rw [if_neg (show ¬ nI (n % 2) = 0 from nI0_ne (by omega) (by omega))]
        exact pM (by decide) (by decide)
  obtain ⟨m, rfl⟩ : ∃ m, n = 2 * m := ⟨n / 2, (by omega)⟩
  have hm : m ≤ 5 := (by omega)
  have hm1 : 1 ≤ m := (by omega)
  have cP : ∀ A : Option (Int32 × MH), (if nI (2 * m) < 2 then bnd2 (f_X6_found h 5) (fun r58 h58 => some (r58, h58)) else (if 10 < nI (2 * m) then bnd2 (f_X6_found h 5) (fun r58 h58 => some (r58, h58)) else (if (irm (nI (2 * m)) 2) = 0 then A else bnd2 (f_X6_found h 5) (fun r58 h58 => some (r58, h58))))) = A := fun A => by
    rw [if_neg (show ¬ nI (2 * m) < 2 from (nI_nlt (by omega) (by omega) : ¬ nI (2 * m) < nI 2)), if_neg (show ¬ 10 < nI (2 * m) from (nI_nlt (by omega) (by omega) : ¬ nI 10 < nI (2 * m))), N_remK (by omega) (by decide) (by decide), if_pos (show nI (2 * m % 2) = 0 by rw [show 2 * m % 2 = 0 by omega]; rfl)]
  cases ok : allB (prOk f) m with
  | false =>
    refine op_found S (f := 3) (by decide) (by decide) ?_ ?_
    · unfold f_X6_join
      rw [cIsRow, bd_s, hr, if_pos rfl, ix_n hj (by decide), gd_t, tn_n (by omega), rf_rows hj, cMiss_f hC.1 (by omega), bd_s, if_neg (by decide), hC.1, cP, cAreParts (sh_row hj) hC hm, bd_s, ok, if_neg (by decide)]
      exact pF (by decide) (by decide)
    · show f_X7_join (fd h 3) _ = _
      have hM2 : rowM (fd h 3) 66 67 40 j (2 * m) f := rowM_of (fd_ne (by decide) (by decide)) (fd_ne (by decide) (by decide)) hM
      unfold f_X7_join
      rw [mAskRow_o (n := 2 * m) hj hM2.1 (by omega), bnd2_s, if_neg (by decide), ix_n hj (by decide), gd_t, tn_n (by omega), hM2.1, nm_v, N_remK (by omega) (by decide) (by decide), if_pos (show nI (2 * m % 2) = 0 by rw [show 2 * m % 2 = 0 by omega]; rfl), mIn, bd_s, btw_K (by omega) (by decide) (by decide), dec_t (by omega), if_pos rfl, mJoin47 hj hM2 hm, bd_s, ok, if_pos (show b2i false = 0 from rfl)]
      exact pM (by decide) (by decide)
  | true =>
    have hk := allB_t.mp ok
    have B : ∀ k, k < m → (f (2 * k) = nI (f (2 * k)).toNatClampNeg ∧ (f (2 * k)).toNatClampNeg ≤ 10) ∧ (f (2 * k + 1) = nI (f (2 * k + 1)).toNatClampNeg ∧ (f (2 * k + 1)).toNatClampNeg ≤ 250) := fun k hkm => by
      obtain ⟨z1, z2⟩ := (Bool.and_eq_true _ _).mp (hk k hkm)
      obtain ⟨z3, z4⟩ := (Bool.and_eq_true _ _).mp z1
      obtain ⟨u, u1, u2, eu⟩ := btw_N (a := 1) (b := 10) (by decide) (by decide) z3
      obtain ⟨v, v1, v2, ev⟩ := btw_N (a := 0) (b := 250) (by decide) (by decide) z4
      rw [eu, ev, tn_n (by omega), tn_n (by omega)]
      exact ⟨⟨rfl, u2⟩, rfl, v2⟩
    refine op_same S (v := nI (jnS (fun k => (f (2 * k)).toNatClampNeg) (fun k => (f (2 * k + 1)).toNatClampNeg) m m)) ?_ ?_
    · unfold f_X6_join
      rw [cIsRow, bd_s, hr, if_pos rfl, ix_n hj (by decide), gd_t, tn_n (by omega), rf_rows hj, cMiss_f hC.1 (by omega), bd_s, if_neg (by decide), hC.1, cP, cAreParts (sh_row hj) hC hm, bd_s, ok, if_pos rfl, cJoinL (sh_row hj) hC hm (fun k hkm => (B k hkm).1) (fun k hkm => (B k hkm).2), bd_s]
    · show f_X7_join h _ = _
      unfold f_X7_join
      rw [mAskRow_o (n := 2 * m) hj hM.1 (by omega), bnd2_s, if_neg (by decide), ix_n hj (by decide), gd_t, tn_n (by omega), hM.1, nm_v, N_remK (by omega) (by decide) (by decide), if_pos (show nI (2 * m % 2) = 0 by rw [show 2 * m % 2 = 0 by omega]; rfl), mIn, bd_s, btw_K (by omega) (by decide) (by decide), dec_t (by omega), if_pos rfl, mJoin47 hj hM hm, bd_s, ok, if_neg (show ¬ b2i true = 0 by decide), mJoinL hj hM hm (fun k hkm => (B k hkm).1) (fun k hkm => (B k hkm).2), bd_s]
