theorem nbr_iff {w i j : Nat} (h1 : 1 ≤ w) : nbr w i j = true ↔ (0 < i % w ∧ j + 1 = i) ∨ (i % w < w - 1 ∧ j = i + 1) ∨ j + w = i ∨ j = i + w := by
  unfold nbr
  rw [Bool.or_eq_true, Bool.and_eq_true, Bool.and_eq_true, Bool.and_eq_true, decide_eq_true_iff, decide_eq_true_iff, decide_eq_true_iff, decide_eq_true_iff, decide_eq_true_iff]
  constructor
  · rintro (⟨q, g⟩ | ⟨g, q, _⟩)
    · have : j + 1 = i ∨ j = i + 1 := by
        unfold gapN at g
        omega
      rcases this with rfl | rfl
      · exact Or.inl ⟨(div_pred h1).mp q, rfl⟩
      · exact Or.inr (Or.inl ⟨(mod_succ_pos h1).mp ((div_pred h1).mp q.symm), rfl⟩)
    · unfold gapN at g
      omega
  · rintro (⟨q, rfl⟩ | ⟨q, rfl⟩ | rfl | rfl)
    · exact Or.inl ⟨(div_pred h1).mpr q, by unfold gapN; omega⟩
    · exact Or.inl ⟨((div_pred h1).mpr ((mod_succ_pos h1).mpr q)).symm, by unfold gapN; omega⟩
    · refine Or.inr ⟨by unfold gapN; omega, by rw [Nat.add_mod_right], ?_⟩
      rw [Nat.add_div_right _ (show 0 < w from h1)]
      unfold gapN
      omega
    · refine Or.inr ⟨by unfold gapN; omega, by rw [Nat.add_mod_right], ?_⟩
      rw [Nat.add_div_right _ (show 0 < w from h1)]
      unfold gapN
      omega
theorem touch_sum {n w i : Nat} {ds : Nat → Nat} (h1 : 1 ≤ w) (hi : i < n) : sumN (touchT ds w i) n = roughN n ds w i := by
  have ml := Nat.mod_lt i (show w > 0 from h1)
  have mi := Nat.mod_le i w
  have e : ∀ j, j < n → touchT ds w i j = (((if 0 < i % w ∧ j + 1 = i then gapN (ds i) (ds j) else 0) + (if i % w < w - 1 ∧ j = i + 1 then gapN (ds i) (ds j) else 0)) + (if j + w = i then gapN (ds i) (ds j) else 0)) + (if j = i + w then gapN (ds i) (ds j) else 0) := fun j hj => by
    unfold touchT
    by_cases q1 : 0 < i % w ∧ j + 1 = i
    · rw [if_pos ((nbr_iff h1).mpr (Or.inl q1)), if_pos q1, if_neg (by omega), if_neg (show ¬ j + w = i by omega), if_neg (by omega)]
      omega
    by_cases q2 : i % w < w - 1 ∧ j = i + 1
    · rw [if_pos ((nbr_iff h1).mpr (Or.inr (Or.inl q2))), if_neg q1, if_pos q2, if_neg (show ¬ j + w = i by omega), if_neg (show ¬ j = i + w by omega)]
      omega
    by_cases q3 : j + w = i
    · rw [if_pos ((nbr_iff h1).mpr (Or.inr (Or.inr (Or.inl q3)))), if_neg q1, if_neg q2, if_pos q3, if_neg (show ¬ j = i + w by omega)]
      omega
    by_cases q4 : j = i + w
    · rw [if_pos ((nbr_iff h1).mpr (Or.inr (Or.inr (Or.inr q4)))), if_neg q1, if_neg q2, if_neg q3, if_pos q4]
      omega
    · rw [if_neg (fun q => by rcases (nbr_iff h1).mp q with z | z | z | z <;> contradiction), if_neg q1, if_neg q2, if_neg q3, if_neg q4]
  rw [sumN_congr e, sumN_add, sumN_add, sumN_add]
  unfold roughN
  rw [sumN_one (k := i - 1) (fun j hj => if_neg (by omega)) n, sumN_one (k := i + 1) (fun j hj => if_neg (by omega)) n, sumN_one (k := i - w) (fun j hj => if_neg (by omega)) n, sumN_one (k := i + w) (fun j hj => if_neg (by omega)) n]
  congr 1
  · congr 1
    · congr 1
      · rw [if_pos (show i - 1 < n by omega)]
        by_cases q : 0 < i % w
        · rw [if_pos ⟨q, (by omega)⟩, if_pos q]
        · rw [if_neg (fun z => q z.1), if_neg q]
      · by_cases q : i % w < w - 1
        · rw [if_pos q, if_pos (show i % w < w - 1 ∧ i + 1 = i + 1 from ⟨q, rfl⟩)]
        · rw [if_neg q, if_neg (show ¬ (i % w < w - 1 ∧ i + 1 = i + 1) from fun z => q z.1), ite_self]
    · rw [if_pos (show i - w < n by omega)]
      by_cases q : w ≤ i
      · rw [if_pos q, if_pos (by omega)]
      · rw [if_neg q, if_neg (by omega)]
  · rw [if_pos (show i + w = i + w from rfl)]
