/-! covers are made -/
def allB (p : Nat → Bool) : Nat → Bool
  | 0 => true
  | n + 1 => allB p n && p n
theorem allB_t {p : Nat → Bool} : ∀ {n : Nat}, allB p n = true ↔ ∀ i, i < n → p i = true
  | 0 => ⟨fun _ i hi => by omega, fun _ => rfl⟩
  | n + 1 => by
    unfold allB
    rw [Bool.and_eq_true, allB_t (n := n)]
    refine ⟨fun q i hi => ?_, fun q => ⟨fun i hi => q i (by omega), q n (by omega)⟩⟩
    by_cases e : i = n
    · subst e; exact q.2
    · exact q.1 i (by omega)
theorem allB_and {p q : Nat → Bool} : ∀ (n : Nat), allB (fun i => p i && q i) n = (allB p n && allB q n)
  | 0 => rfl
  | n + 1 => by
    unfold allB
    rw [allB_and n]
    cases allB p n <;> cases allB q n <;> cases p n <;> cases q n <;> rfl
theorem allB_congr {p q : Nat → Bool} {n : Nat} (h : ∀ i, i < n → p i = q i) : allB p n = allB q n := by
  apply Bool.eq_iff_iff.mpr
  rw [allB_t, allB_t]
  exact ⟨fun z i hi => by rw [← h i hi]; exact z i hi, fun z i hi => by rw [h i hi]; exact z i hi⟩
theorem allB_f {p : Nat → Bool} {n : Nat} (h : ∃ i, i < n ∧ ¬ p i = true) : allB p n = false := by
  cases e : allB p n with
  | false => rfl
  | true =>
    obtain ⟨i, hi, q⟩ := h
    exact absurd (allB_t.mp e i hi) q
theorem b2i_f : b2i false = 0 := rfl
theorem b2i_t : b2i true = 1 := rfl
def neI (a b : Int32) : Bool := decide (¬ a = b)
theorem cWithin {h : MH} {a n : Nat} {f : Nat → Int32} (ha : shp a = (5, 0)) (hC : rowC h a n f) (hn : n ≤ 60) {lo hi : Int32} : f_X5_isWithin h a lo hi = some (allB (fun i => btw (f i) lo hi) n) := by
  unfold f_X5_isWithin f_X5_isWithin_L2
  have key := lpo_find (step := fun s : Int32 => f_X5_isWithin_B2 h a lo hi s) (b1 := Sum.inr false) (b2 := Sum.inl ()) (fun i => nI i) n (fun i => ¬ btw (f i) lo hi = true) (fun i hi2 q => ?_) (fun i hi2 q => ?_) ?_
  · rcases key with ⟨q, e⟩ | ⟨q, e⟩
    · rw [show (0 : Int32) = nI 0 from rfl, e, allB_f q]
      rfl
    · rw [show (0 : Int32) = nI 0 from rfl, e, allB_t.mpr (fun i hi2 => Classical.not_not.mp (q i hi2))]
      rfl
  · have q := of_decide_eq_true (p := ¬ f i < lo ∧ ¬ hi < f i) (Classical.not_not.mp q)
    (try dsimp only)
    unfold f_X5_isWithin_B2
    rw [hC.1, if_pos (nI_lt hi2 (by omega)), ix_n (by omega) (by decide), gd_t, tn_n (by omega), rf_Row ha, hC.2 i hi2, if_neg q.1, gd_t, if_neg q.2, nI_s]
  · (try dsimp only)
    unfold f_X5_isWithin_B2
    rw [hC.1, if_pos (nI_lt hi2 (by omega)), ix_n (by omega) (by decide), gd_t, tn_n (by omega), rf_Row ha, hC.2 i hi2]
    by_cases c1 : f i < lo
    · rw [if_pos c1]
    · rw [if_neg c1, gd_t]
      by_cases c2 : hi < f i
      · rw [if_pos c2]
      · exact absurd (decide_eq_true (p := ¬ f i < lo ∧ ¬ hi < f i) ⟨c1, c2⟩) q
  · (try dsimp only)
    unfold f_X5_isWithin_B2
    rw [hC.1, if_neg (nI_nlt (Nat.le_refl _) (by omega))]
theorem cAlike {h : MH} {a n : Nat} {f : Nat → Int32} (ha : shp a = (5, 0)) (hC : rowC h a n f) (hn : n ≤ 60) : f_X5_hasTwoAlike h a = some (!(allB (fun i => allB (fun j => neI (f i) (f j)) i) n)) := by
  have inner : ∀ i, i < n → (f_X5_hasTwoAlike_L12 h a (nI i) 0 = some (if allB (fun j => neI (f i) (f j)) i = true then Sum.inl () else Sum.inr true)) := by
    intro i hi
    unfold f_X5_hasTwoAlike_L12
    have key := lpo_find (step := fun s : Int32 => f_X5_hasTwoAlike_B12 h a (nI i) s) (b1 := Sum.inr true) (b2 := Sum.inl ()) (fun j => nI j) i (fun j => ¬ neI (f i) (f j) = true) (fun j hj q => ?_) (fun j hj q => ?_) ?_
    · rcases key with ⟨q, e⟩ | ⟨q, e⟩
      · rw [show (0 : Int32) = nI 0 from rfl, e, allB_f q]
        rfl
      · rw [show (0 : Int32) = nI 0 from rfl, e, if_pos (allB_t.mpr (fun i hi2 => Classical.not_not.mp (q i hi2)))]
    · have q := of_decide_eq_true (p := ¬ f i = f j) (Classical.not_not.mp q)
      (try dsimp only)
      unfold f_X5_hasTwoAlike_B12
      rw [if_pos (nI_lt hj (by omega)), ix_n (by omega) (by decide), gd_t, ix_n (by omega) (by decide), gd_t, tn_n (by omega), tn_n (by omega), rf_Row ha, hC.2 i hi, hC.2 j (by omega), if_neg q, nI_s]
    · (try dsimp only)
      unfold f_X5_hasTwoAlike_B12
      rw [if_pos (nI_lt hj (by omega)), ix_n (by omega) (by decide), gd_t, ix_n (by omega) (by decide), gd_t, tn_n (by omega), tn_n (by omega), rf_Row ha, hC.2 i hi, hC.2 j (by omega)]
      by_cases c : f i = f j
      · rw [if_pos c]
      · exact absurd (decide_eq_true (p := ¬ f i = f j) c) q
    · (try dsimp only)
      unfold f_X5_hasTwoAlike_B12
      rw [if_neg (nI_nlt (Nat.le_refl _) (by omega))]
  unfold f_X5_hasTwoAlike f_X5_hasTwoAlike_L2
  have key := lpo_find (step := fun s : Int32 => f_X5_hasTwoAlike_B2 h a s) (b1 := Sum.inr true) (b2 := Sum.inl ()) (fun i => nI i) n (fun i => ¬ allB (fun j => neI (f i) (f j)) i = true) (fun i hi q => ?_) (fun i hi q => ?_) ?_
  · rcases key with ⟨q, e⟩ | ⟨q, e⟩
    · rw [show (0 : Int32) = nI 0 from rfl, e, allB_f q]
      rfl
    · rw [show (0 : Int32) = nI 0 from rfl, e, allB_t.mpr (fun i hi2 => Classical.not_not.mp (q i hi2))]
      rfl
  · (try dsimp only)
    unfold f_X5_hasTwoAlike_B2
    rw [hC.1, if_pos (nI_lt hi (by omega)), inner i hi, if_pos (Classical.not_not.mp q), bd_s, nI_s]
    rfl
  · (try dsimp only)
    unfold f_X5_hasTwoAlike_B2
    rw [hC.1, if_pos (nI_lt hi (by omega)), inner i hi, if_neg q, bd_s]
    rfl
  · (try dsimp only)
    unfold f_X5_hasTwoAlike_B2
    rw [hC.1, if_neg (nI_nlt (Nat.le_refl _) (by omega))]
/-- the reference's look at a row of dots -/
def dotsOk (f : Nat → Int32) (u : Bool) (n : Nat) : Bool := allB (fun i => btw (f i) 0 255 && (!u || allB (fun j => neI (f i) (f j)) i)) n
theorem mAD76 {h : MH} {r n i : Nat} {f : Nat → Int32} (hr : r < 6) (hM : rowM h 66 67 40 r n f) (hn : n ≤ 40) (hi : i < n) (u g : Bool) : f_X7_askedDots_L76 h (nI r) (b2i u) (b2i g) (nI i) 0 = some (b2i (g && (!u || allB (fun j => neI (f i) (f j)) i))) := by
  cases u with
  | false =>
    unfold f_X7_askedDots_L76
    refine lpo_out ?_
    (try dsimp only)
    unfold f_X7_askedDots_B76
    have e : b2i (g && (!false || allB (fun j => neI (f i) (f j)) i)) = b2i g := by cases g <;> rfl
    rw [e]
    by_cases c : (0 : Int32) < nI i
    · rw [if_pos c, if_pos (show b2i false = 0 from rfl)]
    · rw [if_neg c]
  | true =>
    unfold f_X7_askedDots_L76
    have e0 : (b2i g, (0 : Int32)) = (b2i (g && allB (fun j => neI (f i) (f j)) 0), nI 0) := by cases g <;> rfl
    rw [e0]
    refine lpo_for (fun j => (b2i (g && allB (fun j => neI (f i) (f j)) j), nI j)) i (fun j hj => ?_) ?_
    · (try dsimp only)
      unfold f_X7_askedDots_B76
      rw [if_pos (nI_lt hj (by omega)), if_neg (by decide), mRowAt hr (by omega), bd_s, mRowAt hr (by omega), bd_s, hM.2 i hi, hM.2 j (by omega), nI_s]
      show _ = some (Sum.inl (b2i (g && (allB (fun j => neI (f i) (f j)) j && neI (f i) (f j))), nI (j + 1)))
      generalize allB (fun j => neI (f i) (f j)) j = A
      cases g <;> cases A <;> by_cases c : f i = f j <;> simp [b2i, neI, c]
    · (try dsimp only)
      unfold f_X7_askedDots_B76
      rw [if_neg (nI_nlt (Nat.le_refl _) (by omega))]
      cases g <;> rfl
