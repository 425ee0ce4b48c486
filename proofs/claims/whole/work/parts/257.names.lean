/-! names -/
def nmOk (f : Nat → Int32) (n : Nat) : Bool := allB (fun i => btw (f i) 0 4095) n
section NAMES
variable {h : MH} {a r n : Nat} {f : Nat → Int32}
theorem cWrong_s (e : h.1 a 1 = nI n) (hn : n ≤ 60) (hz : n < 1 ∨ 10 < n) : f_X6_wrongInNames h a = some 5 := by
  unfold f_X6_wrongInNames
  rw [e]
  by_cases q : n < 1
  · rw [if_pos (show nI n < 1 from (nI_lt q (by decide) : nI n < nI 1))]
  · rw [if_neg (show ¬ nI n < 1 from (nI_nlt (by omega) (by omega) : ¬ nI n < nI 1)), if_pos (show 10 < nI n from (nI_lt (show 10 < n by omega) (by omega) : nI 10 < nI n))]
theorem cWrong (ha : shp a = (5, 0)) (hC : rowC h a n f) (h1 : 1 ≤ n) (h10 : n ≤ 10) : f_X6_wrongInNames h a = some (if nmOk f n = true then 0 else 3) := by
  unfold f_X6_wrongInNames
  rw [hC.1, if_neg (show ¬ nI n < 1 from (nI_nlt h1 (by omega) : ¬ nI n < nI 1)), if_neg (show ¬ 10 < nI n from (nI_nlt h10 (by decide) : ¬ nI 10 < nI n)), cWithin ha hC (by omega), bd_s]
  unfold nmOk
  cases allB (fun i => btw (f i) 0 4095) n <;> rfl
theorem mIsName {x : Int32} : f_X7_isName x = some (btw x 0 4095) := by
  unfold f_X7_isName
  rw [mIn, bd_s]
theorem cIsCopy {x : Int32} : f_X6_isCopy x = some (btw x 0 4095) := by
  unfold f_X6_isCopy
  rw [btw_if]
  cases btw x 0 4095 <;> rfl
theorem mAskNames_b {x : Int32} (hx : inR x 6 = false) : f_X7_askedNames h x = some (-1, h) := by
  unfold f_X7_askedNames
  rw [mAskRow_b hx, bnd2_s, if_pos (by decide)]
theorem mAskNames_m (hr : r < 6) (e : h.1 66 r = -9) : f_X7_askedNames h (nI r) = f_X7_meets h (nI 1) := by
  unfold f_X7_askedNames
  rw [mAskRow_m hr e]
  exact pB (by decide) (by decide)
theorem mAskNames_s (hr : r < 6) (e : h.1 66 r = nI n) (hn : n ≤ 60) (hz : n < 1 ∨ 10 < n) : f_X7_askedNames h (nI r) = f_X7_meets h (nI 5) := by
  unfold f_X7_askedNames
  rw [mAskRow_o (n := n) hr e (by omega), bnd2_s, if_neg (by decide), ix_n hr (by decide), gd_t, tn_n (by omega), e, mIn, bd_s, btw_K (by omega) (by decide) (by decide), dec_f (by omega), if_neg (by decide)]
  exact pM (by decide) (by decide)
theorem mNamesL (hr : r < 6) (hM : rowM h 66 67 40 r n f) (hn : n ≤ 40) : f_X7_askedNames_L38 h (nI r) 1 0 = some (b2i (nmOk f n)) := by
  unfold f_X7_askedNames_L38 nmOk
  rw [show ((1 : Int32), (0 : Int32)) = (b2i (allB (fun i => btw (f i) 0 4095) 0), nI 0) from rfl]
  refine lpo_for (fun i => (b2i (allB (fun i => btw (f i) 0 4095) i), nI i)) n (fun i hi => ?_) ?_
  · (try dsimp only)
    have e : allB (fun i => btw (f i) 0 4095) (i + 1) = (allB (fun i => btw (f i) 0 4095) i && btw (f i) 0 4095) := rfl
    unfold f_X7_askedNames_B38
    rw [e, ix_n hr (by decide), gd_t, tn_n (by omega), hM.1, if_pos (nI_lt hi (by omega))]
    cases allB (fun i => btw (f i) 0 4095) i with
    | false => rw [if_pos (show b2i false = 0 from rfl), nI_s]; rfl
    | true =>
      rw [if_neg (show ¬ b2i true = 0 by decide), mRowAt hr (by omega), bd_s, hM.2 i hi, mIsName, bd_s, nI_s, Bool.true_and]
      cases btw (f i) 0 4095 <;> rfl
  · (try dsimp only)
    unfold f_X7_askedNames_B38
    rw [ix_n hr (by decide), gd_t, tn_n (by omega), hM.1, if_neg (nI_nlt (Nat.le_refl _) (by omega))]
theorem mAskNames (hr : r < 6) (hM : rowM h 66 67 40 r n f) (h1 : 1 ≤ n) (h10 : n ≤ 10) : f_X7_askedNames h (nI r) = if nmOk f n = true then some (0, h) else f_X7_meets h (nI 3) := by
  unfold f_X7_askedNames
  rw [mAskRow_o (n := n) hr hM.1 (by omega), bnd2_s, if_neg (by decide), ix_n hr (by decide), gd_t, tn_n (by omega), hM.1, mIn, bd_s, btw_K (by omega) (by decide) (by decide), dec_t (by omega), if_pos rfl, mNamesL hr hM (by omega), bd_s]
  cases nmOk f n with
  | false =>
    rw [if_pos (show b2i false = 0 from rfl), if_neg (by decide)]
    exact pM (by decide) (by decide)
  | true => rw [if_neg (show ¬ b2i true = 0 by decide), if_pos rfl]
theorem nm_N {i : Nat} (e : nmOk f n = true) (hi : i < n) : f i = nI (f i).toNatClampNeg ∧ (f i).toNatClampNeg < 4096 := by
  have := allB_t.mp e i hi
  rw [btw_inR (n := 4095) (M := 4095) rfl (by decide)] at this
  obtain ⟨k, hk, q⟩ := inR_t (by decide) this
  rw [q, tn_n (by omega)]
  exact ⟨rfl, hk⟩
theorem rowM_of {h2 : MH} (e66 : h2.1 66 = h.1 66) (e67 : h2.1 67 = h.1 67) (hM : rowM h 66 67 40 r n f) : rowM h2 66 67 40 r n f := by
  unfold rowM
  rw [e66, e67]
  exact hM
end NAMES
/-! who could have made a copy -/
def cmS (G : Int32) (f : Nat → Nat) : Nat → Nat × Nat
  | 0 => (0, 4095)
  | i + 1 => if (shr G (nI i)) &&& 1 = 0 then cmS G f i else ((cmS G f i).1 ||| f i, (cmS G f i).2 &&& f i)
theorem cmS_lt (G : Int32) (f : Nat → Nat) : ∀ i, (cmS G f i).2 < 4096
  | 0 => show 4095 < 4096 by decide
  | i + 1 => by
    unfold cmS
    split
    · exact cmS_lt G f i
    · exact and_lt12 (cmS_lt G f i)
def cmB (G C : Int32) (f : Nat → Nat) (n : Nat) : Bool := decide (C &&& (nI (cmS G f n).1 ^^^ (-1)) = 0 ∧ nI (cmS G f n).2 &&& (C ^^^ (-1)) = 0)
section MAKE
variable {h : MH} {a r n : Nat} {f : Nat → Int32} {G C : Int32}
theorem cCanMake (ha : shp a = (5, 0)) (hC : rowC h a n f) (hn : n ≤ 40) (ok : nmOk f n = true) : f_X6_canMake h a G C = some (cmB G C (fun i => (f i).toNatClampNeg) n) := by
  have key : f_X6_canMake_L10 h a G C 0 4095 0 = some (nI (cmS G (fun i => (f i).toNatClampNeg) n).1, nI (cmS G (fun i => (f i).toNatClampNeg) n).2) := by
    unfold f_X6_canMake_L10
    refine lpo_for (fun i => (nI (cmS G (fun i => (f i).toNatClampNeg) i).1, nI (cmS G (fun i => (f i).toNatClampNeg) i).2, nI i)) n (fun i hi => ?_) ?_
    · (try dsimp only)
      obtain ⟨q1, q2⟩ := nm_N ok hi
      have e : cmS G (fun i => (f i).toNatClampNeg) (i + 1) = if (shr G (nI i)) &&& 1 = 0 then cmS G (fun i => (f i).toNatClampNeg) i else ((cmS G (fun i => (f i).toNatClampNeg) i).1 ||| (f i).toNatClampNeg, (cmS G (fun i => (f i).toNatClampNeg) i).2 &&& (f i).toNatClampNeg) := rfl
      unfold f_X6_canMake_B10
      rw [e, hC.1, if_pos (nI_lt hi (by omega)), cGet ha hC (by omega) hi, bd_s, nm_v, bd_s, nm_v, nI_s]
      generalize (f i).toNatClampNeg = v at q1 ⊢
      rw [q1]
      by_cases z : (shr G (nI i)) &&& 1 = 0
      · rw [if_pos z, if_pos z]
      · rw [if_neg z, if_neg z, N_or, N_and]
    · (try dsimp only)
      unfold f_X6_canMake_B10
      rw [hC.1, if_neg (nI_nlt (Nat.le_refl _) (by omega))]
  unfold f_X6_canMake
  rw [key, bd_s]
  unfold cmB
  (try dsimp only)
  by_cases z1 : C &&& (nI (cmS G (fun i => (f i).toNatClampNeg) n).1 ^^^ (-1)) = 0
  · rw [if_pos z1]
    by_cases z2 : nI (cmS G (fun i => (f i).toNatClampNeg) n).2 &&& (C ^^^ (-1)) = 0
    · rw [if_pos z2, decide_eq_true ⟨z1, z2⟩]
    · rw [if_neg z2, decide_eq_false (fun z => z2 z.2)]
  · rw [if_neg z1, decide_eq_false (fun z => z1 z.1)]
theorem mHas {x : Int32} {i : Nat} : f_X7_has x (nI i) = some (decide (¬ (shr x (nI i)) &&& 1 = 0)) := by
  unfold f_X7_has
  rcases and1 (shr x (nI i)) with z | z
  · rw [z]
    rfl
  · rw [z]
    rfl
theorem mCanMake (hr : r < 6) (hM : rowM h 66 67 40 r n f) (hn : n ≤ 40) (ok : nmOk f n = true) : f_X7_canMake h (nI r) G C = some (cmB G C (fun i => (f i).toNatClampNeg) n) := by
  have key : f_X7_canMake_L11 h (nI r) G C 0 4095 0 = some (nI (cmS G (fun i => (f i).toNatClampNeg) n).1, nI (cmS G (fun i => (f i).toNatClampNeg) n).2) := by
    unfold f_X7_canMake_L11
    refine lpo_for (fun i => (nI (cmS G (fun i => (f i).toNatClampNeg) i).1, nI (cmS G (fun i => (f i).toNatClampNeg) i).2, nI i)) n (fun i hi => ?_) ?_
    · (try dsimp only)
      obtain ⟨q1, q2⟩ := nm_N ok hi
      have lt := cmS_lt G (fun i => (f i).toNatClampNeg) i
      have e : cmS G (fun i => (f i).toNatClampNeg) (i + 1) = if (shr G (nI i)) &&& 1 = 0 then cmS G (fun i => (f i).toNatClampNeg) i else ((cmS G (fun i => (f i).toNatClampNeg) i).1 ||| (f i).toNatClampNeg, (cmS G (fun i => (f i).toNatClampNeg) i).2 &&& (f i).toNatClampNeg) := rfl
      unfold f_X7_canMake_B11 f_X7_canMake_J44_11
      rw [e, ix_n hr (by decide), gd_t, tn_n (by omega), hM.1, if_pos (nI_lt hi (by omega))]
      generalize (f i).toNatClampNeg = v at q1 ⊢
      by_cases z : (shr G (nI i)) &&& 1 = 0
      · have hh : f_X7_has G (nI i) = some false := by rw [mHas, decide_eq_false (fun q => q z)]
        rw [if_pos z, hh, bd_s, if_neg (by decide), nm_v, bd_s, if_neg (by decide), nm_v, show (0 : Int32) = nI 0 from rfl, N_or, show (4095 : Int32) = nI 4095 from rfl, N_and, and4095 lt, Nat.or_zero, nI_s]
      · have hh : f_X7_has G (nI i) = some true := by rw [mHas, decide_eq_true z]
        rw [if_neg z, hh, bd_s, if_pos rfl, mRowAt hr (by omega), bd_s, nm_v, bd_s, if_pos rfl, bd_s, nm_v, hM.2 i hi, q1, N_or, N_and, nI_s]
    · (try dsimp only)
      unfold f_X7_canMake_B11
      rw [ix_n hr (by decide), gd_t, tn_n (by omega), hM.1, if_neg (nI_nlt (Nat.le_refl _) (by omega))]
  unfold f_X7_canMake
  rw [key, bd_s]
  unfold cmB
  (try dsimp only)
  by_cases z1 : C &&& (nI (cmS G (fun i => (f i).toNatClampNeg) n).1 ^^^ (-1)) = 0
  · rw [if_pos z1]
    by_cases z2 : nI (cmS G (fun i => (f i).toNatClampNeg) n).2 &&& (C ^^^ (-1)) = 0
    · rw [if_pos z2, decide_eq_true ⟨z1, z2⟩]
    · rw [if_neg z2, decide_eq_false (fun z => z2 z.2)]
  · rw [if_neg z1, decide_eq_false (fun z => z1 z.1)]
end MAKE
