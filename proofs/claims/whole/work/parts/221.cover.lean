theorem dotsOk_eq (f : Nat → Int32) (u : Bool) (n : Nat) : dotsOk f u n = (allB (fun i => btw (f i) 0 255) n && (!u || allB (fun i => allB (fun j => neI (f i) (f j)) i) n)) := by
  unfold dotsOk
  rw [allB_and]
  cases u with
  | true => rfl
  | false => rw [show allB (fun i => !false || allB (fun j => neI (f i) (f j)) i) n = true from allB_t.mpr (fun i _ => rfl)]; rfl
theorem mAD35 {h : MH} {r n : Nat} {f : Nat → Int32} (hr : r < 6) (hM : rowM h 66 67 40 r n f) (hn : n ≤ 40) (u : Bool) : f_X7_askedDots_L35 h (nI r) (b2i u) 1 0 = some (b2i (dotsOk f u n)) := by
  unfold f_X7_askedDots_L35
  have e0 : ((1 : Int32), (0 : Int32)) = (b2i (dotsOk f u 0), nI 0) := by
    rw [show dotsOk f u 0 = true from rfl]
    rfl
  rw [e0]
  refine lpo_for (fun i => (b2i (dotsOk f u i), nI i)) n (fun i hi => ?_) ?_
  · (try dsimp only)
    have e : dotsOk f u (i + 1) = (dotsOk f u i && (btw (f i) 0 255 && (!u || allB (fun j => neI (f i) (f j)) i))) := rfl
    unfold f_X7_askedDots_B35
    rw [ix_n hr (by decide), gd_t, tn_n (by omega), hM.1, if_pos (nI_lt hi (by omega)), e]
    cases dotsOk f u i with
    | false =>
      rw [if_pos (show b2i false = 0 from rfl)]
      unfold f_X7_askedDots_J71_35 f_X7_askedDots_J72_35
      have := mAD76 hr hM hn hi u false
      rw [show b2i false = 0 from rfl] at this
      rw [this, bd_s, nI_s, Bool.false_and, Bool.false_and]
    | true =>
      rw [if_neg (show ¬ b2i true = 0 by decide), mRowAt hr (by omega), bd_s, hM.2 i hi, mIn, bd_s]
      cases btw (f i) 0 255 with
      | false =>
        rw [if_neg (by decide)]
        unfold f_X7_askedDots_J71_35 f_X7_askedDots_J72_35
        have := mAD76 hr hM hn hi u false
        rw [show b2i false = 0 from rfl] at this
        rw [this, bd_s, nI_s, Bool.false_and, Bool.true_and]
      | true =>
        rw [if_pos rfl]
        unfold f_X7_askedDots_J72_35
        have := mAD76 hr hM hn hi u true
        rw [show b2i true = 1 from rfl] at this
        rw [this, bd_s, nI_s, Bool.true_and, Bool.true_and]
  · (try dsimp only)
    unfold f_X7_askedDots_B35
    rw [ix_n hr (by decide), gd_t, tn_n (by omega), hM.1, if_neg (nI_nlt (Nat.le_refl _) (by omega))]
theorem mAskDots_m {h : MH} {r : Nat} (hr : r < 6) (e : h.1 66 r = -9) {u : Int32} : f_X7_askedDots h (nI r) u = f_X7_meets h (nI 1) := by
  unfold f_X7_askedDots
  rw [ix_n hr (by decide), gd_t, tn_n (by omega), e, if_pos (by decide)]
  exact pM (by decide) (by decide)
theorem mAskDots_0 {h : MH} {r : Nat} (hr : r < 6) (e : h.1 66 r = nI 0) {u : Int32} : f_X7_askedDots h (nI r) u = f_X7_meets h (nI 5) := by
  unfold f_X7_askedDots
  rw [ix_n hr (by decide), gd_t, tn_n (by omega), e, if_neg (by decide), gd_t, if_pos (show nI 0 = 0 from rfl)]
  exact pM (by decide) (by decide)
theorem mAskDots {h : MH} {r n : Nat} {f : Nat → Int32} (hr : r < 6) (hM : rowM h 66 67 40 r n f) (h0 : 0 < n) (hn : n ≤ 40) (u : Bool) : f_X7_askedDots h (nI r) (b2i u) = if dotsOk f u n = true then some (0, h) else f_X7_meets h (nI 3) := by
  unfold f_X7_askedDots
  rw [ix_n hr (by decide), gd_t, tn_n (by omega), hM.1, if_neg (nlt0 (by omega)), gd_t, if_neg (nI0_ne h0 (by omega)), mAD35 hr hM hn u, bd_s]
  cases dotsOk f u n with
  | false =>
    rw [if_pos (show b2i false = 0 from rfl), if_neg (by decide)]
    exact pM (by decide) (by decide)
  | true => rw [if_neg (show ¬ b2i true = 0 by decide), if_pos rfl]
