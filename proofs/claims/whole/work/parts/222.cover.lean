/-! the class's cover anew -/
theorem fill40 {h : MH} {a n : Nat} {v : Int32} (hn : n ≤ 1000000) : f_J7_fill_53178 h a n v = some (uA h a (wr (h.1 a) 0 (fun _ => v) n)) := by
  unfold f_J7_fill_53178 f_J7_fill_53178_L5
  rw [nm_v, show ((0 : Int32), h) = (nI 0, uA h a (wr (h.1 a) 0 (fun _ => v) 0)) by rw [wr_0]; rfl]
  have key : lpo (fun s : Int32 × MH => f_J7_fill_53178_B5 s.2 a n v s.1 (nI n)) (nI 0, uA h a (wr (h.1 a) 0 (fun _ => v) 0)) = some (uA h a (wr (h.1 a) 0 (fun _ => v) n)) := by
    refine lpo_for (fun i => (nI i, uA h a (wr (h.1 a) 0 (fun _ => v) i))) n (fun i hi => ?_) ?_
    · (try dsimp only)
      unfold f_J7_fill_53178_B5
      rw [if_pos (nI_lt hi (by omega)), ix_n hi hn, gd_t, nm_v, tn_n (by omega), nI_s]
      have := wr_s (h := h) (a := a) (b := 0) (i := i) (f := h.1 a) (g := fun _ => v) (v := v) rfl
      rw [Nat.zero_add] at this
      rw [this]
    · (try dsimp only)
      unfold f_J7_fill_53178_B5
      rw [if_neg (nI_nlt (Nat.le_refl _) (by omega))]
  rw [key, bd_s]
theorem min40 {n : Nat} (hn : n ≤ 40) : f_J9_min_7cf53 (nI n) 40 = some (nI n) := by
  unfold f_J9_min_7cf53
  rw [if_neg (show ¬ (40 : Int32) < nI n from (nI_nlt hn (by omega) : ¬ nI 40 < nI n))]
theorem max0 {n : Nat} (hn : n ≤ 1000000) : f_J9_max_7cf53 0 (nI n) = some (nI n) := by
  unfold f_J9_max_7cf53
  by_cases h0 : 0 < nI n
  · rw [if_pos h0]
  · rw [if_neg h0]
    have : n = 0 := by
      by_cases hz : n = 0
      · exact hz
      · exact absurd (nI_lt (a := 0) (b := n) (by omega) (by omega)) h0
    subst this
    rfl
/-- the class's cover c made from dots already laid -/
def bc (h : MH) (a kd n w : Nat) : MH := uA (uI (uI (uI (uI h a 2 (nI kd)) a 4 (nI w)) a 3 (nI n)) a 5 0) (a + 2) (wr (h.1 (a + 2)) 0 (fun _ => 0) 40)
theorem cBecome {h : MH} {a kd n w : Nat} (ha : shp a = (1, 0)) (hn : n ≤ 40) : f_X1_become h a (nI kd) (nI w) (nI n) = some (bc h a kd n w) := by
  unfold f_X1_become
  rw [nm_v, nm_v, min40 hn, bd_s, max0 (by omega), bd_s, nm_v, nm_v, rf_Cov1 ha, fill40 (by decide), bd_s]
  unfold bc
  simp (disch := omega) only [uI_ne, uI_k, uI_at, uA_ne, uA_at]
theorem acp40 : acp 0 0 40 60 40 = true := by decide +kernel
theorem cRenewC {h : MH} {a r kd n w : Nat} (ha : shp a = (1, 0)) (hr : shp r = (5, 0)) (hn : n ≤ 40) (hra : r ≠ a + 1) (e : h.1 r 1 = nI n) : f_X1_renew h a r (nI kd) (nI w) = some (bc (uA h (a + 1) (va_cpy (h.1 (r + 1)) (h.1 (a + 1)) 0 0 40)) a kd n w) := by
  unfold f_X1_renew
  rw [acp40, gd_t, nm_v, rf_Cov0 ha, rf_Row hr, uA_ne hra, e, show ((0 : Int32).toNatClampNeg) = 0 by decide, show ((40 : Int32).toNatClampNeg) = 40 by decide, cBecome ha hn, bd_s]
theorem cDrawn_m {h : MH} {a r : Nat} {k w : Int32} (e : h.1 r 1 = -1) : f_X6_drawn h a r k w = f_X6_found h (nI 1) := by
  unfold f_X6_drawn
  rw [cMiss_t e, bd_s, if_pos rfl]
  exact pF (by decide) (by decide)
theorem cDrawn_0 {h : MH} {a r : Nat} {k w : Int32} (e : h.1 r 1 = nI 0) : f_X6_drawn h a r k w = f_X6_found h (nI 5) := by
  unfold f_X6_drawn
  rw [cMiss_f e (by decide), bd_s, if_neg (by decide), e, if_pos (by decide)]
  exact pF (by decide) (by decide)
theorem cDrawn {h : MH} {a r kd n w : Nat} {f : Nat → Int32} (ha : shp a = (1, 0)) (hr : shp r = (5, 0)) (h0 : 0 < n) (hn : n ≤ 40) (hk : kd ≤ 4) (hra : r ≠ a + 1) (hra2 : r ≠ a) (hra3 : r ≠ a + 2) (hC : rowC h r n f) : f_X6_drawn h a r (nI kd) (nI w) = if dotsOk f (decide (kd = 4)) n = true then some (nI n, bc (uA h (a + 1) (va_cpy (h.1 (r + 1)) (h.1 (a + 1)) 0 0 40)) a kd n w) else f_X6_found h (nI 3) := by
  have e : Option.bind (f_X1_renew h a r (nI kd) (nI w)) (fun h67 => some ((h67.1 r 1), h67)) = some (nI n, bc (uA h (a + 1) (va_cpy (h.1 (r + 1)) (h.1 (a + 1)) 0 0 40)) a kd n w) := by
    rw [cRenewC ha hr hn hra hC.1, bd_s]
    have : (bc (uA h (a + 1) (va_cpy (h.1 (r + 1)) (h.1 (a + 1)) 0 0 40)) a kd n w).1 r 1 = nI n := by
      unfold bc
      rw [uA_ne hra3, uI_ne hra2, uI_ne hra2, uI_ne hra2, uI_ne hra2, uA_ne hra]
      exact hC.1
    rw [this]
  unfold f_X6_drawn
  rw [cMiss_f hC.1 (by omega), bd_s, if_neg (by decide), hC.1, if_neg (show ¬ nI n < 1 from (nI_nlt h0 (by omega) : ¬ nI n < nI 1)), cWithin hr hC (by omega), bd_s, cAlike hr hC (by omega), bd_s, e, dotsOk_eq, show (3 : Int32) = nI 3 from rfl, pF (by decide) (by decide)]
  by_cases k4 : kd = 4
  · subst k4
    rw [if_pos (show nI 4 = 4 from rfl)]
    cases allB (fun i => btw (f i) 0 255) n <;> cases allB (fun i => allB (fun j => neI (f i) (f j)) i) n <;> simp
  · rw [if_neg (show ¬ nI kd = 4 from fun q => k4 ((nI_eq (b := 4) (by omega) (by decide)).mp q))]
    cases allB (fun i => btw (f i) 0 255) n <;> simp [k4]
