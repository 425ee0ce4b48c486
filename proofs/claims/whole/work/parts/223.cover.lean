/-! the reference's cover anew -/
def mc (h : MH) (c kd n : Nat) (g : Nat → Int32) : MH := uA (uI (uI (uI h 72 c (nI kd)) 71 c (nI n)) 76 c 0) 73 (wr (h.1 73) (40 * c) g n)
theorem mCome {h : MH} {c r kd n : Nat} {f : Nat → Int32} (hc : c < 6) (hr : r < 6) (hn : n ≤ 40) (hM : rowM h 66 67 40 r n f) : f_X7_come h (nI c) (nI kd) (nI r) = some (nI n, mc h c kd n f) := by
  unfold f_X7_come
  have e1 : (uI h 72 c (nI kd)).1 66 r = nI n := by simp (disch := omega) only [uI_ne, uI_k, uI_at, uA_ne, uA_at]; exact hM.1
  rw [ix_n hc (by decide), gd_t, tn_n (by omega), nm_v, ix_n hr (by decide), gd_t, gd_t, tn_n (by omega), e1, nm_v, gd_t, nm_v]
  have key : f_X7_come_L29 (uI (uI (uI h 72 c (nI kd)) 71 c (nI n)) 76 c 0) (nI c) (nI r) 0 = some (mc h c kd n f) := by
    unfold f_X7_come_L29 mc
    generalize hg : uI (uI (uI h 72 c (nI kd)) 71 c (nI n)) 76 c 0 = g
    have g71 : g.1 71 c = nI n := by rw [← hg]; simp (disch := omega) only [uI_ne, uI_k, uI_at, uA_ne, uA_at]
    have g67 : g.1 67 = h.1 67 := by rw [← hg]; simp (disch := omega) only [uI_ne, uI_k, uI_at, uA_ne, uA_at]
    have g73 : g.1 73 = h.1 73 := by rw [← hg]; simp (disch := omega) only [uI_ne, uI_k, uI_at, uA_ne, uA_at]
    rw [← g73, show ((0 : Int32), g) = (nI 0, uA g 73 (wr (g.1 73) (40 * c) f 0)) by rw [wr_0]; rfl]
    refine lpo_for (fun i => (nI i, uA g 73 (wr (g.1 73) (40 * c) f i))) n (fun i hi => ?_) ?_
    · (try dsimp only)
      unfold f_X7_come_B29
      rw [ix_n hc (by decide), gd_t, tn_n (by omega), uA_ne (by decide), g71, if_pos (nI_lt hi (by omega)), mRowAt hr (by omega), bd_s, uA_ne (by decide), g67, hM.2 i hi, lin40, ix_n (by omega) (by decide), gd_t, nm_v, tn_n (by omega), wr_s rfl, nI_s]
    · (try dsimp only)
      unfold f_X7_come_B29
      rw [ix_n hc (by decide), gd_t, tn_n (by omega), uA_ne (by decide), g71, if_neg (nI_nlt (Nat.le_refl _) (by omega))]
  rw [key, bd_s, gd_t]
  have : (mc h c kd n f).1 71 c = nI n := by unfold mc; simp (disch := omega) only [uI_ne, uI_k, uI_at, uA_ne, uA_at]
  rw [this]
