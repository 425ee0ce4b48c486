/-! rows and texts -/
theorem lin40 (r i : Nat) : (40 * nI r) + nI i = nI (40 * r + i) := by
  show nI 40 * nI r + nI i = _
  rw [pk_mul, nI_add]
theorem lin60 (r i : Nat) : (60 * nI r) + nI i = nI (60 * r + i) := by
  show nI 60 * nI r + nI i = _
  rw [pk_mul, nI_add]
theorem nI_s (i : Nat) : nI i + 1 = nI (i + 1) := nI_1 i
theorem nlt0 {n : Nat} (h : n ≤ 1000000) : ¬ nI n < 0 := nI_pos (by omega)
theorem btw_pred {x : Int32} {n : Nat} (hn : n ≤ 1000000) : btw x 0 (nI n - 1) = inR x n := by
  unfold btw inR
  apply decide_eq_decide.mpr
  refine and_congr_right (fun h => ?_)
  have e : (nI n - nI 1).toInt = (n : Int) - 1 := pk_sub_toInt (by omega) (by omega)
  rw [Int32.lt_iff_toInt_lt, Int32.lt_iff_toInt_lt, nI_toInt (by omega), show (nI n - 1).toInt = (n : Int) - 1 from e]
  omega
/-- g laid into f from place b on, i places -/
def wr (f : Nat → Int32) (b : Nat) (g : Nat → Int32) (i : Nat) : Nat → Int32 := fun q => if b ≤ q ∧ q < b + i then g (q - b) else f q
theorem wr_s {h : MH} {a b i : Nat} {f g : Nat → Int32} {v : Int32} (hv : v = g i) : uI (uA h a (wr f b g i)) a (b + i) v = uA h a (wr f b g (i + 1)) := by
  rw [uI_asA, uA_uA, uA_at]
  congr 1
  funext q
  unfold upd wr
  by_cases h1 : q = b + i
  · subst h1
    rw [if_pos rfl, if_pos (by omega), hv]
    congr 1
    omega
  · rw [if_neg h1]
    by_cases h2 : b ≤ q ∧ q < b + i
    · rw [if_pos h2, if_pos (by omega)]
    · rw [if_neg h2, if_neg (by omega)]
theorem wr_0 {h : MH} {a b : Nat} {g : Nat → Int32} : uA h a (wr (h.1 a) b g 0) = h := uA_id (fun j => by unfold wr; rw [if_neg (by omega)])
theorem wr_in {f g : Nat → Int32} {b n i : Nat} (h : i < n) : wr f b g n (b + i) = g i := by
  unfold wr
  rw [if_pos (by omega)]
  congr 1
  omega
theorem wr_out {f g : Nat → Int32} {b n q : Nat} (h : q < b ∨ b + n ≤ q) : wr f b g n q = f q := by
  unfold wr
  rw [if_neg (by omega)]
section ROWS
variable {h : MH} {a n i : Nat} {f : Nat → Int32}
theorem cMiss_t (e : h.1 a 1 = -1) : f_X5_isMissing h a = some true := by
  unfold f_X5_isMissing
  rw [e]
  rfl
theorem cMiss_f (e : h.1 a 1 = nI n) (hn : n ≤ 1000000) : f_X5_isMissing h a = some false := by
  unfold f_X5_isMissing
  rw [e, if_neg (nlt0 hn)]
theorem cHas {x : Int32} (e : h.1 a 1 = nI n) : f_X5_has h a x = some (inR x n) := by
  unfold f_X5_has
  rw [e]
  exact inR_b rfl
theorem cGet (ha : shp a = (5, 0)) (hC : rowC h a n f) (hn : n ≤ 60) (hi : i < n) : f_X5_get h a (nI i) = some (f i) := by
  unfold f_X5_get
  rw [cHas hC.1, bd_s, inR_n hi (by omega), if_pos rfl, ix_n (by omega) (by omega), gd_t, rf_Row ha, tn_n (by omega), hC.2 i hi]
theorem cGet_o (hC : h.1 a 1 = nI n) (hn : n ≤ 60) {x : Int32} (hx : inR x n = false) : f_X5_get h a x = some 0 := by
  unfold f_X5_get
  rw [cHas hC, bd_s, hx, if_neg (by decide)]
theorem cSet (ha : shp a = (5, 0)) (hC : h.1 a 1 = nI n) (hn : n ≤ 60) (hi : i < n) {v : Int32} : f_X5_set h a (nI i) v = some (uI h (a + 1) i v) := by
  unfold f_X5_set
  rw [cHas hC, bd_s, inR_n hi (by omega), if_pos rfl, ix_n (by omega) (by omega), gd_t, rf_Row ha, tn_n (by omega), nm_v]
theorem fillI {m : Nat} {v : Int32} (hm : m ≤ n) (hn : n ≤ 1000000) : f_J7_fill_fda19 h a n 0 (nI m) v = some (uA h a (wr (h.1 a) 0 (fun _ => v) m)) := by
  have e1 : f_J7_rangeCheck_23922 (nI n) 0 (nI m) = some () := by
    unfold f_J7_rangeCheck_23922
    rw [if_neg (nlt0 (by omega)), if_neg (by decide), if_neg (nI_nlt hm (by omega))]
  have e2 : f_J7_fill_fda19_L10 h a n (nI m) v 0 = some (uA h a (wr (h.1 a) 0 (fun _ => v) m)) := by
    unfold f_J7_fill_fda19_L10
    have e0 : ((0 : Int32), h) = (nI 0, uA h a (wr (h.1 a) 0 (fun _ => v) 0)) := by rw [wr_0]; rfl
    rw [e0]
    refine lpo_for (fun i => (nI i, uA h a (wr (h.1 a) 0 (fun _ => v) i))) m (fun i hi => ?_) ?_
    · unfold f_J7_fill_fda19_B10
      dsimp only
      rw [if_pos (nI_lt hi (by omega)), ix_n (by omega) hn, gd_t, nm_v, tn_n (by omega), nI_s]
      have := wr_s (h := h) (a := a) (b := 0) (i := i) (f := h.1 a) (g := fun _ => v) (v := v) rfl
      rw [Nat.zero_add] at this
      rw [this]
    · unfold f_J7_fill_fda19_B10
      dsimp only
      rw [if_neg (nI_nlt (Nat.le_refl _) (by omega))]
  unfold f_J7_fill_fda19
  rw [e1, bd_s, e2, bd_s]
theorem cRenew (ha : shp a = (5, 0)) (hn : n ≤ 60) {v : Int32} : f_X5_renew h a (nI n) v = some (uA (uI h a 1 (nI n)) (a + 1) (wr (h.1 (a + 1)) 0 (fun _ => v) n)) := by
  have e1 : f_J9_min_7cf53 (nI n) 60 = some (nI n) := by
    unfold f_J9_min_7cf53
    rw [if_neg (show ¬ (60 : Int32) < nI n from (nI_nlt hn (by omega) : ¬ nI 60 < nI n))]
  have e2 : f_J9_max_7cf53 0 (nI n) = some (nI n) := by
    unfold f_J9_max_7cf53
    by_cases h0 : 0 < nI n
    · rw [if_pos h0]
    · rw [if_neg h0]
      have : n = 0 := by
        by_cases hz : n = 0
        · exact hz
        · exact absurd (nI_lt (a := 0) (b := n) (by omega) (by omega)) h0
      subst this
      rfl
  unfold f_X5_renew
  rw [e1, bd_s, e2, bd_s, nm_v, uI_at, rf_Row ha, fillI (n := 60) hn (by decide), bd_s, uI_ne (by omega)]
/-! the reference's rows -/
theorem mRowAt {r : Nat} (hr : r < 6) (hi : i < 40) : f_X7_rowAt h (nI r) (nI i) = some (h.1 67 (40 * r + i)) := by
  unfold f_X7_rowAt
  rw [lin40, ix_n (by omega) (by decide), gd_t, tn_n (by omega)]
theorem mAskRow_b {x : Int32} (hx : inR x 6 = false) : f_X7_askedRow h x = some (-1, h) := by
  unfold f_X7_askedRow
  rw [mIsRow, bd_s, hx, if_neg (by decide)]
theorem mAskRow_m {r : Nat} (hr : r < 6) (e : h.1 66 r = -9) : f_X7_askedRow h (nI r) = f_X7_meets h (nI 1) := by
  unfold f_X7_askedRow
  rw [mIsRow, bd_s, inR_n hr (by decide), if_pos rfl, ix_n hr (by decide), gd_t, tn_n (by omega), e, if_pos (by decide)]
  show bnd2 (f_X7_meets h (nI 1)) _ = _
  rw [mMeets (by decide) (by decide)]
  rfl
theorem mAskRow_o {r : Nat} (hr : r < 6) (e : h.1 66 r = nI n) (hn : n ≤ 1000000) : f_X7_askedRow h (nI r) = some (0, h) := by
  unfold f_X7_askedRow
  rw [mIsRow, bd_s, inR_n hr (by decide), if_pos rfl, ix_n hr (by decide), gd_t, tn_n (by omega), e, if_neg (nlt0 hn)]
theorem mAskText_b {x : Int32} (hx : inR x 4 = false) : f_X7_askedText h x = some (-1, h) := by
  unfold f_X7_askedText
  rw [mIsText, bd_s, hx, if_neg (by decide)]
theorem mAskText_m {r : Nat} (hr : r < 4) (e : h.1 69 r = -9) : f_X7_askedText h (nI r) = f_X7_meets h (nI 1) := by
  unfold f_X7_askedText
  rw [mIsText, bd_s, inR_n hr (by decide), if_pos rfl, ix_n hr (by decide), gd_t, tn_n (by omega), e, if_pos (by decide)]
  show bnd2 (f_X7_meets h (nI 1)) _ = _
  rw [mMeets (by decide) (by decide)]
  rfl
theorem mAskText_o {r : Nat} (hr : r < 4) (e : h.1 69 r = nI n) (hn : n ≤ 1000000) : f_X7_askedText h (nI r) = some (0, h) := by
  unfold f_X7_askedText
  rw [mIsText, bd_s, inR_n hr (by decide), if_pos rfl, ix_n hr (by decide), gd_t, tn_n (by omega), e, if_neg (nlt0 hn)]
theorem mRowL {r : Nat} {x2 : Int32} (hr : r < 6) : f_X7_row_L34 h (nI r) x2 0 = some (uA h 67 (wr (h.1 67) (40 * r) (fun _ => 0) 40)) := by
  unfold f_X7_row_L34
  have e0 : ((0 : Int32), h) = (nI 0, uA h 67 (wr (h.1 67) (40 * r) (fun _ => 0) 0)) := by rw [wr_0]; rfl
  rw [e0]
  refine lpo_for (fun i => (nI i, uA h 67 (wr (h.1 67) (40 * r) (fun _ => 0) i))) 40 (fun i hi => ?_) ?_
  · unfold f_X7_row_B34
    dsimp only
    rw [if_pos (show nI i < 40 from (nI_lt hi (by omega) : nI i < nI 40)), lin40, ix_n (by omega) (by decide), gd_t, nm_v, tn_n (by omega), nI_s, wr_s rfl]
  · unfold f_X7_row_B34
    dsimp only
    rw [if_neg (by decide)]
theorem mTextL {r : Nat} {x2 : Int32} (hr : r < 4) : f_X7_text_L34 h (nI r) x2 0 = some (uA h 70 (wr (h.1 70) (60 * r) (fun _ => 32) 60)) := by
  unfold f_X7_text_L34
  have e0 : ((0 : Int32), h) = (nI 0, uA h 70 (wr (h.1 70) (60 * r) (fun _ => 32) 0)) := by rw [wr_0]; rfl
  rw [e0]
  refine lpo_for (fun i => (nI i, uA h 70 (wr (h.1 70) (60 * r) (fun _ => 32) i))) 60 (fun i hi => ?_) ?_
  · unfold f_X7_text_B34
    dsimp only
    rw [if_pos (show nI i < 60 from (nI_lt hi (by omega) : nI i < nI 60)), lin60, ix_n (by omega) (by decide), gd_t, nm_v, tn_n (by omega), nI_s, wr_s rfl]
  · unfold f_X7_text_B34
    dsimp only
    rw [if_neg (by decide)]
/-- the reference makes a row of n zeros -/
theorem mRow {r : Nat} (hr : r < 6) (hn : n ≤ 40) : f_X7_row h (nI r) (nI n) = some (nI n, uA (uI h 66 r (nI n)) 67 (wr (h.1 67) (40 * r) (fun _ => 0) 40)) := by
  unfold f_X7_row
  rw [mIsRow, bd_s, inR_n hr (by decide), if_pos rfl, if_neg (show ¬ (40 : Int32) < nI n from (nI_nlt hn (by omega) : ¬ nI 40 < nI n)), if_neg (nlt0 (by omega)), ix_n hr (by decide), gd_t, nm_v, tn_n (by omega), mRowL hr, bd_s, uI_ne (by decide)]
end ROWS
theorem op_row {h : MH} (S : Sim h) (r n : Int32) : Op (f_X6_row h r n) (fun h1 => f_X7_row h1 r n) := by
  cases hr : inR r 6 with
  | false => exact op_same S (v := -1) (by unfold f_X6_row; rw [cIsRow, bd_s, hr, if_neg (by decide)]) (by show f_X7_row h r n = _; unfold f_X7_row; rw [mIsRow, bd_s, hr, if_neg (by decide)])
  | true =>
    obtain ⟨j, hj, rfl⟩ := inR_t (by decide) hr
    by_cases h40 : 40 < n
    · exact op_same S (v := -1) (by unfold f_X6_row; rw [cIsRow, bd_s, hr, if_pos rfl, if_pos h40]) (by show f_X7_row h _ n = _; unfold f_X7_row; rw [mIsRow, bd_s, hr, if_pos rfl, if_pos h40])
    by_cases h0 : n < 0
    · refine op_found S (f := 5) (by decide) (by decide) ?_ ?_
      · unfold f_X6_row
        rw [cIsRow, bd_s, hr, if_pos rfl, if_neg h40, if_pos h0]
        show bnd2 (f_X6_found h (nI 5)) _ = _
        rw [cFound (by decide) (by decide)]
        rfl
      · show f_X7_row (fd h 5) _ n = _
        unfold f_X7_row
        rw [mIsRow, bd_s, hr, if_pos rfl, if_neg h40, if_pos h0]
        show bnd2 (f_X7_meets (fd h 5) (nI 5)) _ = _
        rw [mMeets (by decide) (by decide)]
        rfl
    obtain ⟨m, hm, rfl⟩ := nI_of2 (M := 40) (n := 40) rfl h0 (Int32.not_lt.mp h40)
    have e1 : f_X6_row h (nI j) (nI m) = some (nI m, uA (uI h (18 + 2 * j) 1 (nI m)) (19 + 2 * j) (wr (h.1 (19 + 2 * j)) 0 (fun _ => 0) m)) := by
      unfold f_X6_row
      rw [cIsRow, bd_s, hr, if_pos rfl, if_neg h40, if_neg h0, ix_n hj (by decide), gd_t, tn_n (by omega), rf_rows hj, cRenew (sh_row hj) (by omega), bd_s, show 18 + 2 * j + 1 = 19 + 2 * j by omega]
    obtain ⟨s1, s2, s3, s4, s5, s6, s7, s8⟩ := S
    refine ⟨_, _, _, e1, mRow hj hm, ?_⟩
    have fr : ∀ a, a ≠ 18 + 2 * j → a ≠ 19 + 2 * j → a ≠ 66 → a ≠ 67 → (uA (uI (uA (uI h (18 + 2 * j) 1 (nI m)) (19 + 2 * j) (wr (h.1 (19 + 2 * j)) 0 (fun _ => 0) m)) 66 j (nI m)) 67 (wr ((uA (uI h (18 + 2 * j) 1 (nI m)) (19 + 2 * j) (wr (h.1 (19 + 2 * j)) 0 (fun _ => 0) m)).1 67) (40 * j) (fun _ => 0) 40)).1 a = h.1 a := fun a q1 q2 q3 q4 => by rw [uA_ne q4, uI_ne q3, uA_ne q2, uI_ne q1]
    refine ⟨SR_upd (j := j) (fun a q1 q2 q3 q4 => fr a q3 q4 (by omega) (by omega)) (fun r h1 h2 => ?_) (fun q hq => ?_) (Or.inr ⟨m, fun _ => 0, hm, ⟨?_, fun i hi => ?_⟩, ?_, fun i hi => ?_⟩) s1, STx_of (fun a ha => fr a (by omega) (by omega) (by omega) (by omega)) s2, SC_of (fun a ha => fr a (by omega) (by omega) (by omega) (by omega)) s3, SK_of (fun a ha => fr a (by omega) (by omega) (by omega) (by omega)) s4, ?_, s6, ⟨?_, fun f h1 h5 => ?_⟩, s8⟩
    · rw [uA_ne (by decide), uI_k h2, uA_ne (by omega), uI_ne (by omega)]
    · rw [uA_at, wr_out hq, uA_ne (by omega), uI_ne (by omega)]
    · rw [uA_ne (by omega), uI_ne (by omega), uA_ne (by omega), uI_at]
    · rw [uA_ne (by omega), uI_ne (by omega), show 18 + 2 * j + 1 = 19 + 2 * j by omega, uA_at]
      have := wr_in (f := h.1 (19 + 2 * j)) (g := fun _ => (0 : Int32)) (b := 0) hi
      rw [Nat.zero_add] at this
      exact this
    · rw [uA_ne (by decide), uI_at]
    · rw [uA_at, wr_in (by omega)]
    · unfold SA; rw [fr 0 (by omega) (by omega) (by decide) (by decide), fr 64 (by omega) (by omega) (by decide) (by decide)]; exact s5
    · rw [fr 0 (by omega) (by omega) (by decide) (by decide), fr 64 (by omega) (by omega) (by decide) (by decide)]; exact s7.1
    · rw [fr 17 (by omega) (by omega) (by decide) (by decide), fr 65 (by omega) (by omega) (by decide) (by decide)]; exact s7.2 f h1 h5
