theorem nIsub {a b : Nat} (h : b ≤ a) : nI a - nI b = nI (a - b) := pk_sub h
theorem cSpan {h : MH} {a sz m i : Nat} (e : h.1 a 1 = nI sz) (hs : sz ≤ 1000000) (hm : m < 2147483648) (hi : i < 2147483648) : f_X5_hasSpan h a (nI i) (nI m) = some (decide (i + m ≤ sz)) := by
  unfold f_X5_hasSpan
  rw [e, if_neg (nI_pos hi), if_neg (nI_pos hm)]
  by_cases h1 : m ≤ sz
  · rw [if_neg (nI_nlt h1 (by omega)), nIsub h1]
    by_cases h2 : i ≤ sz - m
    · rw [if_neg (nI_nlt h2 (by omega)), decide_eq_true (by omega)]
    · rw [if_pos (nI_lt (by omega) hi), decide_eq_false (by omega)]
  · rw [if_pos (nI_lt (by omega) hm), decide_eq_false (by omega)]
theorem cSpan_n {h : MH} {a : Nat} {x y : Int32} (hx : x < 0) : f_X5_hasSpan h a x y = some false := by
  unfold f_X5_hasSpan
  rw [if_pos hx]
theorem toL {a : Nat} (h : a < 2147483648) : (nI a).toInt64 = lN a := nI_l h
theorem mSpan {sz i m : Nat} (hs : sz ≤ 1000000) (hm : m < 2147483648) (hi : i < 2147483648) : ((nI sz).toInt64 < (nI i).toInt64 + (nI m).toInt64) ↔ ¬ (i + m ≤ sz) := by
  rw [toL (by omega), toL hi, toL hm, lN_add, pk_lLT (by omega) (by omega)]
  omega
theorem lin40b (r j k : Nat) : ((40 * nI r) + nI j) + nI k = nI (40 * r + j + k) := by rw [lin40, nI_add]
theorem mCopy1 {h : MH} {r i m : Nat} {x3 x4 : Int32} (hr : r < 6) (him : i + m ≤ 40) : f_X7_copy_L104 h (nI r) (nI i) x3 x4 (nI m) 0 = some (uA h 68 (wr (h.1 68) 0 (fun k => h.1 67 (40 * r + (i + k))) m)) := by
  unfold f_X7_copy_L104
  have e0 : ((0 : Int32), h) = (nI 0, uA h 68 (wr (h.1 68) 0 (fun k => h.1 67 (40 * r + (i + k))) 0)) := by rw [wr_0]; rfl
  rw [e0]
  refine lpo_for (fun q => (nI q, uA h 68 (wr (h.1 68) 0 (fun k => h.1 67 (40 * r + (i + k))) q))) m (fun q hq => ?_) ?_
  · unfold f_X7_copy_B104
    dsimp only
    rw [if_pos (nI_lt hq (by omega)), nI_add, mRowAt hr (by omega), bd_s, ix_n (by omega) (by decide), gd_t, nm_v, tn_n (by omega), nI_s, uA_ne (by decide)]
    have := wr_s (h := h) (a := 68) (b := 0) (i := q) (f := h.1 68) (g := fun k => h.1 67 (40 * r + (i + k))) rfl
    rw [Nat.zero_add] at this
    rw [this]
  · unfold f_X7_copy_B104
    dsimp only
    rw [if_neg (nI_nlt (Nat.le_refl _) (by omega))]
theorem mCopy2 {h : MH} {r j m : Nat} (hr : r < 6) (him : j + m ≤ 40) : f_X7_copy_L136 h (nI r) (nI j) (nI m) 0 = some (uA h 67 (wr (h.1 67) (40 * r + j) (h.1 68) m)) := by
  unfold f_X7_copy_L136
  have e0 : ((0 : Int32), h) = (nI 0, uA h 67 (wr (h.1 67) (40 * r + j) (h.1 68) 0)) := by rw [wr_0]; rfl
  rw [e0]
  refine lpo_for (fun q => (nI q, uA h 67 (wr (h.1 67) (40 * r + j) (h.1 68) q))) m (fun q hq => ?_) ?_
  · unfold f_X7_copy_B136
    dsimp only
    rw [if_pos (nI_lt hq (by omega)), ix_n (by omega) (by decide), gd_t, lin40b, ix_n (by omega) (by decide), gd_t, nm_v, tn_n (by omega), tn_n (by omega), nI_s, uA_ne (by decide), wr_s rfl]
  · unfold f_X7_copy_B136
    dsimp only
    rw [if_neg (nI_nlt (Nat.le_refl _) (by omega))]
theorem op_copy {h : MH} (S : Sim h) (r x t y z : Int32) : Op (f_X6_copy h r x t y z) (fun h1 => f_X7_copy h1 r x t y z) := by
  rcases row_cases S.1 r with hr | ⟨j1, hj1, rfl, hr, R1⟩
  · exact op_same S (v := -1) (by unfold f_X6_copy; rw [cIsRow, bd_s, hr, if_neg (by decide)]) (by show f_X7_copy h _ _ _ _ _ = _; unfold f_X7_copy; rw [mIsRow, bd_s, hr, if_neg (by decide)])
  rcases row_cases S.1 t with ht | ⟨j2, hj2, rfl, ht, R2⟩
  · exact op_same S (v := -1) (by unfold f_X6_copy; rw [cIsRow, bd_s, hr, if_pos rfl, cIsRow, bd_s, ht, if_neg (by decide)]) (by show f_X7_copy h _ _ _ _ _ = _; unfold f_X7_copy; rw [mIsRow, bd_s, hr, if_pos rfl, mIsRow, bd_s, ht, if_neg (by decide)])
  by_cases hz : z < 0
  · refine op_found S (f := 5) (by decide) (by decide) ?_ ?_
    · unfold f_X6_copy
      rw [cIsRow, bd_s, hr, if_pos rfl, cIsRow, bd_s, ht, if_pos rfl, if_pos hz]
      exact pF (by decide) (by decide)
    · show f_X7_copy (fd h 5) _ _ _ _ _ = _
      unfold f_X7_copy
      rw [mIsRow, bd_s, hr, if_pos rfl, mIsRow, bd_s, ht, if_pos rfl, if_pos hz]
      exact pM (by decide) (by decide)
  obtain ⟨m, hm, rfl⟩ := nI_of hz
  have c0 : ∀ A : Option (Int32 × MH), (Option.bind (f_X5_isMissing h (rf 1 (nI j1).toNatClampNeg)) (fun r47 => (if r47 = true then bnd2 (f_X6_found h 1) (fun r63 h63 => some (r63, h63)) else A))) = if h.1 (18 + 2 * j1) 1 < 0 then f_X6_found h (nI 1) else A := by
    intro A
    rw [tn_n (by omega), rf_rows hj1, cMiss_dec, bd_s, show (1 : Int32) = nI 1 from rfl, pF (by decide) (by decide)]
    by_cases q : h.1 (18 + 2 * j1) 1 < 0 <;> simp [q]
  have c1 : ∀ A : Option (Int32 × MH), (Option.bind (f_X5_isMissing h (rf 1 (nI j2).toNatClampNeg)) (fun r47 => (if r47 = true then bnd2 (f_X6_found h 1) (fun r63 h63 => some (r63, h63)) else A))) = if h.1 (18 + 2 * j2) 1 < 0 then f_X6_found h (nI 1) else A := by
    intro A
    rw [tn_n (by omega), rf_rows hj2, cMiss_dec, bd_s, show (1 : Int32) = nI 1 from rfl, pF (by decide) (by decide)]
    by_cases q : h.1 (18 + 2 * j2) 1 < 0 <;> simp [q]
  rcases R1 with ⟨m1, m2⟩ | ⟨n1, f1, hn1, hC1, hM1⟩
  · refine op_found S (f := 1) (by decide) (by decide) ?_ ?_
    · unfold f_X6_copy
      rw [cIsRow, bd_s, hr, if_pos rfl, cIsRow, bd_s, ht, if_pos rfl, if_neg hz, ix_n hj1 (by decide), gd_t, ix_n hj2 (by decide), gd_t, c0, m1, if_pos (by decide)]
    · show f_X7_copy (fd h 1) _ _ _ _ _ = _
      unfold f_X7_copy
      rw [mIsRow, bd_s, hr, if_pos rfl, mIsRow, bd_s, ht, if_pos rfl, if_neg hz, ix_n hj1 (by decide), gd_t, tn_n (by omega), fd_ne (by decide) (by decide), m2, if_pos (by decide)]
      exact pM (by decide) (by decide)
  rcases R2 with ⟨m1, m2⟩ | ⟨n2, f2, hn2, hC2, hM2⟩
  · refine op_found S (f := 1) (by decide) (by decide) ?_ ?_
    · unfold f_X6_copy
      rw [cIsRow, bd_s, hr, if_pos rfl, cIsRow, bd_s, ht, if_pos rfl, if_neg hz, ix_n hj1 (by decide), gd_t, ix_n hj2 (by decide), gd_t, c0, hC1.1, if_neg (nlt0 (by omega)), c1, m1, if_pos (by decide)]
    · show f_X7_copy (fd h 1) _ _ _ _ _ = _
      unfold f_X7_copy
      rw [mIsRow, bd_s, hr, if_pos rfl, mIsRow, bd_s, ht, if_pos rfl, if_neg hz, ix_n hj1 (by decide), gd_t, tn_n (by omega), fd_ne (by decide) (by decide), hM1.1, if_neg (nlt0 (by omega)), ix_n hj2 (by decide), gd_t, tn_n (by omega), m2, if_pos (by decide)]
      exact pM (by decide) (by decide)
  -- the class's part in one row
  have cE : f_X6_copy h (nI j1) x (nI j2) y (nI m) = Option.bind (f_X5_hasSpan h (18 + 2 * j1) x (nI m)) (fun r72 => (if r72 = true then Option.bind (f_X5_hasSpan h (18 + 2 * j2) y (nI m)) (fun r84 => (if r84 = true then gd (acp x y (nI m) 60 60) (some (1, uA h (19 + 2 * j2) (va_cpy (h.1 (19 + 2 * j1)) (h.1 (19 + 2 * j2)) x.toNatClampNeg y.toNatClampNeg (nI m).toNatClampNeg))) else f_X6_found h (nI 2))) else f_X6_found h (nI 2))) := by
    unfold f_X6_copy
    rw [cIsRow, bd_s, hr, if_pos rfl, cIsRow, bd_s, ht, if_pos rfl, if_neg hz, ix_n hj1 (by decide), gd_t, ix_n hj2 (by decide), gd_t, c0, hC1.1, if_neg (nlt0 (by omega)), c1, hC2.1, if_neg (nlt0 (by omega)), show (2 : Int32) = nI 2 from rfl, pF (by decide) (by decide)]
    rw [show (nI j1).toNatClampNeg = j1 from tn_n (by omega), show (nI j2).toNatClampNeg = j2 from tn_n (by omega), rf_rows hj1, rf_rows hj2, rf_Row (sh_row hj1), rf_Row (sh_row hj2), show 18 + 2 * j2 + 1 = 19 + 2 * j2 by omega, show 18 + 2 * j1 + 1 = 19 + 2 * j1 by omega]
    rfl
  have mE : ∀ h' : MH, h'.1 66 = h.1 66 → f_X7_copy h' (nI j1) x (nI j2) y (nI m) = if x < 0 then f_X7_meets h' (nI 2) else if y < 0 then f_X7_meets h' (nI 2) else if (nI n1).toInt64 < x.toInt64 + (nI m).toInt64 then f_X7_meets h' (nI 2) else if (nI n2).toInt64 < y.toInt64 + (nI m).toInt64 then f_X7_meets h' (nI 2) else Option.bind (f_X7_copy_L104 h' (nI j1) x (nI j2) y (nI m) 0) (fun b104 => Option.bind (f_X7_copy_L136 b104 (nI j2) y (nI m) 0) (fun b136 => some (1, b136))) := by
    intro h' e
    unfold f_X7_copy
    rw [mIsRow, bd_s, hr, if_pos rfl, mIsRow, bd_s, ht, if_pos rfl, if_neg hz, ix_n hj1 (by decide), gd_t, tn_n (by omega), e, hM1.1, if_neg (nlt0 (by omega)), ix_n hj2 (by decide), gd_t, tn_n (by omega), hM2.1, if_neg (nlt0 (by omega)), gd_t, gd_t, show (2 : Int32) = nI 2 from rfl, pM (by decide) (by decide)]
  have bad : (x < 0 ∨ y < 0 ∨ (∃ i, i < 2147483648 ∧ x = nI i ∧ ¬ i + m ≤ n1) ∨ (∃ i, i < 2147483648 ∧ y = nI i ∧ ¬ i + m ≤ n2)) → Op (f_X6_copy h (nI j1) x (nI j2) y (nI m)) (fun h1 => f_X7_copy h1 (nI j1) x (nI j2) y (nI m)) := by
    intro q
    refine op_found S (f := 2) (by decide) (by decide) ?_ ?_
    · rw [cE]
      by_cases x0 : x < 0
      · rw [cSpan_n x0, bd_s, if_neg (by decide)]
      obtain ⟨i, hi, rfl⟩ := nI_of x0
      rw [cSpan hC1.1 (by omega) hm hi, bd_s]
      by_cases c : i + m ≤ n1
      · rw [decide_eq_true c, if_pos rfl]
        by_cases y0 : y < 0
        · rw [cSpan_n y0, bd_s, if_neg (by decide)]
        obtain ⟨k, hk, rfl⟩ := nI_of y0
        rw [cSpan hC2.1 (by omega) hm hk, bd_s]
        have : ¬ k + m ≤ n2 := by
          rcases q with q | q | ⟨i', hi', e, q⟩ | ⟨i', hi', e, q⟩
          · exact absurd q x0
          · exact absurd q y0
          · have := (nI_eq hi hi').mp e
            omega
          · have := (nI_eq hk hi').mp e
            omega
        rw [decide_eq_false this, if_neg (by decide)]
      · rw [decide_eq_false c, if_neg (by decide)]
    · show f_X7_copy (fd h 2) _ _ _ _ _ = _
      rw [mE _ (fd_ne (by decide) (by decide))]
      by_cases x0 : x < 0
      · rw [if_pos x0]
      rw [if_neg x0]
      by_cases y0 : y < 0
      · rw [if_pos y0]
      rw [if_neg y0]
      obtain ⟨i, hi, rfl⟩ := nI_of x0
      obtain ⟨k, hk, rfl⟩ := nI_of y0
      by_cases c : i + m ≤ n1
      · rw [if_neg (fun z => (mSpan (by omega) hm hi).mp z c)]
        have : ¬ k + m ≤ n2 := by
          rcases q with q | q | ⟨i', hi', e, q⟩ | ⟨i', hi', e, q⟩
          · exact absurd q x0
          · exact absurd q y0
          · have := (nI_eq hi hi').mp e
            omega
          · have := (nI_eq hk hi').mp e
            omega
        rw [if_pos ((mSpan (by omega) hm hk).mpr this)]
      · rw [if_pos ((mSpan (by omega) hm hi).mpr c)]
  by_cases x0 : x < 0
  · exact bad (Or.inl x0)
  by_cases y0 : y < 0
  · exact bad (Or.inr (Or.inl y0))
  obtain ⟨i, hi, rfl⟩ := nI_of x0
  obtain ⟨k, hk, rfl⟩ := nI_of y0
  by_cases g1 : i + m ≤ n1
  · by_cases g2 : k + m ≤ n2
    · have e1 : f_X6_copy h (nI j1) (nI i) (nI j2) (nI k) (nI m) = some (1, uA h (19 + 2 * j2) (va_cpy (h.1 (19 + 2 * j1)) (h.1 (19 + 2 * j2)) i k m)) := by
        rw [cE, cSpan hC1.1 (by omega) hm hi, bd_s, decide_eq_true g1, if_pos rfl, cSpan hC2.1 (by omega) hm hk, bd_s, decide_eq_true g2, if_pos rfl, tn_n (by omega), tn_n (by omega), tn_n (by omega)]
        have : acp (nI i) (nI k) (nI m) 60 60 = true := by
          refine decide_eq_true ⟨⟨nI_pos hi, nI_pos hk, nI_pos hm⟩, ?_, ?_⟩
          · rw [tn_n (by omega), tn_n (by omega)]; omega
          · rw [tn_n (by omega), tn_n (by omega)]; omega
        rw [this, gd_t]
      refine ⟨1, _, uA (uA (uA h (19 + 2 * j2) (va_cpy (h.1 (19 + 2 * j1)) (h.1 (19 + 2 * j2)) i k m)) 68 (wr (h.1 68) 0 (fun q => h.1 67 (40 * j1 + (i + q))) m)) 67 (wr (h.1 67) (40 * j2 + k) (wr (h.1 68) 0 (fun q => h.1 67 (40 * j1 + (i + q))) m) m), e1, ?_, ?_⟩
      · show f_X7_copy (uA h (19 + 2 * j2) (va_cpy (h.1 (19 + 2 * j1)) (h.1 (19 + 2 * j2)) i k m)) _ _ _ _ _ = _
        rw [mE _ (uA_ne (by omega)), if_neg x0, if_neg y0, if_neg (fun z => (mSpan (by omega) hm hi).mp z g1), if_neg (fun z => (mSpan (by omega) hm hk).mp z g2), mCopy1 hj1 (by omega), bd_s, mCopy2 hj2 (by omega), bd_s]
        have e68 : (uA h (19 + 2 * j2) (va_cpy (h.1 (19 + 2 * j1)) (h.1 (19 + 2 * j2)) i k m)).1 68 = h.1 68 := uA_ne (by omega)
        have e67 : (uA h (19 + 2 * j2) (va_cpy (h.1 (19 + 2 * j1)) (h.1 (19 + 2 * j2)) i k m)).1 67 = h.1 67 := uA_ne (by omega)
        simp (disch := omega) only [uI_ne, uI_k, uI_at, uA_ne, uA_at]
      · obtain ⟨s1, s2, s3, s4, s5, s6, s7, s8⟩ := S
        refine ⟨SR_upd (j := j2) (fun a q1 q2 q3 q4 => by simp (disch := omega) only [uI_ne, uI_k, uI_at, uA_ne, uA_at]) (fun r h1 h2 => by simp (disch := omega) only [uI_ne, uI_k, uI_at, uA_ne, uA_at]) (fun q hq => by simp (disch := omega) only [uI_ne, uI_k, uI_at, uA_ne, uA_at]; rw [wr_out (by omega)]) (Or.inr ⟨n2, va_cpy f1 f2 i k m, hn2, ⟨by simp (disch := omega) only [uI_ne, uI_k, uI_at, uA_ne, uA_at]; exact hC2.1, fun q hq => ?_⟩, by simp (disch := omega) only [uI_ne, uI_k, uI_at, uA_ne, uA_at]; exact hM2.1, fun q hq => ?_⟩) s1, STx_of (fun a ha => by simp (disch := omega) only [uI_ne, uI_k, uI_at, uA_ne, uA_at]) s2, SC_of (fun a ha => by simp (disch := omega) only [uI_ne, uI_k, uI_at, uA_ne, uA_at]) s3, SK_of (fun a ha => by simp (disch := omega) only [uI_ne, uI_k, uI_at, uA_ne, uA_at]) s4, ?_, s6, ⟨?_, fun f h1 h5 => ?_⟩, s8⟩
        · rw [show 18 + 2 * j2 + 1 = 19 + 2 * j2 by omega]
          simp (disch := omega) only [uI_ne, uI_k, uI_at, uA_ne, uA_at]
          unfold va_cpy
          by_cases c : k ≤ q ∧ q < k + m
          · rw [if_pos c, if_pos c, rc19 hC1 (by omega)]
          · rw [if_neg c, if_neg c, rc19 hC2 hq]
        · simp (disch := omega) only [uI_ne, uI_k, uI_at, uA_ne, uA_at]
          unfold va_cpy
          by_cases c : k ≤ q ∧ q < k + m
          · rw [if_pos c]
            have e2 := wr_in (f := h.1 67) (g := wr (h.1 68) 0 (fun q => h.1 67 (40 * j1 + (i + q))) m) (b := 40 * j2 + k) (n := m) (i := q - k) (by omega)
            rw [show 40 * j2 + k + (q - k) = 40 * j2 + q by omega] at e2
            rw [e2]
            have e3 := wr_in (f := h.1 68) (g := fun q => h.1 67 (40 * j1 + (i + q))) (b := 0) (n := m) (i := q - k) (by omega)
            rw [Nat.zero_add] at e3
            rw [e3]
            exact hM1.2 _ (by omega)
          · rw [if_neg c, wr_out (by omega)]
            exact hM2.2 q hq
        · unfold SA; simp (disch := omega) only [uI_ne, uI_k, uI_at, uA_ne, uA_at]; exact s5
        · simp (disch := omega) only [uI_ne, uI_k, uI_at, uA_ne, uA_at]; exact s7.1
        · simp (disch := omega) only [uI_ne, uI_k, uI_at, uA_ne, uA_at]; exact s7.2 f h1 h5
    · exact bad (Or.inr (Or.inr (Or.inr ⟨k, hk, rfl, g2⟩)))
  · exact bad (Or.inr (Or.inr (Or.inl ⟨i, hi, rfl, g1⟩)))
