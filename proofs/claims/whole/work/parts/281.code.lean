theorem prs_ok {n : Nat} {f : Nat → Int32} (hn : n ≤ 60) : ∀ (k m w : Nat) (ls : Nat → Nat) (i : Nat), m + (k + 1) = 6 → w ≤ 12 → i ≤ n → (∀ q, q < m → ls q < 2 ^ w) → (prs n f (k + 1) m w ls i).1 = -9 → codK (prs n f (k + 1) m w ls i).2.1 (prs n f (k + 1) m w ls i).2.2.1 (prs n f (k + 1) m w ls i).2.2.2 := by
  have fin : ∀ (m w : Nat) (ls : Nat → Nat) (i : Nat), m ≤ 5 → w ≤ 12 → ¬ (lnC n f m w i = 0 ∨ lnC n f m w i < lnW n f m w i ∨ sgP n f (i + lnC n f m w i) = true) → (∀ q, q < m → ls q < 2 ^ w) → (1 ≤ lnW n f m w i ∧ lnW n f m w i ≤ 12) ∧ ∀ q, q < m + 1 → updN ls m (btN f i (lnC n f m w i)) q < 2 ^ lnW n f m w i := fun m w ls i hm hw z hl => by
    have c12 := lnC_12 (n := n) (f := f) (m := m) (i := i) hw
    have e2 := lnC_w (n := n) (f := f) (m := m) (w := w) (i := i) (fun y => z (Or.inr (Or.inl y)))
    have c1 : ¬ lnC n f m w i = 0 := fun y => z (Or.inl y)
    refine ⟨(by omega), fun q hq => ?_⟩
    unfold updN
    by_cases y : q = m
    · rw [if_pos y, e2]
      exact btN_lt _
    · rw [if_neg y, show lnW n f m w i = w from if_neg (show ¬ m = 0 by omega)]
      exact hl q (by omega)
  intro k
  induction k with
  | zero =>
    intro m w ls i hm hw hi hl
    have cle := lnC_le (f := f) (m := m) (w := w) hi
    rw [prs_s]
    by_cases z1 : lnC n f m w i = 0 ∨ lnC n f m w i < lnW n f m w i ∨ sgP n f (i + lnC n f m w i) = true
    · rw [if_pos z1]
      exact fun y => absurd y (nI_n9 (by omega))
    · rw [if_neg z1]
      by_cases z3 : i + lnC n f m w i < n ∧ f (i + lnC n f m w i) = 47
      · rw [if_pos z3, if_pos rfl]
        exact fun y => absurd y (nI_n9 (by omega))
      · rw [if_neg z3]
        intro _
        obtain ⟨w1, w2⟩ := fin m w ls i (by omega) hw z1 hl
        exact ⟨⟨Nat.succ_pos m, show m + 1 ≤ 6 by omega, w1.1, w1.2⟩, w2⟩
  | succ k ih =>
    intro m w ls i hm hw hi hl
    have cle := lnC_le (f := f) (m := m) (w := w) hi
    rw [prs_s]
    by_cases z1 : lnC n f m w i = 0 ∨ lnC n f m w i < lnW n f m w i ∨ sgP n f (i + lnC n f m w i) = true
    · rw [if_pos z1]
      exact fun y => absurd y (nI_n9 (by omega))
    · rw [if_neg z1]
      obtain ⟨w1, w2⟩ := fin m w ls i (by omega) hw z1 hl
      by_cases z3 : i + lnC n f m w i < n ∧ f (i + lnC n f m w i) = 47
      · rw [if_pos z3, if_neg (Nat.succ_ne_zero k)]
        exact ih (m + 1) (lnW n f m w i) _ (i + lnC n f m w i + 1) (by omega) w1.2 (by omega) w2
      · rw [if_neg z3]
        intro _
        exact ⟨⟨Nat.succ_pos m, show m + 1 ≤ 6 by omega, w1.1, w1.2⟩, w2⟩
theorem rdV_ok {n : Nat} {f : Nat → Int32} (hn : n ≤ 60) (e : (rdV n f).1 = -9) : codK (rdV n f).2.1 (rdV n f).2.2.1 (rdV n f).2.2.2 := prs_ok hn 5 0 0 (fun _ => 0) (bkE n f 0) (by decide) (by decide) (bkE_le (Nat.zero_le n)) (fun q hq => absurd hq (Nat.not_lt_zero q)) e
/-- one code anew, and rooms that no call shows -/
theorem sim_codS {h h2 : MH} {j : Nat} (hj : j < 4) (S : Sim h) (F : ∀ a, a ≠ 56 + 2 * j → a ≠ 57 + 2 * j → ((17 ≤ a ∧ a ≤ 63) ∨ (65 ≤ a ∧ a ≤ 67) ∨ (69 ≤ a ∧ a ≤ 76)) → h2.1 a = h.1 a) (e0 : h2.1 0 9 = h2.1 64 2) (e00 : h2.1 0 10 = h2.1 64 0) (e2 : SF h2) (e4 : SW h2) (e1 : ∀ a d, a = 78 ∨ a = 79 → d ≠ j → h2.1 a d = h.1 a d) (e3 : ∀ q, q < 6 * j ∨ 6 * j + 6 ≤ q → h2.1 80 q = h.1 80 q) (new : codS h2 j) : Sim h2 := by
  obtain ⟨s1, s2, s3, s4, s5, s6, s7, s8⟩ := S
  refine ⟨SR_of (fun a ha => F a (by omega) (by omega) (by omega)) s1, STx_of (fun a ha => F a (by omega) (by omega) (by omega)) s2, SC_of (fun a ha => F a (by omega) (by omega) (by omega)) s3, SK_upd (j := j) (fun a q1 q2 q3 q4 => F a q3 q4 (by omega)) e1 e3 new s4, e0, e2, ⟨e00, fun f h1 h5 => ?_⟩, e4⟩
  rw [F 17 (by omega) (by omega) (by omega), F 65 (by omega) (by omega) (by omega)]
  exact s7.2 f h1 h5
theorem op_fault {h : MH} (S : Sim h) (r : Int32) : Op (f_X6_fault h r) (fun h1 => f_X7_fault h1 r) := by
  rcases text_cases S.2.1 r with hr | ⟨j, hj, rfl, hr, ⟨m1, m2⟩ | ⟨n, f, hn, hC, hM⟩⟩
  · exact op_same S (v := -1) (by unfold f_X6_fault; rw [cIsText, bd_s, hr, if_neg (by decide)]) (by show f_X7_fault h r = _; unfold f_X7_fault; rw [mAskText_b hr, bnd2_s, if_pos (by decide)])
  · refine op_found S (f := 1) (by decide) (by decide) ?_ ?_
    · unfold f_X6_fault
      rw [cIsText, bd_s, hr, if_pos rfl, ix_n hj (by decide), gd_t, tn_n (by omega), rf_texts hj, cMiss_t m1, bd_s, if_pos rfl]
      exact pF (by decide) (by decide)
    · show f_X7_fault (fd h 1) _ = _
      unfold f_X7_fault
      rw [mAskText_m hj (by rw [fd_ne (by decide) (by decide)]; exact m2)]
      exact pB (by decide) (by decide)
  · obtain ⟨g, e1, F1, g2, _⟩ := cReads (a := 30 + 2 * j) (sh_text hj) (by omega) hC hn
    have gM : rowM g 69 70 60 j n f := by
      unfold rowM
      rw [F1 69 (by decide) (by decide), F1 70 (by decide) (by decide)]
      exact hM
    obtain ⟨k, e2, F2, _⟩ := mReads hj gM hn
    refine ⟨(rdV n f).1, g, k, ?_, ?_, ?_⟩
    · unfold f_X6_fault
      rw [cIsText, bd_s, hr, if_pos rfl, ix_n hj (by decide), gd_t, tn_n (by omega), rf_texts hj, cMiss_f hC.1 (by omega), bd_s, if_neg (by decide), gd_t, e1, bnd2_s]
    · show f_X7_fault g _ = _
      unfold f_X7_fault
      rw [mAskText_o (n := n) hj gM.1 (by omega), bnd2_s, if_neg (by decide), e2, bnd2_s]
    · refine sim_scr S (fun a ha => ?_) ?_ ?_ ?_ ?_
      · rw [F2.1 a (by omega) (by omega), F1 a (by omega) (by omega)]
      · rw [F2.1 0 (by decide) (by decide), F2.2.2 2 (by decide) (by decide), F1 0 (by decide) (by decide), F1 64 (by decide) (by decide)]
        exact S.2.2.2.2.1
      · rw [F2.1 0 (by decide) (by decide), F2.2.2 0 (by decide) (by decide), F1 0 (by decide) (by decide), F1 64 (by decide) (by decide)]
        exact S.2.2.2.2.2.2.1.1
      · unfold SF
        rw [F2.2.1, g2]
        exact S.2.2.2.2.2.1
      · unfold SW
        rw [F2.2.1, g2]
        exact S.2.2.2.2.2.2.2
theorem acp6 : acp 0 0 6 6 6 = true := by decide +kernel
theorem mCodeL {h : MH} {d k : Nat} (hd : d < 4) (hk : k ≤ 6) (e21 : h.1 64 21 = nI k) : f_X7_code_L66 h (nI d) 0 = some (uA h 80 (wr (h.1 80) (6 * d) (h.1 81) k)) := by
  unfold f_X7_code_L66
  rw [show ((0 : Int32), h) = (nI 0, uA h 80 (wr (h.1 80) (6 * d) (h.1 81) 0)) by rw [wr_0]; rfl]
  refine lpo_for (fun q => (nI q, uA h 80 (wr (h.1 80) (6 * d) (h.1 81) q))) k (fun q hq => ?_) ?_
  · (try dsimp only)
    unfold f_X7_code_B66
    rw [uA_ne (by decide), e21, if_pos (nI_lt hq (by omega)), ix_n (by omega) (by decide), gd_t, lin6, ix_n (by omega) (by decide), gd_t, nm_v, tn_n (by omega), tn_n (by omega), nI_s, uA_ne (by decide), wr_s rfl]
  · (try dsimp only)
    unfold f_X7_code_B66
    rw [uA_ne (by decide), e21, if_neg (nI_nlt (Nat.le_refl _) (by omega))]
theorem op_code {h : MH} (S : Sim h) (d r : Int32) : Op (f_X6_code h d r) (fun h1 => f_X7_code h1 d r) := by
  rcases code_cases S.2.2.2.1 d with hd | ⟨d, hd4, rfl, hd, _⟩
  · exact op_same S (v := -1) (by unfold f_X6_code; rw [cIsCode, bd_s, hd, if_neg (by decide)]) (by show f_X7_code h _ _ = _; unfold f_X7_code; rw [mIsCode, bd_s, hd, if_neg (by decide)])
  rcases text_cases S.2.1 r with hr | ⟨j, hj, rfl, hr, ⟨m1, m2⟩ | ⟨n, f, hn, hC, hM⟩⟩
  · exact op_same S (v := -1) (by unfold f_X6_code; rw [cIsCode, bd_s, hd, if_pos rfl, cIsText, bd_s, hr, if_neg (by decide)]) (by show f_X7_code h _ _ = _; unfold f_X7_code; rw [mIsCode, bd_s, hd, if_pos rfl, mIsText, bd_s, hr, if_neg (by decide)])
  · refine op_found S (f := 1) (by decide) (by decide) ?_ ?_
    · unfold f_X6_code
      rw [cIsCode, bd_s, hd, if_pos rfl, cIsText, bd_s, hr, if_pos rfl, ix_n hj (by decide), gd_t, tn_n (j := j) (by omega), rf_texts hj, cMiss_t m1, bd_s, if_pos rfl]
      exact pF (by decide) (by decide)
    · show f_X7_code (fd h 1) _ _ = _
      unfold f_X7_code
      rw [mIsCode, bd_s, hd, if_pos rfl, mIsText, bd_s, hr, if_pos rfl, ix_n hj (by decide), gd_t, tn_n (j := j) (by omega), fd_ne (by decide) (by decide), m2, if_pos (by decide)]
      exact pM (by decide) (by decide)
  obtain ⟨g, e1, F1, g2, D1⟩ := cReads (a := 30 + 2 * j) (sh_text hj) (by omega) hC hn
  by_cases z : (rdV n f).1 = -9
  · have dr := D1 z
    have ok := rdV_ok hn z
    generalize hk : (rdV n f).2.1 = k at dr ok
    generalize hw : (rdV n f).2.2.1 = w at dr ok
    generalize hl : (rdV n f).2.2.2 = ls at dr ok
    obtain ⟨d1, d2, d3, d4, d5⟩ := dr
    have k1 := ok.1.1
    have k6 := ok.1.2.1
    generalize hy : uA (uI (uI g (56 + 2 * d) 1 (nI k)) (56 + 2 * d) 2 (nI w)) (57 + 2 * d) (va_cpy (g.1 6) (g.1 (57 + 2 * d)) 0 0 6) = y
    have yF : ∀ a, a ≠ 56 + 2 * d → a ≠ 57 + 2 * d → y.1 a = g.1 a := fun a q1 q2 => by rw [← hy, uA_ne q2, uI_ne q1, uI_ne q1]
    have y2 : y.2 = h.2 := by rw [← hy, uA_2, uI_2, uI_2, d2]
    have yC : codC y (56 + 2 * d) k w ls := by
      refine ⟨by rw [← hy, uA_ne (by omega), uI_k (by decide), uI_at], by rw [← hy, uA_ne (by omega), uI_at], fun i hi => ?_⟩
      rw [show 56 + 2 * d + 1 = 57 + 2 * d by omega, ← hy, uA_at, pk_cpy_in (by omega) (by omega), show 0 + (i - 0) = i by omega]
      exact d5 i hi
    have yM : rowM y 69 70 60 j n f := by
      unfold rowM
      rw [yF 69 (by omega) (by omega), yF 70 (by omega) (by omega), F1 69 (by decide) (by decide), F1 70 (by decide) (by decide)]
      exact hM
    obtain ⟨m, e2, F2, D2⟩ := mReads hj yM hn
    obtain ⟨_, q21, q22, q81⟩ := D2 z
    rw [hk] at q21 q22 q81
    rw [hw] at q22
    rw [hl] at q81
    generalize hp : uI (uI m 78 d (nI k)) 79 d (nI w) = p
    have pF2 : ∀ a, a ≠ 78 → a ≠ 79 → p.1 a = m.1 a := fun a q1 q2 => by rw [← hp, uI_ne q2, uI_ne q1]
    have p2 : p.2 = h.2 := by rw [← hp, uI_2, uI_2, F2.2.1, y2]
    have p21 : p.1 64 21 = nI k := by rw [pF2 64 (by decide) (by decide)]; exact q21
    have cT : f_X0_take g (56 + 2 * d) 5 = some y := by
      unfold f_X0_take
      rw [nm_v, nm_v, acp6, gd_t, nm_v, rf_Cod (sh_cod hd4), sh5, d3, uI_ne (show 5 ≠ 56 + 2 * d by omega), d4, uI_ne (by omega), uI_ne (by omega), uI_ne (by omega), uI_ne (by omega), show 56 + 2 * d + 1 = 57 + 2 * d by omega, tn_0, show ((6 : Int32).toNatClampNeg) = 6 by decide, hy]
    refine ⟨nI k, y, uA p 80 (wr (p.1 80) (6 * d) (p.1 81) k), ?_, ?_, ?_⟩
    · unfold f_X6_code
      rw [cIsCode, bd_s, hd, if_pos rfl, cIsText, bd_s, hr, if_pos rfl, ix_n hj (by decide), gd_t, tn_n (j := j) (by omega), rf_texts hj, cMiss_f hC.1 (by omega), bd_s, if_neg (by decide), gd_t, e1, bnd2_s, if_pos z, ix_n hd4 (by decide), gd_t, tn_n (j := d) (by omega), rf_codes hd4, cT, bd_s, yF 5 (by omega) (by omega), d3]
    · show f_X7_code y _ _ = _
      unfold f_X7_code
      rw [mIsCode, bd_s, hd, if_pos rfl, mIsText, bd_s, hr, if_pos rfl, ix_n hj (by decide), gd_t, tn_n (j := j) (by omega), yM.1, if_neg (nlt0 (by omega)), e2, bnd2_s, if_pos z, ix_n hd4 (by decide), gd_t, nm_v, gd_t, nm_v, tn_n (j := d) (by omega), q21, uI_ne (show 64 ≠ 78 by decide), q22 k1, hp, mCodeL hd4 k6 p21, bd_s, uA_ne (by decide), p21]
    · refine sim_codS hd4 S (fun a q1 q2 q3 => ?_) ?_ ?_ ?_ ?_ (fun a c ha hc => ?_) (fun q hq => ?_) (Or.inr ⟨k, w, ls, ok, ?_, ?_⟩)
      · rw [uA_ne (by omega), pF2 a (by omega) (by omega), F2.1 a (by omega) (by omega), yF a q1 q2, F1 a (by omega) (by omega)]
      · rw [uA_ne (by decide), uA_ne (by decide), pF2 0 (by decide) (by decide), pF2 64 (by decide) (by decide), F2.1 0 (by decide) (by decide), F2.2.2 2 (by decide) (by decide), yF 0 (by omega) (by omega), yF 64 (by omega) (by omega), F1 0 (by decide) (by decide), F1 64 (by decide) (by decide)]
        exact S.2.2.2.2.1
      · rw [uA_ne (by decide), uA_ne (by decide), pF2 0 (by decide) (by decide), pF2 64 (by decide) (by decide), F2.1 0 (by decide) (by decide), F2.2.2 0 (by decide) (by decide), yF 0 (by omega) (by omega), yF 64 (by omega) (by omega), F1 0 (by decide) (by decide), F1 64 (by decide) (by decide)]
        exact S.2.2.2.2.2.2.1.1
      · unfold SF
        rw [uA_2, p2]
        exact S.2.2.2.2.2.1
      · unfold SW
        rw [uA_2, p2]
        exact S.2.2.2.2.2.2.2
      · rcases ha with rfl | rfl
        · rw [uA_ne (by decide), ← hp, uI_ne (by decide), uI_k hc, F2.1 78 (by decide) (by decide), yF 78 (by omega) (by omega), F1 78 (by decide) (by decide)]
        · rw [uA_ne (by decide), ← hp, uI_k hc, uI_ne (by decide), F2.1 79 (by decide) (by decide), yF 79 (by omega) (by omega), F1 79 (by decide) (by decide)]
      · rw [uA_at, wr_out (by omega), pF2 80 (by decide) (by decide), F2.1 80 (by decide) (by decide), yF 80 (by omega) (by omega), F1 80 (by decide) (by decide)]
      · exact codC_of (fun b q1 q2 => by rw [uA_ne (by omega), pF2 b (by omega) (by omega), F2.1 b (by omega) (by omega)]) yC
      · refine ⟨by rw [uA_ne (by decide), ← hp, uI_ne (by decide), uI_at], by rw [uA_ne (by decide), ← hp, uI_at], fun i hi => ?_⟩
        rw [uA_at, wr_in hi, pF2 81 (by decide) (by decide)]
        exact q81 i hi
  · have gM : rowM g 69 70 60 j n f := by
      unfold rowM
      rw [F1 69 (by decide) (by decide), F1 70 (by decide) (by decide)]
      exact hM
    obtain ⟨k, e2, F2, _⟩ := mReads hj gM hn
    refine ⟨-4, g, k, ?_, ?_, ?_⟩
    · unfold f_X6_code
      rw [cIsCode, bd_s, hd, if_pos rfl, cIsText, bd_s, hr, if_pos rfl, ix_n hj (by decide), gd_t, tn_n (j := j) (by omega), rf_texts hj, cMiss_f hC.1 (by omega), bd_s, if_neg (by decide), gd_t, e1, bnd2_s, if_neg z]
    · show f_X7_code g _ _ = _
      unfold f_X7_code
      rw [mIsCode, bd_s, hd, if_pos rfl, mIsText, bd_s, hr, if_pos rfl, ix_n hj (by decide), gd_t, tn_n (j := j) (by omega), gM.1, if_neg (nlt0 (by omega)), e2, bnd2_s, if_neg z]
    · refine sim_scr S (fun a ha => ?_) ?_ ?_ ?_ ?_
      · rw [F2.1 a (by omega) (by omega), F1 a (by omega) (by omega)]
      · rw [F2.1 0 (by decide) (by decide), F2.2.2 2 (by decide) (by decide), F1 0 (by decide) (by decide), F1 64 (by decide) (by decide)]
        exact S.2.2.2.2.1
      · rw [F2.1 0 (by decide) (by decide), F2.2.2 0 (by decide) (by decide), F1 0 (by decide) (by decide), F1 64 (by decide) (by decide)]
        exact S.2.2.2.2.2.2.1.1
      · unfold SF
        rw [F2.2.1, g2]
        exact S.2.2.2.2.2.1
      · unfold SW
        rw [F2.2.1, g2]
        exact S.2.2.2.2.2.2.2
