theorem cRead_b {h : MH} {c key d m r : Int32} (bad : ¬ (inR c 6 = true ∧ inR d 4 = true ∧ inR r 6 = true ∧ btw m 0 40 = true)) : f_X6_read h c key d m r = some (-1, h) := by
  unfold f_X6_read
  rw [cIsCover, bd_s]
  cases hc : inR c 6 with
  | false => rw [if_neg (by decide)]
  | true =>
    rw [if_pos rfl, cIsCode, bd_s]
    cases hd : inR d 4 with
    | false => rw [if_neg (by decide)]
    | true =>
      rw [if_pos rfl, cIsRow, bd_s]
      cases hr : inR r 6 with
      | false => rw [if_neg (by decide)]
      | true => rw [if_pos rfl, btw_if, if_neg (fun z => bad ⟨hc, hd, hr, z⟩)]
theorem mRead_b {h : MH} {c key d m r : Int32} (bad : ¬ (inR c 6 = true ∧ inR d 4 = true ∧ inR r 6 = true ∧ btw m 0 40 = true)) : f_X7_read h c key d m r = some (-1, h) := by
  unfold f_X7_read f_X7_askedBoth
  rw [mIn, bd_s]
  cases hm : btw m 0 40 with
  | false => rw [if_neg (by decide)]
  | true =>
    rw [if_pos rfl, mIsRow, bd_s]
    cases hr : inR r 6 with
    | false => rw [if_neg (by decide)]
    | true =>
      rw [if_pos rfl, mIsCover, bd_s]
      cases hc : inR c 6 with
      | false => rw [if_neg (by decide), bnd2_s, if_pos (by decide)]
      | true =>
        rw [if_pos rfl, mIsCode, bd_s]
        cases hd : inR d 4 with
        | false => rw [if_neg (by decide), bnd2_s, if_pos (by decide)]
        | true => exact absurd ⟨hc, hd, hr, hm⟩ bad
theorem mAskBoth_m1 {h : MH} {c d : Nat} (hc : c < 6) (hd : d < 4) (e : h.1 71 c = 0) : f_X7_askedBoth h (nI c) (nI d) = f_X7_meets h (nI 1) := by
  unfold f_X7_askedBoth
  rw [mIsCover, bd_s, inR_n hc (by decide), if_pos rfl, mIsCode, bd_s, inR_n hd (by decide), if_pos rfl, ix_n hc (by decide), gd_t, tn_n (j := c) (by omega), e, if_pos rfl]
  exact pM (by decide) (by decide)
theorem mAskBoth_m2 {h : MH} {c d n : Nat} (hc : c < 6) (hd : d < 4) (e1 : h.1 71 c = nI n) (n1 : 1 ≤ n) (n2 : n ≤ 40) (e : h.1 78 d = 0) : f_X7_askedBoth h (nI c) (nI d) = f_X7_meets h (nI 1) := by
  unfold f_X7_askedBoth
  rw [mIsCover, bd_s, inR_n hc (by decide), if_pos rfl, mIsCode, bd_s, inR_n hd (by decide), if_pos rfl, ix_n hc (by decide), gd_t, tn_n (j := c) (by omega), e1, if_neg (nI0_ne n1 (by omega)), ix_n hd (by decide), gd_t, tn_n (j := d) (by omega), e, if_pos rfl]
  exact pM (by decide) (by decide)
theorem op_read {h : MH} (S : Sim h) (c key d m r : Int32) : Op (f_X6_read h c key d m r) (fun h1 => f_X7_read h1 c key d m r) := by
  by_cases bad : inR c 6 = true ∧ inR d 4 = true ∧ inR r 6 = true ∧ btw m 0 40 = true
  · obtain ⟨hc, hd, hr, hm⟩ := bad
    rcases cover_cases S.2.2.1 c with z | ⟨c, hc6, rfl, -, R1⟩
    · rw [z] at hc
      exact absurd hc (by decide)
    rcases code_cases S.2.2.2.1 d with z | ⟨d, hd4, rfl, -, R2⟩
    · rw [z] at hd
      exact absurd hd (by decide)
    obtain ⟨r, hr6, rfl⟩ := inR_t (by decide) hr
    obtain ⟨m, -, hm4, rfl⟩ := btw_N (a := 0) (b := 40) (by decide) (by decide) hm
    have pre : ∀ h1 : MH, f_X7_read h1 (nI c) key (nI d) (nI m) (nI r) = bnd2 (f_X7_askedBoth h1 (nI c) (nI d)) (fun r24 h24 => if r24 < 0 then some (r24, h24) else gd (ix (nI d) 4) (nm (nI m * (h24.1 78 (nI d).toNatClampNeg)) (fun v46 => Option.bind (f_X7_blocksOf h24 (nI c) (nI d)) (fun r53 => if r53 < nI m then bnd2 (f_X7_meets h24 2) (fun r68 h68 => some (r68, h68)) else (if 40 < v46 then bnd2 (f_X7_meets h24 2) (fun r68 h68 => some (r68, h68)) else gd (ix (nI c) 6) (Option.bind (f_X7_setOrder h24 (h24.1 71 (nI c).toNatClampNeg) key) (fun h80 => bnd2 (f_X7_row h80 (nI r) v46) (fun r88 h88 => Option.bind (f_X7_read_L95 h88 (nI c) (nI d) (nI m) (nI r) v46 0) (fun b95 => some (v46, b95)))))))))) := fun h1 => by
      unfold f_X7_read
      rw [mIn, bd_s, hm, if_pos rfl, mIsRow, bd_s, hr, if_pos rfl]
    rcases R1 with ⟨m1, m2⟩ | ⟨kd, n, ds, cs, u, wt, hKc, hC, hM⟩
    · refine op_found S (f := 1) (by decide) (by decide) ?_ ?_
      · unfold f_X6_read
        rw [cIsCover, bd_s, hc, if_pos rfl, cIsCode, bd_s, hd, if_pos rfl, cIsRow, bd_s, hr, if_pos rfl, btw_if, hm, if_pos rfl, ix_n hc6 (by decide), gd_t, ix_n hd4 (by decide), gd_t, tn_n (j := c) (by omega), rf_covers hc6, cMissC_t m1, bd_s, if_pos rfl]
        exact pF (by decide) (by decide)
      · (try dsimp only)
        rw [pre, mAskBoth_m1 hc6 hd4 (by rw [fd_ne (by decide) (by decide)]; exact m2), pB (by decide) (by decide)]
    have hn := hKc.1.2.1
    have n1 := hKc.1.1
    rcases R2 with ⟨m1, m2⟩ | ⟨k, w, ls, hK, hD, hE⟩
    · refine op_found S (f := 1) (by decide) (by decide) ?_ ?_
      · unfold f_X6_read
        rw [cIsCover, bd_s, hc, if_pos rfl, cIsCode, bd_s, hd, if_pos rfl, cIsRow, bd_s, hr, if_pos rfl, btw_if, hm, if_pos rfl, ix_n hc6 (by decide), gd_t, ix_n hd4 (by decide), gd_t, tn_n (j := c) (by omega), tn_n (j := d) (by omega), rf_covers hc6, rf_codes hd4, cMissC_f hC.2.1 n1 (by omega), bd_s, if_neg (by decide), cMissK_t m1, bd_s, if_pos rfl]
        exact pF (by decide) (by decide)
      · (try dsimp only)
        rw [pre, mAskBoth_m2 hc6 hd4 (by rw [fd_ne (by decide) (by decide)]; exact hM.2.1) n1 hn (by rw [fd_ne (by decide) (by decide)]; exact m2), pB (by decide) (by decide)]
    have k1 := hK.1.1
    have k6 := hK.1.2.1
    have w1 := hK.1.2.2.1
    have mk : m * k ≤ 40 * 6 := Nat.mul_le_mul hm4 k6
    have dv : n / w ≤ n := Nat.div_le_self n w
    by_cases big : n / w < m ∨ 40 < m * k
    · refine op_found S (f := 2) (by decide) (by decide) ?_ ?_
      · unfold f_X6_read
        rw [cIsCover, bd_s, hc, if_pos rfl, cIsCode, bd_s, hd, if_pos rfl, cIsRow, bd_s, hr, if_pos rfl, btw_if, hm, if_pos rfl, ix_n hc6 (by decide), gd_t, ix_n hd4 (by decide), gd_t, tn_n (j := c) (by omega), tn_n (j := d) (by omega), rf_covers hc6, rf_codes hd4, cMissC_f hC.2.1 n1 (by omega), bd_s, if_neg (by decide), cMissK_f hK hD, bd_s, if_neg (by decide), nm_v, cBlocks hKc hC hK hD, bd_s, hD.1, pk_mul]
        by_cases z : n / w < m
        · rw [if_pos (nI_lt z (by omega))]
          exact pF (by decide) (by decide)
        · rw [if_neg (nI_nlt (by omega) (by omega)), if_pos (show 40 < nI (m * k) from (nI_lt (show 40 < m * k by omega) (by omega) : nI 40 < nI (m * k)))]
          exact pF (by decide) (by decide)
      · (try dsimp only)
        have gM : covM (fd h 2) c kd n ds cs u wt := covM_of (fun b q1 q2 => fd_ne (by omega) (by omega)) hM
        have gE : codM (fd h 2) d k w ls := codM_of (fun b q1 q2 => fd_ne (by omega) (by omega)) hE
        rw [pre, mAskBoth_o hc6 hd4 hKc gM hK gE, bnd2_s, if_neg (by decide), ix_n hd4 (by decide), gd_t, nm_v, tn_n (j := d) (by omega), gE.1, pk_mul, mBlocks hc6 hd4 hKc gM hK gE, bd_s]
        by_cases z : n / w < m
        · rw [if_pos (nI_lt z (by omega))]
          exact pM (by decide) (by decide)
        · rw [if_neg (nI_nlt (by omega) (by omega)), if_pos (show 40 < nI (m * k) from (nI_lt (show 40 < m * k by omega) (by omega) : nI 40 < nI (m * k)))]
          exact pM (by decide) (by decide)
    have mw : m * w ≤ n := (Nat.le_div_iff_mul_le w1).mp (by omega)
    have mk4 : m * k ≤ 40 := (by omega)
    have no1 : ¬ nI (n / w) < nI m := nI_nlt (by omega) (by omega)
    have no2 : ¬ 40 < nI (m * k) := (nI_nlt (show m * k ≤ 40 by omega) (by decide) : ¬ nI 40 < nI (m * k))
    generalize hg1 : uA h 10 (wr (h.1 10) 0 (fun q => nI (ordF key n q)) n) = g1
    have F1 : ∀ a, a ≠ 10 → g1.1 a = h.1 a := fun a ha => by rw [← hg1, uA_ne ha]
    have P1 : g1.2 = h.2 := by rw [← hg1]; rfl
    have O1 : ∀ q, q < n → g1.1 10 q = nI (ordF key n q) := fun q hq => by rw [← hg1, uA_at, wr_0in hq]
    generalize hg2 : uA (uI g1 (18 + 2 * r) 1 (nI (m * k))) (19 + 2 * r) (wr (g1.1 (19 + 2 * r)) 0 (fun _ => 0) (m * k)) = g2
    have F2 : ∀ a, a ≠ 18 + 2 * r → a ≠ 19 + 2 * r → g2.1 a = g1.1 a := fun a q1 q2 => by rw [← hg2, uA_ne q2, uI_ne q1]
    have P2 : g2.2 = g1.2 := by rw [← hg2]; rfl
    have Z2 : g2.1 (18 + 2 * r) 1 = nI (m * k) := by rw [← hg2, uA_ne (by omega), uI_at]
    have gC : covC g2 (38 + 3 * c) kd n ds cs u wt := covC_of (fun b q1 q2 => by rw [F2 b (by omega) (by omega), F1 b (by omega)]) hC
    have gD : codC g2 (56 + 2 * d) k w ls := codC_of (fun b q1 q2 => by rw [F2 b (by omega) (by omega), F1 b (by omega)]) hD
    have e3 := cReadL (x8 := nI (m * k)) hc6 hd4 hr6 hKc gC hK gD (fun q hq => ⟨by rw [F2 10 (by omega) (by omega)]; exact O1 q hq, ordF_lt n1 hq⟩) mw mk4 Z2
    generalize hg3 : uA g2 (19 + 2 * r) (wr (g2.1 (19 + 2 * r)) 0 (rdN kd ds (ordF key n) ls k w) (m * k)) = g3 at e3
    have F3 : ∀ a, a ≠ 19 + 2 * r → g3.1 a = g2.1 a := fun a q1 => by rw [← hg3, uA_ne q1]
    have P3 : g3.2 = g2.2 := by rw [← hg3]; rfl
    have R3 : ∀ q, q < m * k → g3.1 (19 + 2 * r) q = rdN kd ds (ordF key n) ls k w q := fun q hq => by rw [← hg3, uA_at, wr_0in hq]
    have gM : covM g3 c kd n ds cs u wt := covM_of (fun b q1 q2 => by rw [F3 b (by omega), F2 b (by omega) (by omega), F1 b (by omega)]) hM
    have gE : codM g3 d k w ls := codM_of (fun b q1 q2 => by rw [F3 b (by omega), F2 b (by omega) (by omega), F1 b (by omega)]) hE
    have e4 := mOrder (h := g3) (key := key) n1 hn
    generalize hk1 : uA (uI g3 64 16 (keyN key (n - 1))) 77 (wr (g3.1 77) 0 (fun q => nI (ordF key n q)) n) = k1' at e4
    have G1 : ∀ a, a ≠ 64 → a ≠ 77 → k1'.1 a = g3.1 a := fun a q1 q2 => by rw [← hk1, uA_ne q2, uI_ne q1]
    have G64 : ∀ j, j ≠ 16 → k1'.1 64 j = g3.1 64 j := fun j hj => by rw [← hk1, uA_ne (by decide), uI_k hj]
    have G77 : ∀ q, q < n → k1'.1 77 q = nI (ordF key n q) := fun q hq => by rw [← hk1, uA_at, wr_0in hq]
    have Q1 : k1'.2 = g3.2 := by rw [← hk1]; rfl
    have e5 := mRow (h := k1') (n := m * k) hr6 mk4
    generalize hk2 : uA (uI k1' 66 r (nI (m * k))) 67 (wr (k1'.1 67) (40 * r) (fun _ => 0) 40) = k2 at e5
    have G2 : ∀ a, a ≠ 66 → a ≠ 67 → k2.1 a = k1'.1 a := fun a q1 q2 => by rw [← hk2, uA_ne q2, uI_ne q1]
    have Q2 : k2.2 = k1'.2 := by rw [← hk2]; rfl
    have N66 : k2.1 66 r = nI (m * k) := by rw [← hk2, uA_ne (by decide), uI_at]
    have N66o : ∀ q, q ≠ r → k2.1 66 q = k1'.1 66 q := fun q hq => by rw [← hk2, uA_ne (by decide), uI_k hq]
    have N67 : ∀ q, q < 40 * r ∨ 40 * r + 40 ≤ q → k2.1 67 q = k1'.1 67 q := fun q hq => by rw [← hk2, uA_at, wr_out hq]
    have kM : covM k2 c kd n ds cs u wt := covM_of (fun b q1 q2 => by rw [G2 b (by omega) (by omega), G1 b (by omega) (by omega)]) gM
    have kE : codM k2 d k w ls := codM_of (fun b q1 q2 => by rw [G2 b (by omega) (by omega), G1 b (by omega) (by omega)]) gE
    have e6 := mReadL (x7 := nI (m * k)) hc6 hd4 hr6 hKc kM hK kE (fun q hq => ⟨by rw [G2 77 (by decide) (by decide)]; exact G77 q hq, ordF_lt n1 hq⟩) mw mk4
    generalize hk3 : uA k2 67 (wr (k2.1 67) (40 * r) (rdN kd ds (ordF key n) ls k w) (m * k)) = k3 at e6
    have G3 : ∀ a, a ≠ 67 → k3.1 a = k2.1 a := fun a q1 => by rw [← hk3, uA_ne q1]
    have Q3 : k3.2 = k2.2 := by rw [← hk3]; rfl
    have all : k3.2 = h.2 := by rw [Q3, Q2, Q1, P3, P2, P1]
    have fr : ∀ a, a ≠ 10 → a ≠ 18 + 2 * r → a ≠ 19 + 2 * r → a ≠ 64 → a ≠ 66 → a ≠ 67 → a ≠ 77 → k3.1 a = h.1 a := fun a q1 q2 q3 q4 q5 q6 q7 => by rw [G3 a q6, G2 a q5 q6, G1 a q4 q7, F3 a q3, F2 a q2 q3, F1 a q1]
    have f64 : ∀ j, j ≠ 16 → k3.1 64 j = h.1 64 j := fun j hj => by rw [G3 64 (by decide), G2 64 (by decide) (by decide), G64 j hj, F3 64 (by omega), F2 64 (by omega) (by omega), F1 64 (by decide)]
    refine ⟨nI (m * k), g3, k3, ?_, ?_, ?_⟩
    · unfold f_X6_read
      rw [cIsCover, bd_s, hc, if_pos rfl, cIsCode, bd_s, hd, if_pos rfl, cIsRow, bd_s, hr, if_pos rfl, btw_if, hm, if_pos rfl, ix_n hc6 (by decide), gd_t, ix_n hd4 (by decide), gd_t, tn_n (j := c) (by omega), tn_n (j := d) (by omega), rf_covers hc6, rf_codes hd4, cMissC_f hC.2.1 n1 (by omega), bd_s, if_neg (by decide), cMissK_f hK hD, bd_s, if_neg (by decide), nm_v, cBlocks hKc hC hK hD, bd_s, hD.1, pk_mul, if_neg no1, if_neg no2, hC.2.1, cOrder n1 hn, bd_s, hg1, ix_n hr6 (by decide), gd_t, tn_n (j := r) (by omega), rf_rows hr6, cRenew (sh_row hr6) (by omega), bd_s, show 18 + 2 * r + 1 = 19 + 2 * r by omega, hg2, e3, bd_s]
    · (try dsimp only)
      rw [pre, mAskBoth_o hc6 hd4 hKc gM hK gE, bnd2_s, if_neg (by decide), ix_n hd4 (by decide), gd_t, nm_v, tn_n (j := d) (by omega), gE.1, pk_mul, mBlocks hc6 hd4 hKc gM hK gE, bd_s, if_neg no1, if_neg no2, ix_n hc6 (by decide), gd_t, tn_n (j := c) (by omega), gM.2.1, e4, bd_s, e5, bnd2_s, e6, bd_s]
    · refine sim_rowS hr6 S (fun a q1 q2 q3 => fr a (by omega) q1 q2 (by omega) (by omega) (by omega) (by omega)) ?_ ?_ ?_ ?_ (fun q q1 q2 => ?_) (fun q hq => ?_) (Or.inr ⟨m * k, rdN kd ds (ordF key n) ls k w, mk4, ⟨?_, fun i hi => ?_⟩, ?_, fun i hi => ?_⟩)
      · rw [fr 0 (by omega) (by omega) (by omega) (by omega) (by omega) (by omega) (by omega), f64 2 (by decide)]
        exact S.2.2.2.2.1
      · rw [fr 0 (by omega) (by omega) (by omega) (by omega) (by omega) (by omega) (by omega), f64 0 (by decide)]
        exact S.2.2.2.2.2.2.1.1
      · unfold SF
        rw [all]
        exact S.2.2.2.2.2.1
      · unfold SW
        rw [all]
        exact S.2.2.2.2.2.2.2
      · rw [G3 66 (by decide), N66o q q2, G1 66 (by decide) (by decide), F3 66 (by omega), F2 66 (by omega) (by omega), F1 66 (by decide)]
      · rw [← hk3, uA_at, wr_out (by omega), N67 q hq, G1 67 (by decide) (by decide), F3 67 (by omega), F2 67 (by omega) (by omega), F1 67 (by decide)]
      · rw [G3 _ (by omega), G2 _ (by omega) (by omega), G1 _ (by omega) (by omega), F3 _ (by omega), Z2]
      · rw [G3 _ (by omega), G2 _ (by omega) (by omega), G1 _ (by omega) (by omega), show 18 + 2 * r + 1 = 19 + 2 * r by omega, R3 i hi]
      · rw [G3 66 (by decide), N66]
      · rw [← hk3, uA_at, wr_in hi]
  · exact op_same S (cRead_b bad) (mRead_b bad)
