def OpN (a : Option (Int32 × MH)) (b : MH → Option (Int32 × MH)) : Prop := ∃ (v : Int32) (h1 h2 : MH), a = some (v, h1) ∧ b h1 = some (v, h2) ∧ Sim h2 ∧ v < 0
theorem opn_found {h : MH} (S : Sim h) {f : Nat} (h1 : 1 ≤ f) (h5 : f ≤ 5) {a : Option (Int32 × MH)} {b : MH → Option (Int32 × MH)} (ea : a = f_X6_found h (nI f)) (eb : b (fd h f) = f_X7_meets (fd h f) (nI f)) : OpN a b :=
  ⟨-3, fd h f, mt (fd h f) f, by rw [ea, cFound h1 h5], by rw [eb, mMeets h1 h5], sim_found S h1 h5, (by decide)⟩
theorem cPlan_b {h : MH} {c key d r : Int32} (bad : ¬ (inR c 6 = true ∧ inR d 4 = true ∧ inR r 6 = true)) : f_X6_plan h c key d r = some (-1, h) := by
  unfold f_X6_plan
  rw [cIsCover, bd_s]
  cases hc : inR c 6 with
  | false => rw [if_neg (by decide)]
  | true =>
    rw [if_pos rfl, cIsCode, bd_s]
    cases hd : inR d 4 with
    | false => rw [if_neg (by decide)]
    | true =>
      rw [if_pos rfl, cIsRow, bd_s]
      cases hr : inR r 6 with
      | false => rw [if_neg (by decide)]
      | true => exact absurd ⟨hc, hd, hr⟩ bad
theorem mWorks_b {h : MH} {c key d r : Int32} (bad : ¬ (inR c 6 = true ∧ inR d 4 = true ∧ inR r 6 = true)) : f_X7_works h c key d r = some (-1, h) := by
  unfold f_X7_works
  rw [mIsCover, bd_s]
  cases hc : inR c 6 with
  | false => rw [if_neg (by decide)]
  | true =>
    rw [if_pos rfl, mIsCode, bd_s]
    cases hd : inR d 4 with
    | false => rw [if_neg (by decide)]
    | true =>
      rw [if_pos rfl, mIsRow, bd_s]
      cases hr : inR r 6 with
      | false => rw [if_neg (by decide)]
      | true => exact absurd ⟨hc, hd, hr⟩ bad
def pnF (h k : MH) : Prop := k.2 = h.2 ∧ ∀ a, a ≠ 9 → a ≠ 10 → a ≠ 11 → a ≠ 12 → a ≠ 13 → k.1 a = h.1 a
def wkF (h k : MH) : Prop := k.2 = h.2 ∧ (∀ a, a ≠ 64 → a ≠ 68 → a ≠ 77 → a ≠ 82 → k.1 a = h.1 a) ∧ ∀ j, j ≠ 16 → j ≠ 25 → j ≠ 26 → k.1 64 j = h.1 64 j
def rfE (h k : MH) : Prop := ∀ a, 66 ≤ a → a ≤ 80 → a ≠ 68 → a ≠ 77 → k.1 a = h.1 a
/-- a plan that both find -/
def Plan (h : MH) (c key d r : Int32) : Prop := ∃ (cc dd kd n u wt k w m v : Nat) (ds cs ls O W : Nat → Nat) (g : MH), c = nI cc ∧ d = nI dd ∧ cc < 6 ∧ dd < 4 ∧ covK kd n ds cs u wt ∧ covC h (38 + 3 * cc) kd n ds cs u wt ∧ covM h cc kd n ds cs u wt ∧ codK k w ls ∧ codC h (56 + 2 * dd) k w ls ∧ codM h dd k w ls ∧ f_X6_plan h c key d r = some (nI v, g) ∧ v ≤ 1000000 ∧ pnF h g ∧ (∀ q, q < n → g.1 10 q = nI (O q) ∧ O q < n) ∧ (∀ p q, p < n → q < n → O p = O q → p = q) ∧ m ≤ 40 ∧ m * w ≤ n ∧ g.1 9 4 = nI m ∧ (∀ b, b < m → g.1 13 b = nI (W b) ∧ W b < 2 ^ w) ∧ ∀ h1, rfE h h1 → ∃ e, f_X7_works h1 c key d r = some (nI v, e) ∧ wkF h1 e ∧ e.1 64 25 = nI (sumN (fun b => csT (fun _ => 1) (W b) w) m) ∧ ∀ x, x < 40 → e.1 82 x = nI (if flT O (gB W w) (m * w) x = true then 1 else 0)
theorem plan_cases {h : MH} (S : Sim h) (c key d r : Int32) : OpN (f_X6_plan h c key d r) (fun h1 => f_X7_works h1 c key d r) ∨ Plan h c key d r := by
  by_cases bad : inR c 6 = true ∧ inR d 4 = true ∧ inR r 6 = true
  · obtain ⟨hc, hd, hr⟩ := bad
    rcases cover_cases S.2.2.1 c with z | ⟨c, hc6, rfl, -, R1⟩
    · rw [z] at hc
      exact absurd hc (by decide)
    rcases code_cases S.2.2.2.1 d with z | ⟨d, hd4, rfl, -, R2⟩
    · rw [z] at hd
      exact absurd hd (by decide)
    rcases row_cases S.1 r with z | ⟨r, hr6, rfl, -, R3⟩
    · rw [z] at hr
      exact absurd hr (by decide)
    rcases R1 with ⟨m1, m2⟩ | ⟨kd, n, ds, cs, u, wt, hKc, hC, hM⟩
    · refine Or.inl (opn_found S (f := 1) (by decide) (by decide) ?_ ?_)
      · unfold f_X6_plan
        rw [cIsCover, bd_s, hc, if_pos rfl, cIsCode, bd_s, hd, if_pos rfl, cIsRow, bd_s, hr, if_pos rfl, ix_n hc6 (by decide), gd_t, ix_n hd4 (by decide), gd_t, ix_n hr6 (by decide), gd_t, tn_n (j := c) (by omega), rf_covers hc6, cMissC_t m1, bd_s, if_pos rfl]
        exact pF (by decide) (by decide)
      · (try dsimp only)
        have m3 : (fd h 1).1 71 c = 0 := by rw [fd_ne (by decide) (by decide)]; exact m2
        unfold f_X7_works
        rw [mIsCover, bd_s, hc, if_pos rfl, mIsCode, bd_s, hd, if_pos rfl, mIsRow, bd_s, hr, if_pos rfl, ix_n hc6 (by decide), gd_t, tn_n (j := c) (by omega), m3, if_pos rfl]
        exact pM (by decide) (by decide)
    have hn := hKc.1.2.1
    have n1 := hKc.1.1
    rcases R2 with ⟨m1, m2⟩ | ⟨k, w, ls, hK, hD, hE⟩
    · refine Or.inl (opn_found S (f := 1) (by decide) (by decide) ?_ ?_)
      · unfold f_X6_plan
        rw [cIsCover, bd_s, hc, if_pos rfl, cIsCode, bd_s, hd, if_pos rfl, cIsRow, bd_s, hr, if_pos rfl, ix_n hc6 (by decide), gd_t, ix_n hd4 (by decide), gd_t, ix_n hr6 (by decide), gd_t, tn_n (j := c) (by omega), tn_n (j := d) (by omega), rf_covers hc6, rf_codes hd4, cMissC_f hC.2.1 n1 (by omega), bd_s, if_neg (by decide), cMissK_t m1, bd_s, if_pos rfl]
        exact pF (by decide) (by decide)
      · (try dsimp only)
        have m3 : (fd h 1).1 71 c = nI n := by rw [fd_ne (by decide) (by decide)]; exact hM.2.1
        have m4 : (fd h 1).1 78 d = 0 := by rw [fd_ne (by decide) (by decide)]; exact m2
        unfold f_X7_works
        rw [mIsCover, bd_s, hc, if_pos rfl, mIsCode, bd_s, hd, if_pos rfl, mIsRow, bd_s, hr, if_pos rfl, ix_n hc6 (by decide), gd_t, tn_n (j := c) (by omega), m3, if_neg (nI0_ne n1 (by omega)), ix_n hd4 (by decide), gd_t, tn_n (j := d) (by omega), m4, if_pos rfl]
        exact pM (by decide) (by decide)
    have k1 := hK.1.1
    have k6 := hK.1.2.1
    have w1 := hK.1.2.2.1
    have w12 := hK.1.2.2.2
    have p12 := pw12 w12
    have dv : n / w ≤ n := Nat.div_le_self n w
    have pre : ∀ h1 : MH, h1.1 71 c = nI n → h1.1 78 d = nI k → f_X7_works h1 (nI c) key (nI d) (nI r) = (if (h1.1 66 r) < 0 then bnd2 (f_X7_meets h1 1) (fun r54 h54 => some (r54, h54)) else (if (irm (h1.1 66 r) (nI k)) = 0 then Option.bind (f_X7_works_L91 h1 (nI c) key (nI d) (nI r) (nI k) 1 0) (fun b91 => (if b91 = 0 then bnd2 (f_X7_meets h1 3) (fun r144 h144 => some (r144, h144)) else (Option.bind (f_X7_blocksOf h1 (nI c) (nI d)) (fun r160 => (if (nI k * r160) < (h1.1 66 r) then bnd2 (f_X7_meets h1 2) (fun r169 h169 => some (r169, h169)) else (Option.bind (f_X7_setOrder h1 (nI n) key) (fun h181 => nm (uI h181 64 25 0) (fun h186 => nm (uI h186 64 26 0) (fun h191 => Option.bind (f_X7_works_L197 h191 (nI c) (nI d) (nI r) (nI k) 0) (fun b197 => Option.bind (f_X7_works_L221 b197 (nI c) (nI d) (nI r) (nI k) 0) (Sum.elim (fun b221 => some ((b221.1 64 26), b221)) (fun r => some r)))))))))))) else bnd2 (f_X7_meets h1 5) (fun r81 h81 => some (r81, h81)))) := fun h1 q1 q2 => by
      unfold f_X7_works
      rw [mIsCover, bd_s, hc, if_pos rfl, mIsCode, bd_s, hd, if_pos rfl, mIsRow, bd_s, hr, if_pos rfl, ix_n hc6 (by decide), gd_t, tn_n (j := c) (by omega), q1, if_neg (nI0_ne n1 (by omega)), ix_n hd4 (by decide), gd_t, tn_n (j := d) (by omega), q2, if_neg (nI0_ne k1 (by omega)), ix_n hr6 (by decide), gd_t, gd_t, nm_v, gd_t, N_nz k1 (by omega), gd_t, gd_t, gd_t, tn_n (j := r) (by omega)]
    have preC : f_X6_plan h (nI c) key (nI d) (nI r) = Option.bind (f_X5_isMissing h (18 + 2 * r)) (fun r70 => (if r70 = true then bnd2 (f_X6_found h 1) (fun r78 h78 => some (r78, h78)) else (if (irm (h.1 (18 + 2 * r) 1) (nI k)) = 0 then Option.bind (f_X5_isWithin h (18 + 2 * r) 0 1) (fun r106 => (if r106 = true then (if (nI k * nI (n / w)) < (h.1 (18 + 2 * r) 1) then bnd2 (f_X6_found h 2) (fun r141 h141 => some (r141, h141)) else Option.bind (f_X3_orderBy h key (nI n)) (fun h155 => bnd2 (f_X3_planAll h155 (38 + 3 * c) (56 + 2 * d) (18 + 2 * r)) (fun r168 h168 => some (r168, h168)))) else bnd2 (f_X6_found h 3) (fun r114 h114 => some (r114, h114)))) else bnd2 (f_X6_found h 5) (fun r98 h98 => some (r98, h98))))) := by
      unfold f_X6_plan
      rw [cIsCover, bd_s, hc, if_pos rfl, cIsCode, bd_s, hd, if_pos rfl, cIsRow, bd_s, hr, if_pos rfl, ix_n hc6 (by decide), gd_t, ix_n hd4 (by decide), gd_t, ix_n hr6 (by decide), gd_t, tn_n (j := c) (by omega), tn_n (j := d) (by omega), tn_n (j := r) (by omega), rf_covers hc6, rf_codes hd4, rf_rows hr6, cMissC_f hC.2.1 n1 (by omega), bd_s, if_neg (by decide), cMissK_f hK hD, bd_s, if_neg (by decide), hD.1, N_nz k1 (by omega), gd_t, cBlocks hKc hC hK hD, bd_s, hC.2.1]
    have fM : ∀ f : Nat, (fd h f).1 71 c = nI n := fun f => by rw [fd_ne (by decide) (by decide)]; exact hM.2.1
    have fE : ∀ f : Nat, (fd h f).1 78 d = nI k := fun f => by rw [fd_ne (by decide) (by decide)]; exact hE.1
    rcases R3 with ⟨m1, m2⟩ | ⟨N, f, hN, hR, hQ⟩
    · refine Or.inl (opn_found S (f := 1) (by decide) (by decide) ?_ ?_)
      · rw [preC, cMiss_t m1, bd_s, if_pos rfl]
        exact pF (by decide) (by decide)
      · (try dsimp only)
        have m3 : (fd h 1).1 66 r = -9 := by rw [fd_ne (by decide) (by decide)]; exact m2
        rw [pre _ (fM 1) (fE 1), m3, if_pos (by decide)]
        exact pM (by decide) (by decide)
    have fQ : ∀ x : Nat, rowM (fd h x) 66 67 40 r N f := fun x => rowM_of (fd_ne (by decide) (by decide)) (fd_ne (by decide) (by decide)) hQ
    have nn : ¬ nI N < 0 := nlt0 (show N ≤ 1000000 by omega)
    have rm : irm (nI N) (nI k) = nI (N % k) := N_rem (by omega) k1 (by omega)
    have rl : N % k < k := Nat.mod_lt N k1
    by_cases z0 : ¬ N % k = 0
    · have zn : ¬ nI (N % k) = 0 := nI0_ne (by omega) (by omega)
      refine Or.inl (opn_found S (f := 5) (by decide) (by decide) ?_ ?_)
      · rw [preC, cMiss_f hR.1 (by omega), bd_s, if_neg (by decide), hR.1, rm, if_neg zn]
        exact pF (by decide) (by decide)
      · (try dsimp only)
        rw [pre _ (fM 5) (fE 5), (fQ 5).1, if_neg nn, rm, if_neg zn]
        exact pM (by decide) (by decide)
    have z0 : N % k = 0 := (by omega)
    have zy : nI (N % k) = 0 := by rw [z0]; rfl
    cases ab : allB (fun i => btw (f i) 0 1) N with
    | false =>
      refine Or.inl (opn_found S (f := 3) (by decide) (by decide) ?_ ?_)
      · rw [preC, cMiss_f hR.1 (by omega), bd_s, if_neg (by decide), hR.1, rm, if_pos zy, cWithin (sh_row hr6) hR (by omega), bd_s, ab, if_neg (by decide)]
        exact pF (by decide) (by decide)
      · (try dsimp only)
        rw [pre _ (fM 3) (fE 3), (fQ 3).1, if_neg nn, rm, if_pos zy, mBits hr6 hN (fQ 3), bd_s, ab, if_pos (show b2i false = 0 from rfl)]
        exact pM (by decide) (by decide)
    | true =>
      have kn : k * (n / w) ≤ 6 * 40 := Nat.mul_le_mul k6 (by omega)
      by_cases big : k * (n / w) < N
      · refine Or.inl (opn_found S (f := 2) (by decide) (by decide) ?_ ?_)
        · rw [preC, cMiss_f hR.1 (by omega), bd_s, if_neg (by decide), hR.1, rm, if_pos zy, cWithin (sh_row hr6) hR (by omega), bd_s, ab, if_pos rfl, pk_mul, if_pos (nI_lt big (by omega))]
          exact pF (by decide) (by decide)
        · (try dsimp only)
          have gM : covM (fd h 2) c kd n ds cs u wt := covM_of (fun b q1 q2 => fd_ne (by omega) (by omega)) hM
          have gE : codM (fd h 2) d k w ls := codM_of (fun b q1 q2 => fd_ne (by omega) (by omega)) hE
          rw [pre _ (fM 2) (fE 2), (fQ 2).1, if_neg nn, rm, if_pos zy, mBits hr6 hN (fQ 2), bd_s, ab, if_neg (show ¬ b2i true = 0 from (by decide)), mBlocks hc6 hd4 hKc gM hK gE, bd_s, pk_mul, if_pos (nI_lt big (by omega))]
          exact pM (by decide) (by decide)
      · have nb : ¬ nI (k * (n / w)) < nI N := nI_nlt (by omega) (by omega)
        have ek : N / k * k = N := Nat.div_mul_cancel (Nat.dvd_of_mod_eq_zero z0)
        generalize em : N / k = m at ek
        have mk4 : m * k ≤ 40 := (by omega)
        have m40 : m ≤ 40 := Nat.le_trans (Nat.le_mul_of_pos_right m k1) mk4
        have mn : m ≤ n / w := Nat.le_of_mul_le_mul_left (show k * m ≤ k * (n / w) by rw [Nat.mul_comm k m]; omega) k1
        have mw : m * w ≤ n := (Nat.le_div_iff_mul_le w1).mp mn
        have fB : ∀ i, i < N → f i = rowB (fun i => decide (f i = 1)) i := fun i hi => by
          obtain ⟨x, -, hx, q⟩ := btw_N (a := 0) (b := 1) (by decide) (by decide) (allB_t.mp ab i hi)
          show f i = nI (if decide (f i = 1) = true then 1 else 0)
          rw [q]
          have : x = 0 ∨ x = 1 := (by omega)
          rcases this with rfl | rfl
          · rfl
          · rfl
        have hR2 : rowC h (18 + 2 * r) (m * k) (rowB (fun i => decide (f i = 1))) := ⟨by rw [ek]; exact hR.1, fun i hi => by rw [hR.2 i (by omega)]; exact fB i (by omega)⟩
        have hQ2 : ∀ h1, rfE h h1 → rowM h1 66 67 40 r (m * k) (rowB (fun i => decide (f i = 1))) := fun h1 E => ⟨by rw [ek, E 66 (by decide) (by decide) (by decide) (by decide)]; exact hQ.1, fun i hi => by rw [E 67 (by decide) (by decide) (by decide) (by decide), hQ.2 i (by omega)]; exact fB i (by omega)⟩
        generalize (fun i => decide (f i = 1)) = B at hR2 hQ2
        have inj : ∀ p q, p < n → q < n → ordF key n p = ordF key n q → p = q := fun p q hp hq z => ordF_inj n1 hp hq z
        have ol : ∀ q, q < n → ordF key n q < n := fun q hq => ordF_lt n1 hq
        generalize hg1 : uA h 10 (wr (h.1 10) 0 (fun q => nI (ordF key n q)) n) = g1
        have F1 : ∀ a, a ≠ 10 → g1.1 a = h.1 a := fun a ha => by rw [← hg1, uA_ne ha]
        have P1 : g1.2 = h.2 := by rw [← hg1]; rfl
        have O1 : ∀ q, q < n → g1.1 10 q = nI (ordF key n q) := fun q hq => by rw [← hg1, uA_at, wr_0in hq]
        have wk : ∀ h1, rfE h h1 → ∃ e0, (∃ x, f_X7_works_L221 e0 (nI c) (nI d) (nI r) (nI k) 0 = some x ∧ f_X7_works h1 (nI c) key (nI d) (nI r) = (Sum.elim (fun b221 => some ((b221.1 64 26), b221)) (fun r => some r)) x) ∧ wkF h1 e0 ∧ ((∃ g, f_X7_works_L221 e0 (nI c) (nI d) (nI r) (nI k) 0 = some (Sum.inr (-9, g)) ∧ hdF e0 g ∧ ∃ b, b < m ∧ cB kd n ds cs u wt (ordF key n) ls k w B b = 1000000) ∨ ∃ g, f_X7_works_L221 e0 (nI c) (nI d) (nI r) (nI k) 0 = some (Sum.inl g) ∧ hdF e0 g ∧ (∀ b, b < m → cB kd n ds cs u wt (ordF key n) ls k w B b ≠ 1000000) ∧ g.1 64 25 = nI (sumN (fun b => csT (fun _ => 1) (wB kd n ds cs u wt (ordF key n) ls k w B b) w) m) ∧ g.1 64 26 = nI (sumN (cB kd n ds cs u wt (ordF key n) ls k w B) m) ∧ ∀ x, x < 40 → g.1 82 x = nI (if flT (ordF key n) (gB (wB kd n ds cs u wt (ordF key n) ls k w B) w) (m * w) x = true then 1 else 0)) := fun h1 E => by
          have gM : covM h1 c kd n ds cs u wt := covM_of (fun b q1 q2 => E b (by omega) (by omega) (by omega) (by omega)) hM
          have gE : codM h1 d k w ls := codM_of (fun b q1 q2 => E b (by omega) (by omega) (by omega) (by omega)) hE
          have gQ := hQ2 h1 E
          have gq : rowM h1 66 67 40 r N f := rowM_of (E 66 (by decide) (by decide) (by decide) (by decide)) (E 67 (by decide) (by decide) (by decide) (by decide)) hQ
          have e1 := mOrder (h := h1) (key := key) n1 hn
          generalize hk1 : uA (uI h1 64 16 (keyN key (n - 1))) 77 (wr (h1.1 77) 0 (fun q => nI (ordF key n q)) n) = k1' at e1
          have G1 : ∀ a, a ≠ 64 → a ≠ 77 → k1'.1 a = h1.1 a := fun a q1 q2 => by rw [← hk1, uA_ne q2, uI_ne q1]
          have G64 : ∀ j, j ≠ 16 → k1'.1 64 j = h1.1 64 j := fun j hj => by rw [← hk1, uA_ne (by decide), uI_k hj]
          have G77 : ∀ q, q < n → k1'.1 77 q = nI (ordF key n q) := fun q hq => by rw [← hk1, uA_at, wr_0in hq]
          have Q1 : k1'.2 = h1.2 := by rw [← hk1]; rfl
          have e2 := mClear (h := uI (uI k1' 64 25 0) 64 26 0) (x1 := nI c) (x3 := nI d) (x4 := nI r) (x5 := nI k)
          generalize hk2 : uA (uI (uI k1' 64 25 0) 64 26 0) 82 (wr ((uI (uI k1' 64 25 0) 64 26 0).1 82) 0 (fun _ => 0) 40) = e0 at e2
          have G2 : ∀ a, a ≠ 64 → a ≠ 82 → e0.1 a = k1'.1 a := fun a q1 q2 => by rw [← hk2, uA_ne q2, uI_ne q1, uI_ne q1]
          have H64 : ∀ j, j ≠ 25 → j ≠ 26 → e0.1 64 j = k1'.1 64 j := fun j q1 q2 => by rw [← hk2, uA_ne (by decide), uI_k q2, uI_k q1]
          have H25 : e0.1 64 25 = 0 := by rw [← hk2, uA_ne (by decide), uI_k (by decide), uI_at]
          have H26 : e0.1 64 26 = 0 := by rw [← hk2, uA_ne (by decide), uI_at]
          have H82 : ∀ x, x < 40 → e0.1 82 x = 0 := fun x hx => by rw [← hk2, uA_at, wr_0in hx]
          have Q2 : e0.2 = k1'.2 := by rw [← hk2]; rfl
          have fr : ∀ a, a ≠ 64 → a ≠ 77 → a ≠ 82 → e0.1 a = h1.1 a := fun a q1 q2 q3 => by rw [G2 a q1 q3, G1 a q1 q2]
          have gM2 : covM e0 c kd n ds cs u wt := covM_of (fun b q1 q2 => fr b (by omega) (by omega) (by omega)) gM
          have gE2 : codM e0 d k w ls := codM_of (fun b q1 q2 => fr b (by omega) (by omega) (by omega)) gE
          have gQ3 : rowM e0 66 67 40 r (m * k) (rowB B) := rowM_of (fr 66 (by decide) (by decide) (by decide)) (fr 67 (by decide) (by decide) (by decide)) gQ
          have R := mWorksL (O := ordF key n) hc6 hd4 hr6 hKc gM2 hK gE2 gQ3 (fun q hq => ⟨by rw [G2 77 (by decide) (by decide)]; exact G77 q hq, ol q hq⟩) mk4 mw H25 H26 H82
          refine ⟨e0, ?_, ⟨by rw [Q2, Q1], fun a q1 q2 q3 q4 => fr a q1 q3 q4, fun j q1 q2 q3 => by rw [H64 j q2 q3, G64 j q1]⟩, R⟩
          have ex : ∃ x, f_X7_works_L221 e0 (nI c) (nI d) (nI r) (nI k) 0 = some x := by
            rcases R with ⟨g, q, -⟩ | ⟨g, q, -⟩
            · exact ⟨_, q⟩
            · exact ⟨_, q⟩
          obtain ⟨x, e3⟩ := ex
          refine ⟨x, e3, ?_⟩
          rw [pre _ gM.2.1 gE.1, gq.1, if_neg nn, rm, if_pos zy, mBits hr6 hN gq, bd_s, ab, if_neg (show ¬ b2i true = 0 from (by decide)), mBlocks hc6 hd4 hKc gM hK gE, bd_s, pk_mul, if_neg nb, e1, bd_s, nm_v, nm_v, e2, bd_s, e3, bd_s]
        have gC : covC g1 (38 + 3 * c) kd n ds cs u wt := covC_of (fun b q1 q2 => F1 b (by omega)) hC
        have gD : codC g1 (56 + 2 * d) k w ls := codC_of (fun b q1 q2 => F1 b (by omega)) hD
        have gR : rowC g1 (18 + 2 * r) (m * k) (rowB B) := ⟨by rw [F1 _ (by omega)]; exact hR2.1, fun i hi => by rw [F1 _ (by omega)]; exact hR2.2 i hi⟩
        obtain ⟨v, g2, e2, P2, R⟩ := cPlanAll (O := ordF key n) hc6 hd4 hr6 hKc gC hK gD gR (fun q hq => ⟨O1 q hq, ol q hq⟩) mk4 mw
        have eC : f_X6_plan h (nI c) key (nI d) (nI r) = some (v, g2) := by
          rw [preC, cMiss_f hR.1 (by omega), bd_s, if_neg (by decide), hR.1, rm, if_pos zy, cWithin (sh_row hr6) hR (by omega), bd_s, ab, if_pos rfl, pk_mul, if_neg nb, cOrder n1 hn, bd_s, hg1, e2, bnd2_s]
        have pn : pnF h g2 := ⟨by rw [P2.1, P1], fun a q1 q2 q3 q4 q5 => by rw [P2.2 a q1 q3 q4 q5, F1 a q2]⟩
        rcases R with ⟨rfl, b0, hb0, z⟩ | ⟨rfl, ok, e94, J⟩
        · left
          obtain ⟨e0, ⟨x, e3, e4⟩, W0, R⟩ := wk g2 (fun a q1 q2 q3 q4 => pn.2 a (by omega) (by omega) (by omega) (by omega) (by omega))
          rcases R with ⟨g, q, H, -⟩ | ⟨g, q, H, no, -⟩
          · rw [q] at e3
            have ex : Sum.inr (-9, g) = x := Option.some.inj e3
            rw [← ex] at e4
            have e5 : f_X7_works g2 (nI c) key (nI d) (nI r) = some (-9, g) := e4
            have fr : ∀ a, a ≠ 9 → a ≠ 10 → a ≠ 11 → a ≠ 12 → a ≠ 13 → a ≠ 64 → a ≠ 68 → a ≠ 77 → a ≠ 82 → g.1 a = h.1 a := fun a q1 q2 q3 q4 q5 q6 q7 q8 q9 => by rw [H.2.1 a q6 q7 q9, W0.2.1 a q6 q7 q8 q9, pn.2 a q1 q2 q3 q4 q5]
            have f64 : ∀ j, j ≠ 16 → j ≠ 25 → j ≠ 26 → g.1 64 j = h.1 64 j := fun j q1 q2 q3 => by rw [H.2.2 j q2 q3, W0.2.2 j q1 q2 q3, pn.2 64 (by decide) (by decide) (by decide) (by decide) (by decide)]
            have al : g.2 = h.2 := by rw [H.1, W0.1, pn.1]
            refine ⟨-9, g2, g, eC, e5, sim_scr S (fun a ha => fr a (by omega) (by omega) (by omega) (by omega) (by omega) (by omega) (by omega) (by omega) (by omega)) ?_ ?_ ?_ ?_, (by decide)⟩
            · rw [fr 0 (by omega) (by omega) (by omega) (by omega) (by omega) (by omega) (by omega) (by omega) (by omega), f64 2 (by decide) (by decide) (by decide)]
              exact S.2.2.2.2.1
            · rw [fr 0 (by omega) (by omega) (by omega) (by omega) (by omega) (by omega) (by omega) (by omega) (by omega), f64 0 (by decide) (by decide) (by decide)]
              exact S.2.2.2.2.2.2.1.1
            · unfold SF
              rw [al]
              exact S.2.2.2.2.2.1
            · unfold SW
              rw [al]
              exact S.2.2.2.2.2.2.2
          · exact absurd z (no b0 hb0)
        · right
          have cb : ∀ b, b < m → cB kd n ds cs u wt (ordF key n) ls k w B b ≤ 12000 := fun b hb => by
            have b1 : (b + 1) * w ≤ m * w := Nat.mul_le_mul_right w hb
            have f1 : (b + 1) * w = b * w + w := Nat.succ_mul b w
            have q := ((dp_ok hKc hK ol (show b * w + w ≤ n by omega) (tgB kd ds (ordF key n) ls k w B b)).1 (ok b hb)).2.2
            have c1 := cs_le (pr := prB kd n ds cs u (ordF key n) w b) (s := wB kd n ds cs u wt (ordF key n) ls k w B b) (j := w) (fun q hq => (price_N hKc (ol (b * w + q) (by omega))).2)
            have q2 : csT (prB kd n ds cs u (ordF key n) w b) (wB kd n ds cs u wt (ordF key n) ls k w B b) w = cB kd n ds cs u wt (ordF key n) ls k w B b := q
            omega
          have sb := sumN_le (g := cB kd n ds cs u wt (ordF key n) ls k w B) (b := 12000) (n := m) cb
          refine ⟨c, d, kd, n, u, wt, k, w, m, sumN (cB kd n ds cs u wt (ordF key n) ls k w B) m, ds, cs, ls, ordF key n, wB kd n ds cs u wt (ordF key n) ls k w B, g2, rfl, rfl, hc6, hd4, hKc, hC, hM, hK, hD, hE, eC, (by omega), pn, fun q hq => ⟨by rw [P2.2 10 (by decide) (by decide) (by decide) (by decide)]; exact O1 q hq, ol q hq⟩, inj, m40, mw, e94, fun b hb => ⟨J b hb, ?_⟩, fun h1 E => ?_⟩
          · have b1 : (b + 1) * w ≤ m * w := Nat.mul_le_mul_right w hb
            have f1 : (b + 1) * w = b * w + w := Nat.succ_mul b w
            exact w_lt hKc hK ol (by omega) (ok b hb)
          · obtain ⟨e0, ⟨x, e3, e4⟩, W0, R⟩ := wk h1 E
            rcases R with ⟨g, q, H, b0, hb0, z⟩ | ⟨g, q, H, no, E25, E26, E82⟩
            · exact absurd z (ok b0 hb0)
            · rw [q] at e3
              have ex : Sum.inl g = x := Option.some.inj e3
              rw [← ex] at e4
              have e5 : f_X7_works h1 (nI c) key (nI d) (nI r) = some (g.1 64 26, g) := e4
              rw [E26] at e5
              exact ⟨g, e5, ⟨by rw [H.1, W0.1], fun a q1 q2 q3 q4 => by rw [H.2.1 a q1 q2 q4, W0.2.1 a q1 q2 q3 q4], fun j q1 q2 q3 => by rw [H.2.2 j q2 q3, W0.2.2 j q1 q2 q3]⟩, E25, E82⟩
  · exact Or.inl ⟨-1, h, h, cPlan_b bad, mWorks_b bad, S, (by decide)⟩
