def fct : Nat → Nat
  | 0 => 1
  | k + 1 => (k + 1) * fct k
theorem fct_pos : ∀ k, 0 < fct k
  | 0 => show 0 < 1 by decide
  | k + 1 => Nat.mul_pos (Nat.succ_pos k) (fct_pos k)
theorem fct_le {k : Nat} (hk : k ≤ 10) : fct k ≤ 3628800 := (by decide : ∀ k, k < 11 → fct k ≤ 3628800) k (by omega)
theorem cOrders {k : Nat} (hk : k ≤ 10) : f_X6_countOrders (nI k) = some (nI (fct k)) := by
  have key : f_X6_countOrders_L4 (nI k) 1 2 = some (nI (fct k)) := by
    unfold f_X6_countOrders_L4
    by_cases k0 : k = 0
    · subst k0
      refine lpo_out ?_
      rfl
    · have key2 := lpo_for (step := fun s : Int32 × Int32 => f_X6_countOrders_B4 (nI k) s.1 s.2) (b := nI (fct (k - 1 + 1))) (fun t => (nI (fct (t + 1)), nI (t + 2))) (k - 1) (fun t ht => ?_) ?_
      · rw [show k - 1 + 1 = k by omega] at key2
        exact key2
      · (try dsimp only)
        unfold f_X6_countOrders_B4
        rw [if_neg (nI_nlt (by omega) (by omega)), if_neg (show ¬ 10 < nI (t + 2) from (nI_nlt (show t + 2 ≤ 10 by omega) (by decide) : ¬ nI 10 < nI (t + 2))), nm_v, pk_mul, nI_s, Nat.mul_comm]
        rfl
      · (try dsimp only)
        unfold f_X6_countOrders_B4
        rw [if_pos (nI_lt (by omega) (by omega))]
  unfold f_X6_countOrders
  rw [key, bd_s]
theorem mOrders {h : MH} {x1 x2 : Int32} {k : Nat} (hk1 : 1 ≤ k) (hk : k ≤ 10) : f_X7_arrange_L58 h x1 x2 (nI k) 1 2 = some (nI (fct k)) := by
  unfold f_X7_arrange_L58
  have key2 := lpo_for (step := fun s : Int32 × Int32 => f_X7_arrange_B58 h x1 x2 (nI k) s.1 s.2) (b := nI (fct (k - 1 + 1))) (fun t => (nI (fct (t + 1)), nI (t + 2))) (k - 1) (fun t ht => ?_) ?_
  · rw [show k - 1 + 1 = k by omega] at key2
    exact key2
  · (try dsimp only)
    unfold f_X7_arrange_B58
    rw [if_neg (nI_nlt (by omega) (by omega)), nm_v, pk_mul, nI_s, Nat.mul_comm]
    rfl
  · (try dsimp only)
    unfold f_X7_arrange_B58
    rw [if_pos (nI_lt (by omega) (by omega))]
def arS (S : Nat → Nat) (n R : Nat) : Nat → (Nat → Nat) × Nat
  | 0 => (S, R)
  | i + 1 => (bfN (arS S n R i).1 (i + (arS S n R i).2 / fct (n - 1 - i)) i, (arS S n R i).2 % fct (n - 1 - i))
theorem ar_left {S : Nat → Nat} {n R : Nat} (hR : R < fct n) : ∀ {i : Nat}, i ≤ n → (arS S n R i).2 < fct (n - i)
  | 0, _ => hR
  | i + 1, h => by
    show (arS S n R i).2 % fct (n - 1 - i) < fct (n - (i + 1))
    rw [show n - (i + 1) = n - 1 - i by omega]
    exact Nat.mod_lt _ (fct_pos _)
theorem ar_at {S : Nat → Nat} {n R i : Nat} (hR : R < fct n) (hi : i < n) : (arS S n R i).2 / fct (n - 1 - i) < n - i := by
  have l := ar_left (S := S) hR (show i ≤ n by omega)
  rw [show n - i = (n - 1 - i) + 1 by omega] at l ⊢
  exact (Nat.div_lt_iff_lt_mul (fct_pos _)).mpr l
theorem ar_le {S : Nat → Nat} {n R b : Nat} (hR : R < fct n) (hb : ∀ q, q < n → S q ≤ b) : ∀ {i : Nat}, i ≤ n → ∀ q, q < n → (arS S n R i).1 q ≤ b
  | 0, _ => hb
  | i + 1, h => by
    have z := ar_at (S := S) hR (show i < n by omega)
    exact bf_le (n := n) (Nat.le_add_right i _) (by omega) (ar_le hR hb (by omega))
section ARRANGE
variable {h g : MH} {a c n R : Nat} {S : Nat → Nat}
theorem cArrL (ha : shp a = (1, 0)) (e : g.1 a 3 = nI n) (hn : n ≤ 10) (hR : R < fct n) (hD : dotsC g a n S h) : ∃ h2, f_X6_arrange_L87 h a (nI R) 0 = some h2 ∧ dotsC g a n (arS S n R n).1 h2 := by
  have key := lpo_ind (step := fun s : Int32 × Int32 × MH => f_X6_arrange_B87 s.2.2 a s.1 s.2.1) (fun i s => s.1 = nI (arS S n R i).2 ∧ s.2.1 = nI i ∧ dotsC g a n (arS S n R i).1 s.2.2) (fun h2 => dotsC g a n (arS S n R n).1 h2) n 0 (nI R, 0, h) ⟨rfl, rfl, hD⟩ (fun i s hi I => ?_) (fun s I => ?_)
  · exact key
  · obtain ⟨s1, s2, s3⟩ := s
    obtain ⟨e1, e2, d⟩ := I
    have e1 : s1 = nI (arS S n R i).2 := e1
    have e2 : s2 = nI i := e2
    have d : dotsC g a n (arS S n R i).1 s3 := d
    subst e1
    subst e2
    have z := ar_at (S := S) hR (show i < n by omega)
    have l := ar_left (S := S) hR (show i ≤ n by omega)
    have f1 := fct_le (k := n - i) (by omega)
    have f2 := fct_le (k := n - 1 - i) (by omega)
    have f3 := fct_pos (n - 1 - i)
    have e71 : s3.1 a 3 = nI n := by rw [d.1 a (by omega)]; exact e
    obtain ⟨h3, e3, d3⟩ := cForward (i := i + (arS S n R i).2 / fct (n - 1 - i)) (t := i) ha e (by omega) (by omega) (Nat.le_add_right i _) d
    refine ⟨(nI (arS S n R (i + 1)).2, nI (i + 1), h3), ?_, rfl, rfl, d3⟩
    (try dsimp only)
    unfold f_X6_arrange_B87
    rw [e71, if_pos (nI_lt (by omega) (by omega)), show nI n - 1 = nI (n - 1) from nIsub (b := 1) (by omega), nIsub (by omega), cOrders (by omega), bd_s, max1 f3 (by omega), bd_s, N_nz f3 (by omega), gd_t, pk_div (by omega) f3 (by omega), nI_add, e3, bd_s, gd_t, nm_v, N_rem (by omega) f3 (by omega), nI_s]
    rfl
  · obtain ⟨s1, s2, s3⟩ := s
    obtain ⟨e1, e2, d⟩ := I
    have e2 : s2 = nI (0 + n) := e2
    have d9 : dotsC g a n (arS S n R (0 + n)).1 s3 := d
    rw [Nat.zero_add] at e2 d9
    subst e2
    have e71 : s3.1 a 3 = nI n := by rw [d9.1 a (by omega)]; exact e
    refine ⟨s3, ?_, d9⟩
    (try dsimp only)
    unfold f_X6_arrange_B87
    rw [e71, if_neg (nI_nlt (Nat.le_refl _) (by omega))]
theorem mArr157 {x1 x5 x6 x7 : Int32} {i u : Nat} (hn : n ≤ 10) (hi : i < n) (hu : u < n - i) : f_X7_arrange_L157 h x1 (nI n) x5 x6 x7 (nI i) (nI u) = some (uA h 68 (fun k => if u ≤ k ∧ k < n - 1 - i then h.1 68 (k + 1) else h.1 68 k)) := by
  unfold f_X7_arrange_L157
  have key := lpo_for (step := fun s : Int32 × MH => f_X7_arrange_B157 s.2 x1 (nI n) x5 x6 x7 (nI i) s.1) (b := uA h 68 (fun k => if u ≤ k ∧ k < u + (n - 1 - i - u) then h.1 68 (k + 1) else h.1 68 k)) (fun j => (nI (u + j), uA h 68 (fun k => if u ≤ k ∧ k < u + j then h.1 68 (k + 1) else h.1 68 k))) (n - 1 - i - u) (fun j hj => ?_) ?_
  · rw [show u + (n - 1 - i - u) = n - 1 - i by omega] at key
    rw [show (nI u, h) = (nI (u + 0), uA h 68 (fun k => if u ≤ k ∧ k < u + 0 then h.1 68 (k + 1) else h.1 68 k)) by rw [uA_id (fun k => by rw [if_neg (by omega)])]; rfl]
    exact key
  · (try dsimp only)
    unfold f_X7_arrange_B157
    rw [show nI n - 1 = nI (n - 1) from nIsub (b := 1) (by omega), nIsub (by omega), if_pos (nI_lt (by omega) (by omega)), nI_s, ix_n (by omega) (by decide), gd_t, ix_n (by omega) (by decide), gd_t, nm_v, tn_n (by omega), tn_n (by omega), uA_at, uI_asA, uA_uA, uA_at]
    rw [if_neg (show ¬ (u ≤ u + j + 1 ∧ u + j + 1 < u + j) by omega)]
    congr 4
    funext k
    unfold upd
    by_cases z : k = u + j
    · rw [if_pos z, if_pos (by omega), z]
    · rw [if_neg z]
      (try dsimp only)
      by_cases y : u ≤ k ∧ k < u + j
      · rw [if_pos y, if_pos (by omega)]
      · rw [if_neg y, if_neg (by omega)]
  · (try dsimp only)
    unfold f_X7_arrange_B157
    rw [show nI n - 1 = nI (n - 1) from nIsub (b := 1) (by omega), nIsub (by omega), if_neg (nI_nlt (by omega) (by omega))]
/-- the reference's rooms while it arranges -/
def arrM (g : MH) (c n : Nat) (D : Nat → Nat) (i : Nat) (h : MH) : Prop := (∀ b, b ≠ 68 → b ≠ 73 → h.1 b = g.1 b) ∧ h.2 = g.2 ∧ (∀ q, q < 40 * c ∨ 40 * c + 40 ≤ q → h.1 73 q = g.1 73 q) ∧ (∀ q, q < i → h.1 73 (40 * c + q) = nI (D q)) ∧ ∀ k, k < n - i → h.1 68 k = nI (D (i + k))
theorem mArrL {x6 : Int32} (hc : c < 6) (hn : n ≤ 10) (hR : R < fct n) (hm : mv68 g h) (h68 : ∀ p, p < n → h.1 68 p = nI (S p)) : ∃ h2, f_X7_arrange_L103 h (nI c) (nI n) (nI (fct n)) x6 (nI R) 0 = some h2 ∧ arrM g c n (arS S n R n).1 n h2 := by
  have key := lpo_ind (step := fun s : Int32 × Int32 × Int32 × MH => f_X7_arrange_B103 s.2.2.2 (nI c) (nI n) s.1 x6 s.2.1 s.2.2.1) (fun i s => s.1 = nI (fct (n - i)) ∧ s.2.1 = nI (arS S n R i).2 ∧ s.2.2.1 = nI i ∧ arrM g c n (arS S n R i).1 i s.2.2.2) (fun h2 => arrM g c n (arS S n R n).1 n h2) n 0 (nI (fct n), nI R, 0, h) ⟨rfl, rfl, rfl, fun b h1 _ => hm.1 b h1, hm.2, fun q _ => by rw [hm.1 73 (by decide)], fun q hq => absurd hq (Nat.not_lt_zero _), fun k hk => by rw [h68 k (by omega), Nat.zero_add]; rfl⟩ (fun i s hi I => ?_) (fun s I => ?_)
  · exact key
  · obtain ⟨s1, s2, s3, s4⟩ := s
    obtain ⟨e1, e2, e3, d1, d2, d3, d4, d5⟩ := I
    have e1 : s1 = nI (fct (n - i)) := e1
    have e2 : s2 = nI (arS S n R i).2 := e2
    have e3 : s3 = nI i := e3
    subst e1
    subst e2
    subst e3
    have z := ar_at (S := S) hR (show i < n by omega)
    have l := ar_left (S := S) hR (show i ≤ n by omega)
    have f1 := fct_le (k := n - i) (by omega)
    have f2 := fct_le (k := n - 1 - i) (by omega)
    have f3 := fct_pos (n - 1 - i)
    have fe : fct (n - i) / (n - i) = fct (n - 1 - i) := by
      rw [show n - i = (n - 1 - i) + 1 by omega]
      show ((n - 1 - i) + 1) * fct (n - 1 - i) / ((n - 1 - i) + 1) = _
      rw [Nat.mul_div_cancel_left _ (Nat.succ_pos _)]
    generalize hu : (arS S n R i).2 / fct (n - 1 - i) = u at z
    have eD : (arS S n R (i + 1)).1 = bfN (arS S n R i).1 (i + u) i := by rw [← hu]; rfl
    have d5u := d5 u (by omega)
    have d5u : s4.1 68 u = nI ((arS S n R i).1 (i + u)) := d5u
    generalize hk : uI s4 73 (40 * c + i) (nI ((arS S n R i).1 (i + u))) = k4
    have k68 : k4.1 68 = s4.1 68 := by rw [← hk, uI_ne (by decide)]
    refine ⟨(nI (fct (n - (i + 1))), nI (arS S n R (i + 1)).2, nI (i + 1), uA k4 68 (fun k => if u ≤ k ∧ k < n - 1 - i then k4.1 68 (k + 1) else k4.1 68 k)), ?_, rfl, rfl, rfl, fun b h1 h2 => ?_, ?_, fun q hq => ?_, fun q hq => ?_, fun q hq => ?_⟩
    · (try dsimp only)
      unfold f_X7_arrange_B103
      rw [if_pos (nI_lt (by omega) (by omega)), nIsub (by omega), N_nz (by omega) (by omega), gd_t, nm_v, pk_div (by omega) (by omega) (by omega), fe, N_nz f3 (by omega), gd_t, nm_v, gd_t, nm_v, pk_div (by omega) f3 (by omega), hu, N_rem (by omega) f3 (by omega), ix_n (by omega) (by decide), gd_t, lin40, ix_n (by omega) (by decide), gd_t, nm_v, tn_n (by omega), tn_n (by omega), d5u, hk, mArr157 hn (by omega) z, bd_s, nI_s, show n - (i + 1) = n - 1 - i by omega]
      rfl
    · show (uA k4 68 _).1 b = g.1 b
      rw [uA_ne h1, ← hk, uI_ne h2]
      exact d1 b h1 h2
    · show (uA k4 68 _).2 = g.2
      rw [uA_2, ← hk, uI_2]
      exact d2
    · show (uA k4 68 _).1 73 q = g.1 73 q
      rw [uA_ne (by decide), ← hk, uI_k (by omega)]
      exact d3 q hq
    · show (uA k4 68 _).1 73 (40 * c + q) = _
      rw [uA_ne (by decide), ← hk, eD]
      unfold bfN
      by_cases y : q = i
      · rw [y, uI_at, if_pos rfl]
      · rw [uI_k (by omega), if_neg y, if_neg (by omega)]
        exact d4 q (by omega)
    · show (uA k4 68 _).1 68 q = _
      rw [uA_at, eD, k68]
      unfold bfN
      by_cases y : u ≤ q ∧ q < n - 1 - i
      · rw [if_pos y, if_neg (by omega), if_neg (by omega)]
        have := d5 (q + 1) (by omega)
        rw [show i + 1 + q = i + (q + 1) by omega]
        exact this
      · rw [if_neg y, if_neg (by omega), if_pos (by omega)]
        have := d5 q (by omega)
        rw [show i + 1 + q - 1 = i + q by omega]
        exact this
  · obtain ⟨s1, s2, s3, s4⟩ := s
    obtain ⟨e1, e2, e3, d⟩ := I
    have e3 : s3 = nI (0 + n) := e3
    have d9 : arrM g c n (arS S n R (0 + n)).1 (0 + n) s4 := d
    rw [Nat.zero_add] at e3 d9
    subst e3
    refine ⟨s4, ?_, d9⟩
    (try dsimp only)
    unfold f_X7_arrange_B103
    rw [if_neg (nI_nlt (Nat.le_refl _) (by omega))]
end ARRANGE
theorem op_arrange {h : MH} (S : Sim h) (c y : Int32) : Op (f_X6_arrange h c y) (fun h1 => f_X7_arrange h1 c y) := by
  by_cases y0 : y < 0
  · refine op_same S (v := -1) ?_ ?_
    · unfold f_X6_arrange
      rw [cIsCover, bd_s, if_pos y0]
      cases inR c 6 <;> rfl
    · show f_X7_arrange h _ _ = _
      unfold f_X7_arrange
      rw [if_pos y0]
  · obtain ⟨R, hR31, rfl⟩ := nI_of y0
    rcases cover_cases S.2.2.1 c with hc | ⟨c, hc6, rfl, hc, ⟨m1, m2⟩ | ⟨kd, n, ds, cs, w, wt, hK, hC, hM⟩⟩
    · exact op_same S (v := -1) (by unfold f_X6_arrange; rw [cIsCover, bd_s, hc, if_neg (by decide)]) (by show f_X7_arrange h _ _ = _; unfold f_X7_arrange; rw [if_neg y0, mAskCov_b hc, bnd2_s, if_pos (by decide)])
    · refine op_found S (f := 1) (by decide) (by decide) ?_ ?_
      · unfold f_X6_arrange
        rw [cIsCover, bd_s, hc, if_pos rfl, if_neg y0, ix_n hc6 (by decide), gd_t, tn_n (by omega), rf_covers hc6, cMissC_t m1, bd_s, if_pos rfl]
        exact pF (by decide) (by decide)
      · show f_X7_arrange (fd h 1) _ _ = _
        unfold f_X7_arrange
        rw [if_neg y0, mAskCov_m hc6 (by rw [fd_ne (by decide) (by decide)]; exact m2), pB (by decide) (by decide)]
    · have hn := hK.1.2.1
      have hn1 := hK.1.1
      have hk4 := hK.1.2.2.1
      by_cases k4 : kd = 4
      · subst k4
        have k4p : nI 4 = 4 := rfl
        by_cases n10 : 10 < n
        · refine op_same S (v := -6) ?_ ?_
          · unfold f_X6_arrange
            rw [cIsCover, bd_s, hc, if_pos rfl, if_neg y0, ix_n hc6 (by decide), gd_t, tn_n (by omega), rf_covers hc6, cMissC_f hC.2.1 hK.1.1 (by omega), bd_s, if_neg (by decide), hC.1, if_pos k4p, hC.2.1, if_pos (show 10 < nI n from (nI_lt n10 (by omega) : nI 10 < nI n))]
          · show f_X7_arrange h _ _ = _
            unfold f_X7_arrange
            rw [if_neg y0, mAskCov_o (n := n) hc6 hM.2.1 hK.1.1 (by omega), bnd2_s, if_neg (by decide), ix_n hc6 (by decide), gd_t, gd_t, tn_n (by omega), hM.1, if_pos k4p, hM.2.1, nm_v, if_pos (show 10 < nI n from (nI_lt n10 (by omega) : nI 10 < nI n))]
        · have n10n : ¬ 10 < nI n := (nI_nlt (show n ≤ 10 by omega) (by decide) : ¬ nI 10 < nI n)
          have fl := fct_le (k := n) (by omega)
          by_cases hR : R < fct n
          · obtain ⟨h3, T, e3, d3, b3, c3⟩ := cSort (sh_cov hc6) hK hC
            obtain ⟨g, e4, d4⟩ := cArrL (R := R) (sh_cov hc6) hC.2.1 (by omega) hR d3
            have gM : covM g c 4 n ds cs w wt := covM_of (fun b q1 q2 => d4.1 b (by omega)) hM
            obtain ⟨k, e5, m5, p5⟩ := mInto hc6 hK gM c3
            obtain ⟨m, e6, d6⟩ := mArrL (x6 := 1) (R := R) hc6 (by omega) hR m5 p5
            have bl := ar_le hR b3 (Nat.le_refl n)
            generalize (arS T n R n).1 = D at d4 d6 bl
            obtain ⟨z1, z2, z3, z4, z5⟩ := d6
            refine ⟨1, g, m, ?_, ?_, ?_⟩
            · unfold f_X6_arrange
              rw [cIsCover, bd_s, hc, if_pos rfl, if_neg y0, ix_n hc6 (by decide), gd_t, tn_n (by omega), rf_covers hc6, cMissC_f hC.2.1 hK.1.1 (by omega), bd_s, if_neg (by decide), hC.1, if_pos k4p, hC.2.1, if_neg n10n, cOrders (by omega), bd_s, if_pos (nI_lt hR (by omega)), e3, bd_s, e4, bd_s]
            · show f_X7_arrange g _ _ = _
              unfold f_X7_arrange
              rw [if_neg y0, mAskCov_o (n := n) hc6 gM.2.1 hK.1.1 (by omega), bnd2_s, if_neg (by decide), ix_n hc6 (by decide), gd_t, gd_t, tn_n (by omega), gM.1, if_pos k4p, gM.2.1, nm_v, if_neg n10n, mOrders hn1 (by omega), bd_s, if_pos (nI_lt hR (by omega)), e5, bnd2_s, e6, bd_s]
            · refine sim_covS hc6 S (fun a q1 q2 => ?_) ?_ ?_ ?_ ?_ (fun a d ha hd => ?_) (fun a q ha hq => ?_) (Or.inr ⟨4, n, D, cs, w, wt, ?_, ?_, ?_⟩)
              · rw [z1 a (by omega) (by omega), d4.1 a (by omega)]
              · rw [z1 0 (by decide) (by decide), z1 64 (by decide) (by decide), d4.1 0 (by omega), d4.1 64 (by omega)]
                exact S.2.2.2.2.1
              · rw [z1 0 (by decide) (by decide), z1 64 (by decide) (by decide), d4.1 0 (by omega), d4.1 64 (by omega)]
                exact S.2.2.2.2.2.2.1.1
              · unfold SF
                rw [z2, d4.2.1]
                exact S.2.2.2.2.2.1
              · unfold SW
                rw [z2, d4.2.1]
                exact S.2.2.2.2.2.2.2
              · rw [z1 a (by omega) (by omega), d4.1 a (by omega)]
              · rcases ha with rfl | rfl
                · rw [z3 q hq, d4.1 73 (by omega)]
                · rw [z1 74 (by decide) (by decide), d4.1 74 (by omega)]
              · exact ⟨hK.1, bl, fun z => absurd z (by decide), hK.2.2.2⟩
              · refine ⟨?_, ?_, ?_, ?_, fun i hi => ⟨?_, ?_⟩⟩
                · rw [z1 _ (by omega) (by omega), d4.1 _ (by omega)]
                  exact hC.1
                · rw [z1 _ (by omega) (by omega), d4.1 _ (by omega)]
                  exact hC.2.1
                · rw [z1 _ (by omega) (by omega), d4.1 _ (by omega)]
                  exact hC.2.2.1
                · rw [z1 _ (by omega) (by omega), d4.1 _ (by omega)]
                  exact hC.2.2.2.1
                · rw [z1 _ (by omega) (by omega)]
                  exact d4.2.2 i hi
                · rw [z1 _ (by omega) (by omega), d4.1 _ (by omega)]
                  exact (hC.2.2.2.2 i hi).2
              · refine ⟨?_, ?_, fun z => absurd z (by decide), ?_, fun i hi => ⟨z4 i hi, fun z => absurd z (by decide)⟩⟩
                · rw [z1 _ (by omega) (by omega)]
                  exact gM.1
                · rw [z1 _ (by omega) (by omega)]
                  exact gM.2.1
                · rw [z1 _ (by omega) (by omega)]
                  exact gM.2.2.2.1
          · refine op_found S (f := 2) (by decide) (by decide) ?_ ?_
            · unfold f_X6_arrange
              rw [cIsCover, bd_s, hc, if_pos rfl, if_neg y0, ix_n hc6 (by decide), gd_t, tn_n (by omega), rf_covers hc6, cMissC_f hC.2.1 hK.1.1 (by omega), bd_s, if_neg (by decide), hC.1, if_pos k4p, hC.2.1, if_neg n10n, cOrders (by omega), bd_s, if_neg (nI_nlt (by omega) (by omega))]
              exact pF (by decide) (by decide)
            · show f_X7_arrange (fd h 2) _ _ = _
              have hM2 : covM (fd h 2) c 4 n ds cs w wt := covM_of (fun b q1 q2 => fd_ne (by omega) (by omega)) hM
              unfold f_X7_arrange
              rw [if_neg y0, mAskCov_o (n := n) hc6 hM2.2.1 hK.1.1 (by omega), bnd2_s, if_neg (by decide), ix_n hc6 (by decide), gd_t, gd_t, tn_n (by omega), hM2.1, if_pos k4p, hM2.2.1, nm_v, if_neg n10n, mOrders hn1 (by omega), bd_s, if_neg (nI_nlt (by omega) (by omega))]
              exact pM (by decide) (by decide)
      · have k4n : ¬ nI kd = 4 := fun z => k4 ((nI_eq (b := 4) (by omega) (by decide)).mp z)
        refine op_found S (f := 3) (by decide) (by decide) ?_ ?_
        · unfold f_X6_arrange
          rw [cIsCover, bd_s, hc, if_pos rfl, if_neg y0, ix_n hc6 (by decide), gd_t, tn_n (by omega), rf_covers hc6, cMissC_f hC.2.1 hK.1.1 (by omega), bd_s, if_neg (by decide), hC.1, if_neg k4n]
          exact pF (by decide) (by decide)
        · show f_X7_arrange (fd h 3) _ _ = _
          have hM2 : covM (fd h 3) c kd n ds cs w wt := covM_of (fun b q1 q2 => fd_ne (by omega) (by omega)) hM
          unfold f_X7_arrange
          rw [if_neg y0, mAskCov_o (n := n) hc6 hM2.2.1 hK.1.1 (by omega), bnd2_s, if_neg (by decide), ix_n hc6 (by decide), gd_t, tn_n (by omega), hM2.1, if_neg k4n]
          exact pM (by decide) (by decide)
