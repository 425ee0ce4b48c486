/-! the order that a key gives -/
def swapO (O : Nat → Nat) (i j : Nat) : Nat → Nat := fun q => if q = j then O i else if q = i then O j else O q
def ordS (key : Int32) (n : Nat) : Nat → Nat → Nat
  | 0 => fun q => q
  | t + 1 => swapO (ordS key n t) (n - 1 - t) (keyB (keyN key (t + 1)) % (n - 1 - t + 1))
def ordF (key : Int32) (n : Nat) : Nat → Nat := ordS key n (n - 1)
theorem ordS_lt {key : Int32} {n : Nat} (h1 : 1 ≤ n) : ∀ (t q : Nat), q < n → ordS key n t q < n
  | 0, q, hq => hq
  | t + 1, q, hq => by
    have l := Nat.mod_lt (keyB (keyN key (t + 1))) (show n - 1 - t + 1 > 0 by omega)
    show swapO _ _ _ q < n
    unfold swapO
    split
    · exact ordS_lt h1 t _ (by omega)
    · split
      · exact ordS_lt h1 t _ (by omega)
      · exact ordS_lt h1 t q hq
theorem ordS_inj {key : Int32} {n : Nat} (h1 : 1 ≤ n) : ∀ (t p q : Nat), p < n → q < n → ordS key n t p = ordS key n t q → p = q
  | 0, p, q, _, _, e => e
  | t + 1, p, q, hp, hq, e => by
    have l := Nat.mod_lt (keyB (keyN key (t + 1))) (show n - 1 - t + 1 > 0 by omega)
    have ih := ordS_inj (key := key) h1 t
    have e : swapO (ordS key n t) (n - 1 - t) (keyB (keyN key (t + 1)) % (n - 1 - t + 1)) p = swapO (ordS key n t) (n - 1 - t) (keyB (keyN key (t + 1)) % (n - 1 - t + 1)) q := e
    generalize keyB (keyN key (t + 1)) % (n - 1 - t + 1) = j at e l
    unfold swapO at e
    split at e
    · split at e
      · omega
      · split at e
        · have := ih _ _ (by omega) (by omega) e
          omega
        · have := ih _ _ (by omega) (by omega) e
          omega
    · split at e
      · split at e
        · have := ih _ _ (by omega) (by omega) e
          omega
        · split at e
          · omega
          · have := ih _ _ (by omega) (by omega) e
            omega
      · split at e
        · have := ih _ _ (by omega) (by omega) e
          omega
        · split at e
          · have := ih _ _ (by omega) (by omega) e
            omega
          · exact ih _ _ (by omega) (by omega) e
theorem ordF_lt {key : Int32} {n q : Nat} (h1 : 1 ≤ n) (hq : q < n) : ordF key n q < n := ordS_lt h1 _ q hq
theorem ordF_inj {key : Int32} {n p q : Nat} (h1 : 1 ≤ n) (hp : p < n) (hq : q < n) (e : ordF key n p = ordF key n q) : p = q := ordS_inj h1 _ p q hp hq e
theorem wr_swap {h : MH} {a n i j : Nat} {f : Nat → Int32} {O : Nat → Nat} (hi : i < n) (hj : j < n) : uI (uI (uA h a (wr f 0 (fun q => nI (O q)) n)) a i (nI (O j))) a j (nI (O i)) = uA h a (wr f 0 (fun q => nI (swapO O i j q)) n) := by
  rw [uI_asA, uI_asA, uA_uA, uA_at, uA_uA, uA_at]
  congr 1
  funext q
  unfold upd wr swapO
  by_cases h1 : q = j
  · rw [if_pos h1, if_pos (by omega)]
    dsimp only
    rw [if_pos (show q - 0 = j by omega)]
  · rw [if_neg h1]
    by_cases h2 : q = i
    · rw [if_pos h2, if_pos (by omega)]
      dsimp only
      rw [if_neg (show ¬ q - 0 = j by omega), if_pos (show q - 0 = i by omega)]
    · rw [if_neg h2]
      by_cases h3 : 0 ≤ q ∧ q < 0 + n
      · rw [if_pos h3, if_pos h3]
        dsimp only
        rw [if_neg (show ¬ q - 0 = j by omega), if_neg (show ¬ q - 0 = i by omega)]
      · rw [if_neg h3, if_neg h3]
theorem wr_0in {f g : Nat → Int32} {n i : Nat} (h : i < n) : wr f 0 g n i = g i := by
  have := wr_in (f := f) (g := g) (b := 0) h
  rwa [Nat.zero_add] at this
theorem wr_0s {h : MH} {a i : Nat} {f g : Nat → Int32} {v : Int32} (hv : v = g i) : uI (uA h a (wr f 0 g i)) a i v = uA h a (wr f 0 g (i + 1)) := by
  have := wr_s (h := h) (a := a) (b := 0) (i := i) (f := f) hv
  rwa [Nat.zero_add] at this
theorem nI_dn {p : Nat} (h : 0 < p) : nI p + (-1) = nI (p - 1) := sb_m1 h
theorem cOrder {h : MH} {key : Int32} {n : Nat} (h1 : 1 ≤ n) (hn : n ≤ 40) : f_X3_orderBy h key (nI n) = some (uA h 10 (wr (h.1 10) 0 (fun q => nI (ordF key n q)) n)) := by
  have e1 : f_X3_orderBy_L13 h key (nI n) 0 = some (uA h 10 (wr (h.1 10) 0 (fun q => nI q) n)) := by
    unfold f_X3_orderBy_L13
    rw [show ((0 : Int32), h) = (nI 0, uA h 10 (wr (h.1 10) 0 (fun q => nI q) 0)) by rw [wr_0]; rfl]
    refine lpo_for (fun i => (nI i, uA h 10 (wr (h.1 10) 0 (fun q => nI q) i))) n (fun i hi => ?_) ?_
    · (try dsimp only)
      unfold f_X3_orderBy_B13
      rw [if_pos (nI_lt hi (by omega)), ix_n (by omega) (by decide), gd_t, nm_v, tn_n (by omega), nI_s, wr_0s rfl]
    · (try dsimp only)
      unfold f_X3_orderBy_B13
      rw [if_neg (nI_nlt (Nat.le_refl _) (by omega))]
  have e2 : f_X3_orderBy_L42 (uA h 10 (wr (h.1 10) 0 (fun q => nI q) n)) key (nI (n - 1)) = some (uA h 10 (wr (h.1 10) 0 (fun q => nI (ordF key n q)) n)) := by
    unfold f_X3_orderBy_L42
    have key2 := lpo_for (step := fun s : Int32 × Int32 × MH => f_X3_orderBy_B42 s.2.2 s.1 s.2.1) (b := uA h 10 (wr (h.1 10) 0 (fun q => nI (ordS key n (n - 1) q)) n)) (fun t => (keyN key t, nI (n - 1 - t), uA h 10 (wr (h.1 10) 0 (fun q => nI (ordS key n t q)) n))) (n - 1) (fun t ht => ?_) ?_
    · exact key2
    · (try dsimp only)
      have l := Nat.mod_lt (keyB (keyN key (t + 1))) (show n - 1 - t + 1 > 0 by omega)
      have l2 := keyB_lt (keyN key (t + 1))
      unfold f_X3_orderBy_B42
      rw [cNext, bd_s, show nxtK (keyN key t) = keyN key (t + 1) from rfl, cBits, bd_s, nI_s, N_nz (by omega) (by omega), gd_t, nm_v, N_rem (by omega) (by omega) (by omega), ix_n (show n - 1 - t < 40 by omega) (by decide), gd_t, nm_v, ix_n (show keyB (keyN key (t + 1)) % (n - 1 - t + 1) < 40 by omega) (by decide), gd_t, gd_t, nm_v, gd_t, nm_v, tn_n (by omega), tn_n (by omega), uA_at, wr_0in (show n - 1 - t < n by omega), wr_0in (show keyB (keyN key (t + 1)) % (n - 1 - t + 1) < n by omega), wr_swap (by omega) (by omega), nI_dn (by omega), if_neg (show ¬ nI (n - 1 - t) < 1 from (nI_nlt (show 1 ≤ n - 1 - t by omega) (by omega) : ¬ nI (n - 1 - t) < nI 1))]
      rfl
    · (try dsimp only)
      unfold f_X3_orderBy_B42
      rw [show n - 1 - (n - 1) = 0 by omega, if_pos (by decide)]
  unfold f_X3_orderBy
  rw [min40 hn, bd_s, e1, bd_s, nm_v, show nI n - 1 = nI (n - 1) from nIsub (b := 1) h1, e2, bd_s]
theorem mOrder {h : MH} {key : Int32} {n : Nat} (h1 : 1 ≤ n) (hn : n ≤ 40) : f_X7_setOrder h (nI n) key = some (uA (uI h 64 16 (keyN key (n - 1))) 77 (wr (h.1 77) 0 (fun q => nI (ordF key n q)) n)) := by
  have e1 : ∀ g : MH, f_X7_setOrder_L7 g (nI n) 0 = some (uA g 77 (wr (g.1 77) 0 (fun q => nI q) n)) := fun g => by
    unfold f_X7_setOrder_L7
    rw [show ((0 : Int32), g) = (nI 0, uA g 77 (wr (g.1 77) 0 (fun q => nI q) 0)) by rw [wr_0]; rfl]
    refine lpo_for (fun i => (nI i, uA g 77 (wr (g.1 77) 0 (fun q => nI q) i))) n (fun i hi => ?_) ?_
    · (try dsimp only)
      unfold f_X7_setOrder_B7
      rw [if_pos (nI_lt hi (by omega)), ix_n (by omega) (by decide), gd_t, nm_v, tn_n (by omega), nI_s, wr_0s rfl]
    · (try dsimp only)
      unfold f_X7_setOrder_B7
      rw [if_neg (nI_nlt (Nat.le_refl _) (by omega))]
  have cm : ∀ (g : MH) (f : Nat → Int32) (x y : Int32), uI (uA (uI g 64 16 x) 77 f) 64 16 y = uA (uI g 64 16 y) 77 f := fun g f x y => by
    unfold uA uI
    congr 1
    funext b j
    by_cases q : b = 77
    · simp [q]
    · by_cases z : b = 64 ∧ j = 16 <;> simp [q, z]
  have e2 : f_X7_setOrder_L29 (uA (uI h 64 16 key) 77 (wr (h.1 77) 0 (fun q => nI q) n)) (nI (n - 1)) = some (uA (uI h 64 16 (keyN key (n - 1))) 77 (wr (h.1 77) 0 (fun q => nI (ordF key n q)) n)) := by
    unfold f_X7_setOrder_L29
    have key2 := lpo_for (step := fun s : Int32 × MH => f_X7_setOrder_B29 s.2 s.1) (b := uA (uI h 64 16 (keyN key (n - 1))) 77 (wr (h.1 77) 0 (fun q => nI (ordS key n (n - 1) q)) n)) (fun t => (nI (n - 1 - t), uA (uI h 64 16 (keyN key t)) 77 (wr (h.1 77) 0 (fun q => nI (ordS key n t q)) n))) (n - 1) (fun t ht => ?_) ?_
    · exact key2
    · (try dsimp only)
      have l := Nat.mod_lt (keyB (keyN key (t + 1))) (show n - 1 - t + 1 > 0 by omega)
      have l2 := keyB_lt (keyN key (t + 1))
      unfold f_X7_setOrder_B29
      rw [if_pos (show 0 < nI (n - 1 - t) from (nI_lt (show 0 < n - 1 - t by omega) (by omega) : nI 0 < nI (n - 1 - t))), nI_s, mDraw (by omega) (by omega), bnd2_s, uA_ne (by decide), uI_at, show nxtK (keyN key t) = keyN key (t + 1) from rfl, cm, ix_n (show n - 1 - t < 40 by omega) (by decide), gd_t, nm_v, ix_n (show keyB (keyN key (t + 1)) % (n - 1 - t + 1) < 40 by omega) (by decide), gd_t, gd_t, nm_v, gd_t, nm_v, tn_n (by omega), tn_n (by omega), uA_at, wr_0in (show n - 1 - t < n by omega), wr_0in (show keyB (keyN key (t + 1)) % (n - 1 - t + 1) < n by omega), wr_swap (by omega) (by omega), nI_dn (by omega)]
      rfl
    · (try dsimp only)
      unfold f_X7_setOrder_B29
      rw [show n - 1 - (n - 1) = 0 by omega, if_neg (by decide)]
  unfold f_X7_setOrder
  rw [nm_v, e1, bd_s, nm_v, show nI n - 1 = nI (n - 1) from nIsub (b := 1) h1, uI_ne (by decide), e2, bd_s]
theorem cPlaceAt {h : MH} {i : Nat} (hi : i < 40) : f_X3_placeAt h (nI i) = some (h.1 10 i) := by
  unfold f_X3_placeAt
  simp (disch := omega) only [bd_w, bnd2_w, gd_w, nm_w, ix_n, tn_n, lin40, lin60, nI_s, nI_add, N_lt, N_eq, N_ltK, K_ltN, N_eqK, K_eqN, N_addK, K_addN, pk_mul, N_mulK, K_mulN, pk_sub, N_subK, pk_div, N_divK, N_rem, N_remK, N_nz, cIsRow, cIsText, cIsCover, cIsCode, mIsRow, mIsText, mIsCover, mIsCode, mIn, inR_d, btw_K, dec_t, dec_f, rf_rows, rf_texts, rf_covers, rf_codes, Bool.false_eq_true, eq_self, if_true, if_false, Nat.add_zero, Nat.zero_add, if_pos, if_neg, nlt0]
theorem op_place {h : MH} (S : Sim h) (c key x : Int32) : Op (f_X6_place h c key x) (fun h1 => f_X7_place h1 c key x) := by
    rcases cover_cases S.2.2.1 c with hc | ⟨c, hc6, rfl, hc, ⟨m1, m2⟩ | ⟨kd, n, ds, cs, w, wt, hK, hC, hM⟩⟩
    · exact op_same S (v := -1) (by unfold f_X6_place; rw [cIsCover, bd_s, hc, if_neg (by decide)]) (by show f_X7_place h _ _ _ = _; unfold f_X7_place; rw [mAskCov_b hc, bnd2_s, if_pos (by decide)])
    · refine op_found S (f := 1) (by decide) (by decide) ?_ ?_
      · unfold f_X6_place
        rw [cIsCover, bd_s, hc, if_pos rfl, ix_n hc6 (by decide), gd_t, tn_n (by omega), rf_covers hc6, cMissC_t m1, bd_s, if_pos rfl]
        exact pF (by decide) (by decide)
      · show f_X7_place (fd h 1) _ _ _ = _
        unfold f_X7_place
        rw [mAskCov_m hc6 (by rw [fd_ne (by decide) (by decide)]; exact m2), pB (by decide) (by decide)]
    · have hn := hK.1.2.1
      have hn1 := hK.1.1
      cases hx : inR x n with
      | false =>
        refine op_found S (f := 2) (by decide) (by decide) ?_ ?_
        · unfold f_X6_place
          rw [cIsCover, bd_s, hc, if_pos rfl, ix_n hc6 (by decide), gd_t, tn_n (by omega), rf_covers hc6, cMissC_f hC.2.1 hK.1.1 (by omega), bd_s, if_neg (by decide), cHasC hC.2.1, bd_s, hx, if_neg (by decide)]
          exact pF (by decide) (by decide)
        · show f_X7_place (fd h 2) _ _ _ = _
          have e71 : (fd h 2).1 71 c = nI n := by rw [fd_ne (by decide) (by decide)]; exact hM.2.1
          unfold f_X7_place
          rw [mAskCov_o (n := n) hc6 e71 hK.1.1 (by omega), bnd2_s, if_neg (by decide), ix_n hc6 (by decide), gd_t, tn_n (by omega), e71, mIn, bd_s, btw_pred (by omega), hx, if_neg (by decide)]
          exact pM (by decide) (by decide)
      | true =>
        obtain ⟨i, hi, rfl⟩ := inR_t (by omega) hx
        generalize hg : uA h 10 (wr (h.1 10) 0 (fun q => nI (ordF key n q)) n) = g
        have F : ∀ a, a ≠ 10 → g.1 a = h.1 a := fun a ha => by rw [← hg, uA_ne ha]
        refine ⟨nI (ordF key n i), g, uA (uI g 64 16 (keyN key (n - 1))) 77 (wr (g.1 77) 0 (fun q => nI (ordF key n q)) n), ?_, ?_, ?_⟩
        · unfold f_X6_place
          rw [cIsCover, bd_s, hc, if_pos rfl, ix_n hc6 (by decide), gd_t, tn_n (by omega), rf_covers hc6, cMissC_f hC.2.1 hK.1.1 (by omega), bd_s, if_neg (by decide), cHasC hC.2.1, bd_s, hx, if_pos rfl, hC.2.1, cOrder hn1 hn, bd_s, hg, cPlaceAt (by omega), bd_s, ← hg, uA_at, wr_0in hi]
        · show f_X7_place g _ _ _ = _
          have e71 : g.1 71 c = nI n := by rw [F 71 (by decide)]; exact hM.2.1
          unfold f_X7_place
          rw [mAskCov_o (n := n) hc6 e71 hK.1.1 (by omega), bnd2_s, if_neg (by decide), ix_n hc6 (by decide), gd_t, gd_t, tn_n (by omega), e71, mIn, bd_s, btw_pred (by omega), hx, if_pos rfl, mOrder hn1 hn, bd_s, ix_n (by omega) (by decide), gd_t, tn_n (by omega), uA_at, wr_0in hi]
        · refine sim_scr S (fun a ha => ?_) ?_ ?_ ?_ ?_
          · rw [uA_ne (by omega), uI_ne (by omega), F a (by omega)]
          · simp (disch := omega) only [uI_ne, uI_k, uI_at, uA_ne, uA_at]
            rw [F 0 (by omega), F 64 (by omega)]
            exact S.2.2.2.2.1
          · simp (disch := omega) only [uI_ne, uI_k, uI_at, uA_ne, uA_at]
            rw [F 0 (by omega), F 64 (by omega)]
            exact S.2.2.2.2.2.2.1.1
          · rw [← hg]
            exact S.2.2.2.2.2.1
          · rw [← hg]
            exact S.2.2.2.2.2.2.2
