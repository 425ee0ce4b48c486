theorem op_price {h : MH} (S : Sim h) (c key d r : Int32) : Op (f_X6_price h c key d r) (fun h1 => f_X7_price h1 c key d r) := by
  rcases plan_cases S c key d r with ⟨v, h1, h2, e1, e2, T, neg⟩ | P
  · refine ⟨v, h1, h2, ?_, ?_, T⟩
    · unfold f_X6_price
      rw [e1, bnd2_s, if_pos neg]
    · (try dsimp only at e2 ⊢)
      unfold f_X7_price
      rw [e2, bnd2_s, if_pos neg]
  · obtain ⟨cc, dd, kd, n, u, wt, k, w, m, v, ds, cs, ls, O, W, g, rfl, rfl, hc6, hd4, hKc, hC, hM, hK, hD, hE, eC, vl, pn, hO, inj, m40, mw, e94, J, wk⟩ := P
    have w12 := hK.1.2.2.2
    have p12 := pw12 w12
    have ef : f_X3_countFlips g = some (nI (sumN (fun b => pop (W b)) m)) := cFlips m40 e94 (fun b hb => ⟨(J b hb).1, by have := (J b hb).2; omega⟩)
    have es : sumN (fun b => csT (fun _ => 1) (W b) w) m = sumN (fun b => pop (W b)) m := sumN_congr (fun b hb => (pop_cs w12 (J b hb).2).symm)
    have nv : ¬ nI v < 0 := nlt0 vl
    generalize sumN (fun b => pop (W b)) m = X at ef es
    obtain ⟨e, e2, F, E25, E82⟩ := wk (uI g 0 9 (nI X)) (fun a q1 q2 q3 q4 => by rw [uI_ne (by omega)]; exact pn.2 a (by omega) (by omega) (by omega) (by omega) (by omega))
    rw [es] at E25
    refine ⟨nI v, uI g 0 9 (nI X), uI e 64 2 (nI X), ?_, ?_, ?_⟩
    · unfold f_X6_price
      rw [eC, bnd2_s, if_neg nv, ef, bd_s, nm_v]
    · (try dsimp only)
      unfold f_X7_price f_X7_ask
      rw [e2, bnd2_s, if_neg nv, E25, nm_v, bnd2_s]
    · have fr : ∀ a, a ≠ 0 → a ≠ 9 → a ≠ 10 → a ≠ 11 → a ≠ 12 → a ≠ 13 → a ≠ 64 → a ≠ 68 → a ≠ 77 → a ≠ 82 → e.1 a = h.1 a := fun a q0 q1 q2 q3 q4 q5 q6 q7 q8 q9 => by rw [F.2.1 a q6 q7 q8 q9, uI_ne q0, pn.2 a q1 q2 q3 q4 q5]
      have al : e.2 = h.2 := by rw [F.1, uI_2, pn.1]
      refine sim_scr S (fun a ha => by rw [uI_ne (by omega)]; exact fr a (by omega) (by omega) (by omega) (by omega) (by omega) (by omega) (by omega) (by omega) (by omega) (by omega)) ?_ ?_ ?_ ?_
      · rw [uI_ne (by decide), uI_at, F.2.1 0 (by decide) (by decide) (by decide) (by decide), uI_at]
      · rw [uI_ne (by decide), uI_k (by decide), F.2.1 0 (by decide) (by decide) (by decide) (by decide), uI_k (by decide), F.2.2 0 (by decide) (by decide) (by decide), uI_ne (by decide), pn.2 0 (by decide) (by decide) (by decide) (by decide) (by decide), pn.2 64 (by decide) (by decide) (by decide) (by decide) (by decide)]
        exact S.2.2.2.2.2.2.1.1
      · unfold SF
        rw [uI_2, al]
        exact S.2.2.2.2.2.1
      · unfold SW
        rw [uI_2, al]
        exact S.2.2.2.2.2.2.2
section MHIDE
variable {h : MH} {c kd n u wt v : Nat} {ds cs : Nat → Nat} {fl : Nat → Bool}
theorem mHideL (hc : c < 6) (hKc : covK kd n ds cs u wt) (hM : covM h c kd n ds cs u wt) (vl : v ≤ 1000000) (h82 : ∀ x, x < 40 → h.1 82 x = nI (if fl x = true then 1 else 0)) : f_X7_hide_L14 h (nI c) (nI v) 0 = some (uA h 68 (wr (h.1 68) 0 (fun x => nI (dsF kd ds cs fl x)) n)) := by
  have hn := hKc.1.2.1
  unfold f_X7_hide_L14
  have key := lpo_for (step := fun s : Int32 × MH => f_X7_hide_B14 s.2 (nI c) (nI v) s.1) (fun i => (nI i, uA h 68 (wr (h.1 68) 0 (fun x => nI (dsF kd ds cs fl x)) i))) n (b := uA h 68 (wr (h.1 68) 0 (fun x => nI (dsF kd ds cs fl x)) n)) (fun i hi => ?_) ?_
  · rw [wr_0] at key
    exact key
  · dsimp only
    have gM : covM (uA h 68 (wr (h.1 68) 0 (fun x => nI (dsF kd ds cs fl x)) i)) c kd n ds cs u wt := covM_of (fun x q1 q2 => uA_ne (by omega)) hM
    unfold f_X7_hide_B14
    rw [if_neg (nlt0 vl), ix_n hc (by decide), gd_t, tn_n (j := c) (by omega), gM.2.1, if_pos (nI_lt hi (by omega)), ix_n (show i < 40 by omega) (by decide), gd_t, tn_n (j := i) (by omega), uA_ne (show 82 ≠ 68 by decide), h82 i (by omega), mDotAt hc hKc gM hi, bd_s, mFlipped hc hKc gM hi, bd_s, gd_t, nm_v, gd_t, nm_v, nI_s, ← wr_0s (g := fun x => nI (dsF kd ds cs fl x)) rfl]
    unfold dsF
    cases fl i with
    | true => rw [if_neg (by decide), if_pos rfl, (flip_N hKc hi).1]
    | false => rw [if_pos (by decide), if_neg (by decide)]
  · dsimp only
    have gM : covM (uA h 68 (wr (h.1 68) 0 (fun x => nI (dsF kd ds cs fl x)) n)) c kd n ds cs u wt := covM_of (fun x q1 q2 => uA_ne (by omega)) hM
    unfold f_X7_hide_B14
    rw [if_neg (nlt0 vl), ix_n hc (by decide), gd_t, tn_n (j := c) (by omega), gM.2.1, if_neg (nI_nlt (Nat.le_refl _) (by omega))]
theorem mHideC {D : Nat → Int32} (hc : c < 6) (hn : n ≤ 40) (e71 : h.1 71 c = nI n) (vl : v ≤ 1000000) (h68 : ∀ x, x < n → h.1 68 x = D x) : f_X7_hide_L73 h (nI c) (nI v) 0 = some (uA h 73 (wr (h.1 73) (40 * c) D n)) := by
  unfold f_X7_hide_L73
  have key := lpo_for (step := fun s : Int32 × MH => f_X7_hide_B73 s.2 (nI c) (nI v) s.1) (fun i => (nI i, uA h 73 (wr (h.1 73) (40 * c) D i))) n (b := uA h 73 (wr (h.1 73) (40 * c) D n)) (fun i hi => ?_) ?_
  · rw [wr_0] at key
    exact key
  · dsimp only
    unfold f_X7_hide_B73
    rw [if_neg (nlt0 vl), ix_n hc (by decide), gd_t, tn_n (j := c) (by omega), uA_ne (show 71 ≠ 73 by decide), e71, if_pos (nI_lt hi (by omega)), ix_n (show i < 40 by omega) (by decide), gd_t, lin40, ix_n (show 40 * c + i < 240 by omega) (by decide), gd_t, nm_v, tn_n (j := i) (by omega), tn_n (j := 40 * c + i) (by omega), uA_ne (show 68 ≠ 73 by decide), h68 i hi, wr_s rfl, nI_s]
  · dsimp only
    unfold f_X7_hide_B73
    rw [if_neg (nlt0 vl), ix_n hc (by decide), gd_t, tn_n (j := c) (by omega), uA_ne (show 71 ≠ 73 by decide), e71, if_neg (nI_nlt (Nat.le_refl _) (by omega))]
end MHIDE
theorem op_hide {h : MH} (S : Sim h) (c key d r : Int32) : Op (f_X6_hide h c key d r) (fun h1 => f_X7_hide h1 c key d r) := by
  rcases plan_cases S c key d r with ⟨v, h1, h2, e1, e2, T, neg⟩ | P
  · refine ⟨v, h1, h2, ?_, ?_, T⟩
    · unfold f_X6_hide
      rw [e1, bnd2_s, if_pos neg]
    · (try dsimp only at e2 ⊢)
      have l1 : f_X7_hide_L14 h2 c v 0 = some h2 := by
        unfold f_X7_hide_L14
        refine lpo_out ?_
        (try dsimp only)
        unfold f_X7_hide_B14
        rw [if_pos neg]
      have l2 : f_X7_hide_L73 h2 c v 0 = some h2 := by
        unfold f_X7_hide_L73
        refine lpo_out ?_
        (try dsimp only)
        unfold f_X7_hide_B73
        rw [if_pos neg]
      unfold f_X7_hide f_X7_hide_J70
      rw [e2, bnd2_s, l1, bd_s, l2, bd_s]
  · obtain ⟨cc, dd, kd, n, u, wt, k, w, m, v, ds, cs, ls, O, W, g, rfl, rfl, hc6, hd4, hKc, hC, hM, hK, hD, hE, eC, vl, pn, hO, inj, m40, mw, e94, J, wk⟩ := P
    have w12 := hK.1.2.2.2
    have p12 := pw12 w12
    have hn := hKc.1.2.1
    have nv : ¬ nI v < 0 := nlt0 vl
    have gC : covC g (38 + 3 * cc) kd n ds cs u wt := covC_of (fun b q1 q2 => pn.2 b (by omega) (by omega) (by omega) (by omega) (by omega)) hC
    have gD : codC g (56 + 2 * dd) k w ls := codC_of (fun b q1 q2 => pn.2 b (by omega) (by omega) (by omega) (by omega) (by omega)) hD
    have ef := cFlipAll hc6 hd4 hKc gC hK gD hO inj m40 mw e94 (fun b hb => ⟨(J b hb).1, by have := (J b hb).2; omega⟩)
    have gK := covF (fl := flT O (gB W w) (m * w)) hKc
    generalize flT O (gB W w) (m * w) = fl at ef wk gK
    generalize hg2 : uA g (39 + 3 * cc) (wr (g.1 (39 + 3 * cc)) 0 (fun x => nI (dsF kd ds cs fl x)) n) = g2 at ef
    have F2 : ∀ a, a ≠ 39 + 3 * cc → g2.1 a = g.1 a := fun a ha => by rw [← hg2, uA_ne ha]
    have P2 : g2.2 = g.2 := by rw [← hg2]; rfl
    have D2 : ∀ x, x < n → g2.1 (39 + 3 * cc) x = nI (dsF kd ds cs fl x) := fun x hx => by rw [← hg2, uA_at, wr_0in hx]
    obtain ⟨e, e2, F, E25, E82⟩ := wk g2 (fun a q1 q2 q3 q4 => by rw [F2 a (by omega)]; exact pn.2 a (by omega) (by omega) (by omega) (by omega) (by omega))
    have eM : covM e cc kd n ds cs u wt := covM_of (fun b q1 q2 => by rw [F.2.1 b (by omega) (by omega) (by omega) (by omega), F2 b (by omega), pn.2 b (by omega) (by omega) (by omega) (by omega) (by omega)]) hM
    have l1 := mHideL hc6 hKc eM vl E82
    generalize hk1 : uA e 68 (wr (e.1 68) 0 (fun x => nI (dsF kd ds cs fl x)) n) = k1 at l1
    have G1 : ∀ a, a ≠ 68 → k1.1 a = e.1 a := fun a ha => by rw [← hk1, uA_ne ha]
    have Q1 : k1.2 = e.2 := by rw [← hk1]; rfl
    have l2 := mHideC (h := k1) (v := v) (D := fun x => nI (dsF kd ds cs fl x)) hc6 hn (by rw [G1 71 (by decide)]; exact eM.2.1) vl (fun x hx => by rw [← hk1, uA_at, wr_0in hx])
    generalize hk2 : uA k1 73 (wr (k1.1 73) (40 * cc) (fun x => nI (dsF kd ds cs fl x)) n) = k2 at l2
    have G2 : ∀ a, a ≠ 73 → k2.1 a = k1.1 a := fun a ha => by rw [← hk2, uA_ne ha]
    have Q2 : k2.2 = k1.2 := by rw [← hk2]; rfl
    have fr : ∀ a, a ≠ 9 → a ≠ 10 → a ≠ 11 → a ≠ 12 → a ≠ 13 → a ≠ 39 + 3 * cc → a ≠ 64 → a ≠ 68 → a ≠ 73 → a ≠ 77 → a ≠ 82 → k2.1 a = h.1 a := fun a q1 q2 q3 q4 q5 q6 q7 q8 q9 q10 q11 => by rw [G2 a q9, G1 a q8, F.2.1 a q7 q8 q10 q11, F2 a q6, pn.2 a q1 q2 q3 q4 q5]
    have f64 : ∀ j, j ≠ 16 → j ≠ 25 → j ≠ 26 → k2.1 64 j = h.1 64 j := fun j q1 q2 q3 => by rw [G2 64 (by decide), G1 64 (by decide), F.2.2 j q1 q2 q3, F2 64 (by omega), pn.2 64 (by decide) (by decide) (by decide) (by decide) (by decide)]
    have al : k2.2 = h.2 := by rw [Q2, Q1, F.1, P2, pn.1]
    refine ⟨nI v, g2, k2, ?_, ?_, ?_⟩
    · unfold f_X6_hide
      rw [eC, bnd2_s, if_neg nv, ix_n hc6 (by decide), gd_t, ix_n hd4 (by decide), gd_t, tn_n (j := cc) (by omega), tn_n (j := dd) (by omega), rf_covers hc6, rf_codes hd4, ef, bd_s]
    · (try dsimp only)
      unfold f_X7_hide f_X7_hide_J70
      rw [e2, bnd2_s, l1, bd_s, l2, bd_s]
    · refine sim_covS hc6 S (fun a q1 q2 => fr a (by omega) (by omega) (by omega) (by omega) (by omega) (by omega) (by omega) (by omega) (by omega) (by omega) (by omega)) ?_ ?_ ?_ ?_ (fun a q ha hq => ?_) (fun a q ha hq => ?_) (Or.inr ⟨kd, n, dsF kd ds cs fl, cs, u, wt, gK, ⟨?_, ?_, ?_, ?_, fun i hi => ⟨?_, ?_⟩⟩, ⟨?_, ?_, fun z => ?_, ?_, fun i hi => ⟨?_, fun z => ?_⟩⟩⟩)
      · rw [fr 0 (by omega) (by omega) (by omega) (by omega) (by omega) (by omega) (by omega) (by omega) (by omega) (by omega) (by omega), f64 2 (by decide) (by decide) (by decide)]
        exact S.2.2.2.2.1
      · rw [fr 0 (by omega) (by omega) (by omega) (by omega) (by omega) (by omega) (by omega) (by omega) (by omega) (by omega) (by omega), f64 0 (by decide) (by decide) (by decide)]
        exact S.2.2.2.2.2.2.1.1
      · unfold SF
        rw [al]
        exact S.2.2.2.2.2.1
      · unfold SW
        rw [al]
        exact S.2.2.2.2.2.2.2
      · rw [fr a (by omega) (by omega) (by omega) (by omega) (by omega) (by omega) (by omega) (by omega) (by omega) (by omega) (by omega)]
      · rcases ha with rfl | rfl
        · rw [← hk2, uA_at, wr_out (by omega), G1 73 (by decide), F.2.1 73 (by decide) (by decide) (by decide) (by decide), F2 73 (by omega), pn.2 73 (by decide) (by decide) (by decide) (by decide) (by decide)]
        · rw [fr 74 (by omega) (by omega) (by omega) (by omega) (by omega) (by omega) (by omega) (by omega) (by omega) (by omega) (by omega)]
      · rw [fr _ (by omega) (by omega) (by omega) (by omega) (by omega) (by omega) (by omega) (by omega) (by omega) (by omega) (by omega)]
        exact hC.1
      · rw [fr _ (by omega) (by omega) (by omega) (by omega) (by omega) (by omega) (by omega) (by omega) (by omega) (by omega) (by omega)]
        exact hC.2.1
      · rw [fr _ (by omega) (by omega) (by omega) (by omega) (by omega) (by omega) (by omega) (by omega) (by omega) (by omega) (by omega)]
        exact hC.2.2.1
      · rw [fr _ (by omega) (by omega) (by omega) (by omega) (by omega) (by omega) (by omega) (by omega) (by omega) (by omega) (by omega)]
        exact hC.2.2.2.1
      · rw [show 38 + 3 * cc + 1 = 39 + 3 * cc by omega, G2 _ (by omega), G1 _ (by omega), F.2.1 _ (by omega) (by omega) (by omega) (by omega), D2 i hi]
      · rw [fr _ (by omega) (by omega) (by omega) (by omega) (by omega) (by omega) (by omega) (by omega) (by omega) (by omega) (by omega)]
        exact (hC.2.2.2.2 i hi).2
      · rw [G2 72 (by decide), G1 72 (by decide)]
        exact eM.1
      · rw [G2 71 (by decide), G1 71 (by decide)]
        exact eM.2.1
      · rw [G2 75 (by decide), G1 75 (by decide)]
        exact eM.2.2.1 z
      · rw [G2 76 (by decide), G1 76 (by decide)]
        exact eM.2.2.2.1
      · rw [← hk2, uA_at, wr_in hi]
      · rw [G2 74 (by decide), G1 74 (by decide)]
        exact (eM.2.2.2.2 i hi).2 z
