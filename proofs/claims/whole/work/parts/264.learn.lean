/-! dots counted by their rests -/
def ct8 (ds : Nat → Nat) (n v : Nat) : Nat := sumN (fun q => if ds q % 8 = v then 1 else 0) n
theorem ct8_le {ds : Nat → Nat} {n v : Nat} : ct8 ds n v ≤ n := by
  have := sumN_le (g := fun q => if ds q % 8 = v then 1 else 0) (b := 1) (n := n) (fun j _ => by
    show (if ds j % 8 = v then 1 else 0) ≤ 1
    split <;> omega)
  unfold ct8
  omega
theorem wr_put {h : MH} {a n v : Nat} {f g : Nat → Int32} {x : Int32} (hv : v < n) : uI (uA h a (wr f 0 g n)) a v x = uA h a (wr f 0 (fun q => if q = v then x else g q) n) := by
  rw [uI_asA, uA_uA, uA_at]
  congr 1
  funext q
  unfold upd wr
  by_cases h1 : q = v
  · rw [if_pos h1, if_pos (by omega)]
    dsimp only
    rw [if_pos (by omega)]
  · rw [if_neg h1]
    by_cases h2 : 0 ≤ q ∧ q < 0 + n
    · rw [if_pos h2, if_pos h2]
      dsimp only
      rw [if_neg (by omega)]
    · rw [if_neg h2, if_neg h2]
theorem ct8_s {ds : Nat → Nat} {i : Nat} {f : Nat → Int32} : wr f 0 (fun q => if q = ds i % 8 then nI (ct8 ds i (ds i % 8)) + 1 else nI (ct8 ds i q)) 8 = wr f 0 (fun v => nI (ct8 ds (i + 1) v)) 8 := by
  refine wr_eq (fun q hq => ?_)
  have e : ct8 ds (i + 1) q = ct8 ds i q + (if ds i % 8 = q then 1 else 0) := rfl
  rw [e]
  by_cases z : q = ds i % 8
  · rw [if_pos z, if_pos z.symm, ← z, nI_s]
  · rw [if_neg z, if_neg (fun y => z y.symm)]
    rfl
section COUNTED
variable {h : MH} {a c r kd n : Nat} {ds cs : Nat → Nat} {w wt : Nat}
theorem cCountInto (ha : shp a = (1, 0)) (hr : shp r = (5, 0)) (far : r + 1 < a) (hK : covK kd n ds cs w wt) (hC : covC h a kd n ds cs w wt) : f_X1_countInto h a r = some (uA (uI h r 1 (nI 8)) (r + 1) (wr (h.1 (r + 1)) 0 (fun v => nI (ct8 ds n v)) 8)) := by
  have hn := hK.1.2.1
  have R := cRenew (h := h) (a := r) (n := 8) (v := 0) hr (by decide)
  have gC : covC (uI h r 1 (nI 8)) a kd n ds cs w wt := covC_of (fun b q1 q2 => uI_ne (by omega)) hC
  have g1 : (uI h r 1 (nI 8)).1 r 1 = nI 8 := uI_at
  have ge : (uI h r 1 (nI 8)).1 (r + 1) = h.1 (r + 1) := uI_ne (by omega)
  have key : f_X1_countInto_L9 (uA (uI h r 1 (nI 8)) (r + 1) (wr (h.1 (r + 1)) 0 (fun _ => 0) 8)) a r 0 = some (uA (uI h r 1 (nI 8)) (r + 1) (wr (h.1 (r + 1)) 0 (fun v => nI (ct8 ds n v)) 8)) := by
    generalize uI h r 1 (nI 8) = g at gC g1
    unfold f_X1_countInto_L9
    rw [show ((0 : Int32), uA g (r + 1) (wr (h.1 (r + 1)) 0 (fun _ => 0) 8)) = (nI 0, uA g (r + 1) (wr (h.1 (r + 1)) 0 (fun v => nI (ct8 ds 0 v)) 8)) from rfl]
    refine lpo_for (fun i => (nI i, uA g (r + 1) (wr (h.1 (r + 1)) 0 (fun v => nI (ct8 ds i v)) 8))) n (fun i hi => ?_) ?_
    · (try dsimp only)
      have b := hK.2.1 i hi
      have l := Nat.mod_lt (ds i) (show 8 > 0 by decide)
      have e1 : (uA g (r + 1) (wr (h.1 (r + 1)) 0 (fun v => nI (ct8 ds i v)) 8)).1 r 1 = nI 8 := by rw [uA_ne (by omega)]; exact g1
      unfold f_X1_countInto_B9
      rw [uA_ne (show a ≠ r + 1 by omega), gC.2.1, if_pos (nI_lt hi (by omega)), ix_n (by omega) (by decide), gd_t, nm_v, tn_n (by omega), rf_Cov0 ha, uA_ne (show a + 1 ≠ r + 1 by omega), (gC.2.2.2.2 i hi).1, pk_andN (show ds i < 2 ^ 32 by omega) 3 (by decide), show 2 ^ 3 = 8 from rfl, cGetRaw hr e1 (by decide) l, bd_s, cSet hr e1 (by decide) l, bd_s, uA_at, wr_0in l, nI_s]
      rw [wr_put l, ← ct8_s, nI_s]
    · (try dsimp only)
      unfold f_X1_countInto_B9
      rw [uA_ne (by omega), gC.2.1, if_neg (nI_nlt (Nat.le_refl _) (by omega))]
  unfold f_X1_countInto
  rw [show (8 : Int32) = nI 8 from rfl, R, bd_s, key, bd_s]
theorem mCounted (hc : c < 6) (hK : covK kd n ds cs w wt) (hM : covM h c kd n ds cs w wt) : f_X7_setCounted h (nI c) = some (uA h 86 (wr (h.1 86) 0 (fun v => nI (ct8 ds n v)) 8)) := by
  have hn := hK.1.2.1
  have k1 : f_X7_setCounted_L2 h (nI c) 0 = some (uA h 86 (wr (h.1 86) 0 (fun _ => 0) 8)) := by
    unfold f_X7_setCounted_L2
    rw [show ((0 : Int32), h) = (nI 0, uA h 86 (wr (h.1 86) 0 (fun _ => 0) 0)) by rw [wr_0]; rfl]
    refine lpo_for (fun i => (nI i, uA h 86 (wr (h.1 86) 0 (fun _ => 0) i))) 8 (fun i hi => ?_) ?_
    · (try dsimp only)
      unfold f_X7_setCounted_B2
      rw [if_pos (show nI i < 8 from (nI_lt hi (by decide) : nI i < nI 8)), ix_n hi (by decide), gd_t, nm_v, tn_n (by omega), nI_s, wr_0s rfl]
    · (try dsimp only)
      unfold f_X7_setCounted_B2
      rw [if_neg (by decide)]
  have k2 : f_X7_setCounted_L23 (uA h 86 (wr (h.1 86) 0 (fun _ => 0) 8)) (nI c) 0 = some (uA h 86 (wr (h.1 86) 0 (fun v => nI (ct8 ds n v)) 8)) := by
    unfold f_X7_setCounted_L23
    rw [show ((0 : Int32), uA h 86 (wr (h.1 86) 0 (fun _ => 0) 8)) = (nI 0, uA h 86 (wr (h.1 86) 0 (fun v => nI (ct8 ds 0 v)) 8)) from rfl]
    refine lpo_for (fun i => (nI i, uA h 86 (wr (h.1 86) 0 (fun v => nI (ct8 ds i v)) 8))) n (fun i hi => ?_) ?_
    · (try dsimp only)
      have b := hK.2.1 i hi
      have l := Nat.mod_lt (ds i) (show 8 > 0 by decide)
      unfold f_X7_setCounted_B23
      rw [ix_n hc (by decide), gd_t, tn_n (by omega), uA_ne (by decide), hM.2.1, if_pos (nI_lt hi (by omega)), mDotRaw hc (by omega), bd_s, uA_ne (by decide), (hM.2.2.2.2 i hi).1, N_remK (by omega) (by decide) (by decide), ix_n l (by decide), gd_t, gd_t, nm_v, tn_n (by omega), uA_at, wr_0in l, nI_s]
      rw [wr_put l, ← ct8_s, nI_s]
    · (try dsimp only)
      unfold f_X7_setCounted_B23
      rw [ix_n hc (by decide), gd_t, tn_n (by omega), uA_ne (by decide), hM.2.1, if_neg (nI_nlt (Nat.le_refl _) (by omega))]
  unfold f_X7_setCounted
  rw [k1, bd_s, k2, bd_s]
end COUNTED
def thereT (ds : Nat → Nat) (n v : Nat) : Nat := if 0 < ct8 ds n v then 1 else 0
theorem op_learn {h : MH} (S : Sim h) (c r : Int32) : Op (f_X6_learn h c r) (fun h1 => f_X7_learn h1 c r) := by
  cases hr : inR r 6 with
  | false =>
    refine op_same S (v := -1) ?_ ?_
    · unfold f_X6_learn
      rw [cIsCover, bd_s, cIsRow, bd_s, hr]
      cases inR c 6 <;> rfl
    · show f_X7_learn h _ _ = _
      unfold f_X7_learn
      rw [mIsRow, bd_s, hr, if_neg (by decide)]
  | true =>
  obtain ⟨j, hj, rfl⟩ := inR_t (by decide) hr
  rcases cover_cases S.2.2.1 c with hc | ⟨c, hc6, rfl, hc, ⟨m1, m2⟩ | ⟨kd, n, ds, cs, w, wt, hK, hC, hM⟩⟩
  · exact op_same S (v := -1) (by unfold f_X6_learn; rw [cIsCover, bd_s, hc, if_neg (by decide)]) (by show f_X7_learn h _ _ = _; unfold f_X7_learn; rw [mIsRow, bd_s, hr, if_pos rfl, mAskCov_b hc, bnd2_s, if_pos (by decide)])
  · refine op_found S (f := 1) (by decide) (by decide) ?_ ?_
    · unfold f_X6_learn
      rw [cIsCover, bd_s, hc, if_pos rfl, cIsRow, bd_s, hr, if_pos rfl, ix_n hc6 (by decide), gd_t, tn_n (by omega), rf_covers hc6, cMissC_t m1, bd_s, if_pos rfl]
      exact pF (by decide) (by decide)
    · show f_X7_learn (fd h 1) _ _ = _
      unfold f_X7_learn
      rw [mIsRow, bd_s, hr, if_pos rfl, mAskCov_m hc6 (by rw [fd_ne (by decide) (by decide)]; exact m2), pB (by decide) (by decide)]
  have hn := hK.1.2.1
  have hn1 := hK.1.1
  have cI := cCountInto (r := 18 + 2 * j) (sh_cov hc6) (sh_row hj) (by omega) hK hC
  generalize hg : uA (uI h (18 + 2 * j) 1 (nI 8)) (18 + 2 * j + 1) (wr (h.1 (18 + 2 * j + 1)) 0 (fun v => nI (ct8 ds n v)) 8) = g at cI
  have F : ∀ a, a ≠ 18 + 2 * j → a ≠ 19 + 2 * j → g.1 a = h.1 a := fun a q1 q2 => by rw [← hg, uA_ne (by omega), uI_ne q1]
  have g2 : g.2 = h.2 := by rw [← hg, uA_2, uI_2]
  have gR : rowC g (18 + 2 * j) 8 (fun v => nI (ct8 ds n v)) := by
    rw [← hg]
    exact ⟨by rw [uA_ne (by omega), uI_at], fun i hi => by rw [uA_at, wr_0in hi]⟩
  have gM : covM g c kd n ds cs w wt := covM_of (fun b q1 q2 => F b (by omega) (by omega)) hM
  have cL : f_X6_learn_L56 g (nI j) 0 0 = some (nI (sumN (thereT ds n) 8)) := by
    unfold f_X6_learn_L56
    refine lpo_sum _ 8 (fun i v hi => ?_) (fun v => ?_)
    · (try dsimp only)
      have le := ct8_le (ds := ds) (n := n) (v := i)
      unfold f_X6_learn_B56 thereT
      rw [if_pos (show nI i < 8 from (nI_lt hi (by decide) : nI i < nI 8)), ix_n hj (by decide), gd_t, tn_n (by omega), rf_rows hj, cGet (sh_row hj) gR (by decide) hi, bd_s, nI_s, nI_s]
      by_cases z : 0 < ct8 ds n i
      · rw [if_pos (show 0 < nI (ct8 ds n i) from (nI_lt z (by omega) : nI 0 < nI (ct8 ds n i))), if_pos z]
      · rw [if_neg (show ¬ 0 < nI (ct8 ds n i) from (nI_nlt (show ct8 ds n i ≤ 0 by omega) (by decide) : ¬ nI 0 < nI (ct8 ds n i))), if_neg z]
        rfl
    · (try dsimp only)
      unfold f_X6_learn_B56
      rw [if_neg (by decide)]
  have mI := mCounted hc6 hK gM
  generalize hk : uA g 86 (wr (g.1 86) 0 (fun v => nI (ct8 ds n v)) 8) = k at mI
  have kF : ∀ a, a ≠ 86 → k.1 a = g.1 a := fun a ha => by rw [← hk, uA_ne ha]
  have k86 : ∀ i, i < 8 → k.1 86 i = nI (ct8 ds n i) := fun i hi => by rw [← hk, uA_at, wr_0in hi]
  have k2 : k.2 = h.2 := by rw [← hk, uA_2, g2]
  generalize hm : uA (uI k 66 j (nI 8)) 67 (wr (k.1 67) (40 * j) (fun _ => 0) 40) = m
  have mF : ∀ a, a ≠ 66 → a ≠ 67 → m.1 a = k.1 a := fun a q1 q2 => by rw [← hm, uA_ne q2, uI_ne q1]
  have mm2 : m.2 = h.2 := by rw [← hm, uA_2, uI_2, k2]
  have mL : f_X7_learn_L40 m (nI j) 0 0 = some (nI (sumN (thereT ds n) 8), uA m 67 (wr (m.1 67) (40 * j) (fun v => nI (ct8 ds n v)) 8)) := by
    unfold f_X7_learn_L40
    rw [show ((0 : Int32), (0 : Int32), m) = (nI (sumN (thereT ds n) 0), nI 0, uA m 67 (wr (m.1 67) (40 * j) (fun v => nI (ct8 ds n v)) 0)) by rw [wr_0]; rfl]
    refine lpo_for (fun i => (nI (sumN (thereT ds n) i), nI i, uA m 67 (wr (m.1 67) (40 * j) (fun v => nI (ct8 ds n v)) i))) 8 (fun i hi => ?_) ?_
    · (try dsimp only)
      have le := ct8_le (ds := ds) (n := n) (v := i)
      have e86 : m.1 86 i = nI (ct8 ds n i) := by rw [mF 86 (by decide) (by decide)]; exact k86 i hi
      have es : sumN (thereT ds n) (i + 1) = sumN (thereT ds n) i + (if 0 < ct8 ds n i then 1 else 0) := rfl
      unfold f_X7_learn_B40
      rw [if_pos (show nI i < 8 from (nI_lt hi (by decide) : nI i < nI 8)), ix_n hi (by decide), gd_t, lin40, ix_n (by omega) (by decide), gd_t, nm_v, tn_n (by omega), tn_n (by omega), uA_ne (by decide), e86, wr_s rfl, gd_t, uA_ne (by decide), e86, nm_v, nm_v, es, nI_s, nI_s]
      by_cases z : 0 < ct8 ds n i
      · rw [if_pos (show 0 < nI (ct8 ds n i) from (nI_lt z (by omega) : nI 0 < nI (ct8 ds n i))), if_pos z]
      · rw [if_neg (show ¬ 0 < nI (ct8 ds n i) from (nI_nlt (show ct8 ds n i ≤ 0 by omega) (by decide) : ¬ nI 0 < nI (ct8 ds n i))), if_neg z, N_addK]
    · (try dsimp only)
      unfold f_X7_learn_B40
      rw [if_neg (by decide)]
  refine ⟨nI (sumN (thereT ds n) 8), g, uA m 67 (wr (m.1 67) (40 * j) (fun v => nI (ct8 ds n v)) 8), ?_, ?_, ?_⟩
  · unfold f_X6_learn
    rw [cIsCover, bd_s, hc, if_pos rfl, cIsRow, bd_s, hr, if_pos rfl, ix_n hc6 (by decide), gd_t, tn_n (by omega), rf_covers hc6, cMissC_f hC.2.1 hn1 (by omega), bd_s, if_neg (by decide), gd_t, ix_n hj (by decide), gd_t, tn_n (by omega), rf_rows hj, cI, bd_s, cL, bd_s]
  · show f_X7_learn g _ _ = _
    unfold f_X7_learn
    rw [mIsRow, bd_s, hr, if_pos rfl, mAskCov_o (n := n) hc6 gM.2.1 hn1 (by omega), bnd2_s, if_neg (by decide), mI, bd_s, show (8 : Int32) = nI 8 from rfl, mRow hj (by decide), bnd2_s, hm, mL, bd_s]
  · refine sim_rowS hj S (fun a q1 q2 q3 => ?_) ?_ ?_ ?_ ?_ (fun r h1 h2 => ?_) (fun q hq => ?_) (Or.inr ⟨8, fun i => nI (ct8 ds n i), (by decide), ⟨?_, fun i hi => ?_⟩, ?_, fun i hi => ?_⟩)
    · rw [uA_ne (by omega), mF a (by omega) (by omega), kF a (by omega), F a q1 q2]
    · rw [uA_ne (by decide), uA_ne (by decide), mF 0 (by decide) (by decide), mF 64 (by decide) (by decide), kF 0 (by decide), kF 64 (by decide), F 0 (by omega) (by omega), F 64 (by omega) (by omega)]
      exact S.2.2.2.2.1
    · rw [uA_ne (by decide), uA_ne (by decide), mF 0 (by decide) (by decide), mF 64 (by decide) (by decide), kF 0 (by decide), kF 64 (by decide), F 0 (by omega) (by omega), F 64 (by omega) (by omega)]
      exact S.2.2.2.2.2.2.1.1
    · unfold SF
      rw [uA_2, mm2]
      exact S.2.2.2.2.2.1
    · unfold SW
      rw [uA_2, mm2]
      exact S.2.2.2.2.2.2.2
    · rw [uA_ne (by decide), ← hm, uA_ne (by decide), uI_k h2, kF 66 (by decide), F 66 (by omega) (by omega)]
    · rw [uA_at, wr_out (by omega), ← hm, uA_at, wr_out (by omega), kF 67 (by decide), F 67 (by omega) (by omega)]
    · rw [uA_ne (by omega), mF _ (by omega) (by omega), kF _ (by omega)]
      exact gR.1
    · rw [uA_ne (by omega), mF _ (by omega) (by omega), kF _ (by omega)]
      exact gR.2 i hi
    · rw [uA_ne (by decide), ← hm, uA_ne (by decide), uI_at]
    · rw [uA_at, wr_in hi]
