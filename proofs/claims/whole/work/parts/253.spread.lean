/-- one cover anew, and rooms that no call shows -/
theorem sim_covS {h h2 : MH} {c : Nat} (hc : c < 6) (S : Sim h) (F : ∀ a, (a < 38 + 3 * c ∨ 40 + 3 * c < a) → ((17 ≤ a ∧ a ≤ 63) ∨ (65 ≤ a ∧ a ≤ 67) ∨ a = 69 ∨ a = 70 ∨ (78 ≤ a ∧ a ≤ 80)) → h2.1 a = h.1 a) (e0 : h2.1 0 9 = h2.1 64 2) (e00 : h2.1 0 10 = h2.1 64 0) (e2 : SF h2) (e4 : SW h2) (e1 : ∀ a d, a = 71 ∨ a = 72 ∨ a = 75 ∨ a = 76 → d ≠ c → h2.1 a d = h.1 a d) (e3 : ∀ a q, a = 73 ∨ a = 74 → q < 40 * c ∨ 40 * c + 40 ≤ q → h2.1 a q = h.1 a q) (new : covS h2 c) : Sim h2 := by
  obtain ⟨s1, s2, s3, s4, s5, s6, s7, s8⟩ := S
  refine ⟨SR_of (fun a ha => F a (by omega) (by omega)) s1, STx_of (fun a ha => F a (by omega) (by omega)) s2, SC_upd (j := c) (fun a q1 q2 q3 => F a q3 (by omega)) e1 e3 new s3, SK_of (fun a ha => F a (by omega) (by omega)) s4, e0, e2, ⟨e00, fun f h1 h5 => ?_⟩, e4⟩
  rw [F 17 (by omega) (by omega), F 65 (by omega) (by omega)]
  exact s7.2 f h1 h5
section RAW
variable {h : MH} {a c n i : Nat}
theorem cDotRaw (ha : shp a = (1, 0)) (e : h.1 a 3 = nI n) (hn : n ≤ 40) (hi : i < n) : f_X1_dotAt h a (nI i) = some (h.1 (a + 1) i) := by
  unfold f_X1_dotAt
  rw [cHasC e, bd_s, inR_n hi (by omega), if_pos rfl, ix_n (by omega) (by decide), gd_t, tn_n (by omega), rf_Cov0 ha]
theorem cSetDot (ha : shp a = (1, 0)) (e : h.1 a 3 = nI n) (hn : n ≤ 40) (hi : i < n) {v : Int32} : f_X1_setDot h a (nI i) v = some (uI h (a + 1) i v) := by
  unfold f_X1_setDot
  rw [cHasC e, bd_s, inR_n hi (by omega), if_pos rfl, ix_n (by omega) (by decide), gd_t, tn_n (by omega), rf_Cov0 ha, nm_v]
theorem mDotRaw (hc : c < 6) (hi : i < 40) : f_X7_dotAt h (nI c) (nI i) = some (h.1 73 (40 * c + i)) := by
  unfold f_X7_dotAt
  rw [lin40, ix_n (by omega) (by decide), gd_t, tn_n (by omega)]
end RAW
def sgB (key : Int32) (i : Nat) : Bool := decide (keyB (keyN key (i + 1)) % 2 = 1)
def sg1 (b : Bool) : Int32 := if b = true then 1 else -1
theorem sgV_eq (key : Int32) (i : Nat) : sgV key i = sg1 (sgB key i) := by
  unfold sgV sg1 sgB
  by_cases q : keyB (keyN key (i + 1)) % 2 = 1 <;> simp [q]
def spV (b : Bool) (d A : Nat) : Nat := if b = true then (if 255 < d + A then 255 else d + A) else d - A
def spK (b : Bool) (d A : Nat) : Nat := if b = true then (if 255 < d + A then 1 else 0) else (if d < A then 1 else 0)
theorem sp_tri {b : Bool} {d A : Nat} (hd : d ≤ 255) (hA1 : 1 ≤ A) (hA : A ≤ 20) : (spK b d A = 0 ∧ nI d + nI A * sg1 b = nI (spV b d A) ∧ spV b d A ≤ 255) ∨ (spK b d A = 1 ∧ nI d + nI A * sg1 b < 0 ∧ spV b d A = 0) ∨ (spK b d A = 1 ∧ 255 < nI d + nI A * sg1 b ∧ spV b d A = 255) := by
  cases b with
  | true =>
    have e : nI d + nI A * sg1 true = nI (d + A) := by
      rw [show sg1 true = 1 from rfl, Int32.mul_one, nI_add]
    rw [e]
    unfold spK spV
    rw [if_pos rfl, if_pos rfl]
    by_cases q : 255 < d + A
    · rw [if_pos q, if_pos q]
      exact Or.inr (Or.inr ⟨rfl, (nI_lt q (by omega) : nI 255 < nI (d + A)), rfl⟩)
    · rw [if_neg q, if_neg q]
      exact Or.inl ⟨rfl, rfl, (by omega)⟩
  | false =>
    have e : nI d + nI A * sg1 false = nI d - nI A := by
      rw [show sg1 false = -1 from rfl, Int32.mul_neg, Int32.mul_one, ← Int32.sub_eq_add_neg]
    rw [e]
    unfold spK spV
    simp only [Bool.false_eq_true, if_false]
    by_cases q : d < A
    · rw [if_pos q, ← Int32.neg_sub, nIsub (show d ≤ A by omega)]
      exact Or.inr (Or.inl ⟨rfl, neg_lt (by omega) (by omega), (by omega)⟩)
    · rw [if_neg q, nIsub (show A ≤ d by omega)]
      exact Or.inl ⟨rfl, rfl, (by omega)⟩
theorem spV_le {b : Bool} {d A : Nat} (hd : d ≤ 255) : spV b d A ≤ 255 := by
  unfold spV
  split
  · split <;> omega
  · omega
section SPREAD
variable {h : MH} {a c n i d A v : Nat} {key : Int32}
theorem cSp (ha : shp a = (1, 0)) (e : h.1 a 3 = nI n) (hn : n ≤ 40) (hi : i < n) (ed : h.1 (a + 1) i = nI d) (es : h.1 15 i = sgV key i) (hd : d ≤ 255) (hA1 : 1 ≤ A) (hA : A ≤ 20) : f_X6_spread_B72 h (nI A) a (nI v) (nI i) = some (.inl (nI (v + spK (sgB key i) d A), nI (i + 1), uI h (a + 1) i (nI (spV (sgB key i) d A)))) := by
  unfold f_X6_spread_B72
  rw [e, if_pos (nI_lt hi (by omega)), cDotRaw ha e hn hi, bd_s, ed, cSignAt (by omega), bd_s, es, nm_v, sgV_eq]
  have le := spV_le (b := sgB key i) (A := A) hd
  rcases sp_tri (b := sgB key i) hd hA1 hA with ⟨q1, q2, q3⟩ | ⟨q1, q2, q3⟩ | ⟨q1, q2, q3⟩
  · have e1 : f_J9_min_7cf53 255 (nI (spV (sgB key i) d A)) = some (nI (spV (sgB key i) d A)) := by
      unfold f_J9_min_7cf53
      by_cases z : spV (sgB key i) d A = 255
      · rw [z]
        rfl
      · rw [if_pos (show nI (spV (sgB key i) d A) < 255 from (nI_lt (show spV (sgB key i) d A < 255 by omega) (by decide) : nI (spV (sgB key i) d A) < nI 255))]
    rw [q2, e1, bd_s, max0 (by omega), bd_s, if_pos rfl, cSetDot ha e hn hi, bd_s, q1, nI_s]
    rfl
  · generalize nI d + nI A * sg1 (sgB key i) = x at q2
    have e1 : f_J9_min_7cf53 255 x = some x := by
      unfold f_J9_min_7cf53
      rw [if_pos (Int32.lt_trans q2 (by decide))]
    have e2 : f_J9_max_7cf53 0 x = some 0 := by
      unfold f_J9_max_7cf53
      rw [if_neg (show ¬ 0 < x from fun z => absurd (Int32.lt_trans q2 z) Int32.lt_irrefl)]
    rw [e1, bd_s, e2, bd_s, if_neg (fun z => by rw [← z] at q2; exact absurd q2 (by decide)), cSetDot ha e hn hi, bd_s, q1, q3, nI_s, nI_s]
    rfl
  · generalize nI d + nI A * sg1 (sgB key i) = x at q2
    have e1 : f_J9_min_7cf53 255 x = some 255 := by
      unfold f_J9_min_7cf53
      rw [if_neg (show ¬ x < 255 from fun z => absurd (Int32.lt_trans q2 z) (by decide))]
    rw [e1, bd_s, show f_J9_max_7cf53 0 255 = some 255 from rfl, bd_s, if_neg (fun z => by rw [← z] at q2; exact absurd q2 (by decide)), cSetDot ha e hn hi, bd_s, q1, q3, nI_s, nI_s]
    rfl
theorem mSp (hc : c < 6) (e : h.1 71 c = nI n) (hn : n ≤ 40) (hi : i < n) (ed : h.1 73 (40 * c + i) = nI d) (es : h.1 84 i = sgV key i) (hd : d ≤ 255) (hA1 : 1 ≤ A) (hA : A ≤ 20) : f_X7_spread_B60 h (nI c) (nI A) (nI v) (nI i) = some (.inl (nI (v + spK (sgB key i) d A), nI (i + 1), uI h 73 (40 * c + i) (nI (spV (sgB key i) d A)))) := by
  unfold f_X7_spread_B60
  rw [ix_n hc (by decide), gd_t, tn_n (by omega), e, if_pos (nI_lt hi (by omega)), mDotRaw hc (by omega), bd_s, ed, ix_n (by omega) (by decide), gd_t, nm_v, tn_n (by omega), es, mIn, bd_s, sgV_eq, Int32.mul_comm]
  have le := spV_le (b := sgB key i) (A := A) hd
  have tri := sp_tri (b := sgB key i) hd hA1 hA
  generalize nI d + nI A * sg1 (sgB key i) = x at tri
  generalize spV (sgB key i) d A = s at tri le
  generalize spK (sgB key i) d A = t at tri
  unfold f_X7_spread_J109_60
  simp only [nm_w]
  rw [lin40, ix_n (by omega) (by decide), gd_t, gd_t, gd_t, tn_n (by omega)]
  rcases tri with ⟨q1, q2, q3⟩ | ⟨q1, q2, q3⟩ | ⟨q1, q2, q3⟩
  · rw [q2, btw_K (by omega) (by decide) (by decide), dec_t (by omega), if_pos rfl, if_neg (nlt0 (by omega)), if_neg (show ¬ 255 < nI s from (nI_nlt q3 (by decide) : ¬ nI 255 < nI s)), q1, show (0 : Int32) = nI 0 from rfl, nI_add, nI_s]
  · have eb : btw x 0 255 = false := decide_eq_false (fun z => z.1 q2)
    rw [eb, if_neg (by decide), if_pos q2, q1, q3, nI_s, nI_s]
    rfl
  · have eb : btw x 0 255 = false := decide_eq_false (fun z => z.2 q2)
    rw [eb, if_neg (by decide), if_neg (show ¬ x < 0 from fun z => absurd (Int32.lt_trans q2 z) (by decide)), if_pos q2, q1, q3, nI_s, nI_s]
    rfl
theorem cSpL {ds cs : Nat → Nat} {kd w wt : Nat} (ha : shp a = (1, 0)) (ha15 : 15 < a) (hK : covK kd n ds cs w wt) (gC : covC h a kd n ds cs w wt) (gs : ∀ i, i < 40 → h.1 15 i = sgV key i) (hA1 : 1 ≤ A) (hA : A ≤ 20) : f_X6_spread_L72 h (nI A) a 0 0 = some (nI (sumN (fun i => spK (sgB key i) (ds i) A) n), uA h (a + 1) (wr (h.1 (a + 1)) 0 (fun i => nI (spV (sgB key i) (ds i) A)) n)) := by
  have hn := hK.1.2.1
  unfold f_X6_spread_L72
  rw [show ((0 : Int32), (0 : Int32), h) = (nI (sumN (fun i => spK (sgB key i) (ds i) A) 0), nI 0, uA h (a + 1) (wr (h.1 (a + 1)) 0 (fun i => nI (spV (sgB key i) (ds i) A)) 0)) by rw [wr_0]; rfl]
  refine lpo_for (fun i => (nI (sumN (fun i => spK (sgB key i) (ds i) A) i), nI i, uA h (a + 1) (wr (h.1 (a + 1)) 0 (fun i => nI (spV (sgB key i) (ds i) A)) i))) n (fun i hi => ?_) ?_
  · (try dsimp only)
    rw [cSp (n := n) (d := ds i) (key := key) ha (by rw [uA_ne (by omega)]; exact gC.2.1) hn hi (by rw [uA_at, wr_out (by omega)]; exact (gC.2.2.2.2 i hi).1) (by rw [uA_ne (by omega)]; exact gs i (by omega)) (hK.2.1 i hi) hA1 hA, wr_0s rfl]
    rfl
  · (try dsimp only)
    unfold f_X6_spread_B72
    rw [uA_ne (by omega), gC.2.1, if_neg (nI_nlt (Nat.le_refl _) (by omega))]
theorem mSpL {ds cs : Nat → Nat} {kd w wt : Nat} (hc : c < 6) (hK : covK kd n ds cs w wt) (kM : covM h c kd n ds cs w wt) (ks : ∀ i, i < n → h.1 84 i = sgV key i) (hA1 : 1 ≤ A) (hA : A ≤ 20) : f_X7_spread_L60 h (nI c) (nI A) 0 0 = some (nI (sumN (fun i => spK (sgB key i) (ds i) A) n), uA h 73 (wr (h.1 73) (40 * c) (fun i => nI (spV (sgB key i) (ds i) A)) n)) := by
  have hn := hK.1.2.1
  unfold f_X7_spread_L60
  rw [show ((0 : Int32), (0 : Int32), h) = (nI (sumN (fun i => spK (sgB key i) (ds i) A) 0), nI 0, uA h 73 (wr (h.1 73) (40 * c) (fun i => nI (spV (sgB key i) (ds i) A)) 0)) by rw [wr_0]; rfl]
  refine lpo_for (fun i => (nI (sumN (fun i => spK (sgB key i) (ds i) A) i), nI i, uA h 73 (wr (h.1 73) (40 * c) (fun i => nI (spV (sgB key i) (ds i) A)) i))) n (fun i hi => ?_) ?_
  · (try dsimp only)
    rw [mSp (n := n) (d := ds i) (key := key) hc (by rw [uA_ne (by omega)]; exact kM.2.1) hn hi (by rw [uA_at, wr_out (by omega)]; exact (kM.2.2.2.2 i hi).1) (by rw [uA_ne (by omega)]; exact ks i (by omega)) (hK.2.1 i hi) hA1 hA, wr_s rfl]
    rfl
  · (try dsimp only)
    unfold f_X7_spread_B60
    rw [ix_n hc (by decide), gd_t, tn_n (by omega), uA_ne (by omega), kM.2.1, if_neg (nI_nlt (Nat.le_refl _) (by omega))]
end SPREAD
