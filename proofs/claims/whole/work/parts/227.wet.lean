theorem and1 (x : Int32) : x &&& 1 = 0 ∨ x &&& 1 = 1 := by
  have e : (x &&& 1).toBitVec = BitVec.setWidth 32 (BitVec.ofBool (x.toBitVec.getLsbD 0)) := by
    rw [Int32.toBitVec_and]
    exact BitVec.and_one_eq_setWidth_ofBool_getLsbD
  cases q : x.toBitVec.getLsbD 0 with
  | false =>
    left
    apply Int32.toBitVec_inj.mp
    rw [e, q]
    rfl
  | true =>
    right
    apply Int32.toBitVec_inj.mp
    rw [e, q]
    rfl
def wetB (kd : Nat) (cs : Nat → Nat) (wt i : Nat) : Bool := if kd = 4 then true else if kd = 3 ∧ cs i = 1 then true else if i < 31 then decide ((shr (nI wt) (nI i)) &&& 1 = 1) else false
theorem cHasC {h : MH} {a n : Nat} {x : Int32} (e : h.1 a 3 = nI n) : f_X1_has h a x = some (inR x n) := by
  unfold f_X1_has
  rw [e]
  exact inR_b rfl
section WET
variable {h : MH} {a c kd n : Nat} {ds cs : Nat → Nat} {w wt : Nat}
theorem cChoices {i : Nat} (ha : shp a = (1, 0)) (hK : covK kd n ds cs w wt) (hC : covC h a kd n ds cs w wt) (hi : i < n) : f_X1_choicesAt h a (nI i) = some (nI (cs i)) := by
  have hn := hK.1.2.1
  unfold f_X1_choicesAt
  rw [cHasC hC.2.1, bd_s, inR_n hi (by omega), if_pos rfl, ix_n (by omega) (by decide), gd_t, tn_n (by omega), rf_Cov1 ha, (hC.2.2.2.2 i hi).2]
theorem cDotAt {i : Nat} (ha : shp a = (1, 0)) (hK : covK kd n ds cs w wt) (hC : covC h a kd n ds cs w wt) (hi : i < n) : f_X1_dotAt h a (nI i) = some (nI (ds i)) := by
  have hn := hK.1.2.1
  unfold f_X1_dotAt
  rw [cHasC hC.2.1, bd_s, inR_n hi (by omega), if_pos rfl, ix_n (by omega) (by decide), gd_t, tn_n (by omega), rf_Cov0 ha, (hC.2.2.2.2 i hi).1]
theorem mDotAt {i : Nat} (hc : c < 6) (hK : covK kd n ds cs w wt) (hM : covM h c kd n ds cs w wt) (hi : i < n) : f_X7_dotAt h (nI c) (nI i) = some (nI (ds i)) := by
  have hn := hK.1.2.1
  unfold f_X7_dotAt
  rw [lin40, ix_n (by omega) (by decide), gd_t, tn_n (by omega), (hM.2.2.2.2 i hi).1]
theorem cIsWet {i : Nat} (ha : shp a = (1, 0)) (hK : covK kd n ds cs w wt) (hC : covC h a kd n ds cs w wt) (hi : i < n) : f_X1_isWet h a (nI i) = some (wetB kd cs wt i) := by
  have hn := hK.1.2.1
  have hk := hK.1.2.2.1
  have J : f_X1_isWet_J27 h a (nI i) = some (if i < 31 then decide ((shr (nI wt) (nI i)) &&& 1 = 1) else false) := by
    unfold f_X1_isWet_J27
    rw [if_neg (nlt0 (by omega)), hC.2.2.2.1]
    by_cases q : i < 31
    · rw [if_neg (show ¬ 30 < nI i from (nI_nlt (show i ≤ 30 by omega) (by decide) : ¬ nI 30 < nI i)), if_pos q]
      rcases and1 (shr (nI wt) (nI i)) with z | z
      · rw [z, if_pos rfl]
        rfl
      · rw [z, if_neg (by decide)]
        rfl
    · rw [if_pos (show 30 < nI i from (nI_lt (show 30 < i by omega) (by omega) : nI 30 < nI i)), if_neg q]
  unfold f_X1_isWet wetB
  rw [hC.1, J, show (4 : Int32) = nI 4 from rfl, show (3 : Int32) = nI 3 from rfl, cChoices ha hK hC hi, bd_s]
  by_cases k4 : kd = 4
  · rw [if_pos (show nI kd = nI 4 by rw [k4]), if_pos k4]
  have n4 : ¬ nI kd = nI 4 := fun q => k4 ((nI_eq (by omega) (by decide)).mp q)
  rw [if_neg n4, if_neg k4]
  by_cases k3 : kd = 3
  · have b := hK.2.2.1 k3 i hi
    rw [if_pos (show nI kd = nI 3 by rw [k3])]
    by_cases c1 : cs i = 1
    · rw [if_pos (show nI (cs i) < 2 by rw [c1]; decide), if_pos ⟨k3, c1⟩]
    · rw [if_neg (show ¬ nI (cs i) < 2 from (nI_nlt (show 2 ≤ cs i by omega) (by omega) : ¬ nI (cs i) < nI 2)), if_neg (show ¬ (kd = 3 ∧ cs i = 1) from fun q => c1 q.2)]
  · rw [if_neg (show ¬ nI kd = nI 3 from fun q => k3 ((nI_eq (by omega) (by decide)).mp q)), if_neg (show ¬ (kd = 3 ∧ cs i = 1) from fun q => k3 q.1)]
theorem mIsWet {i : Nat} (hc : c < 6) (hK : covK kd n ds cs w wt) (hM : covM h c kd n ds cs w wt) (hi : i < n) : f_X7_isWet h (nI c) (nI i) = some (wetB kd cs wt i) := by
  have hn := hK.1.2.1
  have hk := hK.1.2.2.1
  have J : f_X7_isWet_J35 h (nI c) (nI i) = some (if i < 31 then decide ((shr (nI wt) (nI i)) &&& 1 = 1) else false) := by
    unfold f_X7_isWet_J35 f_X7_has
    rw [ix_n hc (by decide), gd_t, tn_n (by omega), hM.2.2.2.1]
    by_cases q : i < 31
    · rw [if_pos (show nI i < 31 from (nI_lt q (by decide) : nI i < nI 31)), if_pos q]
      rcases and1 (shr (nI wt) (nI i)) with z | z
      · rw [z, if_neg (by decide)]
        rfl
      · rw [z, if_pos rfl]
        rfl
    · rw [if_neg (show ¬ nI i < 31 from (nI_nlt (show 31 ≤ i by omega) (by omega) : ¬ nI i < nI 31)), if_neg q]
  unfold f_X7_isWet wetB
  rw [ix_n hc (by decide), gd_t, gd_t, tn_n (by omega), hM.1, J, show (4 : Int32) = nI 4 from rfl, show (3 : Int32) = nI 3 from rfl, lin40, ix_n (by omega) (by decide), gd_t, tn_n (by omega)]
  by_cases k4 : kd = 4
  · rw [if_pos (show nI kd = nI 4 by rw [k4]), if_pos k4]
  have n4 : ¬ nI kd = nI 4 := fun q => k4 ((nI_eq (by omega) (by decide)).mp q)
  rw [if_neg n4, if_neg k4]
  by_cases k3 : kd = 3
  · have b := hK.2.2.1 k3 i hi
    rw [if_pos (show nI kd = nI 3 by rw [k3]), (hM.2.2.2.2 i hi).2 k3]
    by_cases c1 : cs i = 1
    · rw [if_pos (show nI (cs i) = 1 by rw [c1]; rfl), if_pos ⟨k3, c1⟩]
    · rw [if_neg (show ¬ nI (cs i) = 1 from fun q => c1 ((nI_eq (b := 1) (by omega) (by decide)).mp q)), if_neg (show ¬ (kd = 3 ∧ cs i = 1) from fun q => c1 q.2)]
  · rw [if_neg (show ¬ nI kd = nI 3 from fun q => k3 ((nI_eq (by omega) (by decide)).mp q)), if_neg (show ¬ (kd = 3 ∧ cs i = 1) from fun q => k3 q.1)]
end WET
def cntB (p : Nat → Bool) : Nat → Nat
  | 0 => 0
  | n + 1 => cntB p n + (if p n = true then 1 else 0)
theorem cCountWet {h : MH} {a kd n : Nat} {ds cs : Nat → Nat} {w wt : Nat} (ha : shp a = (1, 0)) (hK : covK kd n ds cs w wt) (hC : covC h a kd n ds cs w wt) : f_X1_countWet h a = some (nI (cntB (wetB kd cs wt) n)) := by
  have hn := hK.1.2.1
  have key : f_X1_countWet_L4 h a 0 0 = some (nI (cntB (wetB kd cs wt) n)) := by
    unfold f_X1_countWet_L4
    rw [show ((0 : Int32), (0 : Int32)) = (nI (cntB (wetB kd cs wt) 0), nI 0) from rfl]
    refine lpo_for (fun i => (nI (cntB (wetB kd cs wt) i), nI i)) n (fun i hi => ?_) ?_
    · (try dsimp only)
      unfold f_X1_countWet_B4
      rw [hC.2.1, if_pos (nI_lt hi (by omega)), cIsWet ha hK hC hi, bd_s, nI_s, nI_s]
      show _ = some (Sum.inl (nI (cntB (wetB kd cs wt) i + (if wetB kd cs wt i = true then 1 else 0)), nI (i + 1)))
      cases wetB kd cs wt i <;> rfl
    · (try dsimp only)
      unfold f_X1_countWet_B4
      rw [hC.2.1, if_neg (nI_nlt (Nat.le_refl _) (by omega))]
  unfold f_X1_countWet
  rw [key, bd_s]
theorem mCountWet {h : MH} {c kd n : Nat} {ds cs : Nat → Nat} {w wt : Nat} (hc : c < 6) (hK : covK kd n ds cs w wt) (hM : covM h c kd n ds cs w wt) : f_X7_wet_L31 h (nI c) 0 0 = some (nI (cntB (wetB kd cs wt) n)) := by
  have hn := hK.1.2.1
  unfold f_X7_wet_L31
  rw [show ((0 : Int32), (0 : Int32)) = (nI (cntB (wetB kd cs wt) 0), nI 0) from rfl]
  refine lpo_for (fun i => (nI (cntB (wetB kd cs wt) i), nI i)) n (fun i hi => ?_) ?_
  · (try dsimp only)
    unfold f_X7_wet_B31
    rw [ix_n hc (by decide), gd_t, tn_n (by omega), hM.2.1, if_pos (nI_lt hi (by omega)), mIsWet hc hK hM hi, bd_s, nm_v, nm_v, nI_s, nI_s]
    show _ = some (Sum.inl (nI (cntB (wetB kd cs wt) i + (if wetB kd cs wt i = true then 1 else 0)), nI (i + 1)))
    cases wetB kd cs wt i with
    | false => rw [if_neg (by decide), if_neg (by decide), show (0 : Int32) = nI 0 from rfl, nI_add]
    | true => rfl
  · (try dsimp only)
    unfold f_X7_wet_B31
    rw [ix_n hc (by decide), gd_t, tn_n (by omega), hM.2.1, if_neg (nI_nlt (Nat.le_refl _) (by omega))]
theorem op_wet {h : MH} (S : Sim h) (c x : Int32) : Op (f_X6_wet h c x) (fun h1 => f_X7_wet h1 c x) := by
  by_cases x0 : x < 0
  · refine op_same S (v := -1) ?_ ?_
    · unfold f_X6_wet
      rw [cIsCover, bd_s]
      cases inR c 6 with
      | false => rw [if_neg (by decide)]
      | true => rw [if_pos rfl, if_pos x0]
    · show f_X7_wet h _ _ = _
      unfold f_X7_wet
      rw [if_pos x0]
  obtain ⟨v, hv, rfl⟩ := nI_of x0
  rcases cover_cases S.2.2.1 c with hc | ⟨c, hc6, rfl, hc, ⟨m1, m2⟩ | ⟨kd, n, ds, cs, w, wt, hK, hC, hM⟩⟩
  · exact op_same S (v := -1) (by unfold f_X6_wet; rw [cIsCover, bd_s, hc, if_neg (by decide)]) (by show f_X7_wet h _ _ = _; unfold f_X7_wet; rw [if_neg x0, mAskCov_b hc, bnd2_s, if_pos (by decide)])
  · refine op_found S (f := 1) (by decide) (by decide) ?_ ?_
    · unfold f_X6_wet
      rw [cIsCover, bd_s, hc, if_pos rfl, if_neg x0, ix_n hc6 (by decide), gd_t, tn_n (by omega), rf_covers hc6, cMissC_t m1, bd_s, if_pos rfl]
      exact pF (by decide) (by decide)
    · show f_X7_wet (fd h 1) _ _ = _
      unfold f_X7_wet
      rw [if_neg x0, mAskCov_m hc6 (by rw [fd_ne (by decide) (by decide)]; exact m2), pB (by decide) (by decide)]
  · have hn := hK.1.2.1
    have hK2 : covK kd n ds cs w v := ⟨⟨hK.1.1, hK.1.2.1, hK.1.2.2.1, hv⟩, hK.2⟩
    have hC2 : covC (uI h (38 + 3 * c) 5 (nI v)) (38 + 3 * c) kd n ds cs w v := by
      refine ⟨by simp (disch := omega) only [uI_ne, uI_k, uI_at, uA_ne, uA_at]; exact hC.1, by simp (disch := omega) only [uI_ne, uI_k, uI_at, uA_ne, uA_at]; exact hC.2.1, by simp (disch := omega) only [uI_ne, uI_k, uI_at, uA_ne, uA_at]; exact hC.2.2.1, by simp (disch := omega) only [uI_ne, uI_k, uI_at, uA_ne, uA_at], fun i hi => ?_⟩
      simp (disch := omega) only [uI_ne, uI_k, uI_at, uA_ne, uA_at]
      exact hC.2.2.2.2 i hi
    have hM2 : covM (uI (uI h (38 + 3 * c) 5 (nI v)) 76 c (nI v)) c kd n ds cs w v := by
      refine ⟨by simp (disch := omega) only [uI_ne, uI_k, uI_at, uA_ne, uA_at]; exact hM.1, by simp (disch := omega) only [uI_ne, uI_k, uI_at, uA_ne, uA_at]; exact hM.2.1, fun q => by simp (disch := omega) only [uI_ne, uI_k, uI_at, uA_ne, uA_at]; exact hM.2.2.1 q, by simp (disch := omega) only [uI_ne, uI_k, uI_at, uA_ne, uA_at], fun i hi => ?_⟩
      simp (disch := omega) only [uI_ne, uI_k, uI_at, uA_ne, uA_at]
      exact hM.2.2.2.2 i hi
    refine ⟨nI (cntB (wetB kd cs v) n), uI h (38 + 3 * c) 5 (nI v), uI (uI h (38 + 3 * c) 5 (nI v)) 76 c (nI v), ?_, ?_, ?_⟩
    · unfold f_X6_wet
      rw [cIsCover, bd_s, hc, if_pos rfl, if_neg x0, ix_n hc6 (by decide), gd_t, tn_n (by omega), rf_covers hc6, cMissC_f hC.2.1 hK.1.1 (by omega), bd_s, if_neg (by decide), nm_v, cCountWet (sh_cov hc6) hK2 hC2, bd_s]
    · show f_X7_wet (uI h (38 + 3 * c) 5 (nI v)) _ _ = _
      unfold f_X7_wet
      rw [if_neg x0, mAskCov_o (n := n) hc6 (by rw [uI_ne (by omega)]; exact hM.2.1) hK.1.1 (by omega), bnd2_s, if_neg (by decide), ix_n hc6 (by decide), gd_t, tn_n (by omega), nm_v, mCountWet hc6 hK2 hM2, bd_s]
    · refine sim_cov hc6 S (fun a q1 q2 => by simp (disch := omega) only [uI_ne, uI_k, uI_at, uA_ne, uA_at]) rfl (fun a d ha hd => ?_) (fun a q ha hq => ?_) (Or.inr ⟨kd, n, ds, cs, w, v, hK2, ?_, hM2⟩)
      · rcases ha with rfl | rfl | rfl | rfl <;> simp (disch := omega) only [uI_ne, uI_k, uI_at, uA_ne, uA_at]
      · rcases ha with rfl | rfl <;> simp (disch := omega) only [uI_ne, uI_k, uI_at, uA_ne, uA_at]
      · refine ⟨by simp (disch := omega) only [uI_ne, uI_k, uI_at, uA_ne, uA_at]; exact hC.1, by simp (disch := omega) only [uI_ne, uI_k, uI_at, uA_ne, uA_at]; exact hC.2.1, by simp (disch := omega) only [uI_ne, uI_k, uI_at, uA_ne, uA_at]; exact hC.2.2.1, by simp (disch := omega) only [uI_ne, uI_k, uI_at, uA_ne, uA_at], fun i hi => ?_⟩
        simp (disch := omega) only [uI_ne, uI_k, uI_at, uA_ne, uA_at]
        exact hC.2.2.2.2 i hi
