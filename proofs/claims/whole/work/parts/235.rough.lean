def roughN (n : Nat) (ds : Nat → Nat) (w i : Nat) : Nat := (if 0 < i % w then gapN (ds i) (ds (i - 1)) else 0) + (if i % w < w - 1 then (if i + 1 < n then gapN (ds i) (ds (i + 1)) else 0) else 0) + (if w ≤ i then gapN (ds i) (ds (i - w)) else 0) + (if i + w < n then gapN (ds i) (ds (i + w)) else 0)
section ROUGH
variable {h : MH} {a kd n i : Nat} {ds cs : Nat → Nat} {w wt : Nat}
theorem cRough58 {v : Nat} (ha : shp a = (1, 0)) (hK : covK kd n ds cs w wt) (hC : covC h a kd n ds cs w wt) (hi : i < n) (h1 : 1 ≤ w) (hw : w ≤ 40) : f_X1_roughnessAt_J58 h a (nI i) (nI v) = some (nI (v + (if w ≤ i then gapN (ds i) (ds (i - w)) else 0) + (if i + w < n then gapN (ds i) (ds (i + w)) else 0))) := by
  have hn := hK.1.2.1
  have up : f_X1_gapBetween h a (nI i) (nI i - nI w) = some (nI (if w ≤ i then gapN (ds i) (ds (i - w)) else 0)) := by
    by_cases q : w ≤ i
    · rw [nIsub q, cGap ha hK hC hi (by omega), if_pos (show i - w < n by omega), if_pos q]
    · rw [← Int32.neg_sub, nIsub (show i ≤ w by omega), cGap_n hC (neg_lt (by omega) (by omega)), if_neg q]
      rfl
  unfold f_X1_roughnessAt_J58
  rw [hC.2.2.1, up, bd_s, nI_add, cGap ha hK hC hi (by omega), bd_s, nI_add, nI_add]
theorem cRough (ha : shp a = (1, 0)) (hK : covK kd n ds cs w wt) (hC : covC h a kd n ds cs w wt) (hi : i < n) (h1 : 1 ≤ w) (hw : w ≤ 40) : f_X1_roughnessAt h a (nI i) = some (nI (roughN n ds w i)) := by
  have hn := hK.1.2.1
  have nz1 : nz (nI w) = true := decide_eq_true (nI0_ne h1 (by omega))
  have rm : irm (nI i) (nI w) = nI (i % w) := pk_rem (by omega) (by omega) (by omega)
  have ml := Nat.mod_lt i (show w > 0 from h1)
  have J32 : ∀ v, f_X1_roughnessAt_J32 h a (nI i) (nI v) = some (nI (v + (if i % w < w - 1 then (if i + 1 < n then gapN (ds i) (ds (i + 1)) else 0) else 0) + (if w ≤ i then gapN (ds i) (ds (i - w)) else 0) + (if i + w < n then gapN (ds i) (ds (i + w)) else 0))) := fun v => by
    unfold f_X1_roughnessAt_J32
    rw [hC.2.2.1, nz1, gd_t, rm, show nI w - 1 = nI (w - 1) from nIsub (b := 1) h1]
    by_cases q : i % w < w - 1
    · rw [if_pos (nI_lt q (by omega)), if_pos q, nI_s, cGap ha hK hC hi (by omega), bd_s, nm_v, nI_add, cRough58 ha hK hC hi h1 hw]
    · rw [if_neg (nI_nlt (by omega) (by omega)), if_neg q, cRough58 ha hK hC hi h1 hw, Nat.add_zero]
  unfold f_X1_roughnessAt roughN
  rw [hC.2.2.1, if_neg (show ¬ nI w < 1 from (nI_nlt h1 (by omega) : ¬ nI w < nI 1)), nz1, gd_t, rm]
  by_cases q : 0 < i % w
  · have i1 : 1 ≤ i := by
      have := Nat.mod_le i w
      omega
    rw [if_pos (show 0 < nI (i % w) from (nI_lt q (by omega) : nI 0 < nI (i % w))), if_pos q, show nI i - 1 = nI (i - 1) from nIsub (b := 1) i1, cGap ha hK hC hi (by omega), bd_s, nm_v, if_pos (show i - 1 < n by omega), show (0 : Int32) = nI 0 from rfl, nI_add, Nat.zero_add, J32]
  · rw [if_neg (show ¬ 0 < nI (i % w) from (nI_nlt (show i % w ≤ 0 by omega) (by omega) : ¬ nI 0 < nI (i % w))), if_neg q, show (0 : Int32) = nI 0 from rfl, J32]
end ROUGH
