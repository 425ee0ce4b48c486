section GAP
variable {h : MH} {a kd n i : Nat} {ds cs : Nat → Nat} {w wt : Nat}
theorem cGap {j : Nat} (ha : shp a = (1, 0)) (hK : covK kd n ds cs w wt) (hC : covC h a kd n ds cs w wt) (hi : i < n) (hj : j < 1000000) : f_X1_gapBetween h a (nI i) (nI j) = some (nI (if j < n then gapN (ds i) (ds j) else 0)) := by
  have hn := hK.1.2.1
  unfold f_X1_gapBetween
  rw [cHasC hC.2.1, bd_s, cHasC hC.2.1, bd_s, inR_n hi (by omega), if_pos rfl]
  by_cases q : j < n
  · have b1 := hK.2.1 i hi
    have b2 := hK.2.1 j q
    rw [inR_n q (by omega), if_pos rfl, if_pos q, ix_n (by omega) (by decide), gd_t, ix_n (by omega) (by decide), gd_t, tn_n (by omega), tn_n (by omega), rf_Cov0 ha, (hC.2.2.2.2 i hi).1, (hC.2.2.2.2 j q).1, cAbs (by omega) (by omega), bd_s]
  · have e : inR (nI j) n = false := decide_eq_false (fun z => absurd z.2 (nI_nlt (by omega) (by omega)))
    rw [e, if_neg (by decide), if_neg q]
    rfl
theorem cGap_n {x : Int32} (hC : covC h a kd n ds cs w wt) (hx : x < 0) : f_X1_gapBetween h a (nI i) x = some 0 := by
  unfold f_X1_gapBetween
  rw [cHasC hC.2.1, bd_s, cHasC hC.2.1, bd_s]
  have e : inR x n = false := decide_eq_false (fun z => absurd hx z.1)
  rw [e]
  cases inR (nI i) n <;> rfl
end GAP
