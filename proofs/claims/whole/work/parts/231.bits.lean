/-! a dot's bit and its flip, by both -/
def bitV (kd d : Nat) : Int32 := if kd = 2 then (shr (nI d) 1) &&& 1 else nI d &&& 1
def flipV (kd d k : Nat) : Int32 := if kd = 3 then (if k = 1 then nI d else if d + 1 = k then nI d - 1 else nI d + 1) else if kd = 2 then nI d ^^^ 2 else nI d ^^^ 1
section BITS
variable {h : MH} {a c kd n i : Nat} {ds cs : Nat → Nat} {w wt : Nat}
theorem cBitAt (ha : shp a = (1, 0)) (hK : covK kd n ds cs w wt) (hC : covC h a kd n ds cs w wt) (hi : i < n) : f_X1_bitAt h a (nI i) = some (bitV kd (ds i)) := by
  have hk := hK.1.2.2.1
  unfold f_X1_bitAt bitV
  rw [hC.1, cDotAt ha hK hC hi, bd_s, bd_s]
  by_cases k2 : kd = 2
  · rw [if_pos (show nI kd = 2 by rw [k2]; rfl), if_pos k2]
  · rw [if_neg (show ¬ nI kd = 2 from fun q => k2 ((nI_eq (b := 2) (by omega) (by decide)).mp q)), if_neg k2]
theorem mBitOf (hc : c < 6) (hK : covK kd n ds cs w wt) (hM : covM h c kd n ds cs w wt) (hi : i < n) : f_X7_bitOf h (nI c) (nI i) = some (bitV kd (ds i)) := by
  have hk := hK.1.2.2.1
  unfold f_X7_bitOf bitV
  rw [ix_n hc (by decide), gd_t, tn_n (by omega), hM.1, mDotAt hc hK hM hi, bd_s, bd_s]
  by_cases k2 : kd = 2
  · rw [if_pos (show nI kd = 2 by rw [k2]; rfl), if_pos k2]
  · rw [if_neg (show ¬ nI kd = 2 from fun q => k2 ((nI_eq (b := 2) (by omega) (by decide)).mp q)), if_neg k2]
theorem cFlipped (ha : shp a = (1, 0)) (hK : covK kd n ds cs w wt) (hC : covC h a kd n ds cs w wt) (hi : i < n) : f_X1_flippedAt h a (nI i) = some (flipV kd (ds i) (cs i)) := by
  have hk := hK.1.2.2.1
  unfold f_X1_flippedAt flipV
  rw [cDotAt ha hK hC hi, bd_s, hC.1, cChoices ha hK hC hi, bd_s, bd_s]
  by_cases k2 : kd = 2
  · rw [if_pos (show nI kd = 2 by rw [k2]; rfl), if_neg (show ¬ kd = 3 by omega), if_pos k2]
  rw [if_neg (show ¬ nI kd = 2 from fun q => k2 ((nI_eq (b := 2) (by omega) (by decide)).mp q))]
  by_cases k3 : kd = 3
  · have b := hK.2.2.1 k3 i hi
    rw [if_pos (show nI kd = 3 by rw [k3]; rfl), if_pos k3]
    by_cases c1 : cs i = 1
    · rw [if_pos (show nI (cs i) < 2 by rw [c1]; decide), if_pos c1]
    · rw [if_neg (show ¬ nI (cs i) < 2 from (nI_nlt (show 2 ≤ cs i by omega) (by omega) : ¬ nI (cs i) < nI 2)), if_neg c1, nI_s]
      by_cases c2 : ds i + 1 = cs i
      · rw [if_pos c2, if_neg (nI_nlt (show cs i ≤ ds i + 1 by omega) (by omega))]
      · rw [if_neg c2, if_pos (nI_lt (show ds i + 1 < cs i by omega) (by omega))]
  · rw [if_neg (show ¬ nI kd = 3 from fun q => k3 ((nI_eq (b := 3) (by omega) (by decide)).mp q)), if_neg k3, if_neg k2]
theorem mFlipped (hc : c < 6) (hK : covK kd n ds cs w wt) (hM : covM h c kd n ds cs w wt) (hi : i < n) : f_X7_flipped h (nI c) (nI i) = some (flipV kd (ds i) (cs i)) := by
  have hk := hK.1.2.2.1
  have hn := hK.1.2.1
  unfold f_X7_flipped flipV
  rw [mDotAt hc hK hM hi, bd_s, ix_n hc (by decide), gd_t, gd_t, tn_n (by omega), hM.1, lin40, ix_n (by omega) (by decide), gd_t, nm_v, tn_n (by omega)]
  by_cases k3 : kd = 3
  · have b := hK.2.2.1 k3 i hi
    rw [if_pos (show nI kd = 3 by rw [k3]; rfl), if_pos k3, (hM.2.2.2.2 i hi).2 k3]
    by_cases c1 : cs i = 1
    · rw [if_pos (show nI (cs i) = 1 by rw [c1]; rfl), if_pos c1]
    · rw [if_neg (show ¬ nI (cs i) = 1 from fun q => c1 ((nI_eq (b := 1) (by omega) (by decide)).mp q)), if_neg c1]
      have e : nI (cs i) - 1 = nI (cs i - 1) := nIsub (b := 1) (by omega)
      rw [e]
      by_cases c2 : ds i + 1 = cs i
      · rw [if_pos c2, if_pos (show nI (ds i) = nI (cs i - 1) by congr 1; omega)]
      · rw [if_neg c2, if_neg (show ¬ nI (ds i) = nI (cs i - 1) from fun q => c2 (by have := (nI_eq (by omega) (by omega)).mp q; omega))]
  · rw [if_neg (show ¬ nI kd = 3 from fun q => k3 ((nI_eq (b := 3) (by omega) (by decide)).mp q)), if_neg k3]
    by_cases k2 : kd = 2
    · rw [if_pos (show nI kd = 2 by rw [k2]; rfl), if_pos k2]
    · rw [if_neg (show ¬ nI kd = 2 from fun q => k2 ((nI_eq (b := 2) (by omega) (by decide)).mp q)), if_neg k2]
end BITS
