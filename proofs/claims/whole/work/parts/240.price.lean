def priceV (kd n : Nat) (ds : Nat → Nat) (w i k : Nat) : Int32 := if kd = 3 then 12 / nI k else if kd = 1 then 60 / nI (1 + roughN n ds w i) + 1 else if kd = 2 then 2 * (60 / nI (1 + roughN n ds w i) + 1) else 10
theorem rough_le {n w i : Nat} {ds : Nat → Nat} (hd : ∀ j, j < n → ds j ≤ 255) (hi : i < n) : roughN n ds w i ≤ 1020 := by
  have g : ∀ j, j < n → gapN (ds i) (ds j) ≤ 255 := fun j hj => gapN_le (hd i hi) (hd j hj)
  unfold roughN
  have a1 : (if 0 < i % w then gapN (ds i) (ds (i - 1)) else 0) ≤ 255 := by
    split
    · exact g _ (by omega)
    · omega
  have a2 : (if i % w < w - 1 then (if i + 1 < n then gapN (ds i) (ds (i + 1)) else 0) else 0) ≤ 255 := by
    split
    · split
      · exact g _ (by omega)
      · omega
    · omega
  have a3 : (if w ≤ i then gapN (ds i) (ds (i - w)) else 0) ≤ 255 := by
    split
    · exact g _ (by omega)
    · omega
  have a4 : (if i + w < n then gapN (ds i) (ds (i + w)) else 0) ≤ 255 := by
    split
    · exact g _ (by omega)
    · omega
  omega
/-- the greater of 1 and a number from 1 on -/
theorem max1 {n : Nat} (h1 : 1 ≤ n) (hn : n ≤ 1000000000) : f_J9_max_7cf53 1 (nI n) = some (nI n) := by
  unfold f_J9_max_7cf53
  by_cases h0 : 1 < n
  · rw [if_pos (show (1 : Int32) < nI n from (nI_lt h0 (by omega) : nI 1 < nI n))]
  · have : n = 1 := (by omega)
    subst this
    rfl
section PRICE3
variable {h : MH} {a c kd n i : Nat} {ds cs : Nat → Nat} {w wt : Nat}
theorem cPrice (ha : shp a = (1, 0)) (hK : covK kd n ds cs w wt) (hC : covC h a kd n ds cs w wt) (hi : i < n) : f_X1_priceAt h a (nI i) = some (priceV kd n ds w i (cs i)) := by
  have hk := hK.1.2.2.1
  unfold f_X1_priceAt priceV
  rw [cChoices ha hK hC hi, bd_s, hC.2.2.1, hC.1]
  by_cases k3 : kd = 3
  · have b := hK.2.2.1 k3 i hi
    rw [if_pos (show 0 < nI (cs i) from (nI_lt (show 0 < cs i by omega) (by omega) : nI 0 < nI (cs i))), show nz (nI (cs i)) = true from decide_eq_true (nI0_ne (by omega) (by omega)), gd_t, if_pos k3]
  rw [hK.2.2.2.1 k3 i hi, if_neg (show ¬ (0 : Int32) < nI 0 by decide), if_neg k3]
  by_cases k12 : kd = 1 ∨ kd = 2
  · obtain ⟨w1, w2⟩ := hK.2.2.2.2.1 k12
    have rl := rough_le (w := w) hK.2.1 hi
    rw [if_neg (show ¬ nI w < 1 from (nI_nlt w1 (by omega) : ¬ nI w < nI 1)), cRough ha hK hC hi w1 w2, bd_s, show (1 : Int32) + nI (roughN n ds w i) = nI (1 + roughN n ds w i) from nI_add 1 _, max1 (by omega) (by omega), bd_s, show nz (nI (1 + roughN n ds w i)) = true from decide_eq_true (nI0_ne (by omega) (by omega)), gd_t, nm_v]
    rcases k12 with rfl | rfl
    · rw [if_neg (show ¬ nI 1 = 2 by decide), if_pos rfl]
    · rw [if_pos (show nI 2 = 2 from rfl), if_neg (show ¬ 2 = 1 by decide), if_pos rfl]
  · rw [hK.2.2.2.2.2 k12, if_pos (show nI 0 < 1 by decide), if_neg (fun q => k12 (Or.inl q)), if_neg (fun q => k12 (Or.inr q))]
theorem mPrice (hc : c < 6) (hK : covK kd n ds cs w wt) (hM : covM h c kd n ds cs w wt) (hi : i < n) : f_X7_priceOf h (nI c) (nI i) = some (priceV kd n ds w i (cs i)) := by
  have hk := hK.1.2.2.1
  have hn := hK.1.2.1
  have rl := rough_le (w := w) hK.2.1 hi
  have J : (kd = 1 ∨ kd = 2) → f_X7_priceOf_J48 h (nI c) (nI i) = if nI kd = 2 then some (2 * (60 / nI (1 + roughN n ds w i) + 1)) else some (60 / nI (1 + roughN n ds w i) + 1) := fun q => by
    obtain ⟨w1, w2⟩ := hK.2.2.2.2.1 q
    unfold f_X7_priceOf_J48
    rw [ix_n hc (by decide), gd_t, nm_v, tn_n (by omega), hM.2.2.1 q, mP61L hc hK hM hi w1 w2, bd_s, touch_sum w1 hi, show nz (nI (1 + roughN n ds w i)) = true from decide_eq_true (nI0_ne (by omega) (by omega)), gd_t, nm_v, gd_t, hM.1]
  unfold f_X7_priceOf priceV
  rw [ix_n hc (by decide), gd_t, gd_t, gd_t, tn_n (by omega), hM.1, lin40, ix_n (by omega) (by decide), gd_t, tn_n (by omega)]
  by_cases k3 : kd = 3
  · have b := hK.2.2.1 k3 i hi
    rw [if_pos (show nI kd = 3 by rw [k3]; rfl), (hM.2.2.2.2 i hi).2 k3, show nz (nI (cs i)) = true from decide_eq_true (nI0_ne (by omega) (by omega)), gd_t, if_pos k3]
  rw [if_neg (show ¬ nI kd = 3 from fun q => k3 ((nI_eq (b := 3) (by omega) (by decide)).mp q)), if_neg k3]
  by_cases k1 : kd = 1
  · rw [if_pos (show nI kd = 1 by rw [k1]; rfl), if_pos k1, J (Or.inl k1), if_neg (show ¬ nI kd = 2 by rw [k1]; decide)]
  rw [if_neg (show ¬ nI kd = 1 from fun q => k1 ((nI_eq (b := 1) (by omega) (by decide)).mp q)), if_neg k1]
  by_cases k2 : kd = 2
  · rw [if_pos (show nI kd = 2 by rw [k2]; rfl), if_pos k2, J (Or.inr k2), if_pos (show nI kd = 2 by rw [k2]; rfl)]
  · rw [if_neg (show ¬ nI kd = 2 from fun q => k2 ((nI_eq (b := 2) (by omega) (by decide)).mp q)), if_neg k2]
end PRICE3
