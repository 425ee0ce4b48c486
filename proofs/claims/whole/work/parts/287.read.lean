/-! what a block holds -/
def bitB (kd d : Nat) : Bool := if kd = 2 then d.testBit 1 else d.testBit 0
theorem bitV_N {kd d : Nat} (hd : d ≤ 255) : bitV kd d = nI (if bitB kd d = true then 1 else 0) := by
  unfold bitV bitB
  by_cases z : kd = 2
  · rw [if_pos z, if_pos z]
    exact N_tb (j := 1) (by omega) (by decide)
  · rw [if_neg z, if_neg z]
    show nI d &&& nI 1 = _
    rw [N_and, Nat.and_one_is_mod, ← tb01 (j := 0), Nat.pow_zero, Nat.div_one]
theorem dvk {b k i : Nat} (hi : i < k) : (b * k + i) / k = b ∧ (b * k + i) % k = i := by
  refine ⟨?_, ?_⟩
  · rw [Nat.add_comm, Nat.add_mul_div_right _ _ (by omega), Nat.div_eq_of_lt hi, Nat.zero_add]
  · rw [Nat.add_comm, Nat.add_mul_mod_self_right, Nat.mod_eq_of_lt hi]
def bsN (kd : Nat) (ds O : Nat → Nat) (w b : Nat) : Nat := bnN (fun p => bitB kd (ds (O (b * w + p)))) w
theorem lin_bw (b w i : Nat) : (nI b * nI w) + nI i = nI (b * w + i) := by rw [pk_mul, nI_add]
section HELD
variable {h : MH} {a e c d kd n k w u wt b : Nat} {ds cs ls O : Nat → Nat}
theorem cHeld (ha : shp a = (1, 0)) (he : shp e = (0, 0)) (hKc : covK kd n ds cs u wt) (hC : covC h a kd n ds cs u wt) (hK : codK k w ls) (hD : codC h e k w ls) (hO : ∀ q, q < n → h.1 10 q = nI (O q) ∧ O q < n) (hb : b * w + w ≤ n) : f_X3_bitsHeld h a e (nI b) = some (nI (syX ls k (bsN kd ds O w b) w)) := by
  have w12 := hK.1.2.2.2
  have hn := hKc.1.2.1
  have key : f_X3_bitsHeld_L6 h a e (nI b) 0 0 = some (nI (syX ls k (bsN kd ds O w b) w)) := by
    unfold f_X3_bitsHeld_L6
    refine lpo_for (fun i => (nI (syX ls k (bsN kd ds O w b) i), nI i)) w (fun i hi => ?_) ?_
    · (try dsimp only)
      obtain ⟨o1, o2⟩ := hO (b * w + i) (by omega)
      have d9 := hKc.2.1 _ o2
      have tb : (bsN kd ds O w b).testBit i = bitB kd (ds (O (b * w + i))) := by
        unfold bsN
        rw [bnN_tb, decide_eq_true hi, Bool.true_and]
      unfold f_X3_bitsHeld_B6
      rw [hD.2.1, if_pos (nI_lt hi (by omega)), lin_bw, cPlaceAt (by omega), bd_s, o1, cBitAt ha hKc hC o2, bd_s, bitV_N d9, nI_s]
      show _ = some (Sum.inl (nI (if (bsN kd ds O w b).testBit i = true then syX ls k (bsN kd ds O w b) i ^^^ colN ls k i else syX ls k (bsN kd ds O w b) i), nI (i + 1)))
      rw [tb]
      cases bitB kd (ds (O (b * w + i))) with
      | true => rw [if_pos (by decide), if_pos rfl, cColumn he hK hD (by omega), bd_s, nm_v, N_xor]
      | false => rw [if_neg (by decide), if_neg (by decide)]
    · (try dsimp only)
      unfold f_X3_bitsHeld_B6
      rw [hD.2.1, if_neg (nI_nlt (Nat.le_refl _) (by omega))]
  unfold f_X3_bitsHeld
  rw [key, bd_s]
theorem mBlockSet (hc : c < 6) (hd : d < 4) (hKc : covK kd n ds cs u wt) (hM : covM h c kd n ds cs u wt) (hK : codK k w ls) (hD : codM h d k w ls) (hO : ∀ q, q < n → h.1 77 q = nI (O q) ∧ O q < n) (hb : b * w + w ≤ n) : f_X7_blockSet h (nI c) (nI d) (nI b) = some (nI (bsN kd ds O w b)) := by
  have w12 := hK.1.2.2.2
  have hn := hKc.1.2.1
  have key : f_X7_blockSet_L6 h (nI c) (nI d) (nI b) 0 0 = some (nI (bsN kd ds O w b)) := by
    unfold f_X7_blockSet_L6 bsN
    refine lpo_for (fun i => (nI (bnN (fun p => bitB kd (ds (O (b * w + p)))) i), nI i)) w (fun i hi => ?_) ?_
    · (try dsimp only)
      obtain ⟨o1, o2⟩ := hO (b * w + i) (by omega)
      have d9 := hKc.2.1 _ o2
      unfold f_X7_blockSet_B6
      rw [ix_n hd (by decide), gd_t, tn_n (j := d) (by omega), hD.2.1, if_pos (nI_lt hi (by omega)), lin_bw, gd_t, ix_n (show b * w + i < 40 by omega) (by decide), gd_t, tn_n (by omega), o1, mBitOf hc hKc hM o2, bd_s, bitV_N d9, nm_v, nI_s, bn_step (b := fun p => bitB kd (ds (O (b * w + p)))) (by omega)]
    · (try dsimp only)
      unfold f_X7_blockSet_B6
      rw [ix_n hd (by decide), gd_t, tn_n (by omega), hD.2.1, if_neg (nI_nlt (Nat.le_refl _) (by omega))]
  unfold f_X7_blockSet
  rw [key, bd_s]
def rdN (kd : Nat) (ds O ls : Nat → Nat) (k w q : Nat) : Int32 := nI (if (syX ls k (bsN kd ds O w (q / k)) w).testBit (q % k) = true then 1 else 0)
theorem cReadL {r m : Nat} {x8 : Int32} (hc : c < 6) (hd : d < 4) (hr : r < 6) (hKc : covK kd n ds cs u wt) (hC : covC h (38 + 3 * c) kd n ds cs u wt) (hK : codK k w ls) (hD : codC h (56 + 2 * d) k w ls) (hO : ∀ q, q < n → h.1 10 q = nI (O q) ∧ O q < n) (hm : m * w ≤ n) (hm4 : m * k ≤ 40) (hR : h.1 (18 + 2 * r) 1 = nI (m * k)) : f_X6_read_L141 h (nI m) (nI r) (38 + 3 * c) (56 + 2 * d) x8 0 = some (uA h (19 + 2 * r) (wr (h.1 (19 + 2 * r)) 0 (rdN kd ds O ls k w) (m * k))) := by
  have k6 := hK.1.2.1
  have k1 := hK.1.1
  have m40 : m ≤ 40 := Nat.le_trans (Nat.le_mul_of_pos_right m k1) hm4
  unfold f_X6_read_L141
  have key := lpo_for (step := fun s : Int32 × MH => f_X6_read_B141 s.2 (nI m) (nI r) (38 + 3 * c) (56 + 2 * d) x8 s.1) (b := uA h (19 + 2 * r) (wr (h.1 (19 + 2 * r)) 0 (rdN kd ds O ls k w) (m * k))) (fun b => (nI b, uA h (19 + 2 * r) (wr (h.1 (19 + 2 * r)) 0 (rdN kd ds O ls k w) (b * k)))) m (fun b hb => ?_) ?_
  · rw [Nat.zero_mul, wr_0] at key
    exact key
  · (try dsimp only)
    have b1 : (b + 1) * w ≤ m * w := Nat.mul_le_mul_right w hb
    have b2 : (b + 1) * k ≤ m * k := Nat.mul_le_mul_right k hb
    have e1 : (b + 1) * w = b * w + w := Nat.succ_mul b w
    have e2 : (b + 1) * k = b * k + k := Nat.succ_mul b k
    have inner : f_X6_read_L166 (uA h (19 + 2 * r) (wr (h.1 (19 + 2 * r)) 0 (rdN kd ds O ls k w) (b * k))) (nI m) (nI r) (38 + 3 * c) (56 + 2 * d) x8 (nI b) (nI (syX ls k (bsN kd ds O w b) w)) 0 = some (uA h (19 + 2 * r) (wr (h.1 (19 + 2 * r)) 0 (rdN kd ds O ls k w) (b * k + k))) := by
      unfold f_X6_read_L166
      have key := lpo_for (step := fun s : Int32 × MH => f_X6_read_B166 s.2 (nI m) (nI r) (38 + 3 * c) (56 + 2 * d) x8 (nI b) (nI (syX ls k (bsN kd ds O w b) w)) s.1) (b := uA h (19 + 2 * r) (wr (h.1 (19 + 2 * r)) 0 (rdN kd ds O ls k w) (b * k + k))) (fun i => (nI i, uA h (19 + 2 * r) (wr (h.1 (19 + 2 * r)) 0 (rdN kd ds O ls k w) (b * k + i)))) k (fun i hi => ?_) ?_
      · exact key
      · (try dsimp only)
        have q1 := dvk (b := b) hi
        have sl := syX_lt (ls := ls) (k := k) (s := bsN kd ds O w b) w
        have p6 : 2 ^ k ≤ 2 ^ 6 := Nat.pow_le_pow_right (by decide) k6
        unfold f_X6_read_B166
        rw [uA_ne (show 56 + 2 * d ≠ 19 + 2 * r by omega), hD.1, if_pos (nI_lt hi (by omega)), ix_n hr (by decide), gd_t, tn_n (j := r) (by omega), rf_rows hr, lin_bw, cSet (n := m * k) (sh_row hr) (by rw [uA_ne (by omega)]; exact hR) (by omega) (by omega), bd_s, nI_s, N_tb (by omega) (by omega), show 18 + 2 * r + 1 = 19 + 2 * r by omega, wr_0s (g := rdN kd ds O ls k w) (i := b * k + i) (by unfold rdN; rw [q1.1, q1.2])]
        rfl
      · (try dsimp only)
        unfold f_X6_read_B166
        rw [uA_ne (show 56 + 2 * d ≠ 19 + 2 * r by omega), hD.1, if_neg (nI_nlt (Nat.le_refl _) (by omega))]
    generalize hg : uA h (19 + 2 * r) (wr (h.1 (19 + 2 * r)) 0 (rdN kd ds O ls k w) (b * k)) = g at inner
    have F : ∀ x, x ≠ 19 + 2 * r → g.1 x = h.1 x := fun x hx => by rw [← hg, uA_ne hx]
    have gC : covC g (38 + 3 * c) kd n ds cs u wt := covC_of (fun x q1 q2 => F x (by omega)) hC
    have gD : codC g (56 + 2 * d) k w ls := codC_of (fun x q1 q2 => F x (by omega)) hD
    unfold f_X6_read_B141
    rw [if_pos (nI_lt hb (by omega)), cHeld (sh_cov hc) (sh_cod hd) hKc gC hK gD (fun q hq => by rw [F 10 (by omega)]; exact hO q hq) (by omega), bd_s, inner, bd_s, nI_s, e2]
  · (try dsimp only)
    unfold f_X6_read_B141
    rw [if_neg (nI_nlt (Nat.le_refl _) (by omega))]
theorem mReadL {r m : Nat} {x7 : Int32} (hc : c < 6) (hd : d < 4) (hr : r < 6) (hKc : covK kd n ds cs u wt) (hM : covM h c kd n ds cs u wt) (hK : codK k w ls) (hD : codM h d k w ls) (hO : ∀ q, q < n → h.1 77 q = nI (O q) ∧ O q < n) (hm : m * w ≤ n) (hm4 : m * k ≤ 40) : f_X7_read_L95 h (nI c) (nI d) (nI m) (nI r) x7 0 = some (uA h 67 (wr (h.1 67) (40 * r) (rdN kd ds O ls k w) (m * k))) := by
  have k6 := hK.1.2.1
  have k1 := hK.1.1
  have w12 := hK.1.2.2.2
  have p12 := pw12 w12
  have m40 : m ≤ 40 := Nat.le_trans (Nat.le_mul_of_pos_right m k1) hm4
  unfold f_X7_read_L95
  have key := lpo_for (step := fun s : Int32 × MH => f_X7_read_B95 s.2 (nI c) (nI d) (nI m) (nI r) x7 s.1) (b := uA h 67 (wr (h.1 67) (40 * r) (rdN kd ds O ls k w) (m * k))) (fun b => (nI b, uA h 67 (wr (h.1 67) (40 * r) (rdN kd ds O ls k w) (b * k)))) m (fun b hb => ?_) ?_
  · rw [Nat.zero_mul, wr_0] at key
    exact key
  · (try dsimp only)
    have b1 : (b + 1) * w ≤ m * w := Nat.mul_le_mul_right w hb
    have b2 : (b + 1) * k ≤ m * k := Nat.mul_le_mul_right k hb
    have e1 : (b + 1) * w = b * w + w := Nat.succ_mul b w
    have e2 : (b + 1) * k = b * k + k := Nat.succ_mul b k
    have sl := syX_lt (ls := ls) (k := k) (s := bsN kd ds O w b) w
    have p6 : 2 ^ k ≤ 2 ^ 6 := Nat.pow_le_pow_right (by decide) k6
    have bl : bsN kd ds O w b < 2 ^ w := bnN_lt w
    have inner : f_X7_read_L120 (uA h 67 (wr (h.1 67) (40 * r) (rdN kd ds O ls k w) (b * k))) (nI c) (nI d) (nI m) (nI r) x7 (nI b) (nI (syX ls k (bsN kd ds O w b) w)) 0 = some (uA h 67 (wr (h.1 67) (40 * r) (rdN kd ds O ls k w) (b * k + k))) := by
      unfold f_X7_read_L120
      have key := lpo_for (step := fun s : Int32 × MH => f_X7_read_B120 s.2 (nI c) (nI d) (nI m) (nI r) x7 (nI b) (nI (syX ls k (bsN kd ds O w b) w)) s.1) (b := uA h 67 (wr (h.1 67) (40 * r) (rdN kd ds O ls k w) (b * k + k))) (fun i => (nI i, uA h 67 (wr (h.1 67) (40 * r) (rdN kd ds O ls k w) (b * k + i)))) k (fun i hi => ?_) ?_
      · exact key
      · (try dsimp only)
        have q1 := dvk (b := b) hi
        have ie : ((40 * nI r) + (nI b * nI k)) + nI i = nI (40 * r + (b * k + i)) := by
          rw [K_mulN, pk_mul, nI_add, nI_add, Nat.add_assoc]
        unfold f_X7_read_B120
        rw [ix_n hd (by decide), gd_t, tn_n (j := d) (by omega), uA_ne (show 78 ≠ 67 by decide), hD.1, if_pos (nI_lt hi (by omega)), gd_t, ie, ix_n (show 40 * r + (b * k + i) < 240 by omega) (by decide), gd_t, nm_v, tn_n (show 40 * r + (b * k + i) < 1000000 by omega), nI_s, N_tb (by omega) (by omega), wr_s (g := rdN kd ds O ls k w) (i := b * k + i) (by unfold rdN; rw [q1.1, q1.2])]
        rfl
      · (try dsimp only)
        unfold f_X7_read_B120
        rw [ix_n hd (by decide), gd_t, tn_n (j := d) (by omega), uA_ne (show 78 ≠ 67 by decide), hD.1, if_neg (nI_nlt (Nat.le_refl _) (by omega))]
    generalize hg : uA h 67 (wr (h.1 67) (40 * r) (rdN kd ds O ls k w) (b * k)) = g at inner
    have F : ∀ x, x ≠ 67 → g.1 x = h.1 x := fun x hx => by rw [← hg, uA_ne hx]
    have gC : covM g c kd n ds cs u wt := covM_of (fun x q1 q2 => F x (by omega)) hM
    have gD : codM g d k w ls := codM_of (fun x q1 q2 => F x (by omega)) hD
    unfold f_X7_read_B95
    rw [if_pos (nI_lt hb (by omega)), mBlockSet hc hd hKc gC hK gD (fun q hq => by rw [F 77 (by decide)]; exact hO q hq) (by omega), bd_s, mSums hd hK gD (by omega), bd_s, sm_sy w12 hK.2, inner, bd_s, nI_s, e2]
  · (try dsimp only)
    unfold f_X7_read_B95
    rw [if_neg (nI_nlt (Nat.le_refl _) (by omega))]
end HELD
