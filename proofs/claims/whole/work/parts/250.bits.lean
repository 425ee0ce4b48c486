/-! bits (began as the family "Int32 by its bits" of the kit, laws/BITS.to-paste) -/
def bt (x : Int32) (i : Nat) : Bool := x.toBitVec.getLsbD i
theorem b_ext {x y : Int32} (h : ∀ i, i < 32 → bt x i = bt y i) : x = y := Int32.toBitVec_inj.mp (BitVec.eq_of_getLsbD_eq (fun i hi => h i hi))
theorem b_or (x y : Int32) (i : Nat) : bt (x ||| y) i = (bt x i || bt y i) := by unfold bt; rw [Int32.toBitVec_or, BitVec.getLsbD_or]
theorem b_and (x y : Int32) (i : Nat) : bt (x &&& y) i = (bt x i && bt y i) := by unfold bt; rw [Int32.toBitVec_and, BitVec.getLsbD_and]
theorem b_xor (x y : Int32) (i : Nat) : bt (x ^^^ y) i = (bt x i ^^ bt y i) := by unfold bt; rw [Int32.toBitVec_xor, BitVec.getLsbD_xor]
theorem b_big {x : Int32} {i : Nat} (h : 32 ≤ i) : bt x i = false := BitVec.getLsbD_of_ge _ _ h
theorem b_0 (i : Nat) : bt 0 i = false := BitVec.getLsbD_zero
theorem s_l : ∀ n, n < 32 → ((nI n &&& 31).toBitVec.smod 32).toNat = n := by decide +kernel
theorem s_u : ∀ n, n < 32 → (((nI n).toUInt32 &&& Int32.toUInt32 31).toBitVec % 32).toNat = n := by decide +kernel
theorem b_shl (n : Nat) (hn : n < 32) (x : Int32) {i : Nat} (hi : i < 32) : bt (x <<< (nI n &&& 31)) i = (decide (n ≤ i) && bt x (i - n)) := by
  unfold bt
  rw [Int32.toBitVec_shiftLeft]
  show (x.toBitVec <<< ((nI n &&& 31).toBitVec.smod 32).toNat).getLsbD i = _
  rw [s_l n hn, BitVec.getLsbD_shiftLeft]
  rcases Nat.lt_or_ge i n with h | h
  · simp [h, Nat.not_le.mpr h]
  · simp [hi, h, Nat.not_lt.mpr h]
theorem b_ushr (n : Nat) (hn : n < 32) (x : Int32) (i : Nat) : bt ((x.toUInt32 >>> ((nI n).toUInt32 &&& Int32.toUInt32 31)).toInt32) i = bt x (n + i) := by
  show (x.toUInt32 >>> ((nI n).toUInt32 &&& Int32.toUInt32 31)).toBitVec.getLsbD i = x.toUInt32.toBitVec.getLsbD (n + i)
  rw [UInt32.toBitVec_shiftRight]
  show (x.toUInt32.toBitVec >>> (((nI n).toUInt32 &&& Int32.toUInt32 31).toBitVec % 32).toNat).getLsbD i = _
  rw [s_u n hn, BitVec.getLsbD_ushiftRight]
theorem b_sshr (n : Nat) (hn : n < 32) (x : Int32) {i : Nat} (hi : i < 32) : bt (x >>> (nI n &&& 31)) i = if n + i < 32 then bt x (n + i) else bt x 31 := by
  unfold bt
  rw [Int32.toBitVec_shiftRight]
  show (x.toBitVec.sshiftRight ((nI n &&& 31).toBitVec.smod 32).toNat).getLsbD i = _
  rw [s_l n hn, BitVec.getLsbD_sshiftRight, BitVec.msb_eq_getLsbD_last]
  simp [hi]
theorem N_and (a b : Nat) : nI a &&& nI b = nI (a &&& b) := by
  apply Int32.toBitVec_inj.1
  show BitVec.ofNat 32 a &&& BitVec.ofNat 32 b = BitVec.ofNat 32 (a &&& b)
  apply BitVec.eq_of_getLsbD_eq
  intro i hi
  simp [hi]
theorem N_or (a b : Nat) : nI a ||| nI b = nI (a ||| b) := by
  apply Int32.toBitVec_inj.1
  show BitVec.ofNat 32 a ||| BitVec.ofNat 32 b = BitVec.ofNat 32 (a ||| b)
  apply BitVec.eq_of_getLsbD_eq
  intro i hi
  simp [hi]
theorem N_xor (a b : Nat) : nI a ^^^ nI b = nI (a ^^^ b) := by
  apply Int32.toBitVec_inj.1
  show BitVec.ofNat 32 a ^^^ BitVec.ofNat 32 b = BitVec.ofNat 32 (a ^^^ b)
  apply BitVec.eq_of_getLsbD_eq
  intro i hi
  simp [hi]
theorem N_shr {a k : Nat} (ha : a < 2147483648) (hk : k < 32) : shr (nI a) (nI k) = nI (a / 2 ^ k) := pk_shrN (by omega) _ k (s_l k hk)
theorem N_shl {a k : Nat} (hk : k < 32) (h : a * 2 ^ k < 4294967296) : shl (nI a) (nI k) = nI (a * 2 ^ k) := pk_shlN _ k (s_l k hk) h
theorem N_bit {a k : Nat} (ha : a < 2147483648) (hk : k < 32) : (shr (nI a) (nI k)) &&& 1 = nI (a / 2 ^ k % 2) := by
  rw [N_shr ha hk]
  show nI (a / 2 ^ k) &&& nI 1 = _
  rw [N_and, Nat.and_one_is_mod]
/-! a key's numbers -/
def keyB (l : Int32) : Nat := ((ushr l 16) &&& 32767).toBitVec.toNat % 2 ^ 15
theorem keyB_lt (l : Int32) : keyB l < 32768 := Nat.mod_lt _ (by decide)
theorem keyB_u (l : Int32) : (ushr l 16) &&& 32767 = nI (keyB l) := by
  have e : ((ushr l 16) &&& 32767) &&& 32767 = nI (keyB l) := pk_and _ 15 (by decide)
  rw [← e]
  apply b_ext
  intro i hi
  rw [b_and, b_and, b_and, Bool.and_assoc, Bool.and_self]
theorem keyB_s (l : Int32) : (shr l 16) &&& 32767 = nI (keyB l) := by
  rw [← keyB_u]
  apply b_ext
  intro i hi
  rw [b_and, b_and]
  by_cases q : i < 15
  · have e1 : bt (shr l 16) i = bt l (16 + i) := by
      have := b_sshr 16 (by decide) l hi
      rw [if_pos (by omega)] at this
      exact this
    have e2 : bt (ushr l 16) i = bt l (16 + i) := b_ushr 16 (by decide) l i
    rw [e1, e2]
  · have e : bt 32767 i = false := (by decide +kernel : ∀ i, i < 32 → ¬ i < 15 → bt 32767 i = false) i hi q
    rw [e, Bool.and_false, Bool.and_false]
def nxtK (l : Int32) : Int32 := l * 1103515245 + 12345
def keyN (key : Int32) : Nat → Int32
  | 0 => key
  | t + 1 => nxtK (keyN key t)
theorem cNext (l : Int32) : f_X6_nextOfKey l = some (nxtK l) := rfl
theorem cBits (l : Int32) : f_X6_bitsOfKey l = some (nI (keyB l)) := by
  unfold f_X6_bitsOfKey
  rw [keyB_u]
theorem mDraw {h : MH} {m : Nat} (h0 : 0 < m) (hm : m ≤ 1000000) : f_X7_draw h (nI m) = some (nI (keyB (nxtK (h.1 64 16)) % m), uI h 64 16 (nxtK (h.1 64 16))) := by
  have l := keyB_lt (nxtK (h.1 64 16))
  unfold f_X7_draw
  rw [nm_v, N_nz h0 (by omega), gd_t, uI_at, keyB_s]
  show some (irm (nI (keyB (nxtK (h.1 64 16)))) (nI m), uI h 64 16 (nxtK (h.1 64 16))) = _
  rw [N_rem (by omega) h0 (by omega)]
