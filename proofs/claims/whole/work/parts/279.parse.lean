/-! a text read as a code -/
def csN (p : Nat → Bool) (i : Nat) : Nat → Nat
  | 0 => 0
  | k + 1 => if p i = true then csN p (i + 1) k + 1 else 0
theorem csN_le {p : Nat → Bool} : ∀ {k i : Nat}, csN p i k ≤ k
  | 0, _ => Nat.le_refl _
  | k + 1, i => by
    have := csN_le (p := p) (k := k) (i := i + 1)
    unfold csN
    split <;> omega
theorem csN_in {p : Nat → Bool} : ∀ {k i q : Nat}, q < csN p i k → p (i + q) = true
  | 0, i, q, h => absurd h (Nat.not_lt_zero q)
  | k + 1, i, q, h => by
    unfold csN at h
    by_cases z : p i = true
    · rw [if_pos z] at h
      by_cases y : q = 0
      · rw [y, Nat.add_zero]
        exact z
      · have := csN_in (p := p) (k := k) (i := i + 1) (q := q - 1) (by omega)
        rwa [show i + 1 + (q - 1) = i + q by omega] at this
    · rw [if_neg z] at h
      omega
theorem csN_out {p : Nat → Bool} : ∀ {k i : Nat}, csN p i k < k → ¬ p (i + csN p i k) = true
  | 0, i, h => absurd h (Nat.not_lt_zero _)
  | k + 1, i, h => by
    unfold csN at h ⊢
    by_cases z : p i = true
    · rw [if_pos z] at h ⊢
      have := csN_out (p := p) (k := k) (i := i + 1) (by omega)
      rwa [show i + 1 + csN p (i + 1) k = i + (csN p (i + 1) k + 1) by omega] at this
    · rw [if_neg z, Nat.add_zero]
      exact z
def sgP (n : Nat) (f : Nat → Int32) (j : Nat) : Bool := decide (j < n ∧ (f j = 48 ∨ f j = 49))
def blP (n : Nat) (f : Nat → Int32) (j : Nat) : Bool := decide (j < n ∧ f j = 32)
def btN (f : Nat → Int32) (i : Nat) : Nat → Nat
  | 0 => 0
  | j + 1 => if f (i + j) = 49 then btN f i j ||| 2 ^ j else btN f i j
theorem btN_lt {f : Nat → Int32} {i : Nat} : ∀ j, btN f i j < 2 ^ j
  | 0 => show 0 < 1 by decide
  | j + 1 => by
    have ih := btN_lt (f := f) (i := i) j
    have p : 2 ^ (j + 1) = 2 * 2 ^ j := by rw [Nat.pow_succ]; omega
    unfold btN
    split
    · exact Nat.or_lt_two_pow (by omega) (by omega)
    · omega
def updN (ls : Nat → Nat) (m v : Nat) : Nat → Nat := fun q => if q = m then v else ls q
def lnC (n : Nat) (f : Nat → Int32) (m w i : Nat) : Nat := csN (sgP n f) i (if m = 0 then 12 else w)
def lnW (n : Nat) (f : Nat → Int32) (m w i : Nat) : Nat := if m = 0 then lnC n f m w i else w
def bkE (n : Nat) (f : Nat → Int32) (i : Nat) : Nat := i + csN (blP n f) i 61
def endV (n : Nat) (f : Nat → Int32) (i : Nat) : Int32 := if bkE n f i = n then -9 else nI (bkE n f i)
/-- g lines may come yet, m have come, w signs wide -/
def prs (n : Nat) (f : Nat → Int32) : Nat → Nat → Nat → (Nat → Nat) → Nat → Int32 × Nat × Nat × (Nat → Nat)
  | 0, m, w, ls, i => (nI i, m, w, ls)
  | g + 1, m, w, ls, i =>
    if lnC n f m w i = 0 ∨ lnC n f m w i < lnW n f m w i ∨ sgP n f (i + lnC n f m w i) = true then (nI (i + lnC n f m w i), m, w, ls)
    else if i + lnC n f m w i < n ∧ f (i + lnC n f m w i) = 47 then (if g = 0 then (nI (i + lnC n f m w i), m, w, ls) else prs n f g (m + 1) (lnW n f m w i) (updN ls m (btN f i (lnC n f m w i))) (i + lnC n f m w i + 1))
    else (endV n f (i + lnC n f m w i), m + 1, lnW n f m w i, updN ls m (btN f i (lnC n f m w i)))
theorem sgP_i {n : Nat} {f : Nat → Int32} {j : Nat} : sgP n f j = true ↔ j < n ∧ (f j = 48 ∨ f j = 49) := decide_eq_true_iff
theorem blP_i {n : Nat} {f : Nat → Int32} {j : Nat} : blP n f j = true ↔ j < n ∧ f j = 32 := decide_eq_true_iff
theorem run_le {n : Nat} {p : Nat → Bool} (hp : ∀ j, p j = true → j < n) {i k : Nat} (hi : i ≤ n) : i + csN p i k ≤ n := by
  by_cases z : csN p i k = 0
  · omega
  · have := hp _ (csN_in (p := p) (k := k) (i := i) (q := csN p i k - 1) (by omega))
    omega
theorem lnC_le {n : Nat} {f : Nat → Int32} {m w i : Nat} (hi : i ≤ n) : i + lnC n f m w i ≤ n := run_le (fun j q => (sgP_i.mp q).1) hi
theorem bkE_le {n : Nat} {f : Nat → Int32} {i : Nat} (hi : i ≤ n) : bkE n f i ≤ n := run_le (fun j q => (blP_i.mp q).1) hi
theorem bkE_out {n : Nat} {f : Nat → Int32} {i : Nat} (hn : n ≤ 60) (hi : i ≤ n) : ¬ blP n f (bkE n f i) = true := by
  refine csN_out ?_
  have := bkE_le (f := f) hi
  unfold bkE at this
  omega
theorem bkE_no {n : Nat} {f : Nat → Int32} {i : Nat} (z : ¬ f i = 32) : bkE n f i = i := by
  unfold bkE
  rw [show csN (blP n f) i 61 = 0 from if_neg (fun y => z (blP_i.mp y).2)]
  rfl
/-! what the class does -/
section PARSEC
variable {h : MH} {a n i m w c : Nat} {f : Nat → Int32} {ls : Nat → Nat}
theorem cGet0 (ha : shp a = (5, 0)) (hC : rowC h a n f) (hn : n ≤ 60) (hi : i ≤ 1000) : f_X5_get h a (nI i) = some (if i < n then f i else 0) := by
  by_cases z : i < n
  · rw [cGet ha hC hn z, if_pos z]
  · rw [cGet_o hC.1 hn (by rw [inR_d (by omega) (by omega), dec_f z]), if_neg z]
theorem cBlanks (ha : shp a = (5, 0)) (hC : rowC h a n f) (hn : n ≤ 60) (hi : i ≤ n) : f_X0_behindBlanks h a (nI i) = some (nI (bkE n f i)) := by
  have le := bkE_le (f := f) hi
  have out := bkE_out (f := f) hn hi
  have key : f_X0_behindBlanks_L2 h a (nI i) = some (nI (bkE n f i)) := by
    unfold f_X0_behindBlanks_L2
    have k2 := lpo_for (step := fun s : Int32 => f_X0_behindBlanks_B2 h a s) (b := nI (bkE n f i)) (fun q => nI (i + q)) (csN (blP n f) i 61) (fun q hq => ?_) ?_
    · exact k2
    · (try dsimp only)
      obtain ⟨z1, z2⟩ := blP_i.mp (csN_in hq)
      unfold f_X0_behindBlanks_B2
      rw [hC.1, if_pos (nI_lt z1 (by omega)), cGet ha hC hn z1, bd_s, if_pos z2, nI_s]
      rfl
    · (try dsimp only)
      unfold f_X0_behindBlanks_B2
      rw [show i + csN (blP n f) i 61 = bkE n f i from rfl, hC.1]
      by_cases z : bkE n f i < n
      · rw [if_pos (nI_lt z (by omega)), cGet ha hC hn z, bd_s, if_neg (fun y => out (blP_i.mpr ⟨z, y⟩))]
      · rw [if_neg (nI_nlt (by omega) (by omega))]
  unfold f_X0_behindBlanks
  rw [key, bd_s]
theorem cIsSign {x : Int32} : f_X0_isSign x = some (decide (x = 48 ∨ x = 49)) := by
  unfold f_X0_isSign
  by_cases z1 : x = 48
  · rw [if_pos z1, decide_eq_true (Or.inl z1)]
  · rw [if_neg z1]
    by_cases z2 : x = 49
    · rw [if_pos z2, decide_eq_true (Or.inr z2)]
    · rw [if_neg z2, decide_eq_false (fun y => by rcases y with y | y; exact z1 y; exact z2 y)]
theorem cLine16 {K : Nat} (ha : shp a = (5, 0)) (hC : rowC h a n f) (hn : n ≤ 60) (hi : i ≤ n) (hK : K ≤ 100) : f_X0_behindLine_J16 h a (nI i) (nI K) = some (nI (i + csN (sgP n f) i K)) := by
  have le : i + csN (sgP n f) i K ≤ n := run_le (fun j q => (sgP_i.mp q).1) hi
  have lk := csN_le (p := sgP n f) (k := K) (i := i)
  have key : f_X0_behindLine_L20 h a (nI i) (nI K) (nI i) = some (nI (i + csN (sgP n f) i K)) := by
    unfold f_X0_behindLine_L20
    have k2 := lpo_for (step := fun s : Int32 => f_X0_behindLine_B20 h a (nI i) (nI K) s) (b := nI (i + csN (sgP n f) i K)) (fun q => nI (i + q)) (csN (sgP n f) i K) (fun q hq => ?_) ?_
    · exact k2
    · (try dsimp only)
      obtain ⟨z1, z2⟩ := sgP_i.mp (csN_in hq)
      unfold f_X0_behindLine_B20
      rw [hC.1, if_pos (nI_lt z1 (by omega)), nI_add, if_pos (nI_lt (by omega) (by omega)), cGet ha hC hn z1, bd_s, cIsSign, bd_s, decide_eq_true z2, if_pos rfl, nI_s]
      rfl
    · (try dsimp only)
      unfold f_X0_behindLine_B20
      rw [hC.1, nI_add]
      by_cases z : i + csN (sgP n f) i K < n
      · rw [if_pos (nI_lt z (by omega))]
        by_cases y : csN (sgP n f) i K < K
        · rw [if_pos (nI_lt (by omega) (by omega)), cGet ha hC hn z, bd_s, cIsSign, bd_s, decide_eq_false (fun x => csN_out y (sgP_i.mpr ⟨z, x⟩)), if_neg (by decide)]
        · rw [if_neg (nI_nlt (by omega) (by omega))]
      · rw [if_neg (nI_nlt (by omega) (by omega))]
  unfold f_X0_behindLine_J16
  rw [key, bd_s]
theorem cBits47 (ha : shp a = (5, 0)) (hC : rowC h a n f) (hn : n ≤ 60) (hc : i + c ≤ n) (hc12 : c ≤ 12) {a0 : Nat} : f_X0_takeLine_L47 h a0 a (nI i) (nI c) 0 0 = some (nI (btN f i c)) := by
  unfold f_X0_takeLine_L47
  refine lpo_for (fun j => (nI (btN f i j), nI j)) c (fun j hj => ?_) ?_
  · (try dsimp only)
    unfold f_X0_takeLine_B47
    rw [if_pos (nI_lt hj (by omega)), nI_add, cGet ha hC hn (show i + j < n by omega), bd_s, nm_v, shl1s (by omega), N_or, nI_s]
    by_cases z : f (i + j) = 49
    · rw [if_pos z, show btN f i (j + 1) = btN f i j ||| 2 ^ j from if_pos z]
    · rw [if_neg z, show btN f i (j + 1) = btN f i j from if_neg z]
  · (try dsimp only)
    unfold f_X0_takeLine_B47
    rw [if_neg (nI_nlt (Nat.le_refl _) (by omega))]
/-- the class's draft holds m lines; all else is as in g -/
def drC (g : MH) (m w : Nat) (ls : Nat → Nat) (h : MH) : Prop := (∀ b, b ≠ 5 → b ≠ 6 → h.1 b = g.1 b) ∧ h.2 = g.2 ∧ h.1 5 1 = nI m ∧ h.1 5 2 = nI w ∧ ∀ q, q < m → h.1 6 q = nI (ls q)
theorem sh5 : rf 5 0 = 6 := rf_Cod (by decide +kernel)
theorem rowC_dr {g : MH} (far : 6 < a) (hd : drC g m w ls h) (hC : rowC g a n f) : rowC h a n f := rowC_of (hd.1 a (by omega) (by omega)) (hd.1 (a + 1) (by omega) (by omega)) hC
theorem cTake_f {g : MH} (far : 6 < a) (hd : drC g m w ls h) (hm : m ≤ 5) (hw : w ≤ 12) (hi : i ≤ 60) (hc12 : c ≤ 12) (z : c = 0 ∨ (0 < m ∧ c < w)) : f_X0_takeLine h 5 a (nI i) (nI (i + c)) = some (false, h) := by
  unfold f_X0_takeLine
  rw [nm_v, nIsub (by omega), show i + c - i = c by omega, hd.2.2.1, hd.2.2.2.1, if_pos (show nI m < 6 from (nI_lt (show m < 6 by omega) (by decide) : nI m < nI 6))]
  by_cases y : c < 1
  · rw [if_pos (show nI c < 1 from (nI_lt y (by decide) : nI c < nI 1))]
  · rw [if_neg (show ¬ nI c < 1 from (nI_nlt (by omega) (by omega) : ¬ nI c < nI 1)), if_pos (show 0 < nI m from (nI_lt (show 0 < m by omega) (by omega) : nI 0 < nI m)), if_pos (nI_lt (by omega) (by omega))]
theorem cTake_t {g : MH} (ha : shp a = (5, 0)) (far : 6 < a) (hC : rowC g a n f) (hn : n ≤ 60) (hd : drC g m w ls h) (hm : m ≤ 5) (hw : w ≤ 12) (hc : i + c ≤ n) (hc12 : c ≤ 12) (z : 1 ≤ c) (z2 : 0 < m → w ≤ c) : ∃ h2, f_X0_takeLine h 5 a (nI i) (nI (i + c)) = some (true, h2) ∧ drC g (m + 1) c (updN ls m (btN f i c)) h2 := by
  have J : f_X0_takeLine_J41 h 5 a (nI i) (nI c) = some (true, uI (uI (uI h 6 m (nI (btN f i c))) 5 1 (nI (m + 1))) 5 2 (nI c)) := by
    unfold f_X0_takeLine_J41
    rw [cBits47 ha (rowC_dr far hd hC) hn hc hc12, bd_s, hd.2.2.1, ix_n (by omega) (by decide), gd_t, nm_v, tn_n (by omega), sh5, nm_v, uI_ne (by decide), hd.2.2.1, nI_s, nm_v]
  refine ⟨uI (uI (uI h 6 m (nI (btN f i c))) 5 1 (nI (m + 1))) 5 2 (nI c), ?_, fun b b1 b2 => ?_, ?_, ?_, ?_, fun q hq => ?_⟩
  · unfold f_X0_takeLine
    rw [nm_v, nIsub (by omega), show i + c - i = c by omega, J, hd.2.2.1, hd.2.2.2.1, if_pos (show nI m < 6 from (nI_lt (show m < 6 by omega) (by decide) : nI m < nI 6)), if_neg (show ¬ nI c < 1 from (nI_nlt z (by omega) : ¬ nI c < nI 1))]
    by_cases y : 0 < m
    · rw [if_pos (show 0 < nI m from (nI_lt y (by omega) : nI 0 < nI m)), if_neg (nI_nlt (z2 y) (by omega))]
    · rw [if_neg (show ¬ 0 < nI m from (nI_nlt (show m ≤ 0 by omega) (by decide) : ¬ nI 0 < nI m))]
  · rw [uI_ne b1, uI_ne b1, uI_ne b2]
    exact hd.1 b b1 b2
  · rw [uI_2, uI_2, uI_2]
    exact hd.2.1
  · rw [uI_k (by decide), uI_at]
  · rw [uI_at]
  · rw [uI_ne (by decide), uI_ne (by decide)]
    unfold updN
    by_cases y : q = m
    · rw [y, uI_at, if_pos rfl]
    · rw [uI_k y, if_neg y]
      exact hd.2.2.2.2 q (by omega)
/-- from the loop's place on -/
noncomputable def cRun (h : MH) (a : Nat) (x2 x3 : Int32) : Option (Int32 × MH) := Option.bind (f_X0_readFrom_L18 h 5 a x2 x3) (Sum.elim (fun b18 => f_X0_readFrom_J77 b18.2 a b18.1) (fun r => some r))
theorem cJ77 {g : MH} (ha : shp a = (5, 0)) (far : 6 < a) (hC : rowC g a n f) (hn : n ≤ 60) (hd : drC g m w ls h) (hi : i ≤ n) : f_X0_readFrom_J77 h a (nI i) = some (endV n f i, h) := by
  have R := rowC_dr far hd hC
  have le := bkE_le (f := f) hi
  unfold f_X0_readFrom_J77 endV
  rw [cBlanks ha R hn hi, bd_s, R.1]
  by_cases z : bkE n f i = n
  · rw [if_pos (by rw [z]), if_pos z]
  · rw [if_neg (fun y => z ((nI_eq (by omega) (by omega)).mp y)), if_neg z]
theorem cRun_in {x2 x3 y2 y3 : Int32} {h2 : MH} (e : f_X0_readFrom_B18 h 5 a x2 x3 = some (.inl (y2, y3, h2))) : cRun h a x2 x3 = cRun h2 a y2 y3 := by
  unfold cRun f_X0_readFrom_L18
  rw [lpo_in (s := (x2, x3, h)) e]
theorem cRun_end {x2 x3 y2 : Int32} {h2 : MH} (e : f_X0_readFrom_B18 h 5 a x2 x3 = some (.inr (.inl (y2, h2)))) : cRun h a x2 x3 = f_X0_readFrom_J77 h2 a y2 := by
  unfold cRun f_X0_readFrom_L18
  rw [lpo_out (s := (x2, x3, h)) e, bd_s]
  rfl
theorem cRun_ret {x2 x3 y2 : Int32} {h2 : MH} (e : f_X0_readFrom_B18 h 5 a x2 x3 = some (.inr (.inr (y2, h2)))) : cRun h a x2 x3 = some (y2, h2) := by
  unfold cRun f_X0_readFrom_L18
  rw [lpo_out (s := (x2, x3, h)) e, bd_s]
  rfl
theorem nI_n9 {x : Nat} (hx : x ≤ 1000000) : ¬ nI x = -9 := fun z => nlt0 hx (by rw [z]; decide)
theorem lnC_12 (hw : w ≤ 12) : lnC n f m w i ≤ 12 := by
  have := csN_le (p := sgP n f) (k := if m = 0 then 12 else w) (i := i)
  unfold lnC
  split at this <;> split <;> omega
theorem lnC_w (z : ¬ lnC n f m w i < lnW n f m w i) : lnW n f m w i = lnC n f m w i := by
  have l := csN_le (p := sgP n f) (k := if m = 0 then 12 else w) (i := i)
  unfold lnW at z ⊢
  by_cases y : m = 0
  · rw [if_pos y]
  · rw [if_neg y] at z ⊢
    unfold lnC at z ⊢
    rw [if_neg y] at z l ⊢
    omega
theorem cStep {g : MH} {x2 : Int32} (ha : shp a = (5, 0)) (far : 6 < a) (hC : rowC g a n f) (hn : n ≤ 60) (hm : m ≤ 5) (hw : w ≤ 12) (hi : i ≤ n) (hd : drC g m w ls h) (hx : (m = 0 ∧ x2 = nI i) ∨ (0 < m ∧ x2 + 1 = nI i)) : ((lnC n f m w i = 0 ∨ lnC n f m w i < lnW n f m w i) → f_X0_readFrom_B18 h 5 a x2 (nI m) = some (.inr (.inr (nI (i + lnC n f m w i), h)))) ∧ (¬ (lnC n f m w i = 0 ∨ lnC n f m w i < lnW n f m w i) → ∃ h2, drC g (m + 1) (lnW n f m w i) (updN ls m (btN f i (lnC n f m w i))) h2 ∧ f_X0_readFrom_B18 h 5 a x2 (nI m) = if i + lnC n f m w i < n ∧ f (i + lnC n f m w i) = 47 then some (.inl (nI (i + lnC n f m w i), nI (m + 1), h2)) else some (.inr (.inl (nI (i + lnC n f m w i), h2)))) := by
  have R := rowC_dr far hd hC
  have c12 := lnC_12 (n := n) (f := f) (m := m) (i := i) hw
  have cle := lnC_le (f := f) (m := m) (w := w) hi
  have eL : f_X0_behindLine h 5 a (nI i) = some (nI (i + lnC n f m w i)) := by
    unfold f_X0_behindLine lnC
    rw [hd.2.2.1, hd.2.2.2.1]
    by_cases y : m = 0
    · rw [if_pos (show nI m = 0 by rw [y]; rfl), if_pos y, show (12 : Int32) = nI 12 from rfl, cLine16 ha R hn hi (by decide)]
    · rw [if_neg (nI0_ne (by omega) (by omega)), if_neg y, cLine16 ha R hn hi (by omega)]
  have eB : f_X0_readFrom_B18 h 5 a x2 (nI m) = f_X0_readFrom_J35_18 h 5 a (nI m) (nI i) := by
    unfold f_X0_readFrom_B18
    rw [if_pos (show nI m < 6 from (nI_lt (show m < 6 by omega) (by decide) : nI m < nI 6))]
    rcases hx with ⟨y, e⟩ | ⟨y, e⟩
    · rw [if_pos (show nI m = 0 by rw [y]; rfl), e]
    · rw [if_neg (nI0_ne y (by omega)), e]
  have eW : lnW n f m w i = if m = 0 then lnC n f m w i else w := rfl
  have hl : ¬ lnC n f m w i < lnW n f m w i → lnW n f m w i = lnC n f m w i := lnC_w
  generalize lnC n f m w i = c at *
  generalize lnW n f m w i = w2 at *
  constructor
  · intro z
    have t := cTake_f (i := i) (c := c) far hd hm hw (by omega) c12 (by
      rcases z with z | z
      · exact Or.inl z
      · rw [eW] at z
        split at z
        · omega
        · exact Or.inr ⟨(by omega), z⟩)
    rw [eB]
    unfold f_X0_readFrom_J35_18
    rw [eL, bd_s, t, bnd2_s, if_neg (by decide)]
  · intro z
    have e2 := hl (fun y => z (Or.inr y))
    obtain ⟨h2, t, d2⟩ := cTake_t (i := i) (c := c) ha far hC hn hd hm hw cle c12 (by omega) (fun y => by
      rw [if_neg (show ¬ m = 0 by omega)] at eW
      omega)
    refine ⟨h2, by rw [e2]; exact d2, ?_⟩
    have R2 := rowC_dr far d2 hC
    rw [eB]
    unfold f_X0_readFrom_J35_18
    rw [eL, bd_s, t, bnd2_s, if_pos rfl, cGet0 ha R2 hn (by omega), bd_s, nI_s]
    by_cases y1 : i + c < n
    · rw [if_pos y1]
      by_cases y2 : f (i + c) = 47
      · rw [if_pos y2, if_pos ⟨y1, y2⟩]
      · rw [if_neg y2, if_neg (fun x => y2 x.2)]
    · rw [if_neg y1, if_neg (by decide), if_neg (fun x => y1 x.1)]
theorem prs_s {k : Nat} : prs n f (k + 1) m w ls i = if lnC n f m w i = 0 ∨ lnC n f m w i < lnW n f m w i ∨ sgP n f (i + lnC n f m w i) = true then (nI (i + lnC n f m w i), m, w, ls) else if i + lnC n f m w i < n ∧ f (i + lnC n f m w i) = 47 then (if k = 0 then (nI (i + lnC n f m w i), m, w, ls) else prs n f k (m + 1) (lnW n f m w i) (updN ls m (btN f i (lnC n f m w i))) (i + lnC n f m w i + 1)) else (endV n f (i + lnC n f m w i), m + 1, lnW n f m w i, updN ls m (btN f i (lnC n f m w i))) := rfl
theorem endV_no (hi : i < n) (z : ¬ f i = 32) : endV n f i = nI i := by
  unfold endV
  rw [bkE_no z, if_neg (by omega)]
theorem cRunL {g : MH} (ha : shp a = (5, 0)) (far : 6 < a) (hC : rowC g a n f) (hn : n ≤ 60) : ∀ (k m w : Nat) (ls : Nat → Nat) (i : Nat) (h : MH) (x2 : Int32), m + (k + 1) = 6 → w ≤ 12 → i ≤ n → drC g m w ls h → ((m = 0 ∧ x2 = nI i) ∨ (0 < m ∧ x2 + 1 = nI i)) → ∃ h2, cRun h a x2 (nI m) = some ((prs n f (k + 1) m w ls i).1, h2) ∧ (∀ b, b ≠ 5 → b ≠ 6 → h2.1 b = g.1 b) ∧ h2.2 = g.2 ∧ ((prs n f (k + 1) m w ls i).1 = -9 → drC g (prs n f (k + 1) m w ls i).2.1 (prs n f (k + 1) m w ls i).2.2.1 (prs n f (k + 1) m w ls i).2.2.2 h2) := by
  intro k
  induction k with
  | zero =>
    intro m w ls i h x2 hm hw hi hd hx
    have cle := lnC_le (f := f) (m := m) (w := w) hi
    obtain ⟨A, B⟩ := cStep ha far hC hn (show m ≤ 5 by omega) hw hi hd hx
    rw [prs_s]
    by_cases z1 : lnC n f m w i = 0 ∨ lnC n f m w i < lnW n f m w i
    · rw [if_pos (by rcases z1 with y | y; exact Or.inl y; exact Or.inr (Or.inl y))]
      exact ⟨h, cRun_ret (A z1), hd.1, hd.2.1, fun y => absurd y (nI_n9 (by omega))⟩
    · obtain ⟨h2, d2, eB⟩ := B z1
      by_cases z2 : sgP n f (i + lnC n f m w i) = true
      · obtain ⟨y1, y2⟩ := sgP_i.mp z2
        have n47 : ¬ f (i + lnC n f m w i) = 47 := fun y => by rcases y2 with x | x <;> rw [x] at y <;> exact absurd y (by decide)
        have n32 : ¬ f (i + lnC n f m w i) = 32 := fun y => by rcases y2 with x | x <;> rw [x] at y <;> exact absurd y (by decide)
        rw [if_pos (Or.inr (Or.inr z2))]
        rw [if_neg (fun y => n47 y.2)] at eB
        refine ⟨h2, ?_, d2.1, d2.2.1, fun y => absurd y (nI_n9 (by omega))⟩
        rw [cRun_end eB, cJ77 ha far hC hn d2 cle, endV_no y1 n32]
      · rw [if_neg (fun y => by rcases y with y | y | y; exact z1 (Or.inl y); exact z1 (Or.inr y); exact z2 y)]
        by_cases z3 : i + lnC n f m w i < n ∧ f (i + lnC n f m w i) = 47
        · rw [if_pos z3, if_pos rfl]
          rw [if_pos z3] at eB
          have n32 : ¬ f (i + lnC n f m w i) = 32 := fun y => by rw [z3.2] at y; exact absurd y (by decide)
          have e6 : f_X0_readFrom_B18 h2 5 a (nI (i + lnC n f m w i)) (nI (m + 1)) = some (.inr (.inl (nI (i + lnC n f m w i), h2))) := by
            unfold f_X0_readFrom_B18
            rw [if_neg (show ¬ nI (m + 1) < 6 from (nI_nlt (show 6 ≤ m + 1 by omega) (by omega) : ¬ nI (m + 1) < nI 6))]
          refine ⟨h2, ?_, d2.1, d2.2.1, fun y => absurd y (nI_n9 (by omega))⟩
          rw [cRun_in eB, cRun_end e6, cJ77 ha far hC hn d2 cle, endV_no z3.1 n32]
        · rw [if_neg z3]
          rw [if_neg z3] at eB
          exact ⟨h2, by rw [cRun_end eB, cJ77 ha far hC hn d2 cle], d2.1, d2.2.1, fun _ => d2⟩
  | succ k ih =>
    intro m w ls i h x2 hm hw hi hd hx
    have cle := lnC_le (f := f) (m := m) (w := w) hi
    have c12 := lnC_12 (n := n) (f := f) (m := m) (i := i) hw
    obtain ⟨A, B⟩ := cStep ha far hC hn (show m ≤ 5 by omega) hw hi hd hx
    rw [prs_s]
    by_cases z1 : lnC n f m w i = 0 ∨ lnC n f m w i < lnW n f m w i
    · rw [if_pos (by rcases z1 with y | y; exact Or.inl y; exact Or.inr (Or.inl y))]
      exact ⟨h, cRun_ret (A z1), hd.1, hd.2.1, fun y => absurd y (nI_n9 (by omega))⟩
    · obtain ⟨h2, d2, eB⟩ := B z1
      by_cases z2 : sgP n f (i + lnC n f m w i) = true
      · obtain ⟨y1, y2⟩ := sgP_i.mp z2
        have n47 : ¬ f (i + lnC n f m w i) = 47 := fun y => by rcases y2 with x | x <;> rw [x] at y <;> exact absurd y (by decide)
        have n32 : ¬ f (i + lnC n f m w i) = 32 := fun y => by rcases y2 with x | x <;> rw [x] at y <;> exact absurd y (by decide)
        rw [if_pos (Or.inr (Or.inr z2))]
        rw [if_neg (fun y => n47 y.2)] at eB
        refine ⟨h2, ?_, d2.1, d2.2.1, fun y => absurd y (nI_n9 (by omega))⟩
        rw [cRun_end eB, cJ77 ha far hC hn d2 cle, endV_no y1 n32]
      · rw [if_neg (fun y => by rcases y with y | y | y; exact z1 (Or.inl y); exact z1 (Or.inr y); exact z2 y)]
        by_cases z3 : i + lnC n f m w i < n ∧ f (i + lnC n f m w i) = 47
        · rw [if_pos z3, if_neg (Nat.succ_ne_zero k)]
          rw [if_pos z3] at eB
          have e2 := lnC_w (fun y => z1 (Or.inr y))
          rw [cRun_in eB]
          exact ih (m + 1) (lnW n f m w i) _ (i + lnC n f m w i + 1) h2 _ (by omega) (by rw [e2]; exact c12) (by omega) d2 (Or.inr ⟨Nat.succ_pos m, nI_s _⟩)
        · rw [if_neg z3]
          rw [if_neg z3] at eB
          exact ⟨h2, by rw [cRun_end eB, cJ77 ha far hC hn d2 cle], d2.1, d2.2.1, fun _ => d2⟩
/-- the class reads a text -/
def rdV (n : Nat) (f : Nat → Int32) : Int32 × Nat × Nat × (Nat → Nat) := prs n f 6 0 0 (fun _ => 0) (bkE n f 0)
theorem cReads (ha : shp a = (5, 0)) (far : 6 < a) (hC : rowC h a n f) (hn : n ≤ 60) : ∃ h2, f_X0_readFrom h 5 a = some ((rdV n f).1, h2) ∧ (∀ b, b ≠ 5 → b ≠ 6 → h2.1 b = h.1 b) ∧ h2.2 = h.2 ∧ ((rdV n f).1 = -9 → drC h (rdV n f).2.1 (rdV n f).2.2.1 (rdV n f).2.2.2 h2) := by
  have le := bkE_le (n := n) (f := f) (i := 0) (Nat.zero_le n)
  have d0 : drC h 0 0 (fun _ => 0) (uI (uI h 5 1 (nI 0)) 5 2 (nI 0)) := ⟨fun b b1 _ => by rw [uI_ne b1, uI_ne b1], by rw [uI_2, uI_2], by rw [uI_k (by decide), uI_at], by rw [uI_at], fun q hq => absurd hq (Nat.not_lt_zero q)⟩
  obtain ⟨h2, e, q⟩ := cRunL ha far hC hn 5 0 0 (fun _ => 0) (bkE n f 0) (uI (uI h 5 1 (nI 0)) 5 2 (nI 0)) (nI (bkE n f 0)) (by decide) (by decide) le d0 (Or.inl ⟨rfl, rfl⟩)
  refine ⟨h2, ?_, q⟩
  unfold f_X0_readFrom
  rw [nm_v, nm_v, show (0 : Int32) = nI 0 from rfl, cBlanks ha (rowC_dr far d0 hC) hn (Nat.zero_le n), bd_s]
  exact e
end PARSEC
