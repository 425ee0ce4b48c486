/-! what the reference does -/
/-- the reference has read m lines; all else is as in g -/
def rdF (g h : MH) : Prop := (∀ b, b ≠ 64 → b ≠ 81 → h.1 b = g.1 b) ∧ h.2 = g.2 ∧ ∀ j, j ≠ 21 → j ≠ 22 → h.1 64 j = g.1 64 j
def rdM (g : MH) (m w : Nat) (ls : Nat → Nat) (h : MH) : Prop := rdF g h ∧ h.1 64 21 = nI m ∧ (0 < m → h.1 64 22 = nI w) ∧ ∀ q, q < m → h.1 81 q = nI (ls q)
section PARSEM
variable {h g : MH} {t n i m w : Nat} {f : Nat → Int32} {ls : Nat → Nat}
theorem rowM_rd (hd : rdF g h) (hM : rowM g 69 70 60 t n f) : rowM h 69 70 60 t n f := by
  unfold rowM
  rw [hd.1 69 (by decide) (by decide), hd.1 70 (by decide) (by decide)]
  exact hM
theorem mByte (ht : t < 4) (hM : rowM h 69 70 60 t n f) (hn : n ≤ 60) (hi : i ≤ 1000) : f_X7_byteAt h (nI t) (nI i) = some (if i < n then f i else -9) := by
  unfold f_X7_byteAt
  rw [ix_n ht (by decide), gd_t, tn_n (j := t) (by omega), hM.1]
  by_cases z : i < n
  · rw [if_pos (nI_lt z (by omega)), lin60, ix_n (by omega) (by decide), gd_t, tn_n (by omega), hM.2 i z, if_pos z]
  · rw [if_neg (nI_nlt (by omega) (by omega)), if_neg z]
theorem byte32 : (if i < n then f i else -9) = 32 ↔ blP n f i = true := by
  rw [blP_i]
  by_cases z : i < n
  · rw [if_pos z]
    exact ⟨fun y => ⟨z, y⟩, fun y => y.2⟩
  · rw [if_neg z]
    exact ⟨fun y => absurd y (by decide), fun y => absurd y.1 z⟩
theorem byteSg {x : Int32} (e : x = if i < n then f i else -9) : f_X7_isSign x = some (sgP n f i) := by
  have c := cIsSign (x := x)
  unfold f_X0_isSign at c
  unfold f_X7_isSign
  rw [c, e]
  congr 1
  unfold sgP
  apply decide_eq_decide.mpr
  by_cases z : i < n
  · rw [if_pos z]
    exact ⟨fun y => ⟨z, y⟩, fun y => y.2⟩
  · rw [if_neg z]
    exact ⟨fun y => by rcases y with y | y <;> exact absurd y (by decide), fun y => absurd y.1 z⟩
theorem mBlank2 (ht : t < 4) (hM : rowM h 69 70 60 t n f) (hn : n ≤ 60) (hi : i ≤ n) : f_X7_reads_L2 h (nI t) (nI i) = some (nI (bkE n f i)) := by
  have le := bkE_le (f := f) hi
  have out := bkE_out (f := f) hn hi
  unfold f_X7_reads_L2
  have k2 := lpo_for (step := fun s : Int32 => f_X7_reads_B2 h (nI t) s) (b := nI (bkE n f i)) (fun q => nI (i + q)) (csN (blP n f) i 61) (fun q hq => ?_) ?_
  · exact k2
  · (try dsimp only)
    have lt := csN_le (p := blP n f) (k := 61) (i := i)
    unfold f_X7_reads_B2
    rw [mByte ht hM hn (by omega), bd_s, if_pos (byte32.mpr (csN_in hq)), nI_s]
    rfl
  · (try dsimp only)
    unfold f_X7_reads_B2
    rw [show i + csN (blP n f) i 61 = bkE n f i from rfl, mByte ht hM hn (by omega), bd_s, if_neg (fun y => out (byte32.mp y))]
theorem mBlank218 (ht : t < 4) (hM : rowM h 69 70 60 t n f) (hn : n ≤ 60) (hi : i ≤ n) : f_X7_reads_L218 h (nI t) (nI i) = some (nI (bkE n f i)) := mBlank2 ht hM hn hi
theorem mSigns61 {K : Nat} (ht : t < 4) (hM : rowM h 69 70 60 t n f) (hn : n ≤ 60) (hi : i ≤ n) (hK : K ≤ 12) (hm : m ≤ 5) (e21 : h.1 64 21 = nI m) (e81 : h.1 81 m = 0) : f_X7_reads_L61 h (nI t) (nI i) 0 (nI K) = some (nI (i + csN (sgP n f) i K), nI (csN (sgP n f) i K), uI h 81 m (nI (btN f i (csN (sgP n f) i K)))) := by
  have le : i + csN (sgP n f) i K ≤ n := run_le (fun j q => (sgP_i.mp q).1) hi
  have lk := csN_le (p := sgP n f) (k := K) (i := i)
  have Mq : ∀ v, rowM (uI h 81 m v) 69 70 60 t n f := fun v => by
    unfold rowM
    rw [uI_ne (by decide), uI_ne (by decide)]
    exact hM
  have uu : ∀ v u : Int32, uI (uI h 81 m v) 81 m u = uI h 81 m u := fun v u => by
    unfold uI
    congr 1
    funext b j
    by_cases z : b = 81 ∧ j = m <;> simp [z]
  unfold f_X7_reads_L61
  rw [show (nI i, (0 : Int32), h) = (nI (i + 0), nI 0, uI h 81 m (nI (btN f i 0))) by
    have z : uI h 81 m (nI (btN f i 0)) = h := by
      rw [uI_asA, uA_id]
      intro j
      unfold upd
      by_cases y : j = m
      · rw [if_pos y, y, e81]
        rfl
      · rw [if_neg y]
    rw [z]
    rfl]
  refine lpo_for (fun q => (nI (i + q), nI q, uI h 81 m (nI (btN f i q)))) (csN (sgP n f) i K) (fun q hq => ?_) ?_
  · (try dsimp only)
    have sg := csN_in hq
    obtain ⟨z1, z2⟩ := sgP_i.mp sg
    unfold f_X7_reads_B61
    rw [mByte ht (Mq _) hn (by omega), bd_s, byteSg (i := i + q) rfl, bd_s, sg, if_pos rfl, if_pos (nI_lt (by omega) (by omega)), uI_ne (by decide), e21, ix_n (by omega) (by decide), gd_t, bd_s, gd_t, nm_v, tn_n (by omega), uI_at, uu, if_pos z1, nI_s, nI_s]
    rcases z2 with y | y
    · rw [show btN f i (q + 1) = btN f i q from if_neg (by rw [y]; decide), y, show (48 : Int32) - 48 = nI 0 by decide, N_shl (by omega) (by omega), N_or, Nat.zero_mul, Nat.or_zero]
      rfl
    · rw [show btN f i (q + 1) = btN f i q ||| 2 ^ q from if_pos y, y, show (49 : Int32) - 48 = 1 by decide, shl1s (by omega), N_or]
      rfl
  · (try dsimp only)
    unfold f_X7_reads_B61
    rw [mByte ht (Mq _) hn (by omega), bd_s, byteSg (i := i + csN (sgP n f) i K) rfl, bd_s]
    by_cases y : csN (sgP n f) i K < K
    · rw [if_neg (csN_out y)]
    · rw [if_neg (nI_nlt (by omega) (by omega)), ite_self]
noncomputable def mRun (h : MH) (x1 x2 x3 : Int32) : Option (Int32 × MH) := Option.bind (f_X7_reads_L26 h x1 x2 x3) (Sum.elim (fun b26 => Option.bind (f_X7_reads_L218 b26.2 x1 b26.1) (fun b218 => gd (ix x1 4) ((if b218 = (b26.2.1 69 x1.toNatClampNeg) then some ((-9), b26.2) else some (b218, b26.2))))) (fun r => some r))
theorem mRun_in {x1 x2 x3 y2 y3 : Int32} {h2 : MH} (e : f_X7_reads_B26 h x1 x2 x3 = some (.inl (y2, y3, h2))) : mRun h x1 x2 x3 = mRun h2 x1 y2 y3 := by
  unfold mRun f_X7_reads_L26
  rw [lpo_in (s := (x2, x3, h)) e]
theorem mRun_ret {x1 x2 x3 y2 : Int32} {h2 : MH} (e : f_X7_reads_B26 h x1 x2 x3 = some (.inr (.inr (y2, h2)))) : mRun h x1 x2 x3 = some (y2, h2) := by
  unfold mRun f_X7_reads_L26
  rw [lpo_out (s := (x2, x3, h)) e, bd_s]
  rfl
theorem mRun_end (ht : t < 4) (hM : rowM h 69 70 60 t n f) (hn : n ≤ 60) (hi : i ≤ n) : mRun h (nI t) (nI i) 0 = some (endV n f i, h) := by
  have le := bkE_le (f := f) hi
  have e : f_X7_reads_B26 h (nI t) (nI i) 0 = some (.inr (.inl (nI i, h))) := by
    unfold f_X7_reads_B26
    rw [if_pos rfl]
  unfold mRun f_X7_reads_L26
  rw [lpo_out (s := (nI i, 0, h)) e, bd_s]
  show Option.bind (f_X7_reads_L218 h (nI t) (nI i)) (fun b218 => gd (ix (nI t) 4) ((if b218 = (h.1 69 (nI t).toNatClampNeg) then some ((-9), h) else some (b218, h)))) = _
  rw [mBlank218 ht hM hn hi, bd_s, ix_n ht (by decide), gd_t, tn_n (by omega), hM.1]
  unfold endV
  by_cases z : bkE n f i = n
  · rw [if_pos (by rw [z]), if_pos z]
  · rw [if_neg (fun y => z ((nI_eq (by omega) (by omega)).mp y)), if_neg z]
theorem mStep (ht : t < 4) (hM : rowM g 69 70 60 t n f) (hn : n ≤ 60) (hm : m ≤ 5) (hw : w ≤ 12) (hi : i ≤ n) (hd : rdM g m w ls h) : ((lnC n f m w i = 0 ∨ lnC n f m w i < lnW n f m w i ∨ sgP n f (i + lnC n f m w i) = true) → ∃ h2, rdF g h2 ∧ f_X7_reads_B26 h (nI t) (nI i) 1 = some (.inr (.inr (nI (i + lnC n f m w i), h2)))) ∧ (¬ (lnC n f m w i = 0 ∨ lnC n f m w i < lnW n f m w i ∨ sgP n f (i + lnC n f m w i) = true) → ∃ h2, rdM g (m + 1) (lnW n f m w i) (updN ls m (btN f i (lnC n f m w i))) h2 ∧ f_X7_reads_B26 h (nI t) (nI i) 1 = if i + lnC n f m w i < n ∧ f (i + lnC n f m w i) = 47 then (if m + 1 = 6 then some (.inr (.inr (nI (i + lnC n f m w i), h2))) else some (.inl (nI (i + lnC n f m w i + 1), 1, h2))) else some (.inl (nI (i + lnC n f m w i), 0, h2))) := by
  obtain ⟨F, e21, e22, e81⟩ := hd
  have c12 := lnC_12 (n := n) (f := f) (m := m) (i := i) hw
  have cle := lnC_le (f := f) (m := m) (w := w) hi
  have M0 : rowM (uI h 81 m 0) 69 70 60 t n f := by
    unfold rowM
    rw [uI_ne (by decide), uI_ne (by decide)]
    exact rowM_rd F hM
  have e59 : f_X7_reads_B26 h (nI t) (nI i) 1 = f_X7_reads_J113_26 (uI h 81 m (nI (btN f i (lnC n f m w i)))) (nI t) (nI (i + lnC n f m w i)) (nI (lnC n f m w i)) := by
    have uu : ∀ v u : Int32, uI (uI h 81 m v) 81 m u = uI h 81 m u := fun v u => by
      unfold uI
      congr 1
      funext b j
      by_cases z : b = 81 ∧ j = m <;> simp [z]
    have s61 : ∀ K, K ≤ 12 → K = (if m = 0 then 12 else w) → f_X7_reads_J59_26 (uI h 81 m 0) (nI t) (nI i) 0 (nI K) = f_X7_reads_J113_26 (uI h 81 m (nI (btN f i (lnC n f m w i)))) (nI t) (nI (i + lnC n f m w i)) (nI (lnC n f m w i)) := fun K k1 k2 => by
      unfold f_X7_reads_J59_26
      rw [mSigns61 (m := m) ht M0 hn hi k1 hm (by rw [uI_ne (by decide)]; exact e21) uI_at, bd_s, uu]
      unfold lnC
      rw [← k2]
    unfold f_X7_reads_B26
    rw [if_neg (by decide), e21, ix_n (by omega) (by decide), gd_t, nm_v, tn_n (by omega), uI_ne (by decide), e21]
    by_cases y : m = 0
    · rw [if_pos (show nI m = 0 by rw [y]; rfl)]
      exact s61 12 (by decide) (by rw [if_pos y])
    · rw [if_neg (nI0_ne (by omega) (by omega)), e22 (by omega)]
      exact s61 w hw (by rw [if_neg y])
  have e113 : f_X7_reads_J113_26 (uI h 81 m (nI (btN f i (lnC n f m w i)))) (nI t) (nI (i + lnC n f m w i)) (nI (lnC n f m w i)) = f_X7_reads_J130_26 (uI h 81 m (nI (btN f i (lnC n f m w i)))) (nI t) (nI (i + lnC n f m w i)) (nI (lnC n f m w i)) (nI (lnW n f m w i)) := by
    unfold f_X7_reads_J113_26 lnW
    rw [uI_ne (by decide), e21]
    by_cases y : m = 0
    · rw [if_pos (show nI m = 0 by rw [y]; rfl), if_pos y]
    · rw [if_neg (nI0_ne (by omega) (by omega)), if_neg y, e22 (by omega)]
  have hl : ¬ lnC n f m w i < lnW n f m w i → lnW n f m w i = lnC n f m w i := lnC_w
  have w12 : lnW n f m w i ≤ 12 := by
    unfold lnW
    split <;> omega
  rw [e59, e113]
  generalize lnC n f m w i = c at *
  generalize lnW n f m w i = w2 at *
  generalize hk : uI (uI h 81 m (nI (btN f i c))) 64 22 (nI w2) = k
  have kF : rdF g k := by
    rw [← hk]
    exact ⟨fun b b1 b2 => by rw [uI_ne b1, uI_ne b2]; exact F.1 b b1 b2, by rw [uI_2, uI_2]; exact F.2.1, fun j j1 j2 => by rw [uI_k j2, uI_ne (by decide)]; exact F.2.2 j j1 j2⟩
  have k21 : k.1 64 21 = nI m := by rw [← hk, uI_k (by decide), uI_ne (by decide)]; exact e21
  have k22 : k.1 64 22 = nI w2 := by rw [← hk, uI_at]
  have k81 : ∀ q, q < m + 1 → k.1 81 q = nI (updN ls m (btN f i c) q) := fun q hq => by
    rw [← hk, uI_ne (by decide)]
    unfold updN
    by_cases y : q = m
    · rw [y, uI_at, if_pos rfl]
    · rw [uI_k y, if_neg y]
      exact e81 q (by omega)
  have kM := rowM_rd kF hM
  constructor
  · intro z
    refine ⟨k, kF, ?_⟩
    unfold f_X7_reads_J130_26
    rw [nm_v, hk, k22, mByte ht kM hn (by omega), bd_s, byteSg (i := i + c) rfl, bd_s]
    by_cases z1 : c = 0
    · rw [if_pos (show nI c = 0 by rw [z1]; rfl)]
    · rw [if_neg (nI0_ne (by omega) (by omega))]
      by_cases z2 : c < w2
      · rw [if_pos (nI_lt z2 (by omega))]
      · rw [if_neg (nI_nlt (by omega) (by omega)), if_pos (by rcases z with y | y | y; exact absurd y z1; exact absurd y z2; exact y)]
  · intro z
    refine ⟨uI k 64 21 (nI (m + 1)), ⟨⟨fun b b1 b2 => by rw [uI_ne b1]; exact kF.1 b b1 b2, by rw [uI_2]; exact kF.2.1, fun j j1 j2 => by rw [uI_k j1]; exact kF.2.2 j j1 j2⟩, uI_at, fun _ => by rw [uI_k (by decide)]; exact k22, fun q hq => by rw [uI_ne (by decide)]; exact k81 q hq⟩, ?_⟩
    have kM2 : rowM (uI k 64 21 (nI (m + 1))) 69 70 60 t n f := by
      unfold rowM
      rw [uI_ne (by decide), uI_ne (by decide)]
      exact kM
    unfold f_X7_reads_J130_26 f_X7_reads_J187_26 f_X7_reads_J203_26
    rw [nm_v, hk, k22, mByte ht kM hn (by omega), bd_s, byteSg (i := i + c) rfl, bd_s, if_neg (show ¬ nI c = 0 from nI0_ne (by omega) (by omega)), if_neg (nI_nlt (by omega) (by omega)), if_neg (fun y => z (Or.inr (Or.inr y))), k21, nI_s, nm_v, mByte ht kM2 hn (by omega), bd_s]
    by_cases y : i + c < n ∧ f (i + c) = 47
    · rw [if_pos y.1, if_pos y.2, if_pos y, if_neg (show ¬ (1 : Int32) = 0 by decide), uI_at]
      by_cases x : m + 1 = 6
      · rw [if_pos (show nI (m + 1) = 6 by rw [x]; rfl), if_pos x]
      · rw [if_neg (show ¬ nI (m + 1) = 6 from fun u => x ((nI_eq (b := 6) (by omega) (by decide)).mp u)), if_neg x, if_neg (show ¬ (1 : Int32) = 0 by decide), nm_v, nI_s]
    · have n47 : ¬ (if i + c < n then f (i + c) else -9) = 47 := fun u => by
        by_cases x : i + c < n
        · rw [if_pos x] at u
          exact y ⟨x, u⟩
        · rw [if_neg x] at u
          exact absurd u (by decide)
      rw [if_neg n47, if_neg y, if_pos rfl, if_pos rfl, nm_v, N_addK]
      rfl
theorem mRunL (ht : t < 4) (hM : rowM g 69 70 60 t n f) (hn : n ≤ 60) : ∀ (k m w : Nat) (ls : Nat → Nat) (i : Nat) (h : MH), m + (k + 1) = 6 → w ≤ 12 → i ≤ n → rdM g m w ls h → ∃ h2, mRun h (nI t) (nI i) 1 = some ((prs n f (k + 1) m w ls i).1, h2) ∧ rdF g h2 ∧ ((prs n f (k + 1) m w ls i).1 = -9 → rdM g (prs n f (k + 1) m w ls i).2.1 (prs n f (k + 1) m w ls i).2.2.1 (prs n f (k + 1) m w ls i).2.2.2 h2) := by
  intro k
  induction k with
  | zero =>
    intro m w ls i h hm hw hi hd
    have cle := lnC_le (f := f) (m := m) (w := w) hi
    obtain ⟨A, B⟩ := mStep ht hM hn (show m ≤ 5 by omega) hw hi hd
    rw [prs_s]
    by_cases z1 : lnC n f m w i = 0 ∨ lnC n f m w i < lnW n f m w i ∨ sgP n f (i + lnC n f m w i) = true
    · obtain ⟨h2, F2, e2⟩ := A z1
      rw [if_pos z1]
      exact ⟨h2, mRun_ret e2, F2, fun y => absurd y (nI_n9 (by omega))⟩
    · obtain ⟨h2, d2, eB⟩ := B z1
      rw [if_neg z1]
      by_cases z3 : i + lnC n f m w i < n ∧ f (i + lnC n f m w i) = 47
      · rw [if_pos z3, if_pos (show m + 1 = 6 by omega)] at eB
        rw [if_pos z3, if_pos rfl]
        exact ⟨h2, mRun_ret eB, d2.1, fun y => absurd y (nI_n9 (by omega))⟩
      · rw [if_neg z3] at eB
        rw [if_neg z3]
        exact ⟨h2, by rw [mRun_in eB, mRun_end ht (rowM_rd d2.1 hM) hn cle], d2.1, fun _ => d2⟩
  | succ k ih =>
    intro m w ls i h hm hw hi hd
    have cle := lnC_le (f := f) (m := m) (w := w) hi
    have c12 := lnC_12 (n := n) (f := f) (m := m) (i := i) hw
    obtain ⟨A, B⟩ := mStep ht hM hn (show m ≤ 5 by omega) hw hi hd
    rw [prs_s]
    by_cases z1 : lnC n f m w i = 0 ∨ lnC n f m w i < lnW n f m w i ∨ sgP n f (i + lnC n f m w i) = true
    · obtain ⟨h2, F2, e2⟩ := A z1
      rw [if_pos z1]
      exact ⟨h2, mRun_ret e2, F2, fun y => absurd y (nI_n9 (by omega))⟩
    · obtain ⟨h2, d2, eB⟩ := B z1
      rw [if_neg z1]
      by_cases z3 : i + lnC n f m w i < n ∧ f (i + lnC n f m w i) = 47
      · rw [if_pos z3, if_neg (show ¬ m + 1 = 6 by omega)] at eB
        rw [if_pos z3, if_neg (Nat.succ_ne_zero k)]
        have e2 := lnC_w (n := n) (f := f) (m := m) (w := w) (i := i) (fun y => z1 (Or.inr (Or.inl y)))
        rw [mRun_in eB]
        exact ih (m + 1) (lnW n f m w i) _ (i + lnC n f m w i + 1) h2 (by omega) (by rw [e2]; exact c12) (by omega) d2
      · rw [if_neg z3] at eB
        rw [if_neg z3]
        exact ⟨h2, by rw [mRun_in eB, mRun_end ht (rowM_rd d2.1 hM) hn cle], d2.1, fun _ => d2⟩
theorem mReads (ht : t < 4) (hM : rowM h 69 70 60 t n f) (hn : n ≤ 60) : ∃ h2, f_X7_reads h (nI t) = some ((rdV n f).1, h2) ∧ rdF h h2 ∧ ((rdV n f).1 = -9 → rdM h (rdV n f).2.1 (rdV n f).2.2.1 (rdV n f).2.2.2 h2) := by
  have le := bkE_le (n := n) (f := f) (i := 0) (Nat.zero_le n)
  have F0 : rdF h (uI h 64 21 (nI 0)) := ⟨fun b b1 _ => by rw [uI_ne b1], by rw [uI_2], fun j j1 _ => by rw [uI_k j1]⟩
  obtain ⟨h2, e, q⟩ := mRunL ht hM hn 5 0 0 (fun _ => 0) (bkE n f 0) (uI h 64 21 (nI 0)) (by decide) (by decide) le ⟨F0, uI_at, fun y => absurd y (Nat.lt_irrefl 0), fun q hq => absurd hq (Nat.not_lt_zero q)⟩
  refine ⟨h2, ?_, q⟩
  unfold f_X7_reads
  rw [show (0 : Int32) = nI 0 from rfl, mBlank2 ht hM hn (Nat.zero_le n), bd_s, nm_v]
  exact e
end PARSEM
