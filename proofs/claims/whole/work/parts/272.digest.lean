/-! the digest -/
def mxL (l : Int64) (v : Int32) : Int64 := 31 * l + v.toInt64
def fdM (g : Nat → Int32) (l : Int64) : Nat → Int64
  | 0 => l
  | n + 1 => mxL (fdM g l n) (g n)
def hsL (h : MH) (l : Int64) : MH := uL h 64 31 l
theorem hsL_1 {h : MH} {l : Int64} : (hsL h l).1 = h.1 := rfl
theorem hsL_hsL {h : MH} {l k : Int64} : hsL (hsL h l) k = hsL h k := by
  unfold hsL uL
  congr 2
  funext b j
  by_cases z : b = 64 ∧ j = 31 <;> simp [z]
theorem mMix {h : MH} {l : Int64} {v : Int32} : f_X7_mix (hsL h l) v = some (hsL h (mxL l v)) := by
  unfold f_X7_mix
  rw [nm_v, show (hsL h l).2.1 64 31 = l from uL_at]
  show some (hsL (hsL h l) (mxL l v)) = _
  rw [hsL_hsL]
theorem mxm1 (l : Int64) : 31 * l - 1 = mxL l (-1) := by
  unfold mxL
  rw [Int64.sub_eq_add_neg, show Int32.toInt64 (-1) = -1 by decide]
section DIG
variable {h : MH} {a c d r n : Nat} {f : Nat → Int32} {l : Int64}
theorem cDigRow (ha : shp a = (5, 0)) (hC : rowC h a n f) (hn : n ≤ 60) : f_X5_digestFrom h a l = some (fdM f (mxL l (nI n)) n) := by
  have key : f_X5_digestFrom_L15 h a (mxL l (nI n)) 0 = some (fdM f (mxL l (nI n)) n) := by
    unfold f_X5_digestFrom_L15
    refine lpo_for (fun i => (fdM f (mxL l (nI n)) i, nI i)) n (fun i hi => ?_) ?_
    · (try dsimp only)
      unfold f_X5_digestFrom_B15
      rw [hC.1, if_pos (nI_lt hi (by omega)), ix_n (by omega) (by decide), gd_t, nm_v, tn_n (by omega), rf_Row ha, hC.2 i hi, nI_s]
      rfl
    · (try dsimp only)
      unfold f_X5_digestFrom_B15
      rw [hC.1, if_neg (nI_nlt (Nat.le_refl _) (by omega))]
  unfold f_X5_digestFrom
  rw [nm_v, hC.1]
  show Option.bind (f_X5_digestFrom_L15 h a (mxL l (nI n)) 0) _ = _
  rw [key, bd_s]
theorem cDigRow_m (e : h.1 a 1 = -1) : f_X5_digestFrom h a l = some (mxL l (-1)) := by
  unfold f_X5_digestFrom f_X5_digestFrom_L15
  rw [nm_v, e]
  have key : lpo (fun s : Int64 × Int32 => f_X5_digestFrom_B15 h a s.1 s.2) (31 * l + Int32.toInt64 (-1), 0) = some (mxL l (-1)) := by
    refine lpo_out ?_
    (try dsimp only)
    unfold f_X5_digestFrom_B15
    rw [e, if_neg (by decide)]
    rfl
  rw [key, bd_s]
theorem mDigRow (hr : r < 6) (hM : rowM h 66 67 40 r n f) (hn : n ≤ 40) : f_X7_digest_B68 (hsL h l) (nI r) = some (.inl (nI (r + 1), hsL h (fdM f (mxL l (nI n)) n))) := by
  have key : f_X7_digest_L99 (hsL h (mxL l (nI n))) (nI r) 0 = some (hsL h (fdM f (mxL l (nI n)) n)) := by
    unfold f_X7_digest_L99
    refine lpo_for (fun i => (nI i, hsL h (fdM f (mxL l (nI n)) i))) n (fun i hi => ?_) ?_
    · (try dsimp only)
      unfold f_X7_digest_B99
      rw [ix_n hr (by decide), gd_t, tn_n (by omega), hsL_1, hM.1, if_pos (nI_lt hi (by omega)), mRowAt hr (by omega), bd_s, hsL_1, hM.2 i hi, mMix, bd_s, nI_s]
      rfl
    · (try dsimp only)
      unfold f_X7_digest_B99
      rw [ix_n hr (by decide), gd_t, tn_n (by omega), hsL_1, hM.1, if_neg (nI_nlt (Nat.le_refl _) (by omega))]
  unfold f_X7_digest_B68 f_X7_digest_J94_68
  rw [if_pos (show nI r < 6 from (nI_lt hr (by decide) : nI r < nI 6)), ix_n hr (by decide), gd_t, gd_t, tn_n (by omega), hsL_1, hM.1, if_neg (nlt0 (by omega)), mMix, bd_s, key, bd_s, nI_s]
theorem mDigRow_m (hr : r < 6) (e : h.1 66 r = -9) : f_X7_digest_B68 (hsL h l) (nI r) = some (.inl (nI (r + 1), hsL h (mxL l (-1)))) := by
  have key : f_X7_digest_L99 (hsL h (mxL l (-1))) (nI r) 0 = some (hsL h (mxL l (-1))) := by
    unfold f_X7_digest_L99
    refine lpo_out ?_
    (try dsimp only)
    unfold f_X7_digest_B99
    rw [ix_n hr (by decide), gd_t, tn_n (by omega), hsL_1, e, if_neg (by decide)]
  unfold f_X7_digest_B68 f_X7_digest_J94_68
  rw [if_pos (show nI r < 6 from (nI_lt hr (by decide) : nI r < nI 6)), ix_n hr (by decide), gd_t, gd_t, tn_n (by omega), hsL_1, e, if_pos (by decide), mMix, bd_s, key, bd_s, nI_s]
theorem mDigText (hr : r < 4) (hM : rowM h 69 70 60 r n f) (hn : n ≤ 60) : f_X7_digest_B133 (hsL h l) (nI r) = some (.inl (nI (r + 1), hsL h (fdM f (mxL l (nI n)) n))) := by
  have key : f_X7_digest_L163 (hsL h (mxL l (nI n))) (nI r) 0 = some (hsL h (fdM f (mxL l (nI n)) n)) := by
    unfold f_X7_digest_L163
    refine lpo_for (fun i => (nI i, hsL h (fdM f (mxL l (nI n)) i))) n (fun i hi => ?_) ?_
    · (try dsimp only)
      unfold f_X7_digest_B163
      rw [ix_n hr (by decide), gd_t, tn_n (j := r) (by omega), hsL_1, hM.1, if_pos (nI_lt hi (by omega)), lin60, ix_n (by omega) (by decide), gd_t, tn_n (by omega), hM.2 i hi, mMix, bd_s, nI_s]
      rfl
    · (try dsimp only)
      unfold f_X7_digest_B163
      rw [ix_n hr (by decide), gd_t, tn_n (by omega), hsL_1, hM.1, if_neg (nI_nlt (Nat.le_refl _) (by omega))]
  unfold f_X7_digest_B133 f_X7_digest_J158_133
  rw [if_pos (show nI r < 4 from (nI_lt hr (by decide) : nI r < nI 4)), ix_n hr (by decide), gd_t, gd_t, tn_n (by omega), hsL_1, hM.1, if_neg (nlt0 (by omega)), mMix, bd_s, key, bd_s, nI_s]
theorem mDigText_m (hr : r < 4) (e : h.1 69 r = -9) : f_X7_digest_B133 (hsL h l) (nI r) = some (.inl (nI (r + 1), hsL h (mxL l (-1)))) := by
  have key : f_X7_digest_L163 (hsL h (mxL l (-1))) (nI r) 0 = some (hsL h (mxL l (-1))) := by
    unfold f_X7_digest_L163
    refine lpo_out ?_
    (try dsimp only)
    unfold f_X7_digest_B163
    rw [ix_n hr (by decide), gd_t, tn_n (by omega), hsL_1, e, if_neg (by decide)]
  unfold f_X7_digest_B133 f_X7_digest_J158_133
  rw [if_pos (show nI r < 4 from (nI_lt hr (by decide) : nI r < nI 4)), ix_n hr (by decide), gd_t, gd_t, tn_n (by omega), hsL_1, e, if_pos (by decide), mMix, bd_s, key, bd_s, nI_s]
/-! codes -/
variable {k w : Nat} {ls : Nat → Nat}
theorem cDigCode (ha : shp a = (0, 0)) (hK : codK k w ls) (hC : codC h a k w ls) : f_X0_digestFrom h a l = some (fdM (fun i => nI (ls i)) (mxL (mxL l (nI k)) (nI w)) k) := by
  have b2 := hK.1.2.1
  have key : f_X0_digestFrom_L40 h a (mxL (mxL l (nI k)) (nI w)) 0 = some (fdM (fun i => nI (ls i)) (mxL (mxL l (nI k)) (nI w)) k) := by
    unfold f_X0_digestFrom_L40
    refine lpo_for (fun i => (fdM (fun i => nI (ls i)) (mxL (mxL l (nI k)) (nI w)) i, nI i)) k (fun i hi => ?_) ?_
    · (try dsimp only)
      unfold f_X0_digestFrom_B40
      rw [hC.1, if_pos (nI_lt hi (by omega)), cLineAt ha hK hC hi, bd_s, nm_v, nI_s]
      rfl
    · (try dsimp only)
      unfold f_X0_digestFrom_B40
      rw [hC.1, if_neg (nI_nlt (Nat.le_refl _) (by omega))]
  unfold f_X0_digestFrom
  rw [cMissK_f hK hC, bd_s, if_neg (by decide), nm_v, hC.1, hC.2.1]
  show Option.bind (f_X0_digestFrom_L40 h a (mxL (mxL l (nI k)) (nI w)) 0) _ = _
  rw [key, bd_s]
theorem cDigCode_m (e : h.1 a 1 = 0) : f_X0_digestFrom h a l = some (mxL l (-1)) := by
  unfold f_X0_digestFrom
  rw [cMissK_t e, bd_s, if_pos rfl, mxm1]
theorem mDigCode (hd : d < 4) (hK : codK k w ls) (hM : codM h d k w ls) : f_X7_mixCode (hsL h l) (nI d) = some (hsL h (fdM (fun i => nI (ls i)) (mxL (mxL l (nI k)) (nI w)) k)) := by
  have b1 := hK.1.1
  have b2 := hK.1.2.1
  have key : f_X7_mixCode_L37 (hsL h (mxL (mxL l (nI k)) (nI w))) (nI d) 0 = some (hsL h (fdM (fun i => nI (ls i)) (mxL (mxL l (nI k)) (nI w)) k)) := by
    unfold f_X7_mixCode_L37
    refine lpo_for (fun i => (nI i, hsL h (fdM (fun i => nI (ls i)) (mxL (mxL l (nI k)) (nI w)) i))) k (fun i hi => ?_) ?_
    · (try dsimp only)
      unfold f_X7_mixCode_B37
      rw [ix_n hd (by decide), gd_t, tn_n (j := d) (by omega), hsL_1, hM.1, if_pos (nI_lt hi (by omega)), lin6, ix_n (by omega) (by decide), gd_t, tn_n (by omega), hM.2.2 i hi, mMix, bd_s, nI_s]
      rfl
    · (try dsimp only)
      unfold f_X7_mixCode_B37
      rw [ix_n hd (by decide), gd_t, tn_n (by omega), hsL_1, hM.1, if_neg (nI_nlt (Nat.le_refl _) (by omega))]
  unfold f_X7_mixCode
  rw [ix_n hd (by decide), gd_t, gd_t, tn_n (by omega), hsL_1, hM.1, if_neg (nI0_ne b1 (by omega)), mMix, bd_s, gd_t, hsL_1, hM.2.1, mMix, bd_s, key, bd_s]
theorem mDigCode_m (hd : d < 4) (e : h.1 78 d = 0) : f_X7_mixCode (hsL h l) (nI d) = some (hsL h (mxL l (-1))) := by
  unfold f_X7_mixCode
  rw [ix_n hd (by decide), gd_t, tn_n (by omega), hsL_1, e, if_pos rfl, mMix, bd_s]
end DIG
/-! covers -/
def fdC (T : Nat → Nat → Int32) (l : Int64) : Nat → Int64
  | 0 => l
  | i + 1 => fdM (T i) (fdC T l i) 5
section DIGC
variable {h : MH} {a c kd n : Nat} {ds cs : Nat → Nat} {w wt : Nat} {l : Int64}
theorem cDigCov (ha : shp a = (1, 0)) (hK : covK kd n ds cs w wt) (hC : covC h a kd n ds cs w wt) : f_X1_digestFrom h a l = some (fdC (tellV kd n ds cs w wt) (mxL (mxL l (nI kd)) (nI n)) n) := by
  have hn := hK.1.2.1
  have hn1 := hK.1.1
  have I : ∀ (i : Nat) (u : Int64), i < n → f_X1_digestFrom_L52 h a u (nI i) 0 = some (fdM (tellV kd n ds cs w wt i) u 5) := fun i u hi => by
    unfold f_X1_digestFrom_L52
    refine lpo_for (fun m => (fdM (tellV kd n ds cs w wt i) u m, nI m)) 5 (fun m hm => ?_) ?_
    · (try dsimp only)
      unfold f_X1_digestFrom_B52
      rw [if_neg (show ¬ 4 < nI m from (nI_nlt (show m ≤ 4 by omega) (by decide) : ¬ nI 4 < nI m)), cTell ha hK hC hi (by omega), bd_s, nm_v, nI_s]
      rfl
    · (try dsimp only)
      unfold f_X1_digestFrom_B52
      rw [if_pos (by decide)]
  have key : f_X1_digestFrom_L40 h a (mxL (mxL l (nI kd)) (nI n)) 0 = some (fdC (tellV kd n ds cs w wt) (mxL (mxL l (nI kd)) (nI n)) n) := by
    unfold f_X1_digestFrom_L40
    refine lpo_for (fun i => (fdC (tellV kd n ds cs w wt) (mxL (mxL l (nI kd)) (nI n)) i, nI i)) n (fun i hi => ?_) ?_
    · (try dsimp only)
      unfold f_X1_digestFrom_B40
      rw [hC.2.1, if_pos (nI_lt hi (by omega)), I i _ hi, bd_s, nI_s]
      rfl
    · (try dsimp only)
      unfold f_X1_digestFrom_B40
      rw [hC.2.1, if_neg (nI_nlt (Nat.le_refl _) (by omega))]
  unfold f_X1_digestFrom
  rw [cMissC_f hC.2.1 hn1 (by omega), bd_s, if_neg (by decide), nm_v, hC.1, hC.2.1]
  show Option.bind (f_X1_digestFrom_L40 h a (mxL (mxL l (nI kd)) (nI n)) 0) _ = _
  rw [key, bd_s]
theorem cDigCov_m (e : h.1 a 3 = 0) : f_X1_digestFrom h a l = some (mxL l (-1)) := by
  unfold f_X1_digestFrom
  rw [cMissC_t e, bd_s, if_pos rfl, mxm1]
theorem covM_hs (hM : covM h c kd n ds cs w wt) : covM (hsL h l) c kd n ds cs w wt := covM_of (fun b _ _ => by rw [hsL_1]) hM
theorem mDigCov (hc : c < 6) (hK : covK kd n ds cs w wt) (hM : covM h c kd n ds cs w wt) : f_X7_mixCover (hsL h l) (nI c) = some (hsL h (fdC (tellV kd n ds cs w wt) (mxL (mxL l (nI kd)) (nI n)) n)) := by
  have hn := hK.1.2.1
  have hn1 := hK.1.1
  have I : ∀ (i : Nat) (u : Int64), i < n → f_X7_mixCover_L49 (hsL h u) (nI c) (nI i) 0 = some (hsL h (fdM (tellV kd n ds cs w wt i) u 5)) := fun i u hi => by
    unfold f_X7_mixCover_L49
    refine lpo_for (fun m => (nI m, hsL h (fdM (tellV kd n ds cs w wt i) u m))) 5 (fun m hm => ?_) ?_
    · (try dsimp only)
      unfold f_X7_mixCover_B49
      rw [if_neg (show ¬ 4 < nI m from (nI_nlt (show m ≤ 4 by omega) (by decide) : ¬ nI 4 < nI m)), mTell hc hK (covM_hs hM) hi (by omega), bd_s, mMix, bd_s, nI_s]
      rfl
    · (try dsimp only)
      unfold f_X7_mixCover_B49
      rw [if_pos (by decide)]
  have key : f_X7_mixCover_L37 (hsL h (mxL (mxL l (nI kd)) (nI n))) (nI c) 0 = some (hsL h (fdC (tellV kd n ds cs w wt) (mxL (mxL l (nI kd)) (nI n)) n)) := by
    unfold f_X7_mixCover_L37
    refine lpo_for (fun i => (nI i, hsL h (fdC (tellV kd n ds cs w wt) (mxL (mxL l (nI kd)) (nI n)) i))) n (fun i hi => ?_) ?_
    · (try dsimp only)
      unfold f_X7_mixCover_B37
      rw [ix_n hc (by decide), gd_t, tn_n (by omega), hsL_1, hM.2.1, if_pos (nI_lt hi (by omega)), I i _ hi, bd_s, nI_s]
      rfl
    · (try dsimp only)
      unfold f_X7_mixCover_B37
      rw [ix_n hc (by decide), gd_t, tn_n (by omega), hsL_1, hM.2.1, if_neg (nI_nlt (Nat.le_refl _) (by omega))]
  unfold f_X7_mixCover
  rw [ix_n hc (by decide), gd_t, gd_t, tn_n (by omega), hsL_1, hM.2.1, if_neg (nI0_ne hn1 (by omega)), hM.1, mMix, bd_s, gd_t, hsL_1, hM.2.1, mMix, bd_s, key, bd_s]
theorem mDigCov_m (hc : c < 6) (e : h.1 71 c = 0) : f_X7_mixCover (hsL h l) (nI c) = some (hsL h (mxL l (-1))) := by
  unfold f_X7_mixCover
  rw [ix_n hc (by decide), gd_t, tn_n (by omega), hsL_1, e, if_pos rfl, mMix, bd_s]
end DIGC
theorem sim_hs {h : MH} {l : Int64} (S : Sim h) : Sim (hsL h l) := by
  refine sim_scr S (fun a _ => by rw [hsL_1]) ?_ ?_ ?_ ?_
  · rw [hsL_1]
    exact S.2.2.2.2.1
  · rw [hsL_1]
    exact S.2.2.2.2.2.2.1.1
  · unfold SF hsL
    rw [uL_n (by decide), uL_k (by decide), uL_k (by decide)]
    exact S.2.2.2.2.2.1
  · unfold SW hsL
    rw [uL_w]
    exact S.2.2.2.2.2.2.2
theorem counts_hs {h : MH} {l : Int64} {m : Nat} (S : Sim h) (hm : m ≤ 5) : f_X7_counts (hsL h l) (nI m) = f_X7_counts h (nI m) := by
  obtain ⟨q, hq⟩ := cov_N S.2.2.1
  obtain ⟨k, hk⟩ := cod_N S.2.2.2.1
  have hq2 : ∀ c, covNR (hsL h l) c (q c) := fun c => by
    unfold covNR
    rw [hsL_1]
    exact hq c
  have hk2 : ∀ d, codNR (hsL h l) d (k d) := fun d => by
    unfold codNR
    rw [hsL_1]
    exact hk d
  have eA : ctA (hsL h l) q m = ctA h q m := by
    funext r
    unfold ctA
    rw [hsL_1]
  have eB : ctB (hsL h l) k m = ctB h k m := by
    funext r
    unfold ctB
    rw [hsL_1]
  unfold f_X7_counts
  rw [mCntA hm hq, mCntA hm hq2, bd_s, bd_s, show (0 : Int32) = nI 0 from rfl, mCntB hm hk, mCntB hm hk2, eA, eB]
/-- two loops that fold along: the class's over longs, the reference's over its field -/
theorem fold2 {h : MH} {N : Nat} {cs : Int64 × Int32 → Option ((Int64 × Int32) ⊕ Int64)} {ms : Int32 × MH → Option ((Int32 × MH) ⊕ MH)} (st : ∀ i l, i < N → ∃ l2, cs (l, nI i) = some (.inl (l2, nI (i + 1))) ∧ ms (nI i, hsL h l) = some (.inl (nI (i + 1), hsL h l2))) (ox : ∀ l, cs (l, nI N) = some (.inr l)) (om : ∀ l, ms (nI N, hsL h l) = some (.inr (hsL h l))) (l : Int64) : ∃ l2, lpo cs (l, 0) = some l2 ∧ lpo ms (0, hsL h l) = some (hsL h l2) := by
  have go : ∀ (k i : Nat) (l : Int64), i + k = N → ∃ l2, lpo cs (l, nI i) = some l2 ∧ lpo ms (nI i, hsL h l) = some (hsL h l2) := by
    intro k
    induction k with
    | zero =>
      intro i l e
      rw [show i = N by omega]
      exact ⟨l, lpo_out (ox l), lpo_out (om l)⟩
    | succ k ih =>
      intro i l e
      obtain ⟨l2, e1, e2⟩ := st i l (by omega)
      obtain ⟨l3, e3, e4⟩ := ih (i + 1) l2 (by omega)
      exact ⟨l3, by rw [lpo_in e1, e3], by rw [lpo_in e2, e4]⟩
  exact go N 0 l (by omega)
theorem q_digest {h : MH} (S : Sim h) : ∃ v h2, f_X6_digest h = some v ∧ f_X7_digest h = some (v, h2) ∧ Sim h2 := by
  obtain ⟨s1, s2, s3, s4, _⟩ := id S
  obtain ⟨l1, a1, b1⟩ := fold2 (h := h) (N := 6) (cs := fun s : Int64 × Int32 => f_X6_digest_B6 h s.1 s.2) (ms := fun s : Int32 × MH => f_X7_digest_B9 s.2 s.1) (fun i l hi => by
    obtain ⟨v, e1, e2⟩ := counts_eq S (m := i) (by omega)
    refine ⟨mxL l v, ?_, ?_⟩
    · (try dsimp only)
      unfold f_X6_digest_B6
      rw [if_neg (show ¬ 5 < nI i from (nI_nlt (show i ≤ 5 by omega) (by decide) : ¬ nI 5 < nI i)), e1, bd_s, nm_v, nI_s]
      rfl
    · (try dsimp only)
      unfold f_X7_digest_B9
      rw [if_neg (show ¬ 5 < nI i from (nI_nlt (show i ≤ 5 by omega) (by decide) : ¬ nI 5 < nI i)), counts_hs S (by omega), e2, bd_s, mMix, bd_s, nI_s]) (fun l => by
    (try dsimp only)
    unfold f_X6_digest_B6
    rw [if_pos (by decide)]) (fun l => by
    (try dsimp only)
    unfold f_X7_digest_B9
    rw [if_pos (by decide)]) 17
  obtain ⟨l2, a2, b2⟩ := fold2 (h := h) (N := 6) (cs := fun s : Int64 × Int32 => f_X6_digest_B32 h s.1 s.2) (ms := fun s : Int32 × MH => f_X7_digest_B31 s.2 s.1) (fun i l hi => by
    unfold f_X6_digest_B32 f_X7_digest_B31
    (try dsimp only)
    rw [if_pos (show nI i < 6 from (nI_lt hi (by decide) : nI i < nI 6)), if_pos (show nI i < 6 from (nI_lt hi (by decide) : nI i < nI 6)), ix_n hi (by decide), gd_t, tn_n (by omega), rf_covers hi, nI_s]
    rcases s3 i hi with ⟨q1, q2⟩ | ⟨kd, n, ds, cs, w, wt, hK, hC, hM⟩
    · exact ⟨_, by rw [cDigCov_m q1, bd_s], by rw [mDigCov_m hi q2, bd_s]⟩
    · exact ⟨_, by rw [cDigCov (sh_cov hi) hK hC, bd_s], by rw [mDigCov hi hK hM, bd_s]⟩) (fun l => by
    (try dsimp only)
    unfold f_X6_digest_B32
    rw [if_neg (by decide)]) (fun l => by
    (try dsimp only)
    unfold f_X7_digest_B31
    rw [if_neg (by decide)]) l1
  obtain ⟨l3, a3, b3⟩ := fold2 (h := h) (N := 4) (cs := fun s : Int64 × Int32 => f_X6_digest_B60 h s.1 s.2) (ms := fun s : Int32 × MH => f_X7_digest_B50 s.2 s.1) (fun i l hi => by
    unfold f_X6_digest_B60 f_X7_digest_B50
    (try dsimp only)
    rw [if_pos (show nI i < 4 from (nI_lt hi (by decide) : nI i < nI 4)), if_pos (show nI i < 4 from (nI_lt hi (by decide) : nI i < nI 4)), ix_n hi (by decide), gd_t, tn_n (by omega), rf_codes hi, nI_s]
    rcases s4 i hi with ⟨q1, q2⟩ | ⟨k, w, ls, hK, hC, hM⟩
    · exact ⟨_, by rw [cDigCode_m q1, bd_s], by rw [mDigCode_m hi q2, bd_s]⟩
    · exact ⟨_, by rw [cDigCode (sh_cod hi) hK hC, bd_s], by rw [mDigCode hi hK hM, bd_s]⟩) (fun l => by
    (try dsimp only)
    unfold f_X6_digest_B60
    rw [if_neg (by decide)]) (fun l => by
    (try dsimp only)
    unfold f_X7_digest_B50
    rw [if_neg (by decide)]) l2
  obtain ⟨l4, a4, b4⟩ := fold2 (h := h) (N := 6) (cs := fun s : Int64 × Int32 => f_X6_digest_B88 h s.1 s.2) (ms := fun s : Int32 × MH => f_X7_digest_B68 s.2 s.1) (fun i l hi => by
    unfold f_X6_digest_B88
    (try dsimp only)
    rw [if_pos (show nI i < 6 from (nI_lt hi (by decide) : nI i < nI 6)), ix_n hi (by decide), gd_t, tn_n (by omega), rf_rows hi, nI_s]
    rcases s1 i hi with ⟨q1, q2⟩ | ⟨n, f, hn, hC, hM⟩
    · exact ⟨_, by rw [cDigRow_m q1, bd_s], mDigRow_m hi q2⟩
    · exact ⟨_, by rw [cDigRow (sh_row hi) hC (by omega), bd_s], mDigRow hi hM hn⟩) (fun l => by
    (try dsimp only)
    unfold f_X6_digest_B88
    rw [if_neg (by decide)]) (fun l => by
    (try dsimp only)
    unfold f_X7_digest_B68
    rw [if_neg (by decide)]) l3
  obtain ⟨l5, a5, b5⟩ := fold2 (h := h) (N := 4) (cs := fun s : Int64 × Int32 => f_X6_digest_B116 h s.1 s.2) (ms := fun s : Int32 × MH => f_X7_digest_B133 s.2 s.1) (fun i l hi => by
    unfold f_X6_digest_B116
    (try dsimp only)
    rw [if_pos (show nI i < 4 from (nI_lt hi (by decide) : nI i < nI 4)), ix_n hi (by decide), gd_t, tn_n (by omega), rf_texts hi, nI_s]
    rcases s2 i hi with ⟨q1, q2⟩ | ⟨n, f, hn, hC, hM⟩
    · exact ⟨_, by rw [cDigRow_m q1, bd_s], mDigText_m hi q2⟩
    · exact ⟨_, by rw [cDigRow (sh_text hi) hC hn, bd_s], mDigText hi hM hn⟩) (fun l => by
    (try dsimp only)
    unfold f_X6_digest_B116
    rw [if_neg (by decide)]) (fun l => by
    (try dsimp only)
    unfold f_X7_digest_B133
    rw [if_neg (by decide)]) l4
  refine ⟨l5, hsL h l5, ?_, ?_, sim_hs S⟩
  · unfold f_X6_digest f_X6_digest_L6 f_X6_digest_L32 f_X6_digest_L60 f_X6_digest_L88 f_X6_digest_L116
    rw [a1, bd_s, a2, bd_s, a3, bd_s, a4, bd_s, a5, bd_s]
  · unfold f_X7_digest f_X7_digest_L9 f_X7_digest_L31 f_X7_digest_L50 f_X7_digest_L68 f_X7_digest_L133
    rw [nm_v, show uL h 64 31 17 = hsL h 17 from rfl, b1, bd_s, b2, bd_s, b3, bd_s, b4, bd_s, b5, bd_s, show (hsL h l5).2.1 64 31 = l5 from uL_at]
