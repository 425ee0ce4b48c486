/-- one row anew, and rooms that no call shows -/
theorem sim_rowS {h h2 : MH} {j : Nat} (hj : j < 6) (S : Sim h) (F : ∀ a, a ≠ 18 + 2 * j → a ≠ 19 + 2 * j → ((17 ≤ a ∧ a ≤ 63) ∨ a = 65 ∨ (69 ≤ a ∧ a ≤ 76) ∨ (78 ≤ a ∧ a ≤ 80)) → h2.1 a = h.1 a) (e0 : h2.1 0 9 = h2.1 64 2) (e00 : h2.1 0 10 = h2.1 64 0) (e2 : SF h2) (e4 : SW h2) (e66 : ∀ r, r < 6 → r ≠ j → h2.1 66 r = h.1 66 r) (e67 : ∀ q, q < 40 * j ∨ 40 * j + 40 ≤ q → h2.1 67 q = h.1 67 q) (new : rowS h2 (18 + 2 * j) 66 67 40 j) : Sim h2 := by
  obtain ⟨s1, s2, s3, s4, s5, s6, s7, s8⟩ := S
  refine ⟨SR_upd (j := j) (fun a q1 q2 q3 q4 => F a q3 q4 (by omega)) e66 e67 new s1, STx_of (fun a ha => F a (by omega) (by omega) (by omega)) s2, SC_of (fun a ha => F a (by omega) (by omega) (by omega)) s3, SK_of (fun a ha => F a (by omega) (by omega) (by omega)) s4, e0, e2, ⟨e00, fun f h1 h5 => ?_⟩, e4⟩
  rw [F 17 (by omega) (by omega) (by omega), F 65 (by omega) (by omega) (by omega)]
  exact s7.2 f h1 h5
theorem wr_wr {f g g2 : Nat → Int32} {b n : Nat} : wr (wr f b g n) b g2 n = wr f b g2 n := by
  funext q
  unfold wr
  by_cases h1 : b ≤ q ∧ q < b + n
  · rw [if_pos h1, if_pos h1]
  · rw [if_neg h1, if_neg h1, if_neg h1]
theorem wr_eq {f g g2 : Nat → Int32} {b n : Nat} (e : ∀ i, i < n → g i = g2 i) : wr f b g n = wr f b g2 n := by
  funext q
  unfold wr
  by_cases h1 : b ≤ q ∧ q < b + n
  · rw [if_pos h1, if_pos h1, e _ (by omega)]
  · rw [if_neg h1, if_neg h1]
theorem cGetRaw {h : MH} {a n i : Nat} (ha : shp a = (5, 0)) (e : h.1 a 1 = nI n) (hn : n ≤ 60) (hi : i < n) : f_X5_get h a (nI i) = some (h.1 (a + 1) i) := cGet (f := h.1 (a + 1)) ha ⟨e, fun _ _ => rfl⟩ hn hi
section PARTS
variable {h : MH} {a j N T V : Nat} {key : Int32}
theorem cPartsI {A B : Nat → Nat} {b p : Nat} {x2 x7 : Int32} (ha : shp a = (5, 0)) (e : h.1 a 1 = nI N) (hN : N ≤ 10) (hp : p ≤ 10) (hb : b ≤ 250) (hA : ∀ i, i < N → h.1 (a + 1) i = nI (A i) ∧ A i ≤ 250 ∧ B i = (A i + b * ((i + 1) ^ p % 251)) % 251) : f_X6_parts_L95 h x2 (nI N) a x7 (nI p) (nI b) 0 = some (uA h (a + 1) (wr (h.1 (a + 1)) 0 (fun i => nI (B i)) N)) := by
  unfold f_X6_parts_L95
  rw [show ((0 : Int32), h) = (nI 0, uA h (a + 1) (wr (h.1 (a + 1)) 0 (fun i => nI (B i)) 0)) by rw [wr_0]; rfl]
  refine lpo_for (fun i => (nI i, uA h (a + 1) (wr (h.1 (a + 1)) 0 (fun i => nI (B i)) i))) N (fun i hi => ?_) ?_
  · (try dsimp only)
    obtain ⟨q1, q2, q3⟩ := hA i hi
    have l := Nat.mod_lt ((i + 1) ^ p) (show 251 > 0 by decide)
    have l2 : b * ((i + 1) ^ p % 251) ≤ 250 * 250 := Nat.mul_le_mul hb (by omega)
    have e2 : (uA h (a + 1) (wr (h.1 (a + 1)) 0 (fun i => nI (B i)) i)).1 a 1 = nI N := by rw [uA_ne (by omega)]; exact e
    unfold f_X6_parts_B95
    rw [if_pos (nI_lt hi (by omega)), cGetRaw ha e2 (by omega) hi, bd_s, nI_s, cPow (by omega) (by omega), bd_s, uA_at, wr_out (by omega), q1, pk_mul, nI_add, N_remK (by omega) (by decide) (by decide), cSet ha e2 (by omega) hi, bd_s, ← q3, wr_0s rfl]
  · (try dsimp only)
    unfold f_X6_parts_B95
    rw [if_neg (nI_nlt (Nat.le_refl _) (by omega))]
theorem cPartsL (ha : shp a = (5, 0)) (e : h.1 a 1 = nI N) (hN : N ≤ 10) (hV : V < 251) (hT1 : 1 ≤ T) (hT : T ≤ 5) : f_X6_parts_L68 (uA h (a + 1) (wr (h.1 (a + 1)) 0 (fun _ => nI V) N)) (nI T) (nI N) a key 1 = some (uA h (a + 1) (wr (h.1 (a + 1)) 0 (fun i => nI (cPt V key (T - 1) i)) N)) := by
  unfold f_X6_parts_L68
  have e0 : (key, (1 : Int32), uA h (a + 1) (wr (h.1 (a + 1)) 0 (fun _ => nI V) N)) = (keyN key 0, nI (0 + 1), uA h (a + 1) (wr (h.1 (a + 1)) 0 (fun i => nI (cPt V key 0 i)) N)) := by
    rw [wr_eq (g := fun i => nI (cPt V key 0 i)) (g2 := fun _ => nI V) (fun i _ => by rw [cPt_0 hV])]
    rfl
  rw [e0]
  refine lpo_for (fun t => (keyN key t, nI (t + 1), uA h (a + 1) (wr (h.1 (a + 1)) 0 (fun i => nI (cPt V key t i)) N))) (T - 1) (fun t ht => ?_) ?_
  · (try dsimp only)
    have l := keyB_lt (keyN key (t + 1))
    have l2 := Nat.mod_lt (keyB (keyN key (t + 1))) (show 251 > 0 by decide)
    have I := cPartsI (h := uA h (a + 1) (wr (h.1 (a + 1)) 0 (fun i => nI (cPt V key t i)) N)) (A := cPt V key t) (B := cPt V key (t + 1)) (b := keyB (keyN key (t + 1)) % 251) (p := t + 1) (x2 := nI T) (x7 := keyN key (t + 1)) ha (by rw [uA_ne (by omega)]; exact e) hN (by omega) (by omega) (fun i hi => ⟨by rw [uA_at, wr_0in hi], Nat.le_of_lt_succ cPt_lt, cPt_s.symm⟩)
    rw [uA_at, wr_wr, uA_uA] at I
    unfold f_X6_parts_B68
    rw [if_pos (nI_lt (by omega) (by omega)), cNext, bd_s, show nxtK (keyN key t) = keyN key (t + 1) from rfl, cBits, bd_s, nm_v, N_remK (by omega) (by decide) (by decide), I, bd_s, nI_s]
  · (try dsimp only)
    unfold f_X6_parts_B68
    rw [if_neg (nI_nlt (by omega) (by omega))]
theorem mParts1 {x3 x5 : Int32} (hT1 : 1 ≤ T) (hT : T ≤ 5) : f_X7_parts_L56 (uI (uI h 64 16 key) 68 0 (nI V)) (nI T) x3 x5 1 = some (uA (uI h 64 16 (keyN key (T - 1))) 68 (wr (h.1 68) 0 (fun q => nI (curC V key q)) T)) := by
  have cm : ∀ (g : MH) (f : Nat → Int32) (x y : Int32), uI (uA (uI g 64 16 x) 68 f) 64 16 y = uA (uI g 64 16 y) 68 f := fun g f x y => by
    unfold uA uI
    congr 1
    funext b j
    by_cases q : b = 68
    · simp [q]
    · by_cases z : b = 64 ∧ j = 16 <;> simp [q, z]
  unfold f_X7_parts_L56
  have e0 : ((1 : Int32), uI (uI h 64 16 key) 68 0 (nI V)) = (nI (0 + 1), uA (uI h 64 16 (keyN key 0)) 68 (wr (h.1 68) 0 (fun q => nI (curC V key q)) (0 + 1))) := by
    have z := wr_0 (h := uI h 64 16 key) (a := 68) (b := 0) (g := fun q => nI (curC V key q))
    have y := wr_0s (h := uI h 64 16 key) (a := 68) (i := 0) (f := (uI h 64 16 key).1 68) (g := fun q => nI (curC V key q)) (v := nI V) (by rw [curC_0])
    rw [z, uI_ne (by decide)] at y
    rw [y]
    rfl
  have key2 := lpo_for (step := fun s : Int32 × MH => f_X7_parts_B56 s.2 (nI T) x3 x5 s.1) (b := uA (uI h 64 16 (keyN key (T - 1))) 68 (wr (h.1 68) 0 (fun q => nI (curC V key q)) (T - 1 + 1))) (fun t => (nI (t + 1), uA (uI h 64 16 (keyN key t)) 68 (wr (h.1 68) 0 (fun q => nI (curC V key q)) (t + 1)))) (T - 1) (fun t ht => ?_) ?_
  · rw [e0, key2, show T - 1 + 1 = T by omega]
  · (try dsimp only)
    unfold f_X7_parts_B56
    rw [if_pos (nI_lt (by omega) (by omega)), show (251 : Int32) = nI 251 from rfl, mDraw (by decide) (by decide), bnd2_s, uA_ne (by decide), uI_at, show nxtK (keyN key t) = keyN key (t + 1) from rfl, cm, ix_n (by omega) (by decide), gd_t, nm_v, tn_n (by omega), nI_s, wr_0s (by rw [curC_s])]
  · (try dsimp only)
    unfold f_X7_parts_B56
    rw [if_neg (nI_nlt (by omega) (by omega))]
theorem mPartsI {x2 x3 x5 : Int32} {x : Nat} (hV : V < 251) (hT : T ≤ 5) (hx : x ≤ 10) (hm : ∀ q, q < T → h.1 68 q = nI (curC V key q)) : f_X7_parts_L107 h x2 x3 x5 (nI x) 0 (nI T + (-1)) = some (nI (hPt V key T x T)) := by
  unfold f_X7_parts_L107
  rw [show ((0 : Int32), nI T + (-1)) = (nI (hPt V key T x 0), nI (T - 0) + (-1)) from rfl]
  refine lpo_for (fun s => (nI (hPt V key T x s), nI (T - s) + (-1))) T (fun s hs => ?_) ?_
  · (try dsimp only)
    have l := hPt_lt (V := V) (key := key) (T := T) (x := x) (s := s)
    have l3 := curC_lt (key := key) (k := T - 1 - s) hV
    have l2 : hPt V key T x s * x ≤ 250 * 10 := Nat.mul_le_mul (by omega) hx
    unfold f_X7_parts_B107
    rw [nI_dn (by omega), if_neg (nlt0 (by omega)), ix_n (by omega) (by decide), gd_t, nm_v, tn_n (by omega), hm _ (by omega), show T - s - 1 = T - 1 - s by omega, pk_mul, nI_add, N_remK (by omega) (by decide) (by decide), hPt_s hs, show T - (s + 1) = T - 1 - s by omega]
  · (try dsimp only)
    unfold f_X7_parts_B107
    rw [show T - T = 0 by omega, if_pos (by decide)]
theorem mPartsL (hj : j < 6) (hV : V < 251) (hT1 : 1 ≤ T) (hT : T ≤ 5) (hN : N ≤ 10) (hm : ∀ q, q < T → h.1 68 q = nI (curC V key q)) : f_X7_parts_L93 h (nI T) (nI N) (nI j) 1 = some (uA h 67 (wr (h.1 67) (40 * j) (fun i => nI (cPt V key (T - 1) i)) N)) := by
  unfold f_X7_parts_L93
  rw [show ((1 : Int32), h) = (nI (0 + 1), uA h 67 (wr (h.1 67) (40 * j) (fun i => nI (cPt V key (T - 1) i)) 0)) by rw [wr_0]; rfl]
  refine lpo_for (fun t => (nI (t + 1), uA h 67 (wr (h.1 67) (40 * j) (fun i => nI (cPt V key (T - 1) i)) t))) N (fun t ht => ?_) ?_
  · (try dsimp only)
    have I := mPartsI (h := uA h 67 (wr (h.1 67) (40 * j) (fun i => nI (cPt V key (T - 1) i)) t)) (x2 := nI T) (x3 := nI N) (x5 := nI j) (x := t + 1) (key := key) hV hT (by omega) (fun q hq => by rw [uA_ne (by decide)]; exact hm q hq)
    unfold f_X7_parts_B93
    rw [if_neg (nI_nlt (by omega) (by omega)), nm_v, show nI T - 1 = nI T + (-1) from Int32.sub_eq_add_neg _ _, I, bd_s, lin40, show nI (40 * j + (t + 1)) - 1 = nI (40 * j + t) from nIsub (b := 1) (by omega), ix_n (by omega) (by decide), gd_t, nm_v, tn_n (by omega), hPt_T hT1, wr_s rfl, nI_s]
  · (try dsimp only)
    unfold f_X7_parts_B93
    rw [if_pos (nI_lt (by omega) (by omega))]
end PARTS
theorem op_parts {h : MH} (S : Sim h) (v t n key r : Int32) : Op (f_X6_parts h v t n key r) (fun h1 => f_X7_parts h1 v t n key r) := by
  have hvE : btw v 0 250 = inR v 251 := btw_inR rfl (by decide)
  cases hv : inR v 251 with
  | false =>
    refine op_same S (v := -1) ?_ ?_
    · unfold f_X6_parts
      rw [inR_if (n := 251) (N := 251) rfl, hv, if_neg (by decide)]
    · show f_X7_parts h _ _ _ _ _ = _
      unfold f_X7_parts
      rw [mIn, bd_s, hvE, hv, if_neg (by decide)]
  | true =>
  cases ht : btw t 1 5 with
  | false =>
    refine op_same S (v := -1) ?_ ?_
    · unfold f_X6_parts
      rw [inR_if (n := 251) (N := 251) rfl, hv, if_pos rfl, btw_if, ht, if_neg (by decide)]
    · show f_X7_parts h _ _ _ _ _ = _
      unfold f_X7_parts
      rw [mIn, bd_s, hvE, hv, if_pos rfl, mIn, bd_s, ht, if_neg (by decide)]
  | true =>
  cases hn : btw n t 10 with
  | false =>
    refine op_same S (v := -1) ?_ ?_
    · unfold f_X6_parts
      rw [inR_if (n := 251) (N := 251) rfl, hv, if_pos rfl, btw_if, ht, if_pos rfl, btw_if, hn, if_neg (by decide)]
    · show f_X7_parts h _ _ _ _ _ = _
      unfold f_X7_parts
      rw [mIn, bd_s, hvE, hv, if_pos rfl, mIn, bd_s, ht, if_pos rfl, mIn, bd_s, hn, if_neg (by decide)]
  | true =>
  cases hr : inR r 6 with
  | false =>
    refine op_same S (v := -1) ?_ ?_
    · unfold f_X6_parts
      rw [inR_if (n := 251) (N := 251) rfl, hv, if_pos rfl, btw_if, ht, if_pos rfl, btw_if, hn, if_pos rfl, cIsRow, bd_s, hr, if_neg (by decide)]
    · show f_X7_parts h _ _ _ _ _ = _
      unfold f_X7_parts
      rw [mIn, bd_s, hvE, hv, if_pos rfl, mIn, bd_s, ht, if_pos rfl, mIn, bd_s, hn, if_pos rfl, mIsRow, bd_s, hr, if_neg (by decide)]
  | true =>
  obtain ⟨V, hV, rfl⟩ := inR_t (by decide) hv
  obtain ⟨T, hT1, hT, rfl⟩ := btw_N (a := 1) (b := 5) (by decide) (by decide) ht
  obtain ⟨N, hN1, hN, rfl⟩ := btw_N (a := T) (b := 10) (by decide) (by omega) hn
  obtain ⟨j, hj, rfl⟩ := inR_t (by decide) hr
  have cR := cRenew (h := h) (a := 18 + 2 * j) (n := N) (v := nI V) (sh_row hj) (by omega)
  have cL := cPartsL (h := uI h (18 + 2 * j) 1 (nI N)) (a := 18 + 2 * j) (N := N) (V := V) (T := T) (key := key) (sh_row hj) uI_at hN hV hT1 hT
  rw [uI_ne (by omega)] at cL
  generalize hg : uA (uI h (18 + 2 * j) 1 (nI N)) (18 + 2 * j + 1) (wr (h.1 (18 + 2 * j + 1)) 0 (fun i => nI (cPt V key (T - 1) i)) N) = g at cL
  have F : ∀ a, a ≠ 18 + 2 * j → a ≠ 19 + 2 * j → g.1 a = h.1 a := fun a q1 q2 => by rw [← hg, uA_ne (by omega), uI_ne q1]
  have g2 : g.2 = h.2 := by rw [← hg, uA_2, uI_2]
  generalize hk : uA (uI g 64 16 (keyN key (T - 1))) 68 (wr (g.1 68) 0 (fun q => nI (curC V key q)) T) = k
  have kF : ∀ a, a ≠ 64 → a ≠ 68 → k.1 a = g.1 a := fun a q1 q2 => by rw [← hk, uA_ne q2, uI_ne q1]
  have k64 : ∀ q, q ≠ 16 → k.1 64 q = g.1 64 q := fun q hq => by rw [← hk, uA_ne (by decide), uI_k hq]
  have k68 : ∀ q, q < T → k.1 68 q = nI (curC V key q) := fun q hq => by rw [← hk, uA_at, wr_0in hq]
  have k2 : k.2 = h.2 := by rw [← hk, uA_2, uI_2, g2]
  generalize hm : uA (uI k 66 j (nI N)) 67 (wr (k.1 67) (40 * j) (fun _ => 0) 40) = m
  have mF : ∀ a, a ≠ 66 → a ≠ 67 → m.1 a = k.1 a := fun a q1 q2 => by rw [← hm, uA_ne q2, uI_ne q1]
  have m2 : m.2 = h.2 := by rw [← hm, uA_2, uI_2, k2]
  refine ⟨nI N, g, uA m 67 (wr (m.1 67) (40 * j) (fun i => nI (cPt V key (T - 1) i)) N), ?_, ?_, ?_⟩
  · unfold f_X6_parts
    rw [inR_if (n := 251) (N := 251) rfl, hv, if_pos rfl, btw_if, ht, if_pos rfl, btw_if, hn, if_pos rfl, cIsRow, bd_s, hr, if_pos rfl, ix_n hj (by decide), gd_t, tn_n (by omega), rf_rows hj, cR, bd_s, cL, bd_s]
  · show f_X7_parts g _ _ _ _ _ = _
    unfold f_X7_parts
    rw [mIn, bd_s, hvE, hv, if_pos rfl, mIn, bd_s, ht, if_pos rfl, mIn, bd_s, hn, if_pos rfl, mIsRow, bd_s, hr, if_pos rfl, nm_v, show ix 0 40 = true by decide, gd_t, nm_v, tn_0, mParts1 hT1 hT, bd_s, hk, mRow hj (by omega), bnd2_s, hm, mPartsL (key := key) hj hV hT1 hT hN (fun q hq => by rw [mF 68 (by decide) (by decide)]; exact k68 q hq), bd_s]
  · refine sim_rowS hj S (fun a q1 q2 q3 => ?_) ?_ ?_ ?_ ?_ (fun r h1 h2 => ?_) (fun q hq => ?_) (Or.inr ⟨N, fun i => nI (cPt V key (T - 1) i), (by omega), ⟨?_, fun i hi => ?_⟩, ?_, fun i hi => ?_⟩)
    · rw [uA_ne (by omega), mF a (by omega) (by omega), kF a (by omega) (by omega), F a q1 q2]
    · rw [uA_ne (by decide), uA_ne (by decide), mF 0 (by decide) (by decide), mF 64 (by decide) (by decide), kF 0 (by decide) (by decide), k64 2 (by decide), F 0 (by omega) (by omega), F 64 (by omega) (by omega)]
      exact S.2.2.2.2.1
    · rw [uA_ne (by decide), uA_ne (by decide), mF 0 (by decide) (by decide), mF 64 (by decide) (by decide), kF 0 (by decide) (by decide), k64 0 (by decide), F 0 (by omega) (by omega), F 64 (by omega) (by omega)]
      exact S.2.2.2.2.2.2.1.1
    · unfold SF
      rw [uA_2, m2]
      exact S.2.2.2.2.2.1
    · unfold SW
      rw [uA_2, m2]
      exact S.2.2.2.2.2.2.2
    · rw [uA_ne (by decide), ← hm, uA_ne (by decide), uI_k h2, kF 66 (by decide) (by decide), F 66 (by omega) (by omega)]
    · rw [uA_at, wr_out (by omega), ← hm, uA_at, wr_out (by omega), kF 67 (by decide) (by decide), F 67 (by omega) (by omega)]
    · rw [uA_ne (by omega), mF _ (by omega) (by omega), kF _ (by omega) (by omega), ← hg, uA_ne (by omega), uI_at]
    · rw [uA_ne (by omega), mF _ (by omega) (by omega), kF _ (by omega) (by omega), ← hg, uA_at, wr_0in hi]
    · rw [uA_ne (by decide), ← hm, uA_ne (by decide), uI_at]
    · rw [uA_at, wr_in hi]
