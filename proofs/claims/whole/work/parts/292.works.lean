section WORKS
variable {h : MH} {c d r kd n k w u wt b m t : Nat} {ds cs ls O : Nat → Nat} {B : Nat → Bool}
theorem mHides {G : Nat → Bool} {X Y : Nat} (hc : c < 6) (hd : d < 4) (hKc : covK kd n ds cs u wt) (hM : covM h c kd n ds cs u wt) (hK : codK k w ls) (hD : codM h d k w ls) (hO : ∀ q, q < n → h.1 77 q = nI (O q) ∧ O q < n) (hb : b * w + w ≤ n) (ht : t < 64) (hG : ∀ i, i < w → G (b * w + i) = ((dpB kd n ds cs u wt O ls k w b).2 t).testBit i) (h25 : h.1 64 25 = nI X) (h26 : h.1 64 26 = nI Y) (h82 : ∀ x, x < 40 → h.1 82 x = nI (if flT O G (b * w) x = true then 1 else 0)) : ∃ ok g, f_X7_hides h (nI c) (nI d) (nI b) (nI t) = some (ok, g) ∧ hdF h g ∧ (((dpB kd n ds cs u wt O ls k w b).1 t = 1000000 ∧ ok = false) ∨ ((dpB kd n ds cs u wt O ls k w b).1 t ≠ 1000000 ∧ ok = true ∧ g.1 64 25 = nI (X + csT (fun _ => 1) ((dpB kd n ds cs u wt O ls k w b).2 t) w) ∧ g.1 64 26 = nI (Y + (dpB kd n ds cs u wt O ls k w b).1 t) ∧ ∀ x, x < 40 → g.1 82 x = nI (if flT O G (b * w + w) x = true then 1 else 0))) := by
  have w12 := hK.1.2.2.2
  have w1 := hK.1.2.2.1
  have hn := hKc.1.2.1
  have p12 := pw12 w12
  have pl : ∀ q, q < w → prB kd n ds cs u O w b q ≤ 1000 := fun q hq => (price_N hKc (hO (b * w + q) (by omega)).2).2
  have e1 := mHideIn (d := d) (x4 := nI t) hc hKc hM w12 hO hb
  have ok := dp_ok hKc hK (fun q hq => (hO q hq).2) hb t
  have mk4 : mkB kd cs wt O w b < 4096 := Nat.lt_of_lt_of_le (bnN_lt w) p12
  generalize hg1 : uA h 68 (wr (h.1 68) 0 (fun i => nI (prB kd n ds cs u O w b i)) w) = g1 at e1
  have F1 : ∀ a, a ≠ 68 → g1.1 a = h.1 a := fun a ha => by rw [← hg1, uA_ne ha]
  have P1 : g1.2 = h.2 := by rw [← hg1]; rfl
  have pr1 : ∀ i, i < w → g1.1 68 i = nI (prB kd n ds cs u O w b i) := fun i hi => by rw [← hg1, uA_at, wr_0in hi]
  have H1 : hdF h g1 := ⟨P1, fun a q1 q2 q3 => F1 a q2, fun j q1 q2 => by rw [F1 64 (by decide)]⟩
  have gD : codM g1 d k w ls := codM_of (fun x q1 q2 => F1 x (by omega)) hD
  have e2 := mHideBest (x3 := nI b) (M := mkB kd cs wt O w b) hd hK gD mk4 ht pl pr1
  have br := dp_br (V := fun s => decide (s &&& mkB kd cs wt O w b = 0) && decide (smN ls k s = t)) (K := fun s => csT (prB kd n ds cs u O w b) s w) ok (fun s hs => by
    rw [Bool.and_eq_true, decide_eq_true_iff, decide_eq_true_iff, mk_ok hs, sm_sy w12 hK.2]
    exact ⟨fun z => ⟨⟨hs, z.1⟩, z.2⟩, fun z => ⟨z.1.2, z.2⟩⟩) (fun s hs => rfl)
  rw [br] at e2
  have cl : (dpB kd n ds cs u wt O ls k w b).1 t ≤ 1000000 := dp_le
  have pre : ∀ {x7 x8 : Int32} {g : MH}, f_X7_hides_L94 g1 (nI d) (nI b) (nI t) (nI w) (nI (mkB kd cs wt O w b)) (-9) 0 0 = some (x7, x8) → f_X7_hides_L197 g1 (nI b) (nI w) x7 x8 0 = some g → f_X7_hides h (nI c) (nI d) (nI b) (nI t) = f_X7_hides_J263 g x7 x8 := fun {x7 x8 g} q1 q2 => by
    unfold f_X7_hides
    rw [ix_n hd (by decide), gd_t, nm_v, tn_n (j := d) (by omega), hD.2.1, e1, bd_s]
    (try dsimp only)
    rw [q1, bd_s]
    (try dsimp only)
    rw [q2, bd_s]
  by_cases z : (dpB kd n ds cs u wt O ls k w b).1 t = 1000000
  · rw [if_pos z] at e2
    have e3 : f_X7_hides_L197 g1 (nI b) (nI w) (bstV none) (lstV none) 0 = some g1 := by
      unfold f_X7_hides_L197
      refine lpo_out ?_
      (try dsimp only)
      unfold f_X7_hides_B197
      rw [if_pos (show 0 < nI w from (nI_lt w1 (by omega) : nI 0 < nI w)), if_pos (show bstV none < 0 from (by decide))]
    refine ⟨false, uI g1 64 26 (g1.1 64 26 + lstV none), ?_, ⟨P1, fun a q1 q2 q3 => ?_, fun j q1 q2 => ?_⟩, Or.inl ⟨z, rfl⟩⟩
    · rw [pre e2 e3]
      unfold f_X7_hides_J263
      rw [nm_v, if_pos (show bstV none < 0 from (by decide))]
    · rw [uI_ne q1]
      exact F1 a q2
    · rw [uI_k q2, F1 64 (by decide)]
  · rw [if_neg z] at e2
    obtain ⟨⟨s1, s2⟩, s3, s4⟩ := ok.1 z
    obtain ⟨g, e3, F3, E26, E25, E82⟩ := mHideSet (h := g1) (x8 := lstV (some ((dpB kd n ds cs u wt O ls k w b).2 t, (dpB kd n ds cs u wt O ls k w b).1 t))) w12 hn (fun q hq => by rw [F1 77 (by decide)]; exact hO q hq) hb (show (dpB kd n ds cs u wt O ls k w b).2 t < 4096 by omega) hG (by rw [F1 64 (by decide)]; exact h25) (fun x hx => by rw [F1 82 (by decide)]; exact h82 x hx)
    refine ⟨true, uI g 64 26 (nI (Y + (dpB kd n ds cs u wt O ls k w b).1 t)), ?_, ⟨by rw [uI_2, F3.1, P1], fun a q1 q2 q3 => ?_, fun j q1 q2 => ?_⟩, Or.inr ⟨z, rfl, ?_, ?_, fun x hx => ?_⟩⟩
    · rw [pre e2 e3]
      unfold f_X7_hides_J263
      rw [nm_v, if_neg (show ¬ bstV (some ((dpB kd n ds cs u wt O ls k w b).2 t, (dpB kd n ds cs u wt O ls k w b).1 t)) < 0 from nlt0 (show (dpB kd n ds cs u wt O ls k w b).2 t ≤ 1000000 by omega)), E26, F1 64 (by decide), h26]
      have : nI Y + lstV (some ((dpB kd n ds cs u wt O ls k w b).2 t, (dpB kd n ds cs u wt O ls k w b).1 t)) = nI (Y + (dpB kd n ds cs u wt O ls k w b).1 t) := nI_add Y _
      rw [this]
    · rw [uI_ne q1, F3.2.1 a q1 q2 q3, F1 a q2]
    · rw [uI_k q2, F3.2.2 j q1 q2, F1 64 (by decide)]
    · rw [uI_k (by decide)]
      exact E25
    · exact uI_at
    · rw [uI_ne (by decide)]
      exact E82 x hx
theorem mWanted {x1 x3 : Int32} (hK : codK k w ls) (hr : r < 6) (hR : rowM h 66 67 40 r (m * k) (rowB B)) (hm : m * k ≤ 40) (hb : b < m) : f_X7_works_L242 h x1 x3 (nI r) (nI k) (nI b) 0 0 = some (nI (bnN (fun i => B (b * k + i)) k)) := by
  have k6 := hK.1.2.1
  have b2 : (b + 1) * k ≤ m * k := Nat.mul_le_mul_right k hb
  have e2 : (b + 1) * k = b * k + k := Nat.succ_mul b k
  unfold f_X7_works_L242
  refine lpo_for (fun i => (nI (bnN (fun i => B (b * k + i)) i), nI i)) k (fun i hi => ?_) ?_
  · (try dsimp only)
    unfold f_X7_works_B242
    rw [if_pos (nI_lt hi (by omega)), lin_bw, mRowAt hr (by omega), bd_s, hR.2 (b * k + i) (by omega), nm_v, nI_s]
    unfold rowB
    rw [bn_step (b := fun i => B (b * k + i)) (by omega)]
  · (try dsimp only)
    unfold f_X7_works_B242
    rw [if_neg (nI_nlt (Nat.le_refl _) (by omega))]
theorem mWorksL (hc : c < 6) (hd : d < 4) (hr : r < 6) (hKc : covK kd n ds cs u wt) (hM : covM h c kd n ds cs u wt) (hK : codK k w ls) (hD : codM h d k w ls) (hR : rowM h 66 67 40 r (m * k) (rowB B)) (hO : ∀ q, q < n → h.1 77 q = nI (O q) ∧ O q < n) (hm : m * k ≤ 40) (hw : m * w ≤ n) (h25 : h.1 64 25 = 0) (h26 : h.1 64 26 = 0) (h82 : ∀ x, x < 40 → h.1 82 x = 0) : (∃ g, f_X7_works_L221 h (nI c) (nI d) (nI r) (nI k) 0 = some (Sum.inr (-9, g)) ∧ hdF h g ∧ ∃ b, b < m ∧ cB kd n ds cs u wt O ls k w B b = 1000000) ∨ ∃ g, f_X7_works_L221 h (nI c) (nI d) (nI r) (nI k) 0 = some (Sum.inl g) ∧ hdF h g ∧ (∀ b, b < m → cB kd n ds cs u wt O ls k w B b ≠ 1000000) ∧ g.1 64 25 = nI (sumN (fun b => csT (fun _ => 1) (wB kd n ds cs u wt O ls k w B b) w) m) ∧ g.1 64 26 = nI (sumN (cB kd n ds cs u wt O ls k w B) m) ∧ ∀ x, x < 40 → g.1 82 x = nI (if flT O (gB (wB kd n ds cs u wt O ls k w B) w) (m * w) x = true then 1 else 0) := by
  have k1 := hK.1.1
  have k6 := hK.1.2.1
  have w12 := hK.1.2.2.2
  have p12 := pw12 w12
  have hn := hKc.1.2.1
  have m40 : m ≤ 40 := Nat.le_trans (Nat.le_mul_of_pos_right m k1) hm
  have key := lpo_indx (step := fun s : Int32 × MH => f_X7_works_B221 s.2 (nI c) (nI d) (nI r) (nI k) s.1) (fun b s => s.1 = nI b ∧ hdF h s.2 ∧ (∀ b', b' < b → cB kd n ds cs u wt O ls k w B b' ≠ 1000000) ∧ s.2.1 64 25 = nI (sumN (fun b => csT (fun _ => 1) (wB kd n ds cs u wt O ls k w B b) w) b) ∧ s.2.1 64 26 = nI (sumN (cB kd n ds cs u wt O ls k w B) b) ∧ ∀ x, x < 40 → s.2.1 82 x = nI (if flT O (gB (wB kd n ds cs u wt O ls k w B) w) (b * w) x = true then 1 else 0)) (fun x => (∃ g, x = Sum.inr (-9, g) ∧ hdF h g ∧ ∃ b, b < m ∧ cB kd n ds cs u wt O ls k w B b = 1000000) ∨ ∃ g, x = Sum.inl g ∧ hdF h g ∧ (∀ b, b < m → cB kd n ds cs u wt O ls k w B b ≠ 1000000) ∧ g.1 64 25 = nI (sumN (fun b => csT (fun _ => 1) (wB kd n ds cs u wt O ls k w B b) w) m) ∧ g.1 64 26 = nI (sumN (cB kd n ds cs u wt O ls k w B) m) ∧ ∀ x, x < 40 → g.1 82 x = nI (if flT O (gB (wB kd n ds cs u wt O ls k w B) w) (m * w) x = true then 1 else 0)) m 0 (0, h) ⟨rfl, ⟨rfl, fun _ _ _ _ => rfl, fun _ _ _ => rfl⟩, fun b hb => absurd hb (Nat.not_lt_zero b), h25, h26, fun x hx => by
    rw [Nat.zero_mul]
    exact h82 x hx⟩ (fun b s hb I => ?_) (fun s I => ?_)
  · obtain ⟨x, e, q⟩ := key
    have e : f_X7_works_L221 h (nI c) (nI d) (nI r) (nI k) 0 = some x := e
    rcases q with ⟨g, rfl, q⟩ | ⟨g, rfl, q⟩
    · exact Or.inl ⟨g, e, q⟩
    · exact Or.inr ⟨g, e, q⟩
  · obtain ⟨v, g⟩ := s
    obtain ⟨e, F, J, e25, e26, e82⟩ := I
    dsimp only at e F J e25 e26 e82
    subst e
    dsimp only
    have hb : b < m := (by omega)
    have b1 : (b + 1) * w ≤ m * w := Nat.mul_le_mul_right w hb
    have f1 : (b + 1) * w = b * w + w := Nat.succ_mul b w
    have t64 := tg64 (kd := kd) (ds := ds) (O := O) (B := B) (b := b) hK
    have gM : covM g c kd n ds cs u wt := covM_of (fun x q1 q2 => F.2.1 x (by omega) (by omega) (by omega)) hM
    have gD : codM g d k w ls := codM_of (fun x q1 q2 => F.2.1 x (by omega) (by omega) (by omega)) hD
    have gR : rowM g 66 67 40 r (m * k) (rowB B) := rowM_of (F.2.1 66 (by decide) (by decide) (by decide)) (F.2.1 67 (by decide) (by decide) (by decide)) hR
    have gO : ∀ q, q < n → g.1 77 q = nI (O q) ∧ O q < n := fun q hq => by rw [F.2.1 77 (by decide) (by decide) (by decide)]; exact hO q hq
    have bl : bsN kd ds O w b < 2 ^ w := bnN_lt w
    obtain ⟨ok, g2, e2, F2, R⟩ := mHides (t := tgB kd ds O ls k w B b) (G := gB (wB kd n ds cs u wt O ls k w B) w) hc hd hKc gM hK gD gO (show b * w + w ≤ n by omega) t64 (fun i hi => by
      have q1 := dvk (b := b) hi
      unfold gB
      rw [q1.1, q1.2]
      rfl) e25 e26 e82
    have te : bnN (fun i => B (b * k + i)) k ^^^ syX ls k (bsN kd ds O w b) w = tgB kd ds O ls k w B b := Nat.xor_comm _ _
    unfold f_X7_works_B221
    rw [ix_n hr (by decide), gd_t, N_nz k1 (by omega), gd_t, tn_n (j := r) (by omega), gR.1, pk_div (by omega) k1 (by omega), Nat.mul_div_cancel _ k1, if_pos (nI_lt hb (by omega)), mWanted hK hr gR hm hb, bd_s, mBlockSet hc hd hKc gM hK gD gO (by omega), bd_s, mSums hd hK gD (by omega), bd_s, sm_sy w12 hK.2, N_xor, te, e2, bnd2_s]
    rcases R with ⟨z, rfl⟩ | ⟨z, rfl, E25, E26, E82⟩
    · right
      exact ⟨Sum.inr (-9, g2), by rw [if_neg (by decide)], Or.inl ⟨g2, rfl, hdF_t F F2, b, hb, z⟩⟩
    · left
      refine ⟨(nI (b + 1), g2), by rw [if_pos rfl, nI_s], rfl, hdF_t F F2, fun b' hb' => ?_, E25, E26, fun x hx => ?_⟩
      · by_cases y : b' = b
        · rw [y]
          exact z
        · exact J b' (by omega)
      · rw [f1]
        exact E82 x hx
  · obtain ⟨v, g⟩ := s
    obtain ⟨e, F, J, e25, e26, e82⟩ := I
    dsimp only at e F J e25 e26 e82
    rw [Nat.zero_add] at e J e25 e26 e82
    subst e
    dsimp only
    have gR : rowM g 66 67 40 r (m * k) (rowB B) := rowM_of (F.2.1 66 (by decide) (by decide) (by decide)) (F.2.1 67 (by decide) (by decide) (by decide)) hR
    unfold f_X7_works_B221
    exact ⟨Sum.inl g, by rw [ix_n hr (by decide), gd_t, N_nz k1 (by omega), gd_t, tn_n (j := r) (by omega), gR.1, pk_div (by omega) k1 (by omega), Nat.mul_div_cancel _ k1, if_neg (nI_nlt (Nat.le_refl _) (by omega))], Or.inr ⟨g, rfl, F, J, e25, e26, e82⟩⟩
theorem mBits {f : Nat → Int32} {x1 x2 x3 x5 : Int32} (hr : r < 6) (hn : n ≤ 40) (hR : rowM h 66 67 40 r n f) : f_X7_works_L91 h x1 x2 x3 (nI r) x5 1 0 = some (b2i (allB (fun i => btw (f i) 0 1) n)) := by
  unfold f_X7_works_L91
  refine lpo_for (fun i => (b2i (allB (fun i => btw (f i) 0 1) i), nI i)) n (fun i hi => ?_) ?_
  · (try dsimp only)
    have st : allB (fun i => btw (f i) 0 1) (i + 1) = (allB (fun i => btw (f i) 0 1) i && btw (f i) 0 1) := rfl
    unfold f_X7_works_B91
    rw [ix_n hr (by decide), gd_t, tn_n (by omega), hR.1, if_pos (nI_lt hi (by omega)), mRowAt hr (by omega), bd_s, hR.2 i hi, mIn, bd_s, nI_s, st]
    cases allB (fun i => btw (f i) 0 1) i with
    | false =>
      rw [if_pos (show b2i false = 0 from rfl)]
      rfl
    | true =>
      rw [if_neg (show ¬ b2i true = 0 from (by decide))]
      cases btw (f i) 0 1 <;> rfl
  · (try dsimp only)
    unfold f_X7_works_B91
    rw [ix_n hr (by decide), gd_t, tn_n (by omega), hR.1, if_neg (nI_nlt (Nat.le_refl _) (by omega))]
theorem mClear {x1 x3 x4 x5 : Int32} : f_X7_works_L197 h x1 x3 x4 x5 0 = some (uA h 82 (wr (h.1 82) 0 (fun _ => 0) 40)) := by
  unfold f_X7_works_L197
  have key := lpo_for (step := fun s : Int32 × MH => f_X7_works_B197 s.2 x1 x3 x4 x5 s.1) (fun i => (nI i, uA h 82 (wr (h.1 82) 0 (fun _ => 0) i))) 40 (b := uA h 82 (wr (h.1 82) 0 (fun _ => 0) 40)) (fun i hi => ?_) ?_
  · rw [wr_0] at key
    exact key
  · dsimp only
    unfold f_X7_works_B197
    rw [if_pos (show nI i < 40 from (nI_lt hi (by decide) : nI i < nI 40)), ix_n hi (by decide), gd_t, nm_v, tn_n (by omega), wr_0s (g := fun _ => 0) rfl, nI_s]
  · dsimp only
    unfold f_X7_works_B197
    rw [if_neg (by decide)]
end WORKS
