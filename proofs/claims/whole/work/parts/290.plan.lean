def plF (h k : MH) : Prop := k.2 = h.2 ∧ ∀ a, a ≠ 9 → a ≠ 11 → a ≠ 12 → a ≠ 13 → k.1 a = h.1 a
section PLAN2
variable {h : MH} {c d r kd n k w u wt b m : Nat} {ds cs ls O : Nat → Nat} {B : Nat → Bool}
theorem dp_ok (hKc : covK kd n ds cs u wt) (hK : codK k w ls) (hO : ∀ q, q < n → O q < n) (hb : b * w + w ≤ n) (t : Nat) : dpOk ls k (avB kd cs wt O w b) (prB kd n ds cs u O w b) w t ((dpB kd n ds cs u wt O ls k w b).1 t) ((dpB kd n ds cs u wt O ls k w b).2 t) := dp_inv hK.1.2.2.2 (fun q hq => (price_N hKc (hO (b * w + q) (by omega))).2) t
theorem w_lt (hKc : covK kd n ds cs u wt) (hK : codK k w ls) (hO : ∀ q, q < n → O q < n) (hb : b * w + w ≤ n) (z : cB kd n ds cs u wt O ls k w B b ≠ 1000000) : wB kd n ds cs u wt O ls k w B b < 2 ^ w := ((dp_ok hKc hK hO hb _).1 z).1.1
theorem cPlanAll (hc : c < 6) (hd : d < 4) (hr : r < 6) (hKc : covK kd n ds cs u wt) (hC : covC h (38 + 3 * c) kd n ds cs u wt) (hK : codK k w ls) (hD : codC h (56 + 2 * d) k w ls) (hR : rowC h (18 + 2 * r) (m * k) (rowB B)) (hO : ∀ q, q < n → h.1 10 q = nI (O q) ∧ O q < n) (hm : m * k ≤ 40) (hw : m * w ≤ n) : ∃ v g, f_X3_planAll h (38 + 3 * c) (56 + 2 * d) (18 + 2 * r) = some (v, g) ∧ plF h g ∧ ((v = -9 ∧ ∃ b, b < m ∧ cB kd n ds cs u wt O ls k w B b = 1000000) ∨ (v = nI (sumN (cB kd n ds cs u wt O ls k w B) m) ∧ (∀ b, b < m → cB kd n ds cs u wt O ls k w B b ≠ 1000000) ∧ g.1 9 4 = nI m ∧ ∀ b, b < m → g.1 13 b = nI (wB kd n ds cs u wt O ls k w B b))) := by
  have k1 := hK.1.1
  have k6 := hK.1.2.1
  have hn := hKc.1.2.1
  have m40 : m ≤ 40 := Nat.le_trans (Nat.le_mul_of_pos_right m k1) hm
  have F0 : ∀ a, a ≠ 9 → (uI h 9 4 (nI m)).1 a = h.1 a := fun a ha => uI_ne ha
  have key := lpo_indx (step := fun s : Int32 × Int32 × MH => f_X3_planAll_B39 s.2.2 (38 + 3 * c) (56 + 2 * d) (18 + 2 * r) s.1 s.2.1) (fun b s => s.1 = nI (sumN (cB kd n ds cs u wt O ls k w B) b) ∧ s.2.1 = nI b ∧ plF h s.2.2 ∧ s.2.2.1 9 4 = nI m ∧ ∀ b', b' < b → cB kd n ds cs u wt O ls k w B b' ≠ 1000000 ∧ s.2.2.1 13 b' = nI (wB kd n ds cs u wt O ls k w B b')) (fun x => (∃ g, x = Sum.inr (-9, g) ∧ plF h g ∧ ∃ b, b < m ∧ cB kd n ds cs u wt O ls k w B b = 1000000) ∨ ∃ g, x = Sum.inl (nI (sumN (cB kd n ds cs u wt O ls k w B) m), g) ∧ plF h g ∧ (∀ b, b < m → cB kd n ds cs u wt O ls k w B b ≠ 1000000) ∧ g.1 9 4 = nI m ∧ ∀ b, b < m → g.1 13 b = nI (wB kd n ds cs u wt O ls k w B b)) m 0 (0, 0, uI h 9 4 (nI m)) ⟨rfl, rfl, ⟨rfl, fun a q1 _ _ _ => F0 a q1⟩, uI_at, fun b hb => absurd hb (Nat.not_lt_zero b)⟩ (fun b s hb I => ?_) (fun s I => ?_)
  · obtain ⟨x, e, q⟩ := key
    have hz : ¬ nI k < 1 := (nI_nlt (show 1 ≤ k from k1) (by omega) : ¬ nI k < nI 1)
    have pre : f_X3_planAll h (38 + 3 * c) (56 + 2 * d) (18 + 2 * r) = Option.bind (some x) (Sum.elim (fun b39 => some (b39.1, b39.2)) (fun r => some r)) := by
      unfold f_X3_planAll f_X3_planAll_J30 f_X3_planAll_L39
      rw [hD.1, if_neg hz, N_nz k1 (by omega), gd_t, hR.1, pk_div (by omega) k1 (by omega), Nat.mul_div_cancel _ k1, min40 m40, bd_s, nm_v, e]
    rcases q with ⟨g, rfl, P, bb⟩ | ⟨g, rfl, P, q1, q2, q3⟩
    · exact ⟨-9, g, by rw [pre, bd_s]; rfl, P, Or.inl ⟨rfl, bb⟩⟩
    · exact ⟨nI (sumN (cB kd n ds cs u wt O ls k w B) m), g, by rw [pre, bd_s]; rfl, P, Or.inr ⟨rfl, q1, q2, q3⟩⟩
  · obtain ⟨x4, x5, g⟩ := s
    obtain ⟨e1, e2, P, e94, J⟩ := I
    dsimp only at e1 e2 P e94 J
    subst e1 e2
    dsimp only
    have hb : b < m := (by omega)
    have b1 : (b + 1) * w ≤ m * w := Nat.mul_le_mul_right w hb
    have f1 : (b + 1) * w = b * w + w := Nat.succ_mul b w
    have t64 := tg64 (kd := kd) (ds := ds) (O := O) (B := B) (b := b) hK
    have gC : covC g (38 + 3 * c) kd n ds cs u wt := covC_of (fun x q1 q2 => P.2 x (by omega) (by omega) (by omega) (by omega)) hC
    have gD : codC g (56 + 2 * d) k w ls := codC_of (fun x q1 q2 => P.2 x (by omega) (by omega) (by omega) (by omega)) hD
    have gR : rowC g (18 + 2 * r) (m * k) (rowB B) := ⟨by rw [P.2 _ (by omega) (by omega) (by omega) (by omega)]; exact hR.1, fun i hi => by rw [P.2 _ (by omega) (by omega) (by omega) (by omega)]; exact hR.2 i hi⟩
    have gO : ∀ q, q < n → g.1 10 q = nI (O q) ∧ O q < n := fun q hq => by rw [P.2 10 (by decide) (by decide) (by decide) (by decide)]; exact hO q hq
    obtain ⟨g1, s1, S1, D1⟩ := cStart (h := g)
    have hC1 : covC g1 (38 + 3 * c) kd n ds cs u wt := covC_of (fun x q1 q2 => S1.2 x (by omega) (by omega)) gC
    have hD1 : codC g1 (56 + 2 * d) k w ls := codC_of (fun x q1 q2 => S1.2 x (by omega) (by omega)) gD
    obtain ⟨g2, s2, S2, D2⟩ := cPlanIn (b := b) (a3 := 18 + 2 * r) (x4 := nI (sumN (cB kd n ds cs u wt O ls k w B) b)) (x6 := nI (tgB kd ds O ls k w B b)) hc hd hKc hC1 hK hD1 (fun q hq => by rw [S1.2 10 (by decide) (by decide)]; exact gO q hq) (by omega) D1
    have S3 := setF_t S1 S2
    obtain ⟨y1, y2⟩ := D2 _ t64
    have y1 : g2.1 11 (tgB kd ds O ls k w B b) = nI (cB kd n ds cs u wt O ls k w B b) := y1
    have cl : cB kd n ds cs u wt O ls k w B b ≤ 1000000 := dp_le
    have P2 : plF h g2 := ⟨by rw [S3.1, P.1], fun a q1 q2 q3 q4 => by rw [S3.2 a q2 q3, P.2 a q1 q2 q3 q4]⟩
    unfold f_X3_planAll_B39
    rw [e94, if_pos (nI_lt hb (by omega)), cHeld (sh_cov hc) (sh_cod hd) hKc gC hK gD gO (by omega), bd_s, cWanted hK gD hr gR hm hb, bd_s, N_xor, nm_v, s1, bd_s]
    have s3 : f_X3_planAll_L73 g1 (38 + 3 * c) (56 + 2 * d) (18 + 2 * r) (nI (sumN (cB kd n ds cs u wt O ls k w B) b)) (nI b) (nI (syX ls k (bsN kd ds O w b) w ^^^ bnN (fun i => B (b * k + i)) k)) 0 = some g2 := s2
    rw [s3, bd_s]
    have te : syX ls k (bsN kd ds O w b) w ^^^ bnN (fun i => B (b * k + i)) k = tgB kd ds O ls k w B b := rfl
    rw [te, if_pos (show nI (tgB kd ds O ls k w B b) < 64 from (nI_lt t64 (by decide) : nI (tgB kd ds O ls k w B b) < nI 64)), ix_n t64 (by decide), gd_t, tn_n (j := tgB kd ds O ls k w B b) (by omega), y1]
    by_cases z : cB kd n ds cs u wt O ls k w B b = 1000000
    · right
      exact ⟨Sum.inr (-9, g2), by rw [if_pos (show nI (cB kd n ds cs u wt O ls k w B b) = 1000000 by rw [z]; rfl)], Or.inl ⟨g2, rfl, P2, b, hb, z⟩⟩
    · left
      have y2 : g2.1 12 (tgB kd ds O ls k w B b) = nI (wB kd n ds cs u wt O ls k w B b) := y2 z
      refine ⟨(nI (sumN (cB kd n ds cs u wt O ls k w B) (b + 1)), nI (b + 1), uI g2 13 b (nI (wB kd n ds cs u wt O ls k w B b))), ?_, rfl, rfl, ⟨P2.1, fun a q1 q2 q3 q4 => by rw [uI_ne q4]; exact P2.2 a q1 q2 q3 q4⟩, ?_, fun b' hb' => ?_⟩
      · rw [if_neg (show ¬ nI (cB kd n ds cs u wt O ls k w B b) = 1000000 from fun y => z ((nI_eq (b := 1000000) (by omega) (by decide)).mp y)), gd_t, ix_n (show b < 40 by omega) (by decide), gd_t, nm_v, tn_n (j := b) (by omega), y2, gd_t, nm_v, uI_ne (by decide), y1, nI_add, nI_s]
        rfl
      · show (uI g2 13 b _).1 9 4 = _
        rw [uI_ne (by decide), S3.2 9 (by decide) (by decide), e94]
      · show _ ∧ (uI g2 13 b _).1 13 b' = _
        by_cases y : b' = b
        · subst y
          exact ⟨z, uI_at⟩
        · obtain ⟨j1, j2⟩ := J b' (by omega)
          exact ⟨j1, by rw [uI_k y, S3.2 13 (by decide) (by decide)]; exact j2⟩
  · obtain ⟨x4, x5, g⟩ := s
    obtain ⟨e1, e2, P, e94, J⟩ := I
    dsimp only at e1 e2 P e94 J
    rw [Nat.zero_add] at e1 e2 J
    subst e1 e2
    dsimp only
    unfold f_X3_planAll_B39
    exact ⟨Sum.inl (nI (sumN (cB kd n ds cs u wt O ls k w B) m), g), by rw [e94, if_neg (nI_nlt (Nat.le_refl _) (by omega))], Or.inr ⟨g, rfl, P, fun b hb => (J b hb).1, e94, fun b hb => (J b hb).2⟩⟩
theorem cFlips {W : Nat → Nat} (m40 : m ≤ 40) (e : h.1 9 4 = nI m) (J : ∀ b, b < m → h.1 13 b = nI (W b) ∧ W b < 4096) : f_X3_countFlips h = some (nI (sumN (fun b => pop (W b)) m)) := by
  have key : f_X3_countFlips_L4 h 0 0 = some (nI (sumN (fun b => pop (W b)) m)) := by
    unfold f_X3_countFlips_L4
    refine lpo_sum (fun b => pop (W b)) m (fun i v hi => ?_) (fun v => ?_)
    · (try dsimp only)
      obtain ⟨j1, j2⟩ := J i hi
      unfold f_X3_countFlips_B4
      rw [e, if_pos (nI_lt hi (by omega)), ix_n (show i < 40 by omega) (by decide), gd_t, tn_n (by omega), j1, cPop j2, bd_s, nm_v, nI_add, nI_s]
    · (try dsimp only)
      unfold f_X3_countFlips_B4
      rw [e, if_neg (nI_nlt (Nat.le_refl _) (by omega))]
  unfold f_X3_countFlips
  rw [key, bd_s]
end PLAN2
/-! which places are flipped -/
def flT (O : Nat → Nat) (G : Nat → Bool) : Nat → Nat → Bool
  | 0 => fun _ => false
  | j + 1 => fun x => if x = O j then G j else flT O G j x
theorem flT_no {O : Nat → Nat} {G : Nat → Bool} {x : Nat} : ∀ {j : Nat}, (∀ q, q < j → O q ≠ x) → flT O G j x = false
  | 0, _ => rfl
  | j + 1, e => by
    show (if x = O j then G j else flT O G j x) = false
    rw [if_neg (fun z => e j (by omega) z.symm)]
    exact flT_no (fun q hq => e q (by omega))
def dsF (kd : Nat) (ds cs : Nat → Nat) (fl : Nat → Bool) (x : Nat) : Nat := if fl x = true then flipN kd (ds x) (cs x) else ds x
theorem covF {kd n u wt : Nat} {ds cs : Nat → Nat} {fl : Nat → Bool} (hK : covK kd n ds cs u wt) : covK kd n (dsF kd ds cs fl) cs u wt := by
  refine ⟨hK.1, fun i hi => ?_, fun z i hi => ?_, hK.2.2.2⟩
  · unfold dsF
    split
    · exact (flip_N hK hi).2.1
    · exact hK.2.1 i hi
  · obtain ⟨c1, c2, c3⟩ := hK.2.2.1 z i hi
    refine ⟨c1, c2, ?_⟩
    unfold dsF
    split
    · exact (flip_N hK hi).2.2 z
    · exact c3
def gB (W : Nat → Nat) (w j : Nat) : Bool := (W (j / w)).testBit (j % w)
section FLIP
variable {h : MH} {c d kd n k w u wt m : Nat} {ds cs ls O W : Nat → Nat}
theorem cFlipAll (hc : c < 6) (hd : d < 4) (hKc : covK kd n ds cs u wt) (hC : covC h (38 + 3 * c) kd n ds cs u wt) (hK : codK k w ls) (hD : codC h (56 + 2 * d) k w ls) (hO : ∀ q, q < n → h.1 10 q = nI (O q) ∧ O q < n) (inj : ∀ p q, p < n → q < n → O p = O q → p = q) (m40 : m ≤ 40) (hw : m * w ≤ n) (e : h.1 9 4 = nI m) (J : ∀ b, b < m → h.1 13 b = nI (W b) ∧ W b < 4096) : f_X3_flipAll h (38 + 3 * c) (56 + 2 * d) = some (uA h (39 + 3 * c) (wr (h.1 (39 + 3 * c)) 0 (fun x => nI (dsF kd ds cs (flT O (gB W w) (m * w)) x)) n)) := by
  have w12 := hK.1.2.2.2
  have hn := hKc.1.2.1
  have st : ∀ {j : Nat}, j < m * w → ∀ {g : MH}, g = uA h (39 + 3 * c) (wr (h.1 (39 + 3 * c)) 0 (fun x => nI (dsF kd ds cs (flT O (gB W w) j) x)) n) → covC g (38 + 3 * c) kd n (dsF kd ds cs (flT O (gB W w) j)) cs u wt ∧ (∀ a, a ≠ 39 + 3 * c → g.1 a = h.1 a) ∧ flT O (gB W w) j (O j) = false ∧ dsF kd ds cs (flT O (gB W w) j) (O j) = ds (O j) := fun {j} hj {g} hg => by
    have F : ∀ a, a ≠ 39 + 3 * c → g.1 a = h.1 a := fun a ha => by rw [hg, uA_ne ha]
    have nf : flT O (gB W w) j (O j) = false := flT_no (fun q hq z => by
      have := inj q j (by omega) (by omega) z
      omega)
    refine ⟨⟨?_, ?_, ?_, ?_, fun i hi => ⟨?_, ?_⟩⟩, F, nf, ?_⟩
    · rw [F _ (by omega)]
      exact hC.1
    · rw [F _ (by omega)]
      exact hC.2.1
    · rw [F _ (by omega)]
      exact hC.2.2.1
    · rw [F _ (by omega)]
      exact hC.2.2.2.1
    · rw [show 38 + 3 * c + 1 = 39 + 3 * c by omega, hg, uA_at, wr_0in hi]
    · rw [F _ (by omega)]
      exact (hC.2.2.2.2 i hi).2
    · unfold dsF
      rw [nf, if_neg (by decide)]
  have key := lpo_for (step := fun s : Int32 × MH => f_X3_flipAll_B2 s.2 (38 + 3 * c) (56 + 2 * d) s.1) (b := uA h (39 + 3 * c) (wr (h.1 (39 + 3 * c)) 0 (fun x => nI (dsF kd ds cs (flT O (gB W w) (m * w)) x)) n)) (fun b => (nI b, uA h (39 + 3 * c) (wr (h.1 (39 + 3 * c)) 0 (fun x => nI (dsF kd ds cs (flT O (gB W w) (b * w)) x)) n))) m (fun b hb => ?_) ?_
  · unfold f_X3_flipAll f_X3_flipAll_L2
    rw [Nat.zero_mul, uA_id (fun j => by
      by_cases z : j < n
      · rw [wr_0in z, show 39 + 3 * c = 38 + 3 * c + 1 by omega, (hC.2.2.2.2 j z).1]
        rfl
      · rw [wr_out (by omega)])] at key
    have key2 : lpo (fun s : Int32 × MH => f_X3_flipAll_B2 s.2 (38 + 3 * c) (56 + 2 * d) s.1) (0, h) = _ := key
    rw [key2, bd_s]
  · (try dsimp only)
    have b1 : (b + 1) * w ≤ m * w := Nat.mul_le_mul_right w hb
    have f1 : (b + 1) * w = b * w + w := Nat.succ_mul b w
    obtain ⟨j1, j2⟩ := J b hb
    have inner : f_X3_flipAll_L13 (uA h (39 + 3 * c) (wr (h.1 (39 + 3 * c)) 0 (fun x => nI (dsF kd ds cs (flT O (gB W w) (b * w)) x)) n)) (38 + 3 * c) (56 + 2 * d) (nI b) 0 = some (uA h (39 + 3 * c) (wr (h.1 (39 + 3 * c)) 0 (fun x => nI (dsF kd ds cs (flT O (gB W w) (b * w + w)) x)) n)) := by
      unfold f_X3_flipAll_L13
      have key := lpo_for (step := fun s : Int32 × MH => f_X3_flipAll_B13 s.2 (38 + 3 * c) (56 + 2 * d) (nI b) s.1) (b := uA h (39 + 3 * c) (wr (h.1 (39 + 3 * c)) 0 (fun x => nI (dsF kd ds cs (flT O (gB W w) (b * w + w)) x)) n)) (fun i => (nI i, uA h (39 + 3 * c) (wr (h.1 (39 + 3 * c)) 0 (fun x => nI (dsF kd ds cs (flT O (gB W w) (b * w + i)) x)) n))) w (fun i hi => ?_) ?_
      · exact key
      · (try dsimp only)
        obtain ⟨o1, o2⟩ := hO (b * w + i) (by omega)
        have q1 := dvk (b := b) hi
        have gt : gB W w (b * w + i) = (W b).testBit i := by
          unfold gB
          rw [q1.1, q1.2]
        have fe : ∀ x, flT O (gB W w) (b * w + (i + 1)) x = if x = O (b * w + i) then (W b).testBit i else flT O (gB W w) (b * w + i) x := fun x => by
          rw [← gt]
          rfl
        have put : ∀ v : Int32, v = nI (dsF kd ds cs (flT O (gB W w) (b * w + (i + 1))) (O (b * w + i))) → wr (h.1 (39 + 3 * c)) 0 (fun q => if q = O (b * w + i) then v else nI (dsF kd ds cs (flT O (gB W w) (b * w + i)) q)) n = wr (h.1 (39 + 3 * c)) 0 (fun x => nI (dsF kd ds cs (flT O (gB W w) (b * w + (i + 1))) x)) n := fun v hv => wr_eq (fun x hx => by
          by_cases z : x = O (b * w + i)
          · rw [if_pos z, hv, z]
          · rw [if_neg z]
            unfold dsF
            rw [fe x, if_neg z])
        have wput : ∀ v : Int32, uI (uA h (39 + 3 * c) (wr (h.1 (39 + 3 * c)) 0 (fun x => nI (dsF kd ds cs (flT O (gB W w) (b * w + i)) x)) n)) (39 + 3 * c) (O (b * w + i)) v = uA h (39 + 3 * c) (wr (h.1 (39 + 3 * c)) 0 (fun q => if q = O (b * w + i) then v else nI (dsF kd ds cs (flT O (gB W w) (b * w + i)) q)) n) := fun v => wr_put o2
        have idn : uA h (39 + 3 * c) (wr (h.1 (39 + 3 * c)) 0 (fun q => if q = O (b * w + i) then nI (dsF kd ds cs (flT O (gB W w) (b * w + i)) q) else nI (dsF kd ds cs (flT O (gB W w) (b * w + i)) q)) n) = uA h (39 + 3 * c) (wr (h.1 (39 + 3 * c)) 0 (fun x => nI (dsF kd ds cs (flT O (gB W w) (b * w + i)) x)) n) := by
          rw [wr_eq (fun x hx => by split <;> rfl)]
        generalize hg : uA h (39 + 3 * c) (wr (h.1 (39 + 3 * c)) 0 (fun x => nI (dsF kd ds cs (flT O (gB W w) (b * w + i)) x)) n) = g at wput idn
        obtain ⟨gC, F, nf, de⟩ := st (j := b * w + i) (by omega) hg.symm
        unfold f_X3_flipAll_B13
        rw [F _ (by omega), hD.2.1, if_pos (nI_lt hi (by omega)), lin_bw, cPlaceAt (by omega), bd_s, F 10 (by omega), o1, ix_n (show b < 40 by omega) (by decide), gd_t, tn_n (j := b) (by omega), F 13 (by omega), j1, N_tb (by omega) (by omega), nI_s]
        cases z : (W b).testBit i with
        | false =>
          rw [if_pos (by decide)]
          have e9 : wr (h.1 (39 + 3 * c)) 0 (fun x => nI (dsF kd ds cs (flT O (gB W w) (b * w + i)) x)) n = wr (h.1 (39 + 3 * c)) 0 (fun x => nI (dsF kd ds cs (flT O (gB W w) (b * w + (i + 1))) x)) n := wr_eq (fun x hx => by
            unfold dsF
            rw [fe x]
            by_cases y : x = O (b * w + i)
            · rw [if_pos y, y, nf, z]
            · rw [if_neg y])
          rw [← hg, e9]
        | true =>
          rw [if_neg (by decide), cFlipped (sh_cov hc) (covF hKc) gC o2, bd_s, de, cSetDot (n := n) (sh_cov hc) gC.2.1 hn o2, bd_s, show 38 + 3 * c + 1 = 39 + 3 * c by omega, wput, put _ (by
            unfold dsF
            rw [fe, if_pos rfl, z, if_pos rfl]
            exact (flip_N hKc o2).1)]
      · (try dsimp only)
        unfold f_X3_flipAll_B13
        rw [uA_ne (show 56 + 2 * d ≠ 39 + 3 * c by omega), hD.2.1, if_neg (nI_nlt (Nat.le_refl _) (by omega))]
    unfold f_X3_flipAll_B2
    rw [inner, uA_ne (show 9 ≠ 39 + 3 * c by omega), e, if_pos (nI_lt hb (by omega)), bd_s, nI_s, f1]
  · (try dsimp only)
    unfold f_X3_flipAll_B2
    rw [uA_ne (show 9 ≠ 39 + 3 * c by omega), e, if_neg (nI_nlt (Nat.le_refl _) (by omega))]
end FLIP
