/-! what the reference needs for each sum -/
def ndB (ls : Nat → Nat) (k t m : Nat) : Option (Nat × Nat) := brF (fun s => decide (smN ls k s = t)) pop m
def ndV : Option (Nat × Nat) → Int32
  | none => -9
  | some p => nI p.2
def ndC : Option (Nat × Nat) → Nat
  | none => 0
  | some _ => 1
theorem nd_hit {ls : Nat → Nat} {k t m : Nat} (e : smN ls k m = t) : ndB ls k t (m + 1) = match ndB ls k t m with
    | none => some (m, pop m)
    | some p => if pop m < p.2 then some (m, pop m) else some p := if_pos (decide_eq_true e)
theorem nd_miss {ls : Nat → Nat} {k t m : Nat} (e : ¬ smN ls k m = t) : ndB ls k t (m + 1) = ndB ls k t m := if_neg (fun z => e (of_decide_eq_true z))
theorem nd_le {ls : Nat → Nat} {k t m : Nat} {p : Nat × Nat} (hm : m ≤ 4096) (e : ndB ls k t m = some p) : p.2 ≤ 12 := by
  obtain ⟨q1, q2, q3, q4⟩ := br_some e
  rw [q3]
  exact pop_le (by omega)
theorem sumN_bump {f g : Nat → Nat} {r d n : Nat} (hr : r < n) (e1 : g r = f r + d) (e2 : ∀ t, t ≠ r → g t = f t) : sumN g n = sumN f n + d := by
  have e3 : sumN g n = sumN (fun t => f t + (if t = r then d else 0)) n := sumN_congr (fun t ht => by
    by_cases z : t = r
    · subst z
      rw [if_pos rfl, e1]
    · rw [if_neg z, e2 t z]
      rfl)
  rw [e3, sumN_add, sumN_one (g := fun t => if t = r then d else 0) (k := r) (fun j hj => if_neg hj), if_pos hr, if_pos rfl]
def ndF (h k : MH) : Prop := k.2 = h.2 ∧ ∀ a, a ≠ 83 → k.1 a = h.1 a
theorem mNeeds {h : MH} {d k w : Nat} {ls : Nat → Nat} (hd : d < 4) (hK : codK k w ls) (hM : codM h d k w ls) : ∃ g, f_X7_setNeeds h (nI d) = some (nI (sumN (fun t => ndC (ndB ls k t (2 ^ w))) 64), g) ∧ ndF h g ∧ ∀ t, t < 64 → g.1 83 t = ndV (ndB ls k t (2 ^ w)) := by
  have w12 := hK.1.2.2.2
  have p12 := pw12 w12
  have s0 : f_X7_setNeeds_L4 h (nI d) 0 0 = some (uA h 83 (wr (h.1 83) 0 (fun _ => -9) 64)) := by
    unfold f_X7_setNeeds_L4
    have key := lpo_for (step := fun s : Int32 × MH => f_X7_setNeeds_B4 s.2 (nI d) 0 s.1) (fun i => (nI i, uA h 83 (wr (h.1 83) 0 (fun _ => -9) i))) 64 (b := uA h 83 (wr (h.1 83) 0 (fun _ => -9) 64)) (fun i hi => ?_) ?_
    · rw [wr_0] at key
      exact key
    · dsimp only
      unfold f_X7_setNeeds_B4
      rw [if_pos (show nI i < 64 from (nI_lt hi (by decide) : nI i < nI 64)), ix_n hi (by decide), gd_t, nm_v, tn_n (by omega), wr_0s (g := fun _ => -9) rfl, nI_s]
    · dsimp only
      unfold f_X7_setNeeds_B4
      rw [if_neg (by decide)]
  generalize hg0 : uA h 83 (wr (h.1 83) 0 (fun _ => -9) 64) = g0 at s0
  have F0 : ndF h g0 := ⟨by rw [← hg0]; rfl, fun a ha => by rw [← hg0, uA_ne ha]⟩
  have D0 : ∀ t, t < 64 → g0.1 83 t = -9 := fun t ht => by rw [← hg0, uA_at, wr_0in ht]
  have key := lpo_ind (step := fun s : Int32 × Int32 × MH => f_X7_setNeeds_B26 s.2.2 (nI d) s.1 s.2.1) (fun m s => s.1 = nI (sumN (fun t => ndC (ndB ls k t m)) 64) ∧ s.2.1 = nI m ∧ ndF h s.2.2 ∧ ∀ t, t < 64 → s.2.2.1 83 t = ndV (ndB ls k t m)) (fun b => b.1 = nI (sumN (fun t => ndC (ndB ls k t (2 ^ w))) 64) ∧ ndF h b.2 ∧ ∀ t, t < 64 → b.2.1 83 t = ndV (ndB ls k t (2 ^ w))) (2 ^ w) 0 (0, 0, g0) ⟨by
    show (0 : Int32) = nI (sumN (fun t => ndC (ndB ls k t 0)) 64)
    rw [sumN_0 (g := fun t => ndC (ndB ls k t 0)) (fun j hj => rfl)]
    rfl, rfl, F0, D0⟩ (fun m s hm I => ?_) (fun s I => ?_)
  · obtain ⟨⟨n, g⟩, e, q1, q2⟩ := key
    dsimp only at q1 q2
    subst q1
    refine ⟨g, ?_, q2⟩
    unfold f_X7_setNeeds f_X7_setNeeds_L26
    rw [s0, bd_s, e, bd_s]
  · obtain ⟨n, v, g⟩ := s
    obtain ⟨e1, e2, F, D⟩ := I
    dsimp only at e1 e2 F D
    subst e1 e2
    dsimp only
    have gM : codM g d k w ls := codM_of (fun b q1 q2 => F.2 b (by omega)) hM
    have r64 := sm64 hK (s := m)
    have m4 : m < 4096 := (by omega)
    have mp := pop_le m4
    unfold f_X7_setNeeds_B26
    rw [ix_n hd (by decide), gd_t, tn_n (j := d) (by omega), gM.2.1, shl1s (by omega), if_pos (nI_lt (show m < 2 ^ w by omega) (by omega)), mSums hd hK gM (by omega), bd_s, ix_n r64 (by decide), gd_t, tn_n (j := smN ls k m) (by omega), D _ r64]
    generalize er : smN ls k m = r at *
    have oth : ∀ t, t ≠ r → ndB ls k t (m + 1) = ndB ls k t m := fun t ht => nd_miss (fun z => ht (by rw [← z, er]))
    have hit := nd_hit er
    have fin : ∀ v : Int32, v = ndV (ndB ls k r (m + 1)) → ndF h (uI g 83 r v) ∧ ∀ t, t < 64 → (uI g 83 r v).1 83 t = ndV (ndB ls k t (m + 1)) := fun v hv => ⟨⟨F.1, fun a ha => by rw [uI_ne ha]; exact F.2 a ha⟩, fun t ht => by
      by_cases z : t = r
      · subst z
        rw [uI_at, hv]
      · rw [uI_k z, D t ht, oth t z]⟩
    cases y : ndB ls k r m with
    | none =>
      rw [y] at hit
      dsimp only at hit
      rw [if_pos (show ndV none < 0 from (by decide))]
      unfold f_X7_setNeeds_J62_26
      rw [nm_v, ix_n r64 (by decide), gd_t, tn_n (j := r) (by omega), D r r64, y, if_pos (show ndV none < 0 from (by decide)), mPop (by omega), bd_s, gd_t, nm_v]
      have sm := sumN_bump (f := fun t => ndC (ndB ls k t m)) (g := fun t => ndC (ndB ls k t (m + 1))) (d := 1) r64 (by rw [hit, y]; rfl) (fun t ht => by rw [oth t ht])
      refine ⟨(nI (sumN (fun t => ndC (ndB ls k t (m + 1))) 64), nI (m + 1), uI g 83 r (nI (pop m))), by rw [sm, nI_s, nI_s], rfl, rfl, fin _ (by rw [hit]; rfl)⟩
    | some p =>
      rw [y] at hit
      dsimp only at hit
      have pl := nd_le (by omega) y
      have np : ¬ ndV (some p) < 0 := nlt0 (show p.2 ≤ 1000000 by omega)
      rw [if_neg np]
      unfold f_X7_setNeeds_J62_26
      rw [nm_v, ix_n r64 (by decide), gd_t, tn_n (j := r) (by omega), D r r64, y, if_neg np, mPop (by omega), bd_s, gd_t]
      have sm := sumN_bump (f := fun t => ndC (ndB ls k t m)) (g := fun t => ndC (ndB ls k t (m + 1))) (d := 0) r64 (by rw [hit, y]; split <;> rfl) (fun t ht => by rw [oth t ht])
      by_cases x : pop m < p.2
      · rw [if_pos x] at hit
        rw [if_pos (show nI (pop m) < ndV (some p) from nI_lt x (by omega)), bd_s, gd_t, nm_v]
        refine ⟨(nI (sumN (fun t => ndC (ndB ls k t (m + 1))) 64), nI (m + 1), uI g 83 r (nI (pop m))), by rw [sm, nI_s, N_addK], rfl, rfl, fin _ (by rw [hit]; rfl)⟩
      · rw [if_neg x] at hit
        rw [if_neg (show ¬ nI (pop m) < ndV (some p) from nI_nlt (by omega) (by omega)), gd_t, gd_t, nm_v]
        refine ⟨(nI (sumN (fun t => ndC (ndB ls k t (m + 1))) 64), nI (m + 1), uI g 83 r (ndV (some p))), by rw [sm, nI_s, N_addK], rfl, rfl, fin _ (by rw [hit])⟩
  · obtain ⟨n, v, g⟩ := s
    obtain ⟨e1, e2, F, D⟩ := I
    dsimp only at e1 e2 F D
    rw [Nat.zero_add] at e1 e2 D
    subst e1 e2
    dsimp only
    have gM : codM g d k w ls := codM_of (fun b q1 q2 => F.2 b (by omega)) hM
    unfold f_X7_setNeeds_B26
    refine ⟨(nI (sumN (fun t => ndC (ndB ls k t (2 ^ w))) 64), g), ?_, rfl, F, D⟩
    rw [ix_n hd (by decide), gd_t, tn_n (by omega), gM.2.1, shl1s (by omega), if_neg (nI_nlt (Nat.le_refl _) (by omega))]
