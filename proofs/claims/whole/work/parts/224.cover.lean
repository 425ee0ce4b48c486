theorem sim_cov {h h2 : MH} {c : Nat} (hc : c < 6) (S : Sim h) (F : ∀ a, (a < 38 + 3 * c ∨ 40 + 3 * c < a) → (a < 71 ∨ 76 < a) → h2.1 a = h.1 a) (e2 : h2.2 = h.2) (e1 : ∀ a d, a = 71 ∨ a = 72 ∨ a = 75 ∨ a = 76 → d ≠ c → h2.1 a d = h.1 a d) (e3 : ∀ a q, a = 73 ∨ a = 74 → q < 40 * c ∨ 40 * c + 40 ≤ q → h2.1 a q = h.1 a q) (new : covS h2 c) : Sim h2 := by
  obtain ⟨s1, s2, s3, s4, s5, s6, s7, s8⟩ := S
  refine ⟨SR_of (fun a ha => F a (by omega) (by omega)) s1, STx_of (fun a ha => F a (by omega) (by omega)) s2, SC_upd (j := c) (fun a q1 q2 q3 => F a q3 (by omega)) e1 e3 new s3, SK_of (fun a ha => F a (by omega) (by omega)) s4, ?_, ?_, ⟨?_, fun f h1 h5 => ?_⟩, ?_⟩
  · unfold SA
    rw [F 0 (by omega) (by omega), F 64 (by omega) (by omega)]
    exact s5
  · unfold SF
    rw [e2]
    exact s6
  · rw [F 0 (by omega) (by omega), F 64 (by omega) (by omega)]
    exact s7.1
  · rw [F 17 (by omega) (by omega), F 65 (by omega) (by omega)]
    exact s7.2 f h1 h5
  · unfold SW
    rw [e2]
    exact s8
theorem bnd2_id {o : Option (Int32 × MH)} : bnd2 o (fun r h' => some (r, h')) = o := by
  cases o with
  | none => rfl
  | some p => rfl
theorem dot_nI {v : Int32} (e : btw v 0 255 = true) : v = nI v.toNatClampNeg ∧ v.toNatClampNeg ≤ 255 := by
  rw [btw_inR (n := 255) (M := 255) rfl (by decide)] at e
  obtain ⟨k, hk, rfl⟩ := inR_t (by decide) e
  rw [tn_n (by omega)]
  exact ⟨rfl, (by omega)⟩
/-- both draw a cover from a row of dots -/
theorem op_draw {h : MH} (S : Sim h) {c j kd w : Nat} (hc : c < 6) (hj : j < 6) (hk : kd ≤ 4) (hk3 : kd ≠ 3) (R : (h.1 (18 + 2 * j) 1 = -1 ∧ h.1 66 j = -9) ∨ ∃ (n : Nat) (f : Nat → Int32), n ≤ 40 ∧ rowC h (18 + 2 * j) n f ∧ rowM h 66 67 40 j n f) {G : MH → MH} (hG : ((∀ x, G x = x) ∧ ¬ (kd = 1 ∨ kd = 2) ∧ w = 0) ∨ ((∀ x, G x = uI x 75 c (nI w)) ∧ (kd = 1 ∨ kd = 2) ∧ 1 ≤ w ∧ w ≤ 40)) {A : Option (Int32 × MH)} {B : MH → Option (Int32 × MH)} (hA : A = f_X6_drawn h (38 + 3 * c) (18 + 2 * j) (nI kd) (nI w)) (hB : ∀ x, B x = bnd2 (f_X7_askedDots x (nI j) (b2i (decide (kd = 4)))) (fun r h2 => if r < 0 then some (r, h2) else f_X7_come (G h2) (nI c) (nI kd) (nI j))) : Op A B := by
  rcases R with ⟨m1, m2⟩ | ⟨n, f, hn, hC, hM⟩
  · refine op_found S (f := 1) (by decide) (by decide) ?_ ?_
    · rw [hA, cDrawn_m m1]
    · rw [hB, mAskDots_m hj (by rw [fd_ne (by decide) (by decide)]; exact m2), pB (by decide) (by decide)]
  by_cases h0 : n = 0
  · subst h0
    refine op_found S (f := 5) (by decide) (by decide) ?_ ?_
    · rw [hA, cDrawn_0 hC.1]
    · rw [hB, mAskDots_0 hj (by rw [fd_ne (by decide) (by decide)]; exact hM.1), pB (by decide) (by decide)]
  have hn0 : 0 < n := (by omega)
  have eA := cDrawn (h := h) (a := 38 + 3 * c) (r := 18 + 2 * j) (kd := kd) (w := w) (sh_cov hc) (sh_row hj) hn0 hn hk (by omega) (by omega) (by omega) hC
  have fM : ∀ x : MH, x.1 66 = h.1 66 → x.1 67 = h.1 67 → rowM x 66 67 40 j n f := fun x e1 e2 => by
    unfold rowM
    rw [e1, e2]
    exact hM
  cases ok : dotsOk f (decide (kd = 4)) n with
  | false =>
    refine op_found S (f := 3) (by decide) (by decide) ?_ ?_
    · rw [hA, eA, ok, if_neg (by decide)]
    · rw [hB, mAskDots hj (fM _ (fd_ne (by decide) (by decide)) (fd_ne (by decide) (by decide))) hn0 hn, ok, if_neg (by decide), pB (by decide) (by decide)]
  | true =>
    rw [ok, if_pos rfl] at eA
    generalize hg : bc (uA h (38 + 3 * c + 1) (va_cpy (h.1 (18 + 2 * j + 1)) (h.1 (38 + 3 * c + 1)) 0 0 40)) (38 + 3 * c) kd n w = g at eA
    have F1 : ∀ a, (a < 38 + 3 * c ∨ 40 + 3 * c < a) → g.1 a = h.1 a := fun a ha => by
      rw [← hg]
      unfold bc
      simp (disch := omega) only [uI_ne, uI_k, uI_at, uA_ne, uA_at]
    have g2 : g.2 = h.2 := by rw [← hg]; rfl
    have k2 : g.1 (38 + 3 * c) 2 = nI kd := by
      rw [← hg]
      unfold bc
      simp (disch := omega) only [uI_ne, uI_k, uI_at, uA_ne, uA_at]
    have k3 : g.1 (38 + 3 * c) 3 = nI n := by
      rw [← hg]
      unfold bc
      simp (disch := omega) only [uI_ne, uI_k, uI_at, uA_ne, uA_at]
    have k4 : g.1 (38 + 3 * c) 4 = nI w := by
      rw [← hg]
      unfold bc
      simp (disch := omega) only [uI_ne, uI_k, uI_at, uA_ne, uA_at]
    have k5 : g.1 (38 + 3 * c) 5 = nI 0 := by
      rw [← hg]
      unfold bc
      simp (disch := omega) only [uI_ne, uI_k, uI_at, uA_ne, uA_at]
      rfl
    have kd1 : ∀ i, i < n → g.1 (38 + 3 * c + 1) i = f i := fun i hi => by
      rw [← hg]
      unfold bc
      simp (disch := omega) only [uI_ne, uI_k, uI_at, uA_ne, uA_at]
      unfold va_cpy
      rw [if_pos (by omega)]
      simpa using hC.2 i hi
    have kd2 : ∀ i, i < n → g.1 (38 + 3 * c + 2) i = nI 0 := fun i hi => by
      rw [← hg]
      unfold bc
      simp (disch := omega) only [uI_ne, uI_k, uI_at, uA_ne, uA_at]
      unfold wr
      rw [if_pos (by omega)]
      rfl
    have gG : ∀ a, a ≠ 75 → (G g).1 a = g.1 a := fun a ha => by
      rcases hG with ⟨q, _⟩ | ⟨q, _⟩
      · rw [q]
      · rw [q, uI_ne ha]
    have gG2 : (G g).2 = g.2 := by
      rcases hG with ⟨q, _⟩ | ⟨q, _⟩
      · rw [q]
      · rw [q, uI_2]
    have gG75 : ∀ d, d ≠ c → (G g).1 75 d = h.1 75 d := fun d hd => by
      rcases hG with ⟨q, _⟩ | ⟨q, _⟩
      · rw [q, F1 75 (by omega)]
      · rw [q, uI_k hd, F1 75 (by omega)]
    have hMG : rowM (G g) 66 67 40 j n f := fM _ (by rw [gG 66 (by decide), F1 66 (by omega)]) (by rw [gG 67 (by decide), F1 67 (by omega)])
    refine ⟨nI n, g, mc (G g) c kd n f, by rw [hA, eA], ?_, ?_⟩
    · rw [hB, mAskDots hj (fM g (F1 66 (by omega)) (F1 67 (by omega))) hn0 hn, ok, if_pos rfl, bnd2_s, if_neg (by decide), mCome hc hj hn hMG]
    · have dsB : ∀ i, i < n → f i = nI (f i).toNatClampNeg ∧ (f i).toNatClampNeg ≤ 255 := fun i hi => by
        have := (Bool.and_eq_true _ _).mp (dotsOk_eq f _ n ▸ ok)
        exact dot_nI (allB_t.mp this.1 i hi)
      refine sim_cov hc S (fun a q1 q2 => ?_) ?_ (fun a d ha hd => ?_) (fun a q ha hq => ?_) (Or.inr ⟨kd, n, fun i => (f i).toNatClampNeg, fun _ => 0, w, 0, ?_, ?_, ?_⟩)
      · unfold mc
        simp (disch := omega) only [uI_ne, uI_k, uI_at, uA_ne, uA_at]
        rw [gG a (by omega), F1 a q1]
      · show (G g).2 = h.2
        rw [gG2, g2]
      · unfold mc
        rcases ha with rfl | rfl | rfl | rfl
        · simp (disch := omega) only [uI_ne, uI_k, uI_at, uA_ne, uA_at]
          rw [gG 71 (by decide), F1 71 (by omega)]
        · simp (disch := omega) only [uI_ne, uI_k, uI_at, uA_ne, uA_at]
          rw [gG 72 (by decide), F1 72 (by omega)]
        · simp (disch := omega) only [uI_ne, uI_k, uI_at, uA_ne, uA_at]
          exact gG75 d hd
        · simp (disch := omega) only [uI_ne, uI_k, uI_at, uA_ne, uA_at]
          rw [gG 76 (by decide), F1 76 (by omega)]
      · unfold mc
        rcases ha with rfl | rfl
        · simp (disch := omega) only [uI_ne, uI_k, uI_at, uA_ne, uA_at]
          rw [wr_out (by omega), gG 73 (by decide), F1 73 (by omega)]
        · simp (disch := omega) only [uI_ne, uI_k, uI_at, uA_ne, uA_at]
          rw [gG 74 (by decide), F1 74 (by omega)]
      · refine ⟨⟨hn0, hn, hk, (by decide)⟩, fun i hi => (dsB i hi).2, fun q => absurd q hk3, fun _ _ _ => rfl, fun q => ?_, fun q => ?_⟩
        · rcases hG with ⟨_, z, _⟩ | ⟨_, _, z⟩
          · exact absurd q z
          · exact z
        · rcases hG with ⟨_, _, z⟩ | ⟨_, z, _⟩
          · exact z
          · exact absurd z q
      · have fr : ∀ a, 38 ≤ a → a ≤ 57 → (mc (G g) c kd n f).1 a = g.1 a := fun a q1 q2 => by
          unfold mc
          simp (disch := omega) only [uI_ne, uI_k, uI_at, uA_ne, uA_at]
          exact gG a (by omega)
        unfold covC
        rw [fr _ (by omega) (by omega), fr _ (by omega) (by omega), fr _ (by omega) (by omega)]
        exact ⟨k2, k3, k4, k5, fun i hi => ⟨by rw [kd1 i hi]; exact (dsB i hi).1, kd2 i hi⟩⟩
      · refine ⟨?_, ?_, fun q => ?_, ?_, fun i hi => ⟨?_, fun q => absurd q hk3⟩⟩
        · unfold mc
          simp (disch := omega) only [uI_ne, uI_k, uI_at, uA_ne, uA_at]
        · unfold mc
          simp (disch := omega) only [uI_ne, uI_k, uI_at, uA_ne, uA_at]
        · unfold mc
          simp (disch := omega) only [uI_ne, uI_k, uI_at, uA_ne, uA_at]
          rcases hG with ⟨_, z, _⟩ | ⟨z, _⟩
          · exact absurd q z
          · rw [z, uI_at]
        · unfold mc
          simp (disch := omega) only [uI_ne, uI_k, uI_at, uA_ne, uA_at]
          rfl
        · unfold mc
          simp (disch := omega) only [uI_ne, uI_k, uI_at, uA_ne, uA_at]
          rw [wr_in hi]
          exact (dsB i hi).1
theorem cov_cases (c : Int32) : inR c 6 = false ∨ ∃ j, j < 6 ∧ c = nI j ∧ inR c 6 = true := by
  cases e : inR c 6 with
  | false => exact Or.inl rfl
  | true =>
    obtain ⟨j, hj, q⟩ := inR_t (by decide) e
    exact Or.inr ⟨j, hj, q, rfl⟩
theorem op_cover {h : MH} (S : Sim h) (c k r : Int32) : Op (f_X6_cover h c k r) (fun h1 => f_X7_cover h1 c k r) := by
  rcases cov_cases c with hc | ⟨c, hc6, rfl, hc⟩
  · exact op_same S (v := -1) (by unfold f_X6_cover; rw [cIsCover, bd_s, hc, if_neg (by decide)]) (by show f_X7_cover h _ _ _ = _; unfold f_X7_cover; rw [mIsCover, bd_s, hc, if_neg (by decide)])
  have mE : ∀ x, f_X7_cover x (nI c) k r = if k = 0 then f_X7_cover_J16 x (nI c) k r else if k = 4 then f_X7_cover_J16 x (nI c) k r else some (-1, x) := fun x => by
    unfold f_X7_cover
    rw [mIsCover, bd_s, hc, if_pos rfl]
  rcases row_cases S.1 r with hr | ⟨j, hj, rfl, hr, R⟩
  · refine op_same S (v := -1) (by unfold f_X6_cover; rw [cIsCover, bd_s, hc, if_pos rfl, cIsRow, bd_s, hr, if_neg (by decide)]) ?_
    show f_X7_cover h _ _ _ = _
    rw [mE]
    have e : f_X7_cover_J16 h (nI c) k r = some (-1, h) := by
      unfold f_X7_cover_J16
      rw [mIsRow, bd_s, hr, if_neg (by decide)]
    rw [e, ite_self, ite_self]
  have cE : f_X6_cover h (nI c) k (nI j) = if k = 0 then f_X6_drawn h (38 + 3 * c) (18 + 2 * j) k 0 else if k = 4 then f_X6_drawn h (38 + 3 * c) (18 + 2 * j) k 0 else some (-1, h) := by
    unfold f_X6_cover f_X6_cover_J27
    rw [cIsCover, bd_s, hc, if_pos rfl, cIsRow, bd_s, hr, if_pos rfl, ix_n hc6 (by decide), gd_t, ix_n hj (by decide), gd_t, tn_n (by omega), tn_n (by omega), rf_covers hc6, rf_rows hj, bnd2_id]
  by_cases k0 : k = 0
  · subst k0
    refine op_draw S (kd := 0) (w := 0) (G := fun x => x) hc6 hj (by decide) (by decide) R (Or.inl ⟨fun _ => rfl, (by decide), rfl⟩) (by rw [cE, if_pos rfl]; rfl) (fun x => ?_)
    show f_X7_cover x _ _ _ = _
    rw [mE, if_pos rfl]
    unfold f_X7_cover_J16 f_X7_cover_J37
    rw [mIsRow, bd_s, hr, if_pos rfl, if_neg (by decide)]
    simp only [bnd2_id]
    rfl
  by_cases k4 : k = 4
  · subst k4
    refine op_draw S (kd := 4) (w := 0) (G := fun x => x) hc6 hj (by decide) (by decide) R (Or.inl ⟨fun _ => rfl, (by decide), rfl⟩) (by rw [cE, if_neg k0, if_pos rfl]; rfl) (fun x => ?_)
    show f_X7_cover x _ _ _ = _
    rw [mE, if_neg k0, if_pos rfl]
    unfold f_X7_cover_J16 f_X7_cover_J37
    rw [mIsRow, bd_s, hr, if_pos rfl, if_pos rfl]
    simp only [bnd2_id]
    rfl
  exact op_same S (v := -1) (by rw [cE, if_neg k0, if_neg k4]) (by show f_X7_cover h _ _ _ = _; rw [mE, if_neg k0, if_neg k4])
