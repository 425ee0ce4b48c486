section PAIRS2
variable {h : MH} {c kd n : Nat} {ds cs : Nat → Nat} {w wt : Nat}
/-- like h for all that tells a fraction anew -/
def likeM (h k : MH) : Prop := k.1 = h.1 ∧ k.2.2 = h.2.2 ∧ k.2.1 16 = h.2.1 16 ∧ ∀ x y, tlM k x y = tlM h x y
theorem likeM_tl {k : MH} {x y : Nat} (e : likeM h k) : likeM h (tlM k x y) := by
  refine ⟨by rw [tlM_1, e.1], by rw [tlM_w, e.2.1], by rw [tlM_n (by decide), e.2.2.1], fun u v => by rw [tlM_tlM, e.2.2.2]⟩
theorem rfN_le {v : Nat} : rfN ds n v ≤ v := by
  have := sumN_le (g := fun v => if 0 < cEq (halfN ds) n v then 1 else 0) (b := 1) (n := v) (fun j _ => by
    show (if 0 < cEq (halfN ds) n j then 1 else 0) ≤ 1
    split <;> omega)
  unfold rfN
  omega
theorem mPairsL (hc : c < 6) (hK : covK kd n ds cs w wt) (hM : covM h c kd n ds cs w wt) : ∃ b, f_X7_pairs_L23 h (nI c) 0 1 0 0 = some b ∧ (b.1 = lN (rfS ds n 128 / Nat.gcd (rfS ds n 128) (prL ds n)) ∧ b.2.1 = lN (prL ds n / Nat.gcd (rfS ds n 128) (prL ds n)) ∧ b.2.2.1 = nI (rfN ds n 128) ∧ likeM h b.2.2.2) := by
  have hn := hK.1.2.1
  have Lp := prL_pos (ds := ds) (n := n)
  have Ll := prL_le hK
  unfold f_X7_pairs_L23
  have key := lpo_ind (step := fun s : Int64 × Int64 × Int32 × Int32 × MH => f_X7_pairs_B23 s.2.2.2.2 (nI c) s.1 s.2.1 s.2.2.1 s.2.2.2.1) (fun v s => s.1 = lN (rfS ds n v / Nat.gcd (rfS ds n v) (prL ds n)) ∧ s.2.1 = lN (prL ds n / Nat.gcd (rfS ds n v) (prL ds n)) ∧ s.2.2.1 = nI (rfN ds n v) ∧ s.2.2.2.1 = nI v ∧ likeM h s.2.2.2.2) (fun b => b.1 = lN (rfS ds n 128 / Nat.gcd (rfS ds n 128) (prL ds n)) ∧ b.2.1 = lN (prL ds n / Nat.gcd (rfS ds n 128) (prL ds n)) ∧ b.2.2.1 = nI (rfN ds n 128) ∧ likeM h b.2.2.2) 128 0 (0, 1, 0, 0, h) ⟨?_, ?_, rfl, rfl, rfl, rfl, rfl, fun _ _ => rfl⟩ (fun v s hv I => ?_) (fun s I => ?_)
  · exact key
  · show (0 : Int64) = lN (rfS ds n 0 / Nat.gcd (rfS ds n 0) (prL ds n))
    rw [show rfS ds n 0 = 0 from rfl, Nat.zero_div]
    rfl
  · show (1 : Int64) = lN (prL ds n / Nat.gcd (rfS ds n 0) (prL ds n))
    rw [show rfS ds n 0 = 0 from rfl, Nat.gcd_zero_left, Nat.div_self Lp]
    rfl
  · obtain ⟨s1, s2, s3, s4, s5⟩ := s
    obtain ⟨e1, e2, e3, e4, lk⟩ := I
    have f1 : s1 = lN (rfS ds n v / Nat.gcd (rfS ds n v) (prL ds n)) := e1
    have f2 : s2 = lN (prL ds n / Nat.gcd (rfS ds n v) (prL ds n)) := e2
    have f3 : s3 = nI (rfN ds n v) := e3
    have f4 : s4 = nI v := e4
    have lk2 : likeM h s5 := lk
    have v8 : v < 128 := (by omega)
    have M5 : covM s5 c kd n ds cs w wt := covM_of (fun b _ _ => by rw [lk2.1]) hM
    have en : rfN ds n (v + 1) = rfN ds n v + (if 0 < cEq (halfN ds) n v then 1 else 0) := rfl
    have es : rfS ds n (v + 1) = rfS ds n v + (if 0 < cEq (halfN ds) n v then prT ds n v else 0) := rfl
    have Sl := rfS_le hK (show v ≤ 128 by omega)
    have c1 := cEq_le (f := ds) (n := n) (v := 2 * v)
    have c2 := cEq_le (f := ds) (n := n) (v := 2 * v + 1)
    have c3 := cEq_le (f := halfN ds) (n := n) (v := v)
    have hs := half_sum (ds := ds) (n := n) (v := v)
    have nl := rfN_le (ds := ds) (n := n) (v := v)
    have I40 := mPairs40 (l3 := s1) (l5 := s2) (x7 := s3) hc hK M5 v8
    by_cases c0 : 0 < cEq (halfN ds) n v
    · have gl : gapN (cEq ds n (2 * v)) (cEq ds n (2 * v + 1)) ≤ 40 := gapN_le (by omega) (by omega)
      have gm : gapN (cEq ds n (2 * v)) (cEq ds n (2 * v + 1)) * gapN (cEq ds n (2 * v)) (cEq ds n (2 * v + 1)) ≤ 40 * 40 := Nat.mul_le_mul gl gl
      have Te := prT_eq (ds := ds) (n := n) c0 v8
      have ra := rd_add (S := rfS ds n v) (T := prT ds n v) Lp c0 Te
      have bp := rd_pos (x := rfS ds n v) Lp
      have Al : rfS ds n v / Nat.gcd (rfS ds n v) (prL ds n) ≤ 40 * prL ds n := Nat.le_trans (Nat.div_le_self _ _) Sl
      have Bl : prL ds n / Nat.gcd (rfS ds n v) (prL ds n) ≤ prL ds n := Nat.div_le_self _ _
      have m1 : rfS ds n v / Nat.gcd (rfS ds n v) (prL ds n) * cEq (halfN ds) n v ≤ 40 * prL ds n * 40 := Nat.mul_le_mul Al (by omega)
      have m2 : gapN (cEq ds n (2 * v)) (cEq ds n (2 * v + 1)) * gapN (cEq ds n (2 * v)) (cEq ds n (2 * v + 1)) * (prL ds n / Nat.gcd (rfS ds n v) (prL ds n)) ≤ 1600 * prL ds n := Nat.mul_le_mul gm Bl
      have m3 : prL ds n / Nat.gcd (rfS ds n v) (prL ds n) * cEq (halfN ds) n v ≤ prL ds n * 40 := Nat.mul_le_mul Bl (by omega)
      have m4 : 0 < prL ds n / Nat.gcd (rfS ds n v) (prL ds n) * cEq (halfN ds) n v := Nat.mul_pos bp c0
      rw [if_pos c0] at en es
      obtain ⟨r1, r2⟩ := rd_same m4 Lp ra
      refine ⟨(lN (rfS ds n (v + 1) / Nat.gcd (rfS ds n (v + 1)) (prL ds n)), lN (prL ds n / Nat.gcd (rfS ds n (v + 1)) (prL ds n)), nI (rfN ds n (v + 1)), nI (v + 1), tlM s5 (rfS ds n (v + 1)) (prL ds n)), ?_, rfl, rfl, rfl, rfl, likeM_tl lk2⟩
      (try dsimp only)
      unfold f_X7_pairs_B23
      rw [f4, if_pos (show nI v < 128 from (nI_lt v8 (by decide) : nI v < nI 128)), I40, bd_s]
      (try dsimp only)
      rw [nI_add, hs, if_pos (show 0 < nI (cEq (halfN ds) n v) from (nI_lt c0 (by omega) : nI 0 < nI (cEq (halfN ds) n v))), nm_v, nm_v, nI_l (by omega), sq_negL (by omega) (by omega), f1, f2, f3, lN_mul, lN_mul, lN_mul, lN_add, mTold (by omega) m4 (by omega), bnd2_s, nm_v, nm_v, show gapN (cEq ds n (2 * v)) (cEq ds n (2 * v + 1)) * gapN (cEq ds n (2 * v)) (cEq ds n (2 * v + 1)) = prM ds n v from rfl, tlM_eq m4 Lp ra, tlM_64.1, tlM_64.2, en, es, nI_s, nI_s]
    · rw [if_neg c0] at en es
      refine ⟨(s1, s2, s3, nI (v + 1), s5), ?_, ?_, ?_, ?_, rfl, lk2⟩
      · (try dsimp only)
        unfold f_X7_pairs_B23
        rw [f4, if_pos (show nI v < 128 from (nI_lt v8 (by decide) : nI v < nI 128)), I40, bd_s]
        (try dsimp only)
        rw [nI_add, hs, if_neg (show ¬ 0 < nI (cEq (halfN ds) n v) from (nI_nlt (show cEq (halfN ds) n v ≤ 0 by omega) (by decide) : ¬ nI 0 < nI (cEq (halfN ds) n v))), nI_s]
      · show s1 = _
        rw [f1, es, Nat.add_zero]
      · show s2 = _
        rw [f2, es, Nat.add_zero]
      · show s3 = _
        rw [f3, en, Nat.add_zero]
  · obtain ⟨s1, s2, s3, s4, s5⟩ := s
    obtain ⟨e1, e2, e3, e4, lk⟩ := I
    have f1 : s1 = lN (rfS ds n 128 / Nat.gcd (rfS ds n 128) (prL ds n)) := e1
    have f2 : s2 = lN (prL ds n / Nat.gcd (rfS ds n 128) (prL ds n)) := e2
    have f3 : s3 = nI (rfN ds n 128) := e3
    have f4 : s4 = nI 128 := e4
    refine ⟨(s1, s2, s3, s5), ?_, f1, f2, f3, lk⟩
    (try dsimp only)
    unfold f_X7_pairs_B23
    rw [f4, if_neg (by decide)]
end PAIRS2
theorem op_pairs {h : MH} (S : Sim h) (c : Int32) : Op (f_X6_pairs h c) (fun h1 => f_X7_pairs h1 c) := by
    rcases cover_cases S.2.2.1 c with hc | ⟨c, hc6, rfl, hc, ⟨m1, m2⟩ | ⟨kd, n, ds, cs, w, wt, hK, hC, hM⟩⟩
    · exact op_same S (v := -1) (by unfold f_X6_pairs; rw [cIsCover, bd_s, hc, if_neg (by decide)]) (by show f_X7_pairs h _ = _; unfold f_X7_pairs; rw [mAskCov_b hc, bnd2_s, if_pos (by decide)])
    · refine op_found S (f := 1) (by decide) (by decide) ?_ ?_
      · unfold f_X6_pairs
        rw [cIsCover, bd_s, hc, if_pos rfl, ix_n hc6 (by decide), gd_t, tn_n (by omega), rf_covers hc6, cMissC_t m1, bd_s, if_pos rfl]
        exact pF (by decide) (by decide)
      · show f_X7_pairs (fd h 1) _ = _
        unfold f_X7_pairs
        rw [mAskCov_m hc6 (by rw [fd_ne (by decide) (by decide)]; exact m2), pB (by decide) (by decide)]
    · have hn := hK.1.2.1
      have hn1 := hK.1.1
      have Lp := prL_pos (ds := ds) (n := n)
      have Ll := prL_le hK
      have cL := cPairsL (sh_cov hc6) hK hC
      obtain ⟨q1, q2⟩ := cl_rf hK
      rw [q1, q2] at cL
      have Sl := rfS_le hK (Nat.le_refl 128)
      have bp := rd_pos (x := rfS ds n 128) Lp
      have Al : rfS ds n 128 / Nat.gcd (rfS ds n 128) (prL ds n) ≤ 40 * prL ds n := Nat.le_trans (Nat.div_le_self _ _) Sl
      have Bl : prL ds n / Nat.gcd (rfS ds n 128) (prL ds n) ≤ prL ds n := Nat.div_le_self _ _
      have xc := rd_cross (x := rfS ds n 128) (y := prL ds n)
      have gM : covM (tlC h (rfS ds n 128) (prL ds n)) c kd n ds cs w wt := covM_of (fun b _ _ => by rw [tlC_1]) hM
      obtain ⟨b, eb, b1, b2, b3, b4⟩ := mPairsL hc6 hK gM
      have c01 := cTold (h := h) (A := 0) (B := 1) (by decide) (by decide) (by decide)
      refine ⟨nI (rfN ds n 128), tlC h (rfS ds n 128) (prL ds n), tlM (tlC h (rfS ds n 128) (prL ds n)) (rfS ds n 128) (prL ds n), ?_, ?_, ?_⟩
      · unfold f_X6_pairs
        rw [cIsCover, bd_s, hc, if_pos rfl, ix_n hc6 (by decide), gd_t, tn_n (by omega), rf_covers hc6, cMissC_f hC.2.1 hK.1.1 (by omega), bd_s, if_neg (by decide), lN_0, lN_one, c01, bd_s, cL, bd_s]
      · show f_X7_pairs (tlC h (rfS ds n 128) (prL ds n)) _ = _
        unfold f_X7_pairs
        rw [mAskCov_o (n := n) hc6 gM.2.1 hK.1.1 (by omega), bnd2_s, if_neg (by decide), eb, bd_s, b1, b2, b3, mTold (by omega) bp (by omega), bnd2_s, b4.2.2.2, tlM_eq bp Lp xc]
      · refine sim_scr S (fun a ha => ?_) ?_ ?_ (sf_told (h := h) rfl) ?_
        · rw [tlM_1, tlC_1]
        · rw [tlM_1, tlC_1]
          exact S.2.2.2.2.1
        · rw [tlM_1, tlC_1]
          exact S.2.2.2.2.2.2.1.1
        · unfold SW
          rw [tlM_w, tlC_w]
          exact S.2.2.2.2.2.2.2
