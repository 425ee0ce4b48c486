/-! the long row that Mark makes -/
def wok (h : MH) : Bool := decide (h.2.2 = 1)
def lgs (h : MH) (a n : Nat) : Bool := decide (shp a = (12, n)) || (decide (a = 87) && decide (n = 5101) && wok h)
theorem lgs_of {h : MH} {a n : Nat} (q : lgs h a n = true) : LgS h a n := by
  simp only [lgs, wok, Bool.or_eq_true, Bool.and_eq_true, decide_eq_true_eq] at q
  rcases q with q | ⟨⟨q1, q2⟩, q3⟩
  · exact Or.inl q
  · exact Or.inr ⟨q1, q2, q3⟩
abbrev wayC (g : Gx) : Nat × va_E := (g.2.2 + 87, .inl (g.2.1 2, 5101, .inr (.inl (fun _ => 0))))
section AL
variable {g : Gx} {l : Launch} {own : String} {cc : ByteArray} {nL fr lo ce : Nat} {V V1 : VT} {ρ : Type} {P : ρ → Prop} {out out2 : Option ρ} {pc n : Nat} {lv : List (Nat × Value)} {st stk rest : List Value} {h : MH} {y : MethodName} {cc' : ByteArray} {nL' fr' lo' : Nat} {rt' : Option FieldType} {av : List Value}
theorem R_laldG (o : Ok g l own cc nL fr lo ce V) {a n : Nat} {i : Int32} (d : decode cc pc = .ok (.laload, 1)) (t : T P out (V (pc + 1) lv (.long (h.2.1 a i.toNatClampNeg) :: st) h)) : T P (gd (lgs h a n) (gd (ix i n) out)) (V pc lv (.int i :: rA g a :: st) h) := T_gd (fun q => R_lald o d (lgs_of q) t)
theorem R_alenG (o : Ok g l own cc nL fr lo ce V) {a n : Nat} (d : decode cc pc = .ok (.arraylength, 1)) {v : Int32} (hv : Int32.ofNat n = v) (t : T P out (V (pc + 1) lv (.int v :: st) h)) : T P (gd (lgs h a n) out) (V pc lv (rA g a :: st) h) := T_gd (fun q => R_alenL o d (lgs_of q) hv t)
theorem R_lastG (o : Ok g l own cc nL fr lo ce V) {a n : Nat} {i : Int32} {x : Int64} (hce : ce = 0 ∨ a = 87) (d : decode cc pc = .ok (.lastore, 1)) (t : T P out (V (pc + 1) lv st (uL h a i.toNatClampNeg x))) : T P (gd (lgs h a n) (gd (ix i n) out)) (V pc lv (.long x :: .int i :: rA g a :: st) h) := by
  refine T_gd (fun q0 => ?_)
  have hs := lgs_of q0
  rcases hce with rfl | rfl
  · exact R_last o d hs t
  obtain ⟨p, e, R, s, m, args, below, meth, c, slots, Q, F, rfl⟩ := o
  refine T_gd (fun q => ?_)
  intro r er pr H locs ls hP hz hS hl
  refine va_last F.1 F.2.1 F.2.2.2.2.2.1 hP (wld_D g h) hS 87 2 (LgS_at hs).1 rfl (ix_in q) d ?_
  intro H1 locs1 hP1 hD1 hS1
  rw [wld_uL hs] at hP1
  have hw : h.2.2 = 1 := by
    rcases hs with hs | ⟨-, -, hs⟩
    · have h1 : shp 87 = (99, 0) := by decide +kernel
      rw [h1] at hs
      have h2 := congrArg Prod.fst hs
      simp at h2
    · exact hs
  exact t r er pr H1 locs1 ls hP1 (fun z => by have : h.2.2 = 0 := z; omega) hS1 hl
theorem R_getW (o : Ok g l own cc nL fr lo ce V) {idx : Nat} (d : decode cc pc = .ok (.getfield idx, 3)) (hf : Fl own idx 4 1) (t : T P out (V (pc + 3) lv (rA g 87 :: st) h)) : T P (gd (wok h) out) (V pc lv (rA g 14 :: st) h) := by
  refine T_gd (fun q => ?_)
  have hw : h.2.2 = 1 := of_decide_eq_true q
  refine fun r er pr => getV o d hf (by decide +kernel) (by decide) (t := 3) rfl ?_
  have e : fv g h 14 1 3 = rA g 87 := by simp [fv, hw]
  rw [e]
  exact t r er pr
/-- two judgements of one body: before and behind the making of the row -/
def OkP (g : Gx) (l : Launch) (own : String) (cc : ByteArray) (nL fr lo : Nat) (V V1 : VT) : Prop :=
  ∃ (p : Program) (e : Env) (R : Room) (s : State) (m : MethodId) (args : Array Value) (below : List Frame) (meth : Method) (c : Code) (Q : State → Prop), Fx g own cc nL fr lo p R s m args c 0 0 ∧ 1 ≤ R.cells ∧ 5101 ≤ R.slots ∧ V = VC g p l e R s m args below meth c nL 0 0 Q ∧ V1 = VC g p l e R s m args below meth c nL 1 5101 Q
theorem OkP.fst (o : OkP g l own cc nL fr lo V V1) : Ok g l own cc nL fr lo 0 V := by
  obtain ⟨p, e, R, s, m, args, below, meth, c, Q, F, h1, h2, rfl, rfl⟩ := o
  exact ⟨p, e, R, s, m, args, below, meth, c, 0, Q, F, rfl⟩
theorem OkP.snd (o : OkP g l own cc nL fr lo V V1) : Ok g l own cc nL fr lo 1 V1 := by
  obtain ⟨p, e, R, s, m, args, below, meth, c, Q, F, h1, h2, rfl, rfl⟩ := o
  obtain ⟨f1, f2, f3, f4, f5, f6, f7, f8, f9, f10, f11⟩ := F
  exact ⟨p, e, R, s, m, args, below, meth, c, 5101, Q, ⟨f1, f2, f3, f4, f5, f6, f7, f8, f9, h1, h2⟩, rfl⟩
theorem OkP.wide (o : OkP g l own cc nL fr lo V V1) (k : V1 pc lv st h) : V pc lv st h := by
  obtain ⟨p, e, R, s, m, args, below, meth, c, Q, F, h1, h2, rfl, rfl⟩ := o
  intro H locs ls hP hz hS hl
  exact W.widen (by omega) (by omega) (k H locs ls hP hz hS hl)
theorem OkP.T (o : OkP g l own cc nL fr lo V V1) (t : T P out (V1 pc lv st h)) : T P out (V pc lv st h) := fun r er pr => o.wide (t r er pr)
theorem callV1 (o : OkP g l own cc nL fr lo V V1) {idx a ci : Nat} {As : List Value} {q : vw_C} (d : decode cc pc = .ok (.invokevirtual idx, 3)) (lk : LkV own idx y cc' nL' rt' n) (hrm : Rm fr lo fr' lo' nL' = true) (hs : shp a = (ci, 0)) (hq : cls8[ci]? = some q) (hqy : q.1 = y.cls) (hn : As.length = n) (hst : stk = As.reverse ++ rA g a :: rest) (hrest : (rest.map fun v => v.category).sum ≤ 8) (rv : Option Value) (h' : MH)
    (ct : Ctr g l y cc' nL' rt' fr' lo' 1 (rA g a :: As) h rv h') (kk : V1 (pc + 3) lv (rv.toList ++ rest) h') : V pc lv stk h := by
  obtain ⟨p, e, R, s, m, args, below, meth, c, Q, F, g1, g2, rfl, rfl⟩ := o
  intro H locs ls hP hz hS hl
  obtain ⟨k1, k2, k3, k4, k5, k6⟩ := lk
  obtain ⟨hx, hb, hml, hown, hts, hK, hN, hfr, hlo, hcl, hsl⟩ := F
  have hrec := recvW (h := h) hK hP hs hq
  rw [hqy] at hrec
  refine call_end (mc := 1) (ms := 1 * 5101) (va_runV (As := As) (rest := rest) (b := g.2.2 + a) (C := y.cls) ⟨hx, hb, hml, hown, hts⟩ ct ⟨callB_of n hts (wsM_good k5) rfl rfl rfl (hts _ k4) (hts _ k1) k6 (Rm_of hrm hfr hlo), hts _ k2, hts _ k3⟩ ⟨Rep_blind, hrec, fun U hU hW => ⟨rfl, Rep_of hP hz hK hN hU hW⟩⟩ rfl hn hl.1 hst (lv_room hrest) d ⟨by omega, by omega⟩) hS hl ?_
  exact kk
/-- a core of a call that goes over to the second judgement -/
def Cor1 (V V1 : VT) (nx : Nat) (lv : List (Nat × Value)) (rest : List Value) (pc : Nat) (stk : List Value) (h : MH) (C : Option Value → MH → Prop) : Prop := ∀ rv h', C rv h' → V1 nx lv (rv.toList ++ rest) h' → V pc lv stk h
theorem K1_lh {C : Option Value → MH → Prop} {nx : Nat} {f : Option (Int64 × MH)} {kk : Int64 → MH → Option ρ} (co : Cor1 V V1 nx lv rest pc stk h C) (ct : ∀ r, f = some r → C (some (.long r.1)) r.2) (k : ∀ r h', T P (kk r h') (V1 nx lv (.long r :: rest) h')) : T P (bnd2 f kk) (V pc lv stk h) := by
  intro r e p
  cases f with
  | none => cases e
  | some x => exact co _ _ (ct x rfl) (k x.1 x.2 r e p)
theorem mkC1l {r : Int64} {h' : MH} (hy : plainFor y = true) (hlen : (lg_sl av).length ≤ nL) (body : ∀ V V1 Rt, OkP g l y.cls cc nL fr lo V V1 → ORl cc V Rt → ORl cc V1 Rt → Rt (some (.long r)) h' → V 0 (lv_args 0 av) [] h) : Ctr g l y cc nL (some .long) fr lo 1 av h (some (.long r)) h' := by
  refine mkC_core hy hlen ?_
  intro p e R s m args below meth c F hRc hRs hr hlk
  have key : ORl cc (VC g p l e R s m args below meth c nL 1 5101 (MQ below (QcR g (some (.long r)) h') args s 1 (1 * 5101) (AG g))) (fun v k => v = some (.long r) ∧ k = h') := by
    intro pc lv v k d hv H locs ls hP hz hS hl
    obtain ⟨hv, rfl⟩ := hv
    exact W.lret F.1 F.2.1 hr (fun t ht hW => ⟨by rw [hv], Rep_of hP hz F.2.2.2.2.2.1 F.2.2.2.2.2.2.1 ht hW, hS.F ht⟩) hS.2.2 d hlk
  refine body _ _ (fun v k => v = some (.long r) ∧ k = h') ⟨p, e, R, s, m, args, below, meth, c, _, F, by omega, by omega, rfl, rfl⟩ ?_ key ⟨rfl, rfl⟩
  intro pc lv v k d hv H locs ls hP hz hS hl
  exact W.widen (by omega) (by omega) (key pc lv v k d hv H locs ls hP hz hS hl)
theorem mkC1i {r : Int32} {h' : MH} (hy : plainFor y = true) (hlen : (lg_sl av).length ≤ nL) (body : ∀ V V1 Rt, OkP g l y.cls cc nL fr lo V V1 → ORi cc V Rt → ORi cc V1 Rt → Rt (some (.int r)) h' → V 0 (lv_args 0 av) [] h) : Ctr g l y cc nL (some .int) fr lo 1 av h (some (.int r)) h' := by
  refine mkC_core hy hlen ?_
  intro p e R s m args below meth c F hRc hRs hr hlk
  have key : ORi cc (VC g p l e R s m args below meth c nL 1 5101 (MQ below (QcR g (some (.int r)) h') args s 1 (1 * 5101) (AG g))) (fun v k => v = some (.int r) ∧ k = h') := by
    intro pc lv v k d hv H locs ls hP hz hS hl
    obtain ⟨hv, rfl⟩ := hv
    exact W.iret F.1 F.2.1 hr (fun t ht hW => ⟨by rw [hv], Rep_of hP hz F.2.2.2.2.2.1 F.2.2.2.2.2.2.1 ht hW, hS.F ht⟩) hS.2.2 d hlk
  refine body _ _ (fun v k => v = some (.int r) ∧ k = h') ⟨p, e, R, s, m, args, below, meth, c, _, F, by omega, by omega, rfl, rfl⟩ ?_ key ⟨rfl, rfl⟩
  intro pc lv v k d hv H locs ls hP hz hS hl
  exact W.widen (by omega) (by omega) (key pc lv v k d hv H locs ls hP hz hS hl)
theorem flds_w (hL : (uW h).2.1 n = h.2.1 n) : ∀ (ts : List Nat) (k : Nat), (∀ t ∈ ts, t < 3) → flds g (uW h) n ts k = flds g h n ts k
  | [], _, _ => rfl
  | t :: ts, k, ht => by
    show fv g (uW h) n k t :: _ = fv g h n k t :: _
    rw [flds_w hL ts (k + 1) (fun t h2 => ht t (List.mem_cons_of_mem _ h2))]
    congr 1
    have h3 := ht t List.mem_cons_self
    match t, h3 with
    | 0, _ => rfl
    | 1, _ => rfl
    | 2, _ => show Value.long _ = Value.long _; rw [hL]
    | t + 3, h3 => omega
theorem cellT_congr {h' : MH} {a : Nat} {q : Nat × Nat} (hI : h'.1 a = h.1 a) (hL : h'.2.1 a = h.2.1 a) (hf : flds g h' a (fty q.1) 0 = flds g h a (fty q.1) 0) : cellT g h' a q = cellT g h a q := by
  obtain ⟨tg, n⟩ := q
  unfold cellT
  simp only [hI, hL]
  split <;> first | rfl | (simp only at hf; rw [hf])
theorem wld_uW (hw : h.2.2 = 0) : wld g (uW h) = (wld g h).set 14 (g.2.2 + 14, .inr (4, (flds g h 14 (fty 4) 0).set 1 (rA g 87))) ++ [wayC g] := by
  apply List.ext_getElem?
  intro i
  have hlen : (wld g h).length = 87 := by simp [wld, hw]
  by_cases hi : i < 87
  · rw [wld_at (by show i < 87 + 1; omega), List.getElem?_append_left (by simpa [hlen] using hi)]
    by_cases h14 : i = 14
    · subst h14
      rw [List.getElem?_set_self (by omega), cellE_obj (ci := 4) (by decide +kernel) (by decide)]
      have e1 : flds g (uW h) 14 (fty 4) 0 = (flds g h 14 (fty 4) 0).set 1 (rA g 87) := rfl
      rw [e1]
    · rw [List.getElem?_set_ne (fun q => h14 q.symm), wld_at (by omega)]
      have key : cellE g (uW h) i = cellE g h i := by
        have h87 : i ≠ 87 := by omega
        unfold cellE
        rw [if_neg h87, if_neg h87]
        have hL : (uW h).2.1 i = h.2.1 i := by
          funext j
          simp [uW, h87]
        refine cellT_congr rfl hL (flds_w hL _ _ ?_)
        have hh : ∀ i, i < 87 → i ≠ 14 → ∀ t ∈ fty (shp i).1, t < 3 := by decide +kernel
        exact hh i hi h14
      rw [key]
  · by_cases h87 : i = 87
    · subst h87
      rw [wld_at (by show 87 < 87 + 1; omega), List.getElem?_append_right (by simp [hlen])]
      have : ∀ z, ([z] : va_W)[87 - ((wld g h).set 14 (g.2.2 + 14, .inr (4, (flds g h 14 (fty 4) 0).set 1 (rA g 87)))).length]? = some z := by
        intro z
        simp [hlen]
      rw [this]
      rfl
    · rw [wld_out (by show 87 + 1 ≤ i; omega), List.getElem?_eq_none (by simp [hlen]; omega)]
/-- Mark.countUpTo's first lines: the row is made, if it isn't there -/
theorem R_make (o : OkP g l own cc nL fr lo V V1) {i1 i2 : Nat} {off : Int} (d1 : decode cc pc = .ok (.getfield i1, 3)) (d2 : decode cc (pc + 3) = .ok (.ifnonnull off, 3)) (d3 : decode cc (pc + 3 + 3) = .ok (.aload_n 0, 1)) (d4 : decode cc (pc + 3 + 3 + 1) = .ok (.sipush 5101, 3)) (d5 : decode cc (pc + 3 + 3 + 1 + 3) = .ok (.newarray .long, 2)) (d6 : decode cc (pc + 3 + 3 + 1 + 3 + 2) = .ok (.putfield i2, 3)) (ht : ((pc + 3 : Nat) : Int) + off = ((pc + 3 + 3 + 1 + 3 + 2 + 3 : Nat) : Int))
    (hf : Fl own i1 4 1) (hfp : Flp own i2 4 1 (.array .long)) (hA : Cond.arrayClass .long ∈ TB) (h0 : lv[0]? = some (0, rA g 14))
    (t1 : T P out (V1 (pc + 3 + 3 + 1 + 3 + 2 + 3) lv [] (uW h))) (t2 : T P out2 (V1 (pc + 3 + 3 + 1 + 3 + 2 + 3) lv [] h)) : T P (if h.2.2 = 0 then out else out2) (V pc lv [rA g 14] h) := by
  refine T_ite (fun q => ?_) (fun q => ?_)
  · refine fun r er pr => getV o.fst d1 hf (by decide +kernel) (by decide) (t := 3) rfl ?_
    have e : fv g h 14 1 3 = .null := by simp [fv, q]
    rw [e]
    have k := t1 r er pr
    obtain ⟨p, e, R, s, m, args, below, meth, c, Q, F, g1, g2, rfl, rfl⟩ := o
    intro H locs ls hP hz hS hl
    refine lv_ifnonnullN F.1 F.2.1 d2 ?_
    refine lv_aload_n F.1 F.2.1 d3 rfl (lv_at hl 0 h0) ?_
    refine lv_sipush (v := 5101) F.1 F.2.1 d4 (by decide) ?_
    refine va_newaK (N := 5101) F.1 F.2.1 (atype := .long) (F.2.2.2.2.1 _ hA) rfl d5 rfl (by decide) (by decide) (by decide) (by omega) (by omega) (hz q) ?_
    intro H1 cA e1 z1 o1 hAr hNm
    have hcA : cA = g.2.1 2 := by
      have h2 := (F.2.2.2.2.2.1.2 2 (g.2.1 2, .long) rfl).2
      have h3 : s.vm.findClass ("[" ++ (FieldType.long).toString) = some (g.2.1 2) := h2
      exact Option.some.inj (hNm.symm.trans h3)
    subst hcA
    have hPk : va_P g.1 cls8 (wld g h) H1 := hP.kept (fun k x hx => o1 x.1 (by have := (hP k x hx).lt; have h8 := hz q; omega))
    have hPn : va_P g.1 cls8 (wld g h ++ [wayC g]) H1 := hPk.app (fun k x hx => by
      have hz2 : k < 1 := (List.getElem?_eq_some_iff.mp hx).1
      rw [show k = 0 by omega] at hx
      cases hx
      exact e1)
    have hD : va_D (AG g) (wld g h ++ [wayC g]) := (wld_D g h).push hP (hz q).symm (Nat.le_add_right _ _)
    have hS1 : va_S (AG g) s.heap H1 locs := ⟨Nat.le_trans hS.1 (by have h8 := hz q; omega), fun x h1 h2 => (o1 x (by have h8 := hz q; have := hS.1; omega)).trans (hS.2.1 x h1 h2), hS.2.2⟩
    obtain ⟨C, Tt, N, ty0, c1, c2, c3, c3a, c3b, c3c, c3d, c4, c5⟩ := hfp
    have hw : (wld g h ++ [wayC g])[14]? = some (g.2.2 + 14, .inr (4, flds g h 14 (fty 4) 0)) := by
      rw [List.getElem?_append_left (by simp [wld, q]), wld_at (by omega), cellE_obj (ci := 4) (by decide +kernel) (by decide)]
    have hset : (wld g h ++ [wayC g]).set 14 (g.2.2 + 14, .inr (4, (flds g h 14 (fty 4) 0).set 1 (rA g 87))) = wld g (uW h) := by
      rw [wld_uW q, List.set_append_left _ _ (by simp [wld, q])]
    rcases c5 with c5 | ⟨host, c5⟩
    · refine va_put F.1 F.2.1 F.2.2.2.2.1 c3 ty0 c3a c3b F.2.2.2.1 F.2.2.2.2.2.1 hPn hD hS1 14 hw c1 1 c2 (F.2.2.2.2.1 _ c5) (fun x hx => by rw [c4] at hx; exact hx) c3c c3d (v := rA g 87) rfl rfl (by rw [flds_len]; decide) d6 ?_
      intro H2 locs2 hP2 hD2 hS2
      rw [hset] at hP2
      exact k H2 locs2 ls hP2 (fun z => by cases z) hS2 hl
    · refine va_putN F.1 F.2.1 F.2.2.2.2.1 c3 ty0 c3a c3b F.2.2.2.1 F.2.2.2.2.2.1 hPn hD hS1 14 hw c1 1 c2 (va_Nw.use rfl (F.2.2.2.2.2.2.1 _ c5)) (fun x hx => by rw [c4] at hx; exact hx) c3c c3d (v := rA g 87) rfl rfl (by rw [flds_len]; decide) d6 ?_
      intro H2 locs2 hP2 hD2 hS2
      rw [hset] at hP2
      exact k H2 locs2 ls hP2 (fun z => by cases z) hS2 hl
  · refine fun r er pr => getV o.fst d1 hf (by decide +kernel) (by decide) (t := 3) rfl ?_
    have e : fv g h 14 1 3 = rA g 87 := by simp [fv, q]
    rw [e]
    have k := o.wide (t2 r er pr)
    obtain ⟨p, e, R, s, m, args, below, meth, c, Q, F, g1, g2, rfl, rfl⟩ := o
    intro H locs ls hP hz hS hl
    exact lv_ifnonnull F.1 F.2.1 d2 ht (k H locs ls hP hz hS hl)
end AL
