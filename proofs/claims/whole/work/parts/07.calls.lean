section RC
variable {g : Gx} {l : Launch} {own : String} {cc : ByteArray} {nL fr lo ce : Nat} {V : VT} {ρ : Type} {P : ρ → Prop} {out out2 : Option ρ} {pc n : Nat} {lv : List (Nat × Value)} {st stk rest : List Value} {h : MH} {y : MethodName} {cc' : ByteArray} {nL' fr' lo' : Nat} {rt' : Option FieldType} {av : List Value}
/-! System.arraycopy between int rows -/
def acp (sp dp n : Int32) (n0 n1 : Nat) : Bool := decide ((¬ sp < 0 ∧ ¬ dp < 0 ∧ ¬ n < 0) ∧ sp.toNatClampNeg + n.toNatClampNeg ≤ n0 ∧ dp.toNatClampNeg + n.toNatClampNeg ≤ n1)
def Lac (own : String) (idx : Nat) : Prop := Cond.methodLink own idx arraycopyName ∈ TB ∧ Cond.native arraycopyName ∈ TB ∧ Cond.static arraycopyName ∈ TB ∧ Cond.initialized "java/lang/System" ∈ TB
theorem R_acopy (o : Ok g l own cc nL fr lo 0 V) {idx a b n0 n1 : Nat} {sp dp n : Int32} (d : decode cc pc = .ok (.invokestatic idx, 3)) (lk : Lac own idx) (hs0 : shp a = (10, n0)) (hs1 : shp b = (10, n1)) (hr : 1 ≤ fr ∧ (st.map fun v => v.category).sum + (nativeFrameWords "java/lang/System" "arraycopy" 5 + 11) ≤ lo)
    (t : T P out (V (pc + 3) lv st (uA h b (va_cpy (h.1 a) (h.1 b) sp.toNatClampNeg dp.toNatClampNeg n.toNatClampNeg)))) : T P (gd (acp sp dp n n0 n1) out) (V pc lv (.int n :: .int dp :: rA g b :: .int sp :: rA g a :: st) h) := by
  obtain ⟨p, e, R, s, m, args, below, meth, c, slots, Q, F, rfl⟩ := o
  refine T_gd (fun q => ?_)
  intro r er pr H locs ls hP hz hS hl
  obtain ⟨⟨q1, q2, q3⟩, q4, q5⟩ := of_decide_eq_true (p := (¬ sp < 0 ∧ ¬ dp < 0 ∧ ¬ n < 0) ∧ sp.toNatClampNeg + n.toNatClampNeg ≤ n0 ∧ dp.toNatClampNeg + n.toNatClampNeg ≤ n1) q
  have ha : a < 87 := shp_lt (by rw [hs0]; simp)
  have hb : b < 87 := shp_lt (by rw [hs1]; simp)
  have hw0 : (wld g h)[a]? = some (g.2.2 + a, .inl (g.2.1 0, n0, .inl (h.1 a))) := by rw [wld_at (by omega), cellE_arr hs0 (by simp)]; rfl
  have hw1 : (wld g h)[b]? = some (g.2.2 + b, .inl (g.2.1 0, n1, .inl (h.1 b))) := by rw [wld_at (by omega), cellE_arr hs1 (by simp)]; rfl
  refine va_copyi (ty := .int) F.1 F.2.1 (by rw [F.2.2.1]; exact hl.1.symm) F.2.2.2.1 (F.2.2.2.2.1 _ lk.1) (F.2.2.2.2.1 _ lk.2.1) (F.2.2.2.2.1 _ lk.2.2.1) (F.2.2.2.2.1 _ lk.2.2.2) F.2.2.2.2.2.1 hP (wld_D g h) hS a b 0 0 hw0 hw1 rfl rfl rfl q1 q2 q3 q4 q5 (fun _ _ => rfl) (Nat.le_trans hr.1 F.2.2.2.2.2.2.2.1) (Nat.le_trans hr.2 F.2.2.2.2.2.2.2.2.1) d ?_
  intro H1 locs1 hP1 hD1 hS1
  rw [wld_uA (f := va_cpy (h.1 a) (h.1 b) sp.toNatClampNeg dp.toNatClampNeg n.toNatClampNeg) (by omega) (by rw [cellE_arr hs1 (by simp)]; simp [cellT, uA])] at hP1
  exact fun Tq hT X => t r er pr H1 locs1 ls hP1 (put_sz X hT hS rfl hz hP1) hS1 hl Tq hT X
/-! calls: the core of each: contract and continuation give the call -/
def LkV (own : String) (idx : Nat) (y : MethodName) (cc' : ByteArray) (nL' : Nat) (rt' : Option FieldType) (n : Nat) : Prop :=
  Cond.methodLink own idx y ∈ TB ∧ Cond.instanceMethod y ∈ TB ∧ Cond.selects y.cls y y ∈ TB ∧ Cond.initialized y.cls ∈ TB ∧ Cond.code y cc' nL' rt' ∈ TB ∧ (y.cls ≠ "java/lang/invoke/MethodHandle" ∧ y.cls ≠ "java/lang/invoke/VarHandle" ∧ (parseMethodDescriptor y.desc).map (fun d => d.parameters.length) = some n)
def LkS (own : String) (idx : Nat) (y : MethodName) (cc' : ByteArray) (nL' : Nat) (rt' : Option FieldType) (n : Nat) : Prop :=
  Cond.methodLink own idx y ∈ TB ∧ Cond.static y ∈ TB ∧ Cond.initialized y.cls ∈ TB ∧ Cond.code y cc' nL' rt' ∈ TB ∧ (y.cls ≠ "java/lang/invoke/MethodHandle" ∧ y.cls ≠ "java/lang/invoke/VarHandle" ∧ (parseMethodDescriptor y.desc).map (fun d => d.parameters.length) = some n)
def LkVN (own : String) (idx : Nat) (y : MethodName) (cc' : ByteArray) (nL' : Nat) (rt' : Option FieldType) (n : Nat) : Prop :=
  (∃ host, Cond.methodLinkNest own idx y host ∈ NB) ∧ Cond.instanceMethod y ∈ TB ∧ Cond.selects y.cls y y ∈ TB ∧ Cond.initialized y.cls ∈ TB ∧ Cond.code y cc' nL' rt' ∈ TB ∧ (y.cls ≠ "java/lang/invoke/MethodHandle" ∧ y.cls ≠ "java/lang/invoke/VarHandle" ∧ (parseMethodDescriptor y.desc).map (fun d => d.parameters.length) = some n)
def LkSN (own : String) (idx : Nat) (y : MethodName) (cc' : ByteArray) (nL' : Nat) (rt' : Option FieldType) (n : Nat) : Prop :=
  (∃ host, Cond.methodLinkNest own idx y host ∈ NB) ∧ Cond.static y ∈ TB ∧ Cond.initialized y.cls ∈ TB ∧ Cond.code y cc' nL' rt' ∈ TB ∧ (y.cls ≠ "java/lang/invoke/MethodHandle" ∧ y.cls ≠ "java/lang/invoke/VarHandle" ∧ (parseMethodDescriptor y.desc).map (fun d => d.parameters.length) = some n)
/-- the room that a call takes -/
def Rm (fr lo fr' lo' nL' : Nat) : Bool := Nat.ble (fr' + 1) fr && Nat.ble (8 + (nL' + 11) + lo') lo
theorem Rm_of {R : Room} {fr lo fr' lo' nL' : Nat} (h : Rm fr lo fr' lo' nL' = true) (h1 : fr ≤ R.frames) (h2 : lo ≤ R.locals) : fr' + 1 ≤ R.frames ∧ 8 + (nL' + 11) + lo' ≤ R.locals := by
  simp only [Rm, Bool.and_eq_true, Nat.ble_eq] at h
  omega
theorem call_end {p : Program} {e : Env} {R : Room} {s : State} {m : MethodId} {args : Array Value} {below : List Frame} {meth : Method} {c : Code} {cells slots mc ms : Nat} {Q : State → Prop} {H : Heap} {locs : List Loc} {ls : Array Slot} {h' : MH} {rv : Option Value} {a : Array Value}
    (hr : va_Run p l e R s m args below meth c H locs cells slots mc ms (F0 m pc ls stk) rest (QcR g rv h' a) (AG g)) (hS : va_S (AG g) s.heap H locs) (hl : lv_has ls nL lv)
    (kk : VC g p l e R s m args below meth c nL (cells + mc) (slots + ms) Q (pc + 3) lv (rv.toList ++ rest) h') : W p l e R s m args below meth c H locs cells slots Q (F0 m pc ls stk) := by
  intro T hT X
  obtain ⟨v, st₀, t, T', L, h0, X', hL, e1, e2, ⟨hv, hRep, hzz, hk⟩, st2⟩ := hr T hT X
  cases hv
  obtain ⟨hP, hK, hN, hz⟩ := hRep
  rw [h0] at hzz hk
  obtain ⟨t2, a1, b1⟩ := kk T'.heap (locs ++ L) ls (by rw [e1]; exact hP) (by rw [e1]; exact hz)
    ⟨Nat.le_trans hS.1 (by rw [e1]; exact hzz), fun q h1 h2 => by rw [e1, hk q (Nat.lt_of_lt_of_le h1 hS.1) h2]; exact hS.2.1 q h1 h2, fun q hq => by
      rcases List.mem_append.mp hq with h | h
      · exact hS.2.2 q h
      · exact hL q h⟩ hl T' rfl X'
  exact ⟨t2, st2 t2 a1, b1⟩
theorem recvW {s : State} {H : Heap} {a ci : Nat} {q : vw_C} (hK : va_K g.1 cls8 (tys6 g.2.1) s) (hP : va_P g.1 cls8 (wld g h) H) (hs : shp a = (ci, 0)) (hc : cls8[ci]? = some q) : ∃ cell : Cell, H[g.2.2 + a]? = some cell ∧ cell.vm.isStatics = false ∧ s.vm.findClass q.1 = some cell.cls := by
  have h8 : ci < 8 := (List.getElem?_eq_some_iff.mp hc).1
  have ha : a < 87 := shp_lt (by rw [hs]; show ci ≠ 99; omega)
  exact va_recv hK hP hc (q0 := a) (by rw [wld_at (by omega), cellE_obj hs (by omega)])
theorem callV' (o : Ok g l own cc nL fr lo ce V) {idx a ci : Nat} {As : List Value} {q : vw_C} (d : decode cc pc = .ok (.invokevirtual idx, 3)) (lk : LkV own idx y cc' nL' rt' n) (hrm : Rm fr lo fr' lo' nL' = true) (hs : shp a = (ci, 0)) (hq : cls8[ci]? = some q) (hqy : q.1 = y.cls) (hn : As.length = n) (hst : stk = As.reverse ++ rA g a :: rest) (hrest : (rest.map fun v => v.category).sum ≤ 8) (rv : Option Value) (h' : MH)
    (ct : Ctr g l y cc' nL' rt' fr' lo' 0 (rA g a :: As) h rv h') (kk : V (pc + 3) lv (rv.toList ++ rest) h') : V pc lv stk h := by
  obtain ⟨p, e, R, s, m, args, below, meth, c, slots, Q, F, rfl⟩ := o
  intro H locs ls hP hz hS hl
  obtain ⟨k1, k2, k3, k4, k5, k6⟩ := lk
  obtain ⟨hx, hb, hml, hown, hts, hK, hN, hfr, hlo, hcl, hsl⟩ := F
  have hrec := recvW (h := h) hK hP hs hq
  rw [hqy] at hrec
  refine call_end (mc := 0) (ms := 0 * 5101) (va_runV (As := As) (rest := rest) (b := g.2.2 + a) (C := y.cls) ⟨hx, hb, hml, hown, hts⟩ ct ⟨callB_of n hts (wsM_good k5) rfl rfl rfl (hts _ k4) (hts _ k1) k6 (Rm_of hrm hfr hlo), hts _ k2, hts _ k3⟩ ⟨Rep_blind, hrec, fun U hU hW => ⟨rfl, Rep_of hP hz hK hN hU hW⟩⟩ rfl hn hl.1 hst (lv_room hrest) d ⟨hcl, by simpa using hsl⟩) hS hl ?_
  simpa using kk
theorem callS' (o : Ok g l own cc nL fr lo ce V) {idx : Nat} (d : decode cc pc = .ok (.invokestatic idx, 3)) (lk : LkS own idx y cc' nL' rt' n) (hrm : Rm fr lo fr' lo' nL' = true) (hn : av.length = n) (hst : stk = av.reverse ++ rest) (hrest : (rest.map fun v => v.category).sum ≤ 8) (rv : Option Value) (h' : MH)
    (ct : Ctr g l y cc' nL' rt' fr' lo' 0 av h rv h') (kk : V (pc + 3) lv (rv.toList ++ rest) h') : V pc lv stk h := by
  obtain ⟨p, e, R, s, m, args, below, meth, c, slots, Q, F, rfl⟩ := o
  intro H locs ls hP hz hS hl
  obtain ⟨k1, k2, k4, k5, k6⟩ := lk
  obtain ⟨hx, hb, hml, hown, hts, hK, hN, hfr, hlo, hcl, hsl⟩ := F
  refine call_end (mc := 0) (ms := 0 * 5101) (va_runS (As := av) (rest := rest) ⟨hx, hb, hml, hown, hts⟩ ct ⟨callB_of n hts (wsM_good k5) rfl rfl rfl (hts _ k4) (hts _ k1) k6 (Rm_of hrm hfr hlo), hts _ k2⟩ ⟨Rep_blind, fun U hU hW => ⟨rfl, Rep_of hP hz hK hN hU hW⟩⟩ rfl hn hl.1 hst (lv_room hrest) d ⟨hcl, by simpa using hsl⟩) hS hl ?_
  simpa using kk
theorem callVN' (o : Ok g l own cc nL fr lo ce V) {idx a ci : Nat} {As : List Value} {q : vw_C} (d : decode cc pc = .ok (.invokevirtual idx, 3)) (lk : LkVN own idx y cc' nL' rt' n) (hrm : Rm fr lo fr' lo' nL' = true) (hs : shp a = (ci, 0)) (hq : cls8[ci]? = some q) (hqy : q.1 = y.cls) (hn : As.length = n) (hst : stk = As.reverse ++ rA g a :: rest) (hrest : (rest.map fun v => v.category).sum ≤ 8) (rv : Option Value) (h' : MH)
    (ct : Ctr g l y cc' nL' rt' fr' lo' 0 (rA g a :: As) h rv h') (kk : V (pc + 3) lv (rv.toList ++ rest) h') : V pc lv stk h := by
  obtain ⟨p, e, R, s, m, args, below, meth, c, slots, Q, F, rfl⟩ := o
  intro H locs ls hP hz hS hl
  obtain ⟨⟨host, k1⟩, k2, k3, k4, k5, k6⟩ := lk
  obtain ⟨hx, hb, hml, hown, hts, hK, hN, hfr, hlo, hcl, hsl⟩ := F
  have hrec := recvW (h := h) hK hP hs hq
  rw [hqy] at hrec
  refine call_end (mc := 0) (ms := 0 * 5101) (va_runVN (As := As) (rest := rest) (b := g.2.2 + a) (C := y.cls) ⟨hx, hb, hml, hown, hts⟩ ct ⟨va_cnB n hts (wsM_good k5) rfl rfl rfl (hN _ k1) (hts _ k4) k6 (Rm_of hrm hfr hlo), hts _ k2, hts _ k3⟩ ⟨Rep_blind, hrec, fun U hU hW => ⟨rfl, Rep_of hP hz hK hN hU hW⟩⟩ rfl hn hl.1 hst (lv_room hrest) d ⟨hcl, by simpa using hsl⟩) hS hl ?_
  simpa using kk
theorem callSN' (o : Ok g l own cc nL fr lo ce V) {idx : Nat} (d : decode cc pc = .ok (.invokestatic idx, 3)) (lk : LkSN own idx y cc' nL' rt' n) (hrm : Rm fr lo fr' lo' nL' = true) (hn : av.length = n) (hst : stk = av.reverse ++ rest) (hrest : (rest.map fun v => v.category).sum ≤ 8) (rv : Option Value) (h' : MH)
    (ct : Ctr g l y cc' nL' rt' fr' lo' 0 av h rv h') (kk : V (pc + 3) lv (rv.toList ++ rest) h') : V pc lv stk h := by
  obtain ⟨p, e, R, s, m, args, below, meth, c, slots, Q, F, rfl⟩ := o
  intro H locs ls hP hz hS hl
  obtain ⟨⟨host, k1⟩, k2, k4, k5, k6⟩ := lk
  obtain ⟨hx, hb, hml, hown, hts, hK, hN, hfr, hlo, hcl, hsl⟩ := F
  refine call_end (mc := 0) (ms := 0 * 5101) (va_runSN (As := av) (rest := rest) ⟨hx, hb, hml, hown, hts⟩ ct ⟨va_cnB n hts (wsM_good k5) rfl rfl rfl (hN _ k1) (hts _ k4) k6 (Rm_of hrm hfr hlo), hts _ k2, trivial⟩ ⟨Rep_blind, fun U hU hW => ⟨rfl, Rep_of hP hz hK hN hU hW⟩⟩ rfl hn hl.1 hst (lv_room hrest) d ⟨hcl, by simpa using hsl⟩) hS hl ?_
  simpa using kk
/-- the core of a call: for every answer and world that the contract C allows -/
def Cor (V : VT) (nx : Nat) (lv : List (Nat × Value)) (rest : List Value) (pc : Nat) (stk : List Value) (h : MH) (C : Option Value → MH → Prop) : Prop := ∀ rv h', C rv h' → V nx lv (rv.toList ++ rest) h' → V pc lv stk h
variable {C : Option Value → MH → Prop} {nx : Nat}
theorem K_i {f : Option Int32} {kk : Int32 → Option ρ} (co : Cor V nx lv rest pc stk h C) (ct : ∀ r, f = some r → C (some (.int r)) h) (k : ∀ r, T P (kk r) (V nx lv (.int r :: rest) h)) : T P (f.bind kk) (V pc lv stk h) := by
  intro r e p
  cases f with
  | none => cases e
  | some x => exact co _ _ (ct x rfl) (k x r e p)
theorem K_z {f : Option Bool} {kk : Bool → Option ρ} (co : Cor V nx lv rest pc stk h C) (ct : ∀ r, f = some r → C (some (.int (b2i r))) h) (k : ∀ r, T P (kk r) (V nx lv (.int (b2i r) :: rest) h)) : T P (f.bind kk) (V pc lv stk h) := by
  intro r e p
  cases f with
  | none => cases e
  | some x => exact co _ _ (ct x rfl) (k x r e p)
theorem K_l {f : Option Int64} {kk : Int64 → Option ρ} (co : Cor V nx lv rest pc stk h C) (ct : ∀ r, f = some r → C (some (.long r)) h) (k : ∀ r, T P (kk r) (V nx lv (.long r :: rest) h)) : T P (f.bind kk) (V pc lv stk h) := by
  intro r e p
  cases f with
  | none => cases e
  | some x => exact co _ _ (ct x rfl) (k x r e p)
theorem K_v {f : Option Unit} {kk : Unit → Option ρ} (co : Cor V nx lv rest pc stk h C) (ct : ∀ r, f = some r → C none h) (k : ∀ r, T P (kk r) (V nx lv rest h)) : T P (f.bind kk) (V pc lv stk h) := by
  intro r e p
  cases f with
  | none => cases e
  | some x => exact co _ _ (ct x rfl) (k x r e p)
def bnd2 {α β ρ : Type} (f : Option (α × β)) (k : α → β → Option ρ) : Option ρ := f.bind (fun z => k z.1 z.2)
theorem K_ih {f : Option (Int32 × MH)} {kk : Int32 → MH → Option ρ} (co : Cor V nx lv rest pc stk h C) (ct : ∀ r, f = some r → C (some (.int r.1)) r.2) (k : ∀ r h', T P (kk r h') (V nx lv (.int r :: rest) h')) : T P (bnd2 f kk) (V pc lv stk h) := by
  intro r e p
  cases f with
  | none => cases e
  | some x => exact co _ _ (ct x rfl) (k x.1 x.2 r e p)
theorem K_zh {f : Option (Bool × MH)} {kk : Bool → MH → Option ρ} (co : Cor V nx lv rest pc stk h C) (ct : ∀ r, f = some r → C (some (.int (b2i r.1))) r.2) (k : ∀ r h', T P (kk r h') (V nx lv (.int (b2i r) :: rest) h')) : T P (bnd2 f kk) (V pc lv stk h) := by
  intro r e p
  cases f with
  | none => cases e
  | some x => exact co _ _ (ct x rfl) (k x.1 x.2 r e p)
theorem K_lh {f : Option (Int64 × MH)} {kk : Int64 → MH → Option ρ} (co : Cor V nx lv rest pc stk h C) (ct : ∀ r, f = some r → C (some (.long r.1)) r.2) (k : ∀ r h', T P (kk r h') (V nx lv (.long r :: rest) h')) : T P (bnd2 f kk) (V pc lv stk h) := by
  intro r e p
  cases f with
  | none => cases e
  | some x => exact co _ _ (ct x rfl) (k x.1 x.2 r e p)
theorem K_vh {f : Option MH} {kk : MH → Option ρ} (co : Cor V nx lv rest pc stk h C) (ct : ∀ r, f = some r → C none r) (k : ∀ h', T P (kk h') (V nx lv rest h')) : T P (f.bind kk) (V pc lv stk h) := by
  intro r e p
  cases f with
  | none => cases e
  | some x => exact co _ _ (ct x rfl) (k x r e p)
/-! switches -/
def sw {ρ : Type} (x : Int32) : Nat → List (Option ρ) → Option ρ → Option ρ
  | _, [], D => D
  | k, X :: Xs, D => if x = nI k then X else sw x (k + 1) Xs D
theorem T_sw {x : Int32} {G : Prop} {D : Option ρ} : ∀ (Xs : List (Option ρ)) (k : Nat), (∀ (j : Nat) (X : Option ρ), Xs[j]? = some X → x = nI (k + j) → T P X G) → ((∀ j, j < Xs.length → ¬ x = nI (k + j)) → T P D G) → T P (sw x k Xs D) G
  | [], k, _, hD => hD (fun j hj => absurd hj (Nat.not_lt_zero _))
  | X :: Xs, k, hX, hD => by
    unfold sw
    refine T_ite (fun q => hX 0 X rfl (by simpa using q)) (fun q => ?_)
    refine T_sw Xs (k + 1) (fun j Y hj e => hX (j + 1) Y (by simpa using hj) (by rw [e]; congr 1; omega)) (fun hn => hD (fun j hj => ?_))
    cases j with
    | zero => simpa using q
    | succ j =>
      have := hn j (by simpa using hj)
      rw [show k + (j + 1) = k + 1 + j by omega]
      exact this
def swok (pc : Nat) (offs : Array Int) (tg : List Nat) (N : Nat) : Bool := (List.range N).all (fun j => match offs[j]?, tg[j]? with
  | some of, some tj => decide ((pc : Int) + of = (tj : Int))
  | _, _ => false)
theorem swok_at {pc N : Nat} {offs : Array Int} {tg : List Nat} (h : swok pc offs tg N = true) {j : Nat} (hj : j < N) : ∃ of tj, offs[j]? = some of ∧ tg[j]? = some tj ∧ (pc : Int) + of = (tj : Int) := by
  have h1 := List.all_eq_true.mp h j (List.mem_range.mpr hj)
  cases h2 : offs[j]? with
  | none => simp [h2] at h1
  | some of =>
    cases h3 : tg[j]? with
    | none => simp [h2, h3] at h1
    | some tj => exact ⟨of, tj, rfl, rfl, by simpa [h2, h3] using h1⟩
theorem R_tsw (o : Ok g l own cc nL fr lo ce V) {x : Int32} {dflt : Int} {lo0 hi0 N len : Nat} {offs : Array Int} {Xs : List (Option ρ)} {D : Option ρ} (d : decode cc pc = .ok (.tableswitch dflt (lo0 : Int) (hi0 : Int) offs, len)) (hN : hi0 + 1 = lo0 + N) (hb : hi0 < 1000) (hX : Xs.length = N) (tg : List Nat) (td : Nat) (htg : swok pc offs tg N = true) (htd : (pc : Int) + dflt = (td : Int))
    (ts : ∀ (j : Nat) (X : Option ρ) (tj : Nat), Xs[j]? = some X → tg[j]? = some tj → T P X (V tj lv st h)) (tD : T P D (V td lv st h)) : T P (sw x lo0 Xs D) (V pc lv (.int x :: st) h) := by
  obtain ⟨p, e, R, s, m, args, below, meth, c, slots, Q, F, rfl⟩ := o
  refine T_sw Xs lo0 (fun j X hj ex => ?_) (fun hn => ?_)
  · have hjN : j < N := by rw [← hX]; exact (List.getElem?_eq_some_iff.mp hj).1
    obtain ⟨of, tj, h1, h2, h3⟩ := swok_at htg hjN
    intro r er pr H locs ls hP hz hS hl
    have ext : x.toInt = ((lo0 + j : Nat) : Int) := by rw [ex]; exact nI_toInt (by omega)
    refine lv_tableIn F.1 F.2.1 d (by omega) (by omega) (off := of) ?_ h3 (ts j X tj hj h2 r er pr H locs ls hP hz hS hl)
    rw [ext, show (((lo0 + j : Nat) : Int) - (lo0 : Int)).toNat = j by omega]
    exact h1
  · intro r er pr H locs ls hP hz hS hl
    refine lv_tableOut F.1 F.2.1 d ?_ htd (tD r er pr H locs ls hP hz hS hl)
    by_cases hlo : x.toInt < (lo0 : Int)
    · exact Or.inl hlo
    · right
      by_cases hhi : (hi0 : Int) < x.toInt
      · exact hhi
      · exfalso
        have hj := hn (x.toInt.toNat - lo0) (by rw [hX]; omega)
        apply hj
        apply Int32.toInt_inj.mp
        rw [nI_toInt (by omega)]
        omega
/-! shapes -/
theorem sh_Row_0 {a : Nat} (h : shp a = (5, 0)) : shp (rf a 0) = (10, 60) := by
  have ha : a < 87 := shp_lt (by rw [h]; simp)
  exact (by decide +kernel : ∀ a, a < 87 → shp a = (5, 0) → shp (rf a 0) = (10, 60)) a ha h
theorem sh_Cover_0 {a : Nat} (h : shp a = (1, 0)) : shp (rf a 0) = (10, 40) := by
  have ha : a < 87 := shp_lt (by rw [h]; simp)
  exact (by decide +kernel : ∀ a, a < 87 → shp a = (1, 0) → shp (rf a 0) = (10, 40)) a ha h
theorem sh_Cover_1 {a : Nat} (h : shp a = (1, 0)) : shp (rf a 1) = (10, 40) := by
  have ha : a < 87 := shp_lt (by rw [h]; simp)
  exact (by decide +kernel : ∀ a, a < 87 → shp a = (1, 0) → shp (rf a 1) = (10, 40)) a ha h
theorem sh_Code_0 {a : Nat} (h : shp a = (0, 0)) : shp (rf a 0) = (10, 6) := by
  have ha : a < 87 := shp_lt (by rw [h]; simp)
  exact (by decide +kernel : ∀ a, a < 87 → shp a = (0, 0) → shp (rf a 0) = (10, 6)) a ha h
theorem sh_el {a n tg ci : Nat} (hh : ∀ a, a < 87 → ∀ n, n < 7 → shp a = (tg, n) → ∀ j, j < n → shp (rf a j) = (ci, 0)) (hn : ∀ a, a < 87 → (shp a).1 = tg → (shp a).2 < 7) (ht : tg ≠ 99) {i : Int32} (h : shp a = (tg, n)) (q : ix i n = true) : shp (rf a i.toNatClampNeg) = (ci, 0) := by
  have ha : a < 87 := shp_lt (by rw [h]; exact ht)
  have h1 := hn a ha (by rw [h])
  rw [h] at h1
  have h2 := ix_in q
  exact hh a ha n h1 h _ (Nat.not_le.mp fun z => h2 (Or.inr z))
theorem sh_el13 {a n : Nat} {i : Int32} (h : shp a = (13, n)) (q : ix i n = true) : shp (rf a i.toNatClampNeg) = (5, 0) := sh_el (by decide +kernel) (by decide +kernel) (by decide) h q
theorem sh_el14 {a n : Nat} {i : Int32} (h : shp a = (14, n)) (q : ix i n = true) : shp (rf a i.toNatClampNeg) = (1, 0) := sh_el (by decide +kernel) (by decide +kernel) (by decide) h q
theorem sh_el15 {a n : Nat} {i : Int32} (h : shp a = (15, n)) (q : ix i n = true) : shp (rf a i.toNatClampNeg) = (0, 0) := sh_el (by decide +kernel) (by decide +kernel) (by decide) h q
end RC
