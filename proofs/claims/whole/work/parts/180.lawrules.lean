/-! the law's own body: its script lies outside the world -/
def R_law : String := "HiddenWordsLaw"
def lw_P (b : Addr) (xs : List Int32) (args : Array Value) (s : State) : Prop := args = #[.ref b] ∧ s.IntsAt b xs ∧ xs.length ≤ 3072 ∧ (Jvm.Cond.and given_1 narrow_1).before args s = true
def lw_Q (_ : Array Value) (s : State) (o : Outcome) (t : State) : Prop := o = .returned (some (.int 1)) ∧ Framed s o t [] 600000 7302250
def lw_Z (below : List Frame) (a : Array Value) (s : State) : State → Prop := fun t => ∃ o, t.status = .running ∧ Ended t below o ∧ lw_Q a s o t
/-- the law's own end, with 1 on the stack, nothing written that was there before, its room as the claim has it -/
theorem lw_ret {p : Program} {l : Launch} {e : Env} {s : State} {m : MethodId} {below : List Frame} {meth : Method} {c : Code} {b : Nat} (hx : p.tables.exec = Jvm.exec) (hb : c.code = code) (hr : meth.sig.returnType = ret) (hlocks : meth.locks = false) {pc : Nat} {H : Heap} {ls : Array Slot} (hdg : decode code pc = .ok (.ireturn, 1)) : W p l e room_1 s m #[Value.ref b] below meth c H [] 600000 7302250 (lw_Z below #[Value.ref b] s) (F0 m pc ls [.int 1]) := by
  intro T hT X
  obtain ⟨fs, hret, hrun, hended, hW, hframe⟩ := X.leave (v := some (.int 1)) (hlocks := hlocks) (fun h => by rw [hr] at h; cases h)
  have hmeth' : T.vm.method? m = some meth := X.method'
  refine ⟨T.setFrames fs, ?_, .returned (some (.int 1)), hrun, hended, rfl, ⟨_, rfl⟩, hW, hframe⟩
  jvm_step X.here [X.here.top, hx, hb, hdg, hmeth', hr, ret, narrow_b1]
  (try refine ⟨rfl, ?_⟩); (try refine ⟨rfl, ?_⟩)
  first | (intro acts; rw [hret _ acts rfl rfl rfl]) | rw [hret _ _ rfl rfl rfl]
  exact Steps.refl _
/-- what is known of the law's call -/
def LwC (g : Gx) (b L : Nat) (xs : Nat → Int32) (p : Program) (s : State) (m : MethodId) (meth : Method) (c : Code) (ce sl : Nat) : Prop :=
  Fx g RL cL_law 4 9 342 p room_1 s m #[Value.ref b] c ce sl ∧ va_X b L xs s s.heap ∧ b < s.heap.size ∧ g.2.2 = s.heap.size ∧ meth.sig.returnType = ret ∧ meth.locks = false
def OkS (g : Gx) (l : Launch) (b L : Nat) (xs : Nat → Int32) (ce sl : Nat) (V : VT) : Prop :=
  ∃ (p : Program) (e : Env) (s : State) (m : MethodId) (below : List Frame) (meth : Method) (c : Code), LwC g b L xs p s m meth c ce sl ∧ V = VC g p l e room_1 s m #[Value.ref b] below meth c 4 ce sl (lw_Z below #[Value.ref b] s)
/-- before and behind a call that may make the long row -/
def OkLP (g : Gx) (l : Launch) (b L : Nat) (xs : Nat → Int32) (ce sl : Nat) (V V1 : VT) : Prop :=
  ∃ (p : Program) (e : Env) (s : State) (m : MethodId) (below : List Frame) (meth : Method) (c : Code), LwC g b L xs p s m meth c ce sl ∧ ce + 1 ≤ 600000 ∧ sl + 5101 ≤ 7302250 ∧ V = VC g p l e room_1 s m #[Value.ref b] below meth c 4 ce sl (lw_Z below #[Value.ref b] s) ∧ V1 = VC g p l e room_1 s m #[Value.ref b] below meth c 4 (ce + 1) (sl + 5101) (lw_Z below #[Value.ref b] s)
section LW
variable {g : Gx} {l : Launch} {b L : Nat} {xs : Nat → Int32} {ce sl : Nat} {V V1 : VT} {ρ : Type} {P : ρ → Prop} {out out2 : Option ρ} {pc n : Nat} {lv : List (Nat × Value)} {st stk rest : List Value} {h : MH} {y : MethodName} {cc' : ByteArray} {nL' fr' lo' : Nat} {rt' : Option FieldType} {av : List Value}
theorem OkS.ok (o : OkS g l b L xs ce sl V) : Ok g l RL cL_law 4 9 342 ce V := by
  obtain ⟨p, e, s, m, below, meth, c, F, rfl⟩ := o
  exact ⟨p, e, room_1, s, m, _, below, meth, c, sl, _, F.1, rfl⟩
theorem OkLP.fst (o : OkLP g l b L xs ce sl V V1) : OkS g l b L xs ce sl V := by
  obtain ⟨p, e, s, m, below, meth, c, F, h1, h2, rfl, rfl⟩ := o
  exact ⟨p, e, s, m, below, meth, c, F, rfl⟩
theorem OkLP.snd (o : OkLP g l b L xs ce sl V V1) : OkS g l b L xs (ce + 1) (sl + 5101) V1 := by
  obtain ⟨p, e, s, m, below, meth, c, ⟨⟨f1, f2, f3, f4, f5, f6, f7, f8, f9, f10, f11⟩, F⟩, h1, h2, rfl, rfl⟩ := o
  exact ⟨p, e, s, m, below, meth, c, ⟨⟨f1, f2, f3, f4, f5, f6, f7, f8, f9, h1, h2⟩, F⟩, rfl⟩
theorem OkLP.wide (o : OkLP g l b L xs ce sl V V1) (k : V1 pc lv st h) : V pc lv st h := by
  obtain ⟨p, e, s, m, below, meth, c, F, h1, h2, rfl, rfl⟩ := o
  intro H locs ls hP hz hS hl
  exact W.widen (by omega) (by omega) (k H locs ls hP hz hS hl)
theorem R_aloadS (o : OkS g l b L xs ce sl V) {k : Fin 4} {i : Nat} (j : Nat) (d : decode cL_law pc = .ok (.aload_n k, 1)) (hi : (k : Nat) = i) (hk : lv[j]? = some (i, .ref b)) (t : T P out (V (pc + 1) lv (.ref b :: st) h)) : T P out (V pc lv st h) := by
  obtain ⟨p, e, s, m, below, meth, c, F, rfl⟩ := o
  intro r er pr H locs ls hP hz hS hl
  exact lv_aload_n F.1.1 F.1.2.1 d hi (lv_at hl j hk) (t r er pr H locs ls hP hz hS hl)
theorem R_sld (o : OkS g l b L xs ce sl V) {i : Int32} (d : decode cL_law pc = .ok (.iaload, 1)) (t : T P out (V (pc + 1) lv (.int (xs i.toNatClampNeg) :: st) h)) : T P (gd (ix i L) out) (V pc lv (.int i :: .ref b :: st) h) := by
  obtain ⟨p, e, s, m, below, meth, c, F, rfl⟩ := o
  refine T_gd (fun q => ?_)
  intro r er pr H locs ls hP hz hS hl
  exact va_sld F.1.1 F.1.2.1 F.2.1 F.2.2.1 (A := AG g) (by show ¬ g.2.2 ≤ b; rw [F.2.2.2.1]; exact Nat.not_le.mpr F.2.2.1) hS (ix_in q) d (t r er pr H locs ls hP hz hS hl)
theorem R_slen (o : OkS g l b L xs ce sl V) (d : decode cL_law pc = .ok (.arraylength, 1)) (t : T P out (V (pc + 1) lv (.int (nI L) :: st) h)) : T P out (V pc lv (.ref b :: st) h) := by
  obtain ⟨p, e, s, m, below, meth, c, F, rfl⟩ := o
  intro r er pr H locs ls hP hz hS hl
  exact va_slen F.1.1 F.1.2.1 F.2.1 F.2.2.1 (A := AG g) (by show ¬ g.2.2 ≤ b; rw [F.2.2.2.1]; exact Nat.not_le.mpr F.2.2.1) hS d (t r er pr H locs ls hP hz hS hl)
theorem law_end (o : OkS g l b L xs ce sl V) (d1 : decode cL_law pc = .ok (.iconst 1, 1)) (d2 : decode cL_law (pc + 1) = .ok (.ireturn, 1)) : V pc lv [] h := by
  obtain ⟨p, e, s, m, below, meth, c, F, rfl⟩ := o
  intro H locs ls hP hz hS hl
  refine lv_iconst (v := 1) F.1.1 F.1.2.1 d1 (by decide) ?_
  refine va_forget (fun q hq => ?_) ?_
  · have := hS.2.2 q hq
    have h2 : g.2.2 ≤ q.base := this
    rw [F.2.2.2.1] at h2
    exact h2
  · refine W.widen (k := 600000) (n := 7302250) F.1.2.2.2.2.2.2.2.2.2.1 F.1.2.2.2.2.2.2.2.2.2.2 ?_
    exact lw_ret F.1.1 F.1.2.1 F.2.2.2.2.1 F.2.2.2.2.2 d2
theorem callVL (o : OkLP g l b L xs ce sl V V1) {idx a ci : Nat} {As : List Value} {q : vw_C} (d : decode cL_law pc = .ok (.invokevirtual idx, 3)) (lk : LkV RL idx y cc' nL' rt' n) (hrm : Rm 9 342 fr' lo' nL' = true) (hs : shp a = (ci, 0)) (hq : cls8[ci]? = some q) (hqy : q.1 = y.cls) (hn : As.length = n) (hst : stk = As.reverse ++ rA g a :: rest) (hrest : (rest.map fun v => v.category).sum ≤ 8) (rv : Option Value) (h' : MH)
    (ct : Ctr g l y cc' nL' rt' fr' lo' 1 (rA g a :: As) h rv h') (kk : V1 (pc + 3) lv (rv.toList ++ rest) h') : V pc lv stk h := by
  obtain ⟨p, e, s, m, below, meth, c, ⟨F, -⟩, g1, g2, rfl, rfl⟩ := o
  intro H locs ls hP hz hS hl
  obtain ⟨k1, k2, k3, k4, k5, k6⟩ := lk
  obtain ⟨hx, hb, hml, hown, hts, hK, hN, hfr, hlo, hcl, hsl⟩ := F
  have hrec := recvW (h := h) hK hP hs hq
  rw [hqy] at hrec
  refine call_end (mc := 1) (ms := 1 * 5101) (va_runV (As := As) (rest := rest) (b := g.2.2 + a) (C := y.cls) ⟨hx, hb, hml, hown, hts⟩ ct ⟨callB_of n hts (wsM_good k5) rfl rfl rfl (hts _ k4) (hts _ k1) k6 (Rm_of hrm hfr hlo), hts _ k2, hts _ k3⟩ ⟨Rep_blind, hrec, fun U hU hW => ⟨rfl, Rep_of hP hz hK hN hU hW⟩⟩ rfl hn hl.1 hst (lv_room hrest) d ⟨g1, by show sl + 1 * 5101 ≤ 7302250; omega⟩) hS hl ?_
  exact kk
theorem K1_ih {C : Option Value → MH → Prop} {nx : Nat} {f : Option (Int32 × MH)} {kk : Int32 → MH → Option ρ} (co : Cor1 V V1 nx lv rest pc stk h C) (ct : ∀ r, f = some r → C (some (.int r.1)) r.2) (k : ∀ r h', T P (kk r h') (V1 nx lv (.int r :: rest) h')) : T P (bnd2 f kk) (V pc lv stk h) := by
  intro r e p
  cases f with
  | none => cases e
  | some x => exact co _ _ (ct x rfl) (k x.1 x.2 r e p)
end LW
