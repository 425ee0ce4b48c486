/-! words, worlds, contracts -/
def TB : List Cond := lw_tbl.filter goodWord
def nWq : Cond → Bool
  | .fieldLinkNest _ _ _ _ _ _ => true
  | .methodLinkNest _ _ _ _ => true
  | _ => false
def NB : List Cond := tables_1.filter nWq
theorem TB_good : ∀ w ∈ TB, goodWord w = true := fun w h => (List.mem_filter.mp h).2
theorem TB_mem {w : Cond} (i : Nat) (h : lw_tbl[i]? = some w) (hg : goodWord w = true) : w ∈ TB := List.mem_filter.mpr ⟨List.mem_of_getElem? h, hg⟩
theorem NB_mem {w : Cond} (i : Nat) (h : tables_1[i]? = some w) (hg : nWq w = true) : w ∈ NB := List.mem_filter.mpr ⟨List.mem_of_getElem? h, hg⟩
theorem NB_warm {s U : State} (hW : s.WarmedH U.vm) (h : ∀ w ∈ NB, va_Nw w s) : ∀ w ∈ NB, va_Nw w U := by
  intro w hw
  have h1 := h w hw
  have h2 := (List.mem_filter.mp hw).2
  cases w <;> first | exact va_Nw.warmF hW h1 | exact va_Nw.warmM hW h1 | cases h2
theorem NB_same {u U : State} (hv : u.vm = U.vm) (h : ∀ w ∈ NB, va_Nw w u) : ∀ w ∈ NB, va_Nw w U := by
  intro w hw
  have h1 := h w hw
  have h2 := (List.mem_filter.mp hw).2
  cases w <;> first | exact va_Nw.same rfl hv h1 | cases h2
def wsM (y : MethodName) (cc : ByteArray) (nL : Nat) (rt : Option FieldType) : List Cond := .code y cc nL rt :: TB
theorem wsM_good {y : MethodName} {cc : ByteArray} {nL : Nat} {rt : Option FieldType} (h : Cond.code y cc nL rt ∈ TB) : GoodIn TB (wsM y cc nL rt) := by
  intro w hw
  rcases List.mem_cons.mp hw with e | e
  · subst e
    exact ⟨h, good_of_word (TB_good _ h)⟩
  · exact ⟨e, good_of_word (TB_good _ e)⟩
/-- a state's heap holds the world h -/
def Rep (g : Gx) (h : MH) (U : State) : Prop := va_P g.1 cls8 (wld g h) U.heap ∧ va_K g.1 cls8 (tys6 g.2.1) U ∧ (∀ w ∈ NB, va_Nw w U) ∧ (h.2.2 = 0 → U.heap.size = g.2.2 + 87)
def QcR (g : Gx) (rv : Option Value) (h : MH) : Array Value → State → Outcome → State → Prop := fun _ st oc t => oc = .returned rv ∧ Rep g h t ∧ va_F (AG g) st t
/-- the contract of a method at arguments av in the world h: it answers rv and leaves h'; al: whether it may make the long row -/
def Ctr (g : Gx) (l : Launch) (y : MethodName) (cc : ByteArray) (nL : Nat) (rt : Option FieldType) (fr lo al : Nat) (av : List Value) (h : MH) (rv : Option Value) (h' : MH) : Prop :=
  Met l y (wsM y cc nL rt) { frames := fr, cells := al, slots := al * 5101, locals := lo } (va_Pc av (Rep g h)) (QcR g rv h') al (al * 5101) (AG g)
abbrev VT : Type := Nat → List (Nat × Value) → List Value → MH → Prop
/-- V is a walk's judgement of the body of a method: its code cc, its class own, its room -/
def VC (g : Gx) (p : Program) (l : Launch) (e : Env) (R : Room) (s : State) (m : MethodId) (args : Array Value) (below : List Frame) (meth : Method) (c : Code) (nL cells slots : Nat) (Q : State → Prop) : VT := fun pc lv st h =>
  ∀ (H : Heap) (locs : List Loc) (ls : Array Slot), va_P g.1 cls8 (wld g h) H → (h.2.2 = 0 → H.size = g.2.2 + 87) → va_S (AG g) s.heap H locs → lv_has ls nL lv → W p l e R s m args below meth c H locs cells slots Q (F0 m pc ls st)
def Fx (g : Gx) (own : String) (cc : ByteArray) (nL fr lo : Nat) (p : Program) (R : Room) (s : State) (m : MethodId) (args : Array Value) (c : Code) (cells slots : Nat) : Prop :=
  p.tables.exec = Jvm.exec ∧ c.code = cc ∧ c.maxLocals = nL ∧ s.vm.findClass own = some m.cls ∧ (∀ w ∈ TB, w.before args s = true) ∧ va_K g.1 cls8 (tys6 g.2.1) s ∧ (∀ w ∈ NB, va_Nw w s) ∧ fr ≤ R.frames ∧ lo ≤ R.locals ∧ cells ≤ R.cells ∧ slots ≤ R.slots
def Ok (g : Gx) (l : Launch) (own : String) (cc : ByteArray) (nL fr lo ce : Nat) (V : VT) : Prop :=
  ∃ (p : Program) (e : Env) (R : Room) (s : State) (m : MethodId) (args : Array Value) (below : List Frame) (meth : Method) (c : Code) (slots : Nat) (Q : State → Prop), Fx g own cc nL fr lo p R s m args c ce slots ∧ V = VC g p l e R s m args below meth c nL ce slots Q
def ORi (cc : ByteArray) (V : VT) (Rt : Option Value → MH → Prop) : Prop := ∀ pc lv v h, decode cc pc = .ok (.ireturn, 1) → Rt (some (.int v)) h → V pc lv [.int v] h
def b2i (b : Bool) : Int32 := if b then 1 else 0
def ORz (cc : ByteArray) (V : VT) (Rt : Option Value → MH → Prop) : Prop := ∀ pc lv (b : Bool) h, decode cc pc = .ok (.ireturn, 1) → Rt (some (.int (b2i b))) h → V pc lv [.int (b2i b)] h
def ORl (cc : ByteArray) (V : VT) (Rt : Option Value → MH → Prop) : Prop := ∀ pc lv v h, decode cc pc = .ok (.lreturn, 1) → Rt (some (.long v)) h → V pc lv [.long v] h
def ORv (cc : ByteArray) (V : VT) (Rt : Option Value → MH → Prop) : Prop := ∀ pc lv h, decode cc pc = .ok (.return_, 1) → Rt none h → V pc lv [] h
theorem Rep_blind {g : Gx} {h : MH} {av : List Value} : FrameBlind (va_Pc av (Rep g h)) := by
  intro a U g' mk q
  obtain ⟨q0, qP, qK, qN, qz⟩ := q
  exact ⟨q0, qP, va_K.moved (u := U) (U := U.calling g' mk a) (Vm.Alike.refl U.vm) qK, NB_same (u := U) (U := U.calling g' mk a) rfl qN, qz⟩
theorem Rep_of {g : Gx} {h : MH} {s U : State} {H : Heap} (hP : va_P g.1 cls8 (wld g h) H) (hz : h.2.2 = 0 → H.size = g.2.2 + 87) (hK : va_K g.1 cls8 (tys6 g.2.1) s) (hN : ∀ w ∈ NB, va_Nw w s) (hU : U.heap = H) (hW : s.WarmedH U.vm) : Rep g h U :=
  ⟨by rw [hU]; exact hP, va_K.moved hW.alike hK, NB_warm hW hN, by rw [hU]; exact hz⟩
theorem va_sz {g : Gx} {h : MH} {H : Heap} (hP : va_P g.1 cls8 (wld g h) H) : g.2.2 + 87 ≤ H.size := by
  have h1 := (hP 86 _ (wld_at (by omega))).lt
  have h2 : g.2.2 + 86 < H.size := h1
  omega
theorem mkC_core {g : Gx} {l : Launch} {y : MethodName} {cc : ByteArray} {nL fr lo al : Nat} {rt : Option FieldType} {av : List Value} {h h' : MH} {rv : Option Value} (hy : plainFor y = true) (hlen : (lg_sl av).length ≤ nL)
    (body : ∀ (p : Program) (e : Env) (R : Room) (s : State) (m : MethodId) (args : Array Value) (below : List Frame) (meth : Method) (c : Code), Fx g y.cls cc nL fr lo p R s m args c 0 0 → R.cells = al → R.slots = al * 5101 → meth.sig.returnType = rt → meth.locks = false →
      VC g p l e R s m args below meth c nL 0 0 (MQ below (QcR g rv h') args s al (al * 5101) (AG g)) 0 (lv_args 0 av) [] h) : Ctr g l y cc nL rt fr lo al av h rv h' := by
  refine va_MetF (cc := cc) (maxL := nL) (ret := rt) hy rfl ?_
  intro p e s m args below meth c s₁ B hml hv
  obtain ⟨rfl, hP, hK, hN, hz⟩ := hv
  have hts := atoms_spec (ws := wsM y cc nL rt) B.pre
  have hl := lv_entry av (n := nL) hlen
  rw [lg_entry_eq]
  exact body p e _ s m _ below meth c ⟨B.exec, B.bytes, hml, findClass_of_methodNamed B.named, fun w hw => hts w (List.mem_cons_of_mem _ hw), hK, hN, Nat.le_refl _, Nat.le_refl _, Nat.zero_le _, Nat.zero_le _⟩ rfl rfl B.returns B.notSynchronized s.heap [] _ hP hz va_S.rf hl
section MK
variable {g : Gx} {l : Launch} {y : MethodName} {cc : ByteArray} {nL fr lo : Nat} {av : List Value} {h h' : MH}
theorem mkCi {r : Int32} (hy : plainFor y = true) (hlen : (lg_sl av).length ≤ nL) (body : ∀ V Rt, Ok g l y.cls cc nL fr lo 0 V → ORi cc V Rt → Rt (some (.int r)) h' → V 0 (lv_args 0 av) [] h) : Ctr g l y cc nL (some .int) fr lo 0 av h (some (.int r)) h' := by
  refine mkC_core hy hlen ?_
  intro p e R s m args below meth c F _ _ hr hlk
  refine body _ (fun v k => v = some (.int r) ∧ k = h') ⟨p, e, R, s, m, args, below, meth, c, 0, _, F, rfl⟩ ?_ ⟨rfl, rfl⟩
  intro pc lv v k d hv H locs ls hP hz hS hl
  obtain ⟨hv, rfl⟩ := hv
  exact W.iret F.1 F.2.1 hr (fun t ht hW => ⟨by rw [hv], Rep_of hP hz F.2.2.2.2.2.1 F.2.2.2.2.2.2.1 ht hW, hS.F ht⟩) hS.2.2 d hlk
theorem mkCz {r : Bool} (hy : plainFor y = true) (hlen : (lg_sl av).length ≤ nL) (body : ∀ V Rt, Ok g l y.cls cc nL fr lo 0 V → ORz cc V Rt → Rt (some (.int (b2i r))) h' → V 0 (lv_args 0 av) [] h) : Ctr g l y cc nL (some .boolean) fr lo 0 av h (some (.int (b2i r))) h' := by
  refine mkC_core hy hlen ?_
  intro p e R s m args below meth c F _ _ hr hlk
  refine body _ (fun v k => v = some (.int (b2i r)) ∧ k = h') ⟨p, e, R, s, m, args, below, meth, c, 0, _, F, rfl⟩ ?_ ⟨rfl, rfl⟩
  intro pc lv v k d hv H locs ls hP hz hS hl
  obtain ⟨hv, rfl⟩ := hv
  exact W.zret (ty := .boolean) F.1 F.2.1 hr (by cases v <;> rfl) (fun t ht hW => ⟨by rw [hv], Rep_of hP hz F.2.2.2.2.2.1 F.2.2.2.2.2.2.1 ht hW, hS.F ht⟩) hS.2.2 d hlk
theorem mkCl {r : Int64} (hy : plainFor y = true) (hlen : (lg_sl av).length ≤ nL) (body : ∀ V Rt, Ok g l y.cls cc nL fr lo 0 V → ORl cc V Rt → Rt (some (.long r)) h' → V 0 (lv_args 0 av) [] h) : Ctr g l y cc nL (some .long) fr lo 0 av h (some (.long r)) h' := by
  refine mkC_core hy hlen ?_
  intro p e R s m args below meth c F _ _ hr hlk
  refine body _ (fun v k => v = some (.long r) ∧ k = h') ⟨p, e, R, s, m, args, below, meth, c, 0, _, F, rfl⟩ ?_ ⟨rfl, rfl⟩
  intro pc lv v k d hv H locs ls hP hz hS hl
  obtain ⟨hv, rfl⟩ := hv
  exact W.lret F.1 F.2.1 hr (fun t ht hW => ⟨by rw [hv], Rep_of hP hz F.2.2.2.2.2.1 F.2.2.2.2.2.2.1 ht hW, hS.F ht⟩) hS.2.2 d hlk
theorem mkCv (hy : plainFor y = true) (hlen : (lg_sl av).length ≤ nL) (body : ∀ V Rt, Ok g l y.cls cc nL fr lo 0 V → ORv cc V Rt → Rt none h' → V 0 (lv_args 0 av) [] h) : Ctr g l y cc nL none fr lo 0 av h none h' := by
  refine mkC_core hy hlen ?_
  intro p e R s m args below meth c F _ _ hr hlk
  refine body _ (fun v k => v = none ∧ k = h') ⟨p, e, R, s, m, args, below, meth, c, 0, _, F, rfl⟩ ?_ ⟨rfl, rfl⟩
  intro pc lv k d hv H locs ls hP hz hS hl
  obtain ⟨hv, rfl⟩ := hv
  exact W.vret F.1 F.2.1 hr (fun t ht hW => ⟨rfl, Rep_of hP hz F.2.2.2.2.2.1 F.2.2.2.2.2.2.1 ht hW, hS.F ht⟩) hS.2.2 d hlk
end MK
