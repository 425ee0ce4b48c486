/-! constructors: a world that grows, cell by cell, in the order of its addresses -/
def wk (g : Gx) (c : Nat → va_E) (N : Nat) : va_W := (List.range N).map (fun a => (g.2.2 + a, c a))
theorem wk_at {g : Gx} {c : Nat → va_E} {N a : Nat} (h : a < N) : (wk g c N)[a]? = some (g.2.2 + a, c a) := by
  unfold wk
  rw [List.getElem?_map, List.getElem?_range h]
  rfl
theorem wk_out {g : Gx} {c : Nat → va_E} {N a : Nat} (h : N ≤ a) : (wk g c N)[a]? = none := by
  unfold wk
  rw [List.getElem?_map, List.getElem?_eq_none (by simpa using h)]
  rfl
theorem wk_len {g : Gx} {c : Nat → va_E} {N : Nat} : (wk g c N).length = N := by simp [wk]
theorem wk_D (g : Gx) (c : Nat → va_E) (N : Nat) : va_D (AG g) (wk g c N) := by
  have key : ∀ (i : Nat) (p : Nat × va_E), (wk g c N)[i]? = some p → p.1 = g.2.2 + i := by
    intro i p hp
    by_cases hi : i < N
    · rw [wk_at hi] at hp
      cases hp
      rfl
    · rw [wk_out (by omega)] at hp
      cases hp
  refine ⟨fun i j p q hi hj e => ?_, fun k q hq => ?_⟩
  · have h1 := key i p hi
    have h2 := key j q hj
    omega
  · rw [key k q hq]
    exact Nat.le_add_right _ _
theorem wk_set {g : Gx} {c : Nat → va_E} {N a : Nat} {x : va_E} (h : a < N) : (wk g c N).set a (g.2.2 + a, x) = wk g (va_up c a x) N := by
  apply List.ext_getElem?
  intro i
  by_cases hi : i < N
  · rw [wk_at hi]
    by_cases e : i = a
    · subst e
      rw [List.getElem?_set_self (by rw [wk_len]; exact h), va_up_self]
    · rw [List.getElem?_set_ne (fun q => e q.symm), wk_at hi, va_up_ne _ _ e]
  · rw [wk_out (by omega), List.getElem?_eq_none (by simp [wk_len]; omega)]
theorem wk_push {g : Gx} {c : Nat → va_E} {N : Nat} {x : va_E} : wk g c N ++ [(g.2.2 + N, x)] = wk g (va_up c N x) (N + 1) := by
  apply List.ext_getElem?
  intro i
  by_cases hi : i < N
  · rw [List.getElem?_append_left (by rw [wk_len]; exact hi), wk_at hi, wk_at (by omega), va_up_ne _ _ (by omega)]
  · by_cases e : i = N
    · subst e
      rw [List.getElem?_append_right (by rw [wk_len]; exact Nat.le_refl _), wk_len, wk_at (by omega), va_up_self, Nat.sub_self]
      rfl
    · rw [wk_out (by omega), List.getElem?_eq_none (by simp [wk_len]; omega)]
theorem wk_congr {g : Gx} {c c2 : Nat → va_E} {N : Nat} (h : ∀ a, a < N → c a = c2 a) : wk g c N = wk g c2 N := by
  apply List.ext_getElem?
  intro i
  by_cases hi : i < N
  · rw [wk_at hi, wk_at hi, h i hi]
  · rw [wk_out (by omega), wk_out (by omega)]
/-- two cells alike: the same, or rows of references that are alike within their length -/
def eqV (x y : va_E) : Prop := x = y ∨ ∃ (cA : ClassId) (n : Nat) (f f' : Nat → Option Nat), x = .inl (cA, n, .inr (.inr (.inr (.inr f)))) ∧ y = .inl (cA, n, .inr (.inr (.inr (.inr f')))) ∧ ∀ j, j < n → f j = f' j
theorem eqV_at {D : va_G} {cl : List vw_C} {a : Nat} {x y : va_E} {H : Heap} (e : eqV x y) (h : va_at D cl (a, x) H) : va_at D cl (a, y) H := by
  rcases e with rfl | ⟨cA, n, f, f', rfl, rfl, hf⟩
  · exact h
  · have h1 : H[a]? = some (vp_cell cA (n, .inr (.inr (.inr (.inr f))))) := h
    show H[a]? = some (vp_cell cA (n, .inr (.inr (.inr (.inr f')))))
    rw [h1, vp_cell_q, vp_cell_q]
    congr 1
    unfold arrV
    congr 2
    funext j
    show va_rf (f j.val) = va_rf (f' j.val)
    rw [hf j.val j.isLt]
theorem wk_eqV {g : Gx} {c c2 : Nat → va_E} {N : Nat} {H : Heap} (e : ∀ a, a < N → eqV (c a) (c2 a)) (h : va_P g.1 cls8 (wk g c N) H) : va_P g.1 cls8 (wk g c2 N) H := by
  intro k q hq
  by_cases hk : k < N
  · rw [wk_at hk] at hq
    cases hq
    exact eqV_at (e k hk) (h k _ (wk_at hk))
  · rw [wk_out (by omega)] at hq
    cases hq
abbrev VKT : Type := Nat → List (Nat × Value) → List Value → (Nat → va_E) → Nat → Nat → Nat → Prop
def VKC (g : Gx) (p : Program) (l : Launch) (e : Env) (R : Room) (s : State) (m : MethodId) (args : Array Value) (below : List Frame) (meth : Method) (cd : Code) (nL : Nat) (Q : State → Prop) : VKT := fun pc lv st c N ce sl =>
  s.heap.size + ce = g.2.2 + N → ∀ (H : Heap) (locs : List Loc) (ls : Array Slot), va_P g.1 cls8 (wk g c N) H → H.size = g.2.2 + N → va_S (AG g) s.heap H locs → lv_has ls nL lv → W p l e R s m args below meth cd H locs ce sl Q (F0 m pc ls st)
def AO3 (U : State) : Prop := va_AO RX5 U ∧ va_AO RX1 U ∧ va_AO RX0 U
def OkK (g : Gx) (l : Launch) (own : String) (cc : ByteArray) (nL fr lo CE SL : Nat) (ini : Bool) (V : VKT) : Prop :=
  ∃ (p : Program) (e : Env) (R : Room) (s : State) (m : MethodId) (args : Array Value) (below : List Frame) (meth : Method) (cd : Code) (Q : State → Prop), (Fx g own cc nL fr lo p R s m args cd 0 0 ∧ CE ≤ R.cells ∧ SL ≤ R.slots ∧ g.2.2 ≤ s.heap.size ∧ (ini = true → meth.name = "<init>") ∧ AO3 s) ∧ V = VKC g p l e R s m args below meth cd nL Q
def RepK (g : Gx) (c : Nat → va_E) (N : Nat) (U : State) : Prop := va_P g.1 cls8 (wk g c N) U.heap ∧ va_K g.1 cls8 (tys6 g.2.1) U ∧ (∀ w ∈ NB, va_Nw w U) ∧ U.heap.size = g.2.2 + N ∧ AO3 U
def CtrK (g : Gx) (l : Launch) (y : MethodName) (cc : ByteArray) (nL fr lo mc ms a : Nat) (c : Nat → va_E) (N : Nat) (c2 : Nat → va_E) : Prop :=
  Met l y (wsM y cc nL none) { frames := fr, cells := mc, slots := ms, locals := lo } (va_Pc [rA g a] (RepK g c N)) (fun _ st oc t => oc = .returned none ∧ RepK g c2 (N + mc) t ∧ va_F (AG g) st t) mc ms (AG g)
section KR
variable {g : Gx} {l : Launch} {own : String} {cc : ByteArray} {nL fr lo CE SL : Nat} {ini : Bool} {V : VKT} {pc : Nat} {lv lv2 : List (Nat × Value)} {st : List Value} {c : Nat → va_E} {N ce sl : Nat}
theorem Q_aload_n (o : OkK g l own cc nL fr lo CE SL ini V) {k : Fin 4} {i x : Nat} (j : Nat) (d : decode cc pc = .ok (.aload_n k, 1)) (hi : (k : Nat) = i) (hk : lv[j]? = some (i, rA g x)) (t : V (pc + 1) lv (rA g x :: st) c N ce sl) : V pc lv st c N ce sl := by
  obtain ⟨p, e, R, s, m, args, below, meth, cd, Q, F, rfl⟩ := o
  intro hN H locs ls hP hz hS hl
  exact lv_aload_n F.1.1 F.1.2.1 d hi (lv_at hl j hk) (t hN H locs ls hP hz hS hl)
theorem Q_iload_n (o : OkK g l own cc nL fr lo CE SL ini V) {k : Fin 4} {i : Nat} {x : Int32} (j : Nat) (d : decode cc pc = .ok (.iload_n k, 1)) (hi : (k : Nat) = i) (hk : lv[j]? = some (i, .int x)) (t : V (pc + 1) lv (.int x :: st) c N ce sl) : V pc lv st c N ce sl := by
  obtain ⟨p, e, R, s, m, args, below, meth, cd, Q, F, rfl⟩ := o
  intro hN H locs ls hP hz hS hl
  exact lv_iload_n F.1.1 F.1.2.1 d hi (lv_at hl j hk) (t hN H locs ls hP hz hS hl)
theorem Q_istore_n (o : OkK g l own cc nL fr lo CE SL ini V) {k : Fin 4} {i : Nat} {x : Int32} (d : decode cc pc = .ok (.istore_n k, 1)) (hi : (k : Nat) = i) (hn : i < nL) (hl2 : lvset i 1 (.int x) lv = lv2) (t : V (pc + 1) lv2 st c N ce sl) : V pc lv (.int x :: st) c N ce sl := by
  subst hl2
  obtain ⟨p, e, R, s, m, args, below, meth, cd, Q, F, rfl⟩ := o
  intro hN H locs ls hP hz hS hl
  exact lv_istore_n F.1.1 F.1.2.1 d hi hl hn rfl (fun ls2 hl3 => t hN H locs ls2 hP hz hS (lvset_1 hl3))
theorem Q_astore_n (o : OkK g l own cc nL fr lo CE SL ini V) {k : Fin 4} {i x : Nat} (d : decode cc pc = .ok (.astore_n k, 1)) (hi : (k : Nat) = i) (hn : i < nL) (hl2 : lvset i 1 (rA g x) lv = lv2) (t : V (pc + 1) lv2 st c N ce sl) : V pc lv (rA g x :: st) c N ce sl := by
  subst hl2
  obtain ⟨p, e, R, s, m, args, below, meth, cd, Q, F, rfl⟩ := o
  intro hN H locs ls hP hz hS hl
  exact lv_astore_n F.1.1 F.1.2.1 d hi hl hn rfl (fun ls2 hl3 => t hN H locs ls2 hP hz hS (lvset_1 hl3))
theorem Q_iinc (o : OkK g l own cc nL fr lo CE SL ini V) {i : Nat} {n : Int} {x v : Int32} (j : Nat) (d : decode cc pc = .ok (.iinc i n, 3)) (hk : lv[j]? = some (i, .int x)) (hv : x + Int32.ofInt n = v) (hn : i < nL) (hl2 : lvset i 1 (.int v) lv = lv2) (t : V (pc + 3) lv2 st c N ce sl) : V pc lv st c N ce sl := by
  subst hl2
  obtain ⟨p, e, R, s, m, args, below, meth, cd, Q, F, rfl⟩ := o
  intro hN H locs ls hP hz hS hl
  exact lv_iinc F.1.1 F.1.2.1 d hl hk hv hn rfl (fun ls2 hl3 => t hN H locs ls2 hP hz hS (lvset_1 hl3))
theorem Q_iconst (o : OkK g l own cc nL fr lo CE SL ini V) {n : Int} {v : Int32} (d : decode cc pc = .ok (.iconst n, 1)) (hv : Int32.ofInt n = v) (t : V (pc + 1) lv (.int v :: st) c N ce sl) : V pc lv st c N ce sl := by
  obtain ⟨p, e, R, s, m, args, below, meth, cd, Q, F, rfl⟩ := o
  intro hN H locs ls hP hz hS hl
  exact lv_iconst F.1.1 F.1.2.1 d hv (t hN H locs ls hP hz hS hl)
theorem Q_bipush (o : OkK g l own cc nL fr lo CE SL ini V) {n : Int} {v : Int32} (d : decode cc pc = .ok (.bipush n, 2)) (hv : (Int8.ofInt n).toInt32 = v) (t : V (pc + 2) lv (.int v :: st) c N ce sl) : V pc lv st c N ce sl := by
  obtain ⟨p, e, R, s, m, args, below, meth, cd, Q, F, rfl⟩ := o
  intro hN H locs ls hP hz hS hl
  exact lv_bipush F.1.1 F.1.2.1 d hv (t hN H locs ls hP hz hS hl)
theorem Q_sipush (o : OkK g l own cc nL fr lo CE SL ini V) {n : Int} {v : Int32} (d : decode cc pc = .ok (.sipush n, 3)) (hv : (Int16.ofInt n).toInt32 = v) (t : V (pc + 3) lv (.int v :: st) c N ce sl) : V pc lv st c N ce sl := by
  obtain ⟨p, e, R, s, m, args, below, meth, cd, Q, F, rfl⟩ := o
  intro hN H locs ls hP hz hS hl
  exact lv_sipush F.1.1 F.1.2.1 d hv (t hN H locs ls hP hz hS hl)
theorem Q_lconst (o : OkK g l own cc nL fr lo CE SL ini V) {n : Fin 2} {v : Int64} (d : decode cc pc = .ok (.lconst n, 1)) (hv : Int64.ofNat (n : Nat) = v) (t : V (pc + 1) lv (.long v :: st) c N ce sl) : V pc lv st c N ce sl := by
  obtain ⟨p, e, R, s, m, args, below, meth, cd, Q, F, rfl⟩ := o
  intro hN H locs ls hP hz hS hl
  exact lv_lconst F.1.1 F.1.2.1 d hv (t hN H locs ls hP hz hS hl)
theorem Q_null (o : OkK g l own cc nL fr lo CE SL ini V) (d : decode cc pc = .ok (.aconst_null, 1)) (t : V (pc + 1) lv (.null :: st) c N ce sl) : V pc lv st c N ce sl := by
  obtain ⟨p, e, R, s, m, args, below, meth, cd, Q, F, rfl⟩ := o
  intro hN H locs ls hP hz hS hl
  exact lv_null F.1.1 F.1.2.1 d (t hN H locs ls hP hz hS hl)
theorem Q_dup (o : OkK g l own cc nL fr lo CE SL ini V) {a : Value} (d : decode cc pc = .ok (.dup, 1)) (ha : a.category = 1) (t : V (pc + 1) lv (a :: a :: st) c N ce sl) : V pc lv (a :: st) c N ce sl := by
  obtain ⟨p, e, R, s, m, args, below, meth, cd, Q, F, rfl⟩ := o
  intro hN H locs ls hP hz hS hl
  exact lv_dup F.1.1 F.1.2.1 d ha (t hN H locs ls hP hz hS hl)
theorem Q_goto (o : OkK g l own cc nL fr lo CE SL ini V) {off : Int} (tgt : Nat) (d : decode cc pc = .ok (.goto off, 3)) (ht : (pc : Int) + off = (tgt : Int)) (t : V tgt lv st c N ce sl) : V pc lv st c N ce sl := by
  obtain ⟨p, e, R, s, m, args, below, meth, cd, Q, F, rfl⟩ := o
  intro hN H locs ls hP hz hS hl
  exact lv_goto F.1.1 F.1.2.1 d ht (t hN H locs ls hP hz hS hl)
theorem Q_geT (o : OkK g l own cc nL fr lo CE SL ini V) {x y : Int32} {off : Int} (tgt : Nat) (d : decode cc pc = .ok (.if_icmp .ge off, 3)) (ht : (pc : Int) + off = (tgt : Int)) (hxy : y ≤ x) (t : V tgt lv st c N ce sl) : V pc lv (.int y :: .int x :: st) c N ce sl := by
  obtain ⟨p, e, R, s, m, args, below, meth, cd, Q, F, rfl⟩ := o
  intro hN H locs ls hP hz hS hl
  exact lv_icmp_ge F.1.1 F.1.2.1 d ht (fun _ => t hN H locs ls hP hz hS hl) (fun z => absurd hxy z)
theorem Q_geF (o : OkK g l own cc nL fr lo CE SL ini V) {x y : Int32} {off : Int} (tgt : Nat) (d : decode cc pc = .ok (.if_icmp .ge off, 3)) (ht : (pc : Int) + off = (tgt : Int)) (hxy : ¬ y ≤ x) (t : V (pc + 3) lv st c N ce sl) : V pc lv (.int y :: .int x :: st) c N ce sl := by
  obtain ⟨p, e, R, s, m, args, below, meth, cd, Q, F, rfl⟩ := o
  intro hN H locs ls hP hz hS hl
  exact lv_icmp_ge F.1.1 F.1.2.1 d ht (fun z => absurd z hxy) (fun _ => t hN H locs ls hP hz hS hl)
def LkO (own : String) (idx : Nat) : Prop := Cond.methodLink own idx Lib.objectInit ∈ TB ∧ Cond.instanceMethod Lib.objectInit ∈ TB ∧ Cond.code Lib.objectInit ⟨#[0xb1]⟩ 1 none ∈ TB
theorem Q_objInit (o : OkK g l own cc nL fr lo CE SL ini V) {idx a : Nat} (d : decode cc pc = .ok (.invokespecial idx, 3)) (lk : LkO own idx) (hr : 1 ≤ fr ∧ (st.map fun v => v.category).sum + 12 ≤ lo) (t : V (pc + 3) lv st c N ce sl) : V pc lv (rA g a :: st) c N ce sl := by
  obtain ⟨p, e, R, s, m, args, below, meth, cd, Q, F, rfl⟩ := o
  intro hN H locs ls hP hz hS hl
  have hts := F.1.2.2.2.2.1
  exact W.objInit F.1.1 F.1.2.1 F.1.2.2.2.1 (hts _ lk.1) (hts _ lk.2.1) (hts _ lk.2.2) rfl (by rw [F.1.2.2.1]; exact hl.1) rfl d (Nat.le_trans hr.1 F.1.2.2.2.2.2.2.2.1) (by have := F.1.2.2.2.2.2.2.2.2.1; show 2 * 0 + _ + 12 ≤ _; omega) (t hN H locs ls hP hz hS hl)
/-- where a new cell lies -/
theorem new_at {p : Program} {e : Env} {R : Room} {s : State} {m : MethodId} {args : Array Value} {below : List Frame} {meth : Method} {cd : Code} {slots : Nat} {Tq : State} {locs : List Loc} {H1 : Heap} {q : Nat} {x : va_E} (X : Stand p l e R s m args below meth cd Tq locs (ce + 1) slots) (hT : Tq.heap = H1) (hN : s.heap.size + ce = g.2.2 + N) (hP1 : va_P g.1 cls8 (wk g c N ++ [(q, x)]) H1) (hD1 : va_D (AG g) (wk g c N ++ [(q, x)])) : q = g.2.2 + N ∧ H1.size = g.2.2 + (N + 1) := by
  have h1 := X.heapSize
  rw [hT] at h1
  have hq : (wk g c N ++ [(q, x)])[N]? = some (q, x) := by
    rw [List.getElem?_append_right (by rw [wk_len]; exact Nat.le_refl _), wk_len, Nat.sub_self]
    rfl
  have h2 : q < H1.size := (hP1 N _ hq).lt
  have h3 : g.2.2 ≤ q := hD1.2 N _ hq
  have h4 : q = g.2.2 + N := by
    by_cases hlt : q < g.2.2 + N
    · exfalso
      have hi : (wk g c N ++ [(q, x)])[q - g.2.2]? = some (g.2.2 + (q - g.2.2), c (q - g.2.2)) := by
        rw [List.getElem?_append_left (by rw [wk_len]; omega), wk_at (by omega)]
      have := hD1.1 (q - g.2.2) N _ _ hi hq (by show g.2.2 + (q - g.2.2) = q; omega)
      omega
    · omega
  exact ⟨h4, by omega⟩
theorem Q_new (o : OkK g l own cc nL fr lo CE SL ini V) {idx ci n : Nat} {C : String} {Tt : u_T} {ty : Nat → FieldType} {fs : List Value} (d : decode cc pc = .ok (.new idx, 3)) (hc : cls8[ci]? = some (C, Tt, n)) (hu : ∀ w ∈ u_ws C Tt n, w ∈ TB) (hty : ∀ k, k < n → parseFieldDescriptor (Tt k).2.2.1 = some (ty k)) (hl1 : Cond.classLink own idx C ∈ TB) (hl2 : Cond.instantiable C n ∈ TB) (hl3 : Cond.initialized C ∈ TB) (hfs : ∀ j, j < n → defaultValue (ty j) = vp_V fs j) (hce : ce + 1 ≤ CE) (hsl : sl + n ≤ SL)
    (t : ∀ c2, c2 = va_up c N (.inr (ci, fs)) → V (pc + 3) lv (rA g N :: st) c2 (N + 1) (ce + 1) (sl + n)) : V pc lv st c N ce sl := by
  obtain ⟨p, e, R, s, m, args, below, meth, cd, Q, F, rfl⟩ := o
  intro hN H locs ls hP hz hS hl
  have hts := F.1.2.2.2.2.1
  refine va_new F.1.1 F.1.2.1 hts hu ty hty F.1.2.2.2.1 (hts _ hl1) (hts _ hl2) (hts _ hl3) F.1.2.2.2.2.2.1 hP (wk_D g c N) hS (fun q hq => Nat.le_trans F.2.2.2.1 hq) hc hfs (Nat.le_trans hce F.2.1) (Nat.le_trans hsl F.2.2.1) d ?_
  intro q H1 hP1 hD1 hS1 Tq hT X
  obtain ⟨rfl, hz1⟩ := new_at X hT hN hP1 hD1
  rw [wk_push] at hP1
  exact t _ rfl (by omega) H1 locs ls hP1 hz1 hS1 hl Tq hT X
theorem Q_newa (o : OkK g l own cc nL fr lo CE SL ini V) {atype : ArrayType} {ti n : Nat} {ty : FieldType} {nv : Int32} {a0 : vp_A} (d : decode cc pc = .ok (.newarray atype, 2)) (hty : newarray.typeOf atype = ty) (hw : Cond.arrayClass (newarray.typeOf atype) ∈ TB) (hti : (tys6 g.2.1)[ti]? = some (g.2.1 ti, ty)) (hRA : ∀ (U : State) (cA : ClassId), va_RA U cA ty ↔ U.vm.findClass ("[" ++ ty.toString) = some cA) (ha : ∀ cA : ClassId, vp_cell cA a0 = arrV cA n (fun _ => defaultValue ty)) (hn : ¬ nv < 0) (hnN : nv.toNatClampNeg = n) (hbytes : n * componentBytes ty ≤ 536870912) (hce : ce + 1 ≤ CE) (hsl : sl + n ≤ SL)
    (t : ∀ c2, c2 = va_up c N (.inl (g.2.1 ti, a0)) → V (pc + 2) lv (rA g N :: st) c2 (N + 1) (ce + 1) (sl + n)) : V pc lv (.int nv :: st) c N ce sl := by
  obtain ⟨p, e, R, s, m, args, below, meth, cd, Q, F, rfl⟩ := o
  intro hN H locs ls hP hz hS hl
  have hts := F.1.2.2.2.2.1
  have hK := F.1.2.2.2.2.2.1
  refine va_newa F.1.1 F.1.2.1 (hts _ hw) hty hK hP (wk_D g c N) hS (fun q hq => Nat.le_trans F.2.2.2.1 hq) ha hn hnN hbytes (Nat.le_trans hce F.2.1) (Nat.le_trans hsl F.2.2.1) d ?_
  intro q cA H1 hK1 hP1 hD1 hS1 Tq hT X
  obtain ⟨rfl, hz1⟩ := new_at X hT hN hP1 hD1
  have hcA : cA = g.2.1 ti := by
    have h1 := (hRA _ _).mp (hK1.2 6 (cA, ty) (by rfl)).2
    have h2 := (hRA _ _).mp (hK.2 ti _ hti).2
    exact Option.some.inj (h1.symm.trans h2)
  subst hcA
  rw [wk_push] at hP1
  exact t _ rfl (by omega) H1 locs ls hP1 hz1 hS1 hl Tq hT X
theorem Q_newq (o : OkK g l own cc nL fr lo CE SL ini V) {idx ti n : Nat} {C : String} {nv : Int32} (d : decode cc pc = .ok (.anewarray idx, 3)) (hl1 : Cond.classLink own idx C ∈ TB) (hw : ∀ U, AO3 U → va_AO C U) (hti : (tys6 g.2.1)[ti]? = some (g.2.1 ti, .object C)) (hn : ¬ nv < 0) (hnN : nv.toNatClampNeg = n) (hbytes : n * 4 ≤ 536870912) (hce : ce + 1 ≤ CE) (hsl : sl + n ≤ SL)
    (t : ∀ c2, c2 = va_up c N (.inl (g.2.1 ti, n, .inr (.inr (.inr (.inr (fun _ => none)))))) → V (pc + 3) lv (rA g N :: st) c2 (N + 1) (ce + 1) (sl + n)) : V pc lv (.int nv :: st) c N ce sl := by
  obtain ⟨p, e, R, s, m, args, below, meth, cd, Q, F, rfl⟩ := o
  intro hN H locs ls hP hz hS hl
  have hts := F.1.2.2.2.2.1
  have hK := F.1.2.2.2.2.2.1
  refine va_newq F.1.1 F.1.2.1 F.1.2.2.2.1 (hts _ hl1) (hw s F.2.2.2.2.2) hK hP (wk_D g c N) hS (fun q hq => Nat.le_trans F.2.2.2.1 hq) hn hnN hbytes (Nat.le_trans hce F.2.1) (Nat.le_trans hsl F.2.2.1) d ?_
  intro q cA H1 hK1 hP1 hD1 hS1 Tq hT X
  obtain ⟨rfl, hz1⟩ := new_at X hT hN hP1 hD1
  have hcA : cA = g.2.1 ti := by
    obtain ⟨k1, k2, -, -, -, h1⟩ := (hK1.2 6 (cA, .object C) (by rfl)).2
    obtain ⟨k3, k4, -, -, -, h2⟩ := (hK.2 ti _ hti).2
    exact Option.some.inj (h1.symm.trans h2)
  subst hcA
  rw [wk_push] at hP1
  exact t _ rfl (by omega) H1 locs ls hP1 hz1 hS1 hl Tq hT X
theorem put_szK {p : Program} {e : Env} {R : Room} {s : State} {m : MethodId} {args : Array Value} {below : List Frame} {meth : Method} {cd : Code} {slots : Nat} {Tq : State} {locs1 : List Loc} {H1 : Heap} {c2 : Nat → va_E} {a : Nat} (X : Stand p l e R s m args below meth cd Tq locs1 ce slots) (hT : Tq.heap = H1) (hN : s.heap.size + ce = g.2.2 + N) (ha : a < N) (hP1 : va_P g.1 cls8 (wk g c2 N) H1) : H1.size = g.2.2 + N := by
  have h1 := X.heapSize
  rw [hT] at h1
  have h2 : g.2.2 + (N - 1) < H1.size := (hP1 (N - 1) _ (wk_at (by omega))).lt
  omega
/-- a field of the object at a: its link, its type -/
def FlK (own : String) (idx ci k : Nat) (ty : FieldType) (fin : Bool) : Prop := ∃ (C : String) (Tt : u_T) (n : Nat) (ty0 : Nat → FieldType), cls8[ci]? = some (C, Tt, n) ∧ k < n ∧ (∀ w ∈ u_ws C Tt n, w ∈ TB) ∧ (∀ k, k < n → parseFieldDescriptor (Tt k).2.2.1 = some (ty0 k)) ∧ (∀ a, a < n → ∀ b, b < n → a ≠ b → (Tt a).2.1 ≠ (Tt b).2.1) ∧ (Tt k).2.2.2 = fin ∧ parseFieldDescriptor (Tt k).2.2.1 = some ty ∧ (Tt k).1 = C ∧ C = own ∧ Cond.fieldLink own idx C (Tt k).2.1 (Tt k).2.2.1 ∈ TB
theorem Q_put (o : OkK g l own cc nL fr lo CE SL true V) {idx ci k a : Nat} {ty : FieldType} {fin : Bool} {fs : List Value} {v : Value} (fs2 : List Value) (d : decode cc pc = .ok (.putfield idx, 3)) (hf : FlK own idx ci k ty fin) (hc : c a = .inr (ci, fs)) (ha : a < N) (hlen : k < fs.length) (hn : narrow ty v = v) (hfit : fits ty v = true) (hfs2 : fs.set k v = fs2)
    (t : ∀ c2, c2 = va_up c a (.inr (ci, fs2)) → V (pc + 3) lv st c2 N ce sl) : V pc lv (v :: rA g a :: st) c N ce sl := by
  obtain ⟨p, e, R, s, m, args, below, meth, cd, Q, F, rfl⟩ := o
  intro hN H locs ls hP hz hS hl
  subst hfs2
  obtain ⟨C, Tt, n, ty0, h1, h2', h3, h3a, h3b, h3c, h3d, h4, h5, h6⟩ := hf
  have hts := F.1.2.2.2.2.1
  have hw : (wk g c N)[a]? = some (g.2.2 + a, .inr (ci, fs)) := by rw [wk_at ha, hc]
  cases fin with
  | false =>
    refine va_put F.1.1 F.1.2.1 hts h3 ty0 h3a h3b F.1.2.2.2.1 F.1.2.2.2.2.2.1 hP (wk_D g c N) hS a hw h1 k h2' (hts _ h6) (fun x hx => by rw [h4] at hx; exact hx) h3c h3d hn hfit hlen d ?_
    intro H1 locs1 hP1 hD1 hS1 Tq hT X
    rw [wk_set ha] at hP1
    exact t _ rfl hN H1 locs1 ls hP1 (put_szK X hT hN ha hP1) hS1 hl Tq hT X
  | true =>
    refine va_putF F.1.1 F.1.2.1 hts h3 ty0 h3a h3b F.1.2.2.2.1 F.1.2.2.2.2.2.1 hP (wk_D g c N) hS a hw h1 k h2' (hts _ h6) (fun x hx => by rw [h4] at hx; exact hx) h3c (F.2.2.2.2.1 rfl) (h4.trans h5) h3d hn hfit hlen d ?_
    intro H1 locs1 hP1 hD1 hS1 Tq hT X
    rw [wk_set ha] at hP1
    exact t _ rfl hN H1 locs1 ls hP1 (put_szK X hT hN ha hP1) hS1 hl Tq hT X
theorem Q_get (o : OkK g l own cc nL fr lo CE SL ini V) {idx ci k a : Nat} {fs : List Value} {v : Value} (d : decode cc pc = .ok (.getfield idx, 3)) (hf : Fl own idx ci k) (hc : c a = .inr (ci, fs)) (ha : a < N) (hv : fs[k]? = some v) (t : V (pc + 3) lv (v :: st) c N ce sl) : V pc lv (rA g a :: st) c N ce sl := by
  obtain ⟨p, e, R, s, m, args, below, meth, cd, Q, F, rfl⟩ := o
  intro hN H locs ls hP hz hS hl
  obtain ⟨C, Tt, n, h1, h2, h3, h4, h5⟩ := hf
  have hts := F.1.2.2.2.2.1
  have hw : (wk g c N)[a]? = some (g.2.2 + a, .inr (ci, fs)) := by rw [wk_at ha, hc]
  rcases h5 with h5 | ⟨host, h5⟩
  · exact va_get F.1.1 F.1.2.1 hts h3 F.1.2.2.2.1 F.1.2.2.2.2.2.1 hP a hw h1 k h2 (hts _ h5) (fun x hx => by rw [h4] at hx; exact hx) hv d (t hN H locs ls hP hz hS hl)
  · exact va_getN F.1.1 F.1.2.1 hts h3 F.1.2.2.2.1 F.1.2.2.2.2.2.1 hP a hw h1 k h2 (va_Nw.use rfl (F.1.2.2.2.2.2.2.1 _ h5)) (fun x hx => by rw [h4] at hx; exact hx) hv d (t hN H locs ls hP hz hS hl)
theorem Q_alen (o : OkK g l own cc nL fr lo CE SL ini V) {a ti : Nat} {x : vp_A} {ty : FieldType} {v : Int32} (d : decode cc pc = .ok (.arraylength, 1)) (hc : c a = .inl (g.2.1 ti, x)) (ha : a < N) (hti : (tys6 g.2.1)[ti]? = some (g.2.1 ti, ty)) (hv : Int32.ofNat x.1 = v) (t : V (pc + 1) lv (.int v :: st) c N ce sl) : V pc lv (rA g a :: st) c N ce sl := by
  obtain ⟨p, e, R, s, m, args, below, meth, cd, Q, F, rfl⟩ := o
  intro hN H locs ls hP hz hS hl
  have hw : (wk g c N)[a]? = some (g.2.2 + a, .inl (g.2.1 ti, x)) := by rw [wk_at ha, hc]
  exact va_alen F.1.1 F.1.2.1 F.1.2.2.2.2.2.1 hP a ti hw hti hv d (t hN H locs ls hP hz hS hl)
theorem Q_iast (o : OkK g l own cc nL fr lo CE SL ini V) {a n : Nat} {f : Nat → Int32} {i x : Int32} (d : decode cc pc = .ok (.iastore, 1)) (hc : c a = .inl (g.2.1 0, n, .inl f)) (ha : a < N) (hin : vp_in i n)
    (t : ∀ c2, c2 = va_up c a (.inl (g.2.1 0, n, .inl (upd f i.toNatClampNeg x))) → V (pc + 1) lv st c2 N ce sl) : V pc lv (.int x :: .int i :: rA g a :: st) c N ce sl := by
  obtain ⟨p, e, R, s, m, args, below, meth, cd, Q, F, rfl⟩ := o
  intro hN H locs ls hP hz hS hl
  have hw : (wk g c N)[a]? = some (g.2.2 + a, .inl (g.2.1 0, n, .inl f)) := by rw [wk_at ha, hc]
  refine va_iast F.1.1 F.1.2.1 F.1.2.2.2.2.2.1 hP (wk_D g c N) hS a 0 hw rfl hin d ?_
  intro H1 locs1 hP1 hD1 hS1 Tq hT X
  rw [wk_set ha] at hP1
  exact t _ rfl hN H1 locs1 ls hP1 (put_szK X hT hN ha hP1) hS1 hl Tq hT X
theorem Q_aast (o : OkK g l own cc nL fr lo CE SL ini V) {a b n ti ci : Nat} {f : Nat → Option Nat} {fs : List Value} {i : Int32} {r : vw_C} (d : decode cc pc = .ok (.aastore, 1)) (hc : c a = .inl (g.2.1 ti, n, .inr (.inr (.inr (.inr f))))) (ha : a < N) (hti : (tys6 g.2.1)[ti]? = some (g.2.1 ti, .object r.1)) (hv : c b = .inr (ci, fs)) (hb : b < N) (hr : cls8[ci]? = some r) (hin : vp_in i n)
    (t : ∀ c2, c2 = va_up c a (.inl (g.2.1 ti, n, .inr (.inr (.inr (.inr (va_up f i.toNatClampNeg (some (g.2.2 + b)))))))) → V (pc + 1) lv st c2 N ce sl) : V pc lv (rA g b :: .int i :: rA g a :: st) c N ce sl := by
  obtain ⟨p, e, R, s, m, args, below, meth, cd, Q, F, rfl⟩ := o
  intro hN H locs ls hP hz hS hl
  have hw : (wk g c N)[a]? = some (g.2.2 + a, .inl (g.2.1 ti, n, .inr (.inr (.inr (.inr f))))) := by rw [wk_at ha, hc]
  have hwb : (wk g c N)[b]? = some (g.2.2 + b, .inr (ci, fs)) := by rw [wk_at hb, hv]
  refine va_astq F.1.1 F.1.2.1 F.1.2.2.2.2.2.1 hP (wk_D g c N) hS a ti b ci hw hti hwb hr hin d ?_
  intro H1 locs1 hP1 hD1 hS1 Tq hT X
  rw [wk_set ha] at hP1
  exact t _ rfl hN H1 locs1 ls hP1 (put_szK X hT hN ha hP1) hS1 hl Tq hT X
theorem AO3_moved {u U : State} (h : u.vm.Alike U.vm) (q : AO3 u) : AO3 U := ⟨va_AO.moved h q.1, va_AO.moved h q.2.1, va_AO.moved h q.2.2⟩
theorem RepK_blind {av : List Value} : FrameBlind (va_Pc av (RepK g c N)) := by
  intro a U g' mk q
  obtain ⟨q0, qP, qK, qN, qz, qA⟩ := q
  exact ⟨q0, qP, va_K.moved (u := U) (U := U.calling g' mk a) (Vm.Alike.refl U.vm) qK, NB_same (u := U) (U := U.calling g' mk a) rfl qN, qz, AO3_moved (u := U) (U := U.calling g' mk a) (Vm.Alike.refl U.vm) qA⟩
/-- own's pool entry idx is the constructor y -/
def LkI (own : String) (idx : Nat) (y : MethodName) (cc' : ByteArray) (nL' : Nat) : Prop :=
  (Cond.methodLink own idx y ∈ TB ∨ ∃ host, Cond.methodLinkNest own idx y host ∈ NB) ∧ Cond.instanceMethod y ∈ TB ∧ Cond.initialized y.cls ∈ TB ∧ Cond.code y cc' nL' none ∈ TB ∧ y.name = "<init>" ∧ (y.cls ≠ "java/lang/invoke/MethodHandle" ∧ y.cls ≠ "java/lang/invoke/VarHandle" ∧ (parseMethodDescriptor y.desc).map (fun d => d.parameters.length) = some 0)
theorem Q_init (o : OkK g l own cc nL fr lo CE SL ini V) {idx a nL' fr' lo' mc ms : Nat} {y : MethodName} {cc' : ByteArray} {c2 : Nat → va_E} (d : decode cc pc = .ok (.invokespecial idx, 3)) (lk : LkI own idx y cc' nL') (hrm : Rm fr lo fr' lo' nL' = true) (hrest : (st.map fun v => v.category).sum ≤ 8) (ct : CtrK g l y cc' nL' fr' lo' mc ms a c N c2) (hce : ce + mc ≤ CE) (hsl : sl + ms ≤ SL) (t : ∀ c3, c3 = c2 → V (pc + 3) lv st c3 (N + mc) (ce + mc) (sl + ms)) : V pc lv (rA g a :: st) c N ce sl := by
  obtain ⟨p, e, R, s, m, args, below, meth, cd, Q, F, rfl⟩ := o
  intro hN H locs ls hP hz hS hl
  obtain ⟨k1, k2, k4, k5, k7, k6⟩ := lk
  obtain ⟨⟨hx, hb, hml, hown, hts, hK, hNB, hfr, hlo, hcl, hsl0⟩, hCE, hSL, hB, -, hAO⟩ := F
  have hpre : ∀ U : State, U.heap = H → s.WarmedH U.vm → va_Pc [rA g a] (RepK g c N) ([rA g a] : List Value).toArray U := fun U hU hW => ⟨rfl, by rw [hU]; exact hP, va_K.moved hW.alike hK, NB_warm hW hNB, by rw [hU]; exact hz, AO3_moved hW.alike hAO⟩
  have hrun : va_Run p l e R s m args below meth cd H locs ce sl mc ms (F0 m pc ls (rA g a :: st)) st ((fun _ st oc t => oc = .returned none ∧ RepK g c2 (N + mc) t ∧ va_F (AG g) st t) (Value.ref (g.2.2 + a) :: ([] : List Value)).toArray) (AG g) := by
    rcases k1 with k1 | ⟨host, k1⟩
    · exact va_runI (As := []) (rest := st) (b := g.2.2 + a) ⟨hx, hb, hml, hown, hts⟩ ct ⟨callB_of 0 hts (wsM_good k5) rfl rfl rfl (hts _ k4) (hts _ k1) k6 (Rm_of hrm hfr hlo), k7, hts _ k2⟩ ⟨RepK_blind, hpre⟩ rfl rfl hl.1 rfl (lv_room hrest) d ⟨Nat.le_trans hce hCE, Nat.le_trans hsl hSL⟩
    · exact va_runIN (As := []) (rest := st) (b := g.2.2 + a) ⟨hx, hb, hml, hown, hts⟩ ct ⟨va_cnB 0 hts (wsM_good k5) rfl rfl rfl (hNB _ k1) (hts _ k4) k6 (Rm_of hrm hfr hlo), k7, hts _ k2⟩ ⟨RepK_blind, hpre⟩ rfl rfl hl.1 rfl (lv_room hrest) d ⟨Nat.le_trans hce hCE, Nat.le_trans hsl hSL⟩
  intro Tq hT X
  obtain ⟨v, st₀, t0, T', L, h0, X', hL, e1, e2, ⟨hv, ⟨hP1, hK1, hN1, hz1, -⟩, hzz, hk⟩, st2⟩ := hrun Tq hT X
  cases hv
  rw [h0] at hzz hk
  obtain ⟨t2, a1, b1⟩ := t _ rfl (by omega) T'.heap (locs ++ L) ls (by rw [e1]; exact hP1) (by rw [e1]; exact hz1)
    ⟨Nat.le_trans hS.1 (by rw [e1]; exact hzz), fun q h1 h2 => by rw [e1, hk q (Nat.lt_of_lt_of_le h1 hS.1) h2]; exact hS.2.1 q h1 h2, fun q hq => by
      rcases List.mem_append.mp hq with h | h
      · exact hS.2.2 q h
      · exact hL q h⟩ hl T' rfl X'
  exact ⟨t2, st2 t2 a1, b1⟩
/-- a constructor's contract out of the walk of its body -/
theorem mkK {y : MethodName} {a mc ms : Nat} {c2 : Nat → va_E} (hy : plainFor y = true) (hn : y.name = "<init>") (hnL : 1 ≤ nL)
    (body : ∀ (V : VKT), OkK g l y.cls cc nL fr lo mc ms true V → (∀ pc lv c3, decode cc pc = .ok (.return_, 1) → (∀ a, a < N + mc → eqV (c3 a) (c2 a)) → V pc lv [] c3 (N + mc) mc ms) → V 0 [(0, rA g a)] [] c N 0 0) : CtrK g l y cc nL fr lo mc ms a c N c2 := by
  refine va_MetF (cc := cc) (maxL := nL) (ret := none) hy rfl ?_
  intro p e s m args below meth cd s₁ B hml hv
  obtain ⟨rfl, hP, hK, hN, hz, hAO⟩ := hv
  have hts := atoms_spec (ws := wsM y cc nL none) B.pre
  have hl := lv_entry [rA g a] (n := nL) (by show 1 ≤ nL; exact hnL)
  rw [lg_entry_eq]
  have hin : meth.name = "<init>" := by rw [(name_of_methodNamed B.named B.method).1, hn]
  refine body (VKC g p l e _ s m _ below meth cd nL _) ⟨p, e, _, s, m, _, below, meth, cd, _, ⟨⟨B.exec, B.bytes, hml, findClass_of_methodNamed B.named, fun w hw => hts w (List.mem_cons_of_mem _ hw), hK, hN, Nat.le_refl _, Nat.le_refl _, Nat.zero_le _, Nat.zero_le _⟩, Nat.le_refl _, Nat.le_refl _, by rw [hz]; exact Nat.le_add_right _ _, fun _ => hin, hAO⟩, rfl⟩ ?_ (by rw [hz]; rfl) s.heap [] _ hP hz va_S.rf hl
  intro pc lv c3 d h3 hN2 H locs ls hP2 hz2 hS2 hl2
  have hP2 := wk_eqV h3 hP2
  exact W.vret B.exec B.bytes B.returns (fun t ht hW => ⟨rfl, ⟨by rw [ht]; exact hP2, va_K.moved hW.alike hK, NB_warm hW hN, by rw [ht]; exact hz2, AO3_moved hW.alike hAO⟩, hS2.F ht⟩) hS2.2.2 d B.notSynchronized
end KR
