/-! the law's loop, out of one step that keeps an invariant -/
theorem law_cont {L j : Nat} (hL : L ≤ 3072) (h : 6 * j + 6 ≤ L) : ¬ (nI L) - 6 < nI (6 * j) := by
  intro q
  have e : (nI L - nI 6).toInt = (L : Int) - 6 := pk_sub_toInt (by omega) (by omega)
  have q2 := Int32.lt_iff_toInt_lt.mp (show nI L - nI 6 < nI (6 * j) from q)
  rw [e, nI_toInt (by omega)] at q2
  omega
theorem law_stop {L j : Nat} (hL : L ≤ 3072) (hj : 6 * j ≤ L) (h : L < 6 * j + 6) : (nI L) - 6 < nI (6 * j) := by
  have e : (nI L - nI 6).toInt = (L : Int) - 6 := pk_sub_toInt (by omega) (by omega)
  apply Int32.lt_iff_toInt_lt.mpr
  show (nI L - nI 6).toInt < _
  rw [e, nI_toInt (by omega)]
  omega
theorem law_loop {g : Gx} {l : Launch} {b L : Nat} {xs : Nat → Int32} (hL : L ≤ 3072) (Inv : MH → Prop) (step : ∀ (j : Nat) (h : MH), 6 * j + 6 ≤ L → Inv h → ∃ h', f_L_law_B18 xs L h (nI (6 * j)) = some (.inl (nI (6 * j) + 6, h')) ∧ Inv h')
    {p : Program} {e : Env} {s : State} {m : MethodId} {below : List Frame} {meth : Method} {c : Code} (C : LwC g b L xs p s m meth c 87 13041) : ∀ (n j : Nat) (h : MH), j + n = L / 6 → Inv h → VC g p l e room_1 s m #[Value.ref b] below meth c 4 (87 + j) (13041 + 5101 * j) (lw_Z below #[Value.ref b] s) 18 [(0, .ref b), (1, rA g 0), (2, rA g 64), (3, .int (nI (6 * j)))] [] h := by
  have hC : ∀ j, j ≤ 512 → LwC g b L xs p s m meth c (87 + j) (13041 + 5101 * j) := by
    intro j hj
    obtain ⟨⟨f1, f2, f3, f4, f5, f6, f7, f8, f9, f10, f11⟩, F⟩ := C
    exact ⟨⟨f1, f2, f3, f4, f5, f6, f7, f8, f9, by show 87 + j ≤ 600000; omega, by show 13041 + 5101 * j ≤ 7302250; omega⟩, F⟩
  intro n
  induction n with
  | zero =>
    intro j h hn hI
    have hj : j ≤ 512 := by omega
    have oP : OkLP g l b L xs (87 + j) (13041 + 5101 * j) (VC g p l e room_1 s m #[Value.ref b] below meth c 4 (87 + j) (13041 + 5101 * j) (lw_Z below #[Value.ref b] s)) (VC g p l e room_1 s m #[Value.ref b] below meth c 4 (87 + j + 1) (13041 + 5101 * j + 5101) (lw_Z below #[Value.ref b] s)) := ⟨p, e, s, m, below, meth, c, hC j hj, by omega, by omega, rfl, rfl⟩
    have hout : f_L_law_B18 xs L h (nI (6 * j)) = some (.inr (.inl h)) := by
      unfold f_L_law_B18
      rw [if_pos (law_stop hL (by omega) (by omega))]
    exact t_L_law_B18 oP h (nI (6 * j)) _ hout (law_end oP.fst dL_law_1963 dL_law_1964)
  | succ n ih =>
    intro j h hn hI
    have hj : j < 512 := by omega
    have oP : OkLP g l b L xs (87 + j) (13041 + 5101 * j) (VC g p l e room_1 s m #[Value.ref b] below meth c 4 (87 + j) (13041 + 5101 * j) (lw_Z below #[Value.ref b] s)) (VC g p l e room_1 s m #[Value.ref b] below meth c 4 (87 + j + 1) (13041 + 5101 * j + 5101) (lw_Z below #[Value.ref b] s)) := ⟨p, e, s, m, below, meth, c, hC j (by omega), by omega, by omega, rfl, rfl⟩
    obtain ⟨h', hout, hI'⟩ := step j h (by omega) hI
    refine t_L_law_B18 oP h (nI (6 * j)) _ hout ?_
    have k := ih (j + 1) h' (by omega) hI'
    have e1 : nI (6 * j) + 6 = nI (6 * (j + 1)) := by
      show nI (6 * j) + nI 6 = _
      rw [nI_add]
      rfl
    show VC g p l e room_1 s m #[Value.ref b] below meth c 4 (87 + j + 1) (13041 + 5101 * j + 5101) (lw_Z below #[Value.ref b] s) 18 [(0, .ref b), (1, rA g 0), (2, rA g 64), (3, .int (nI (6 * j) + 6))] [] h'
    have e2 : 13041 + 5101 * j + 5101 = 13041 + 5101 * (j + 1) := by omega
    have e3 : 87 + j + 1 = 87 + (j + 1) := by omega
    rw [e1, e2, e3]
    exact k
/-- what holds at the law's entry: the machine, the code, the tables' words (any of lw_tbl by 'hts w (by decide +kernel)'), the script of L ints xs at the cell b, what the Statement gives of the start (any of its parts by flat_of_before) -/
def lw_At (p : Program) (s : State) (m : MethodId) (meth : Method) (c : Code) (b L : Nat) (xs : Nat → Int32) : Prop :=
  p.tables.exec = Jvm.exec ∧ c.code = code ∧ meth.sig.returnType = ret ∧ c.maxLocals = 4 ∧ s.vm.findClass R_law = some m.cls ∧ (∀ w ∈ lw_tbl, w.before #[Value.ref b] s = true) ∧ va_X b L xs s s.heap ∧ b < s.heap.size ∧ meth.locks = false ∧ (Jvm.Cond.and given_1 narrow_1).before #[Value.ref b] s = true
theorem NB_of {args : Array Value} {s : State} (hts : ∀ w ∈ lw_tbl, w.before args s = true) : ∀ w ∈ NB, va_Nw w s := by
  intro w hw
  obtain ⟨h1, h2⟩ := List.mem_filter.mp hw
  have h3 := hts w (List.mem_append_right _ h1)
  cases w <;> first | exact va_Nw.of rfl h3 | cases h2
theorem arr_prim {args : Array Value} {s : State} {ty : FieldType} (h : (Cond.arrayClass ty).before args s = true) (hp : ∀ C, ty ≠ .object C) : ∃ cA : ClassId, ArrOfT s cA ty ∧ va_RA s cA ty := by
  obtain ⟨cA, k, comp, f1, f2, f3⟩ := Cond.arrayClass_spec h
  refine ⟨cA, fun n z => ⟨(fun k h => by cases h), k, f2, comp, f3⟩, ?_⟩
  cases ty <;> first | exact f1 | exact absurd rfl (hp _)
theorem arr_obj {args : Array Value} {s : State} {C : String} (h : (Cond.arrayOver (.object C)).before args s = true) : ∃ cA : ClassId, ArrOfT s cA (.object C) ∧ va_RA s cA (.object C) := by
  obtain ⟨comp, cA, k, h1, h2, h3, h4, h5⟩ := Cond.arrayOver_spec h
  exact ⟨cA, fun n z => ⟨(fun k h => by cases h), k, h3, comp, h4⟩, k, comp, h3, h4, h1, h5⟩
set_option maxRecDepth 100000 in
set_option maxHeartbeats 4000000 in
theorem law_start {p : Program} {e : Env} {s : State} {m : MethodId} {below : List Frame} {meth : Method} {c : Code} (l : Launch) {b L : Nat} {xs : Nat → Int32} (hL : L ≤ 3072) (C0 : lw_At p s m meth c b L xs) (Inv : MH → Prop) (h0 : Inv h00) (step : ∀ (j : Nat) (h : MH), 6 * j + 6 ≤ L → Inv h → ∃ h', f_L_law_B18 xs L h (nI (6 * j)) = some (.inl (nI (6 * j) + 6, h')) ∧ Inv h') : W p l e room_1 s m #[Value.ref b] below meth c s.heap [] 0 0 (lw_Z below #[Value.ref b] s) (entryFrame m ([Value.ref b] : List Value).toArray 4) := by
  obtain ⟨hx, hb, hr, hml, hown, hts0, hX, hbl, hlocks, hgv⟩ := C0
  have hts : ∀ w ∈ TB, w.before #[Value.ref b] s = true := fun w hw => hts0 w (List.mem_filter.mp hw).1
  obtain ⟨c0, i0, hK0⟩ := u_known (C := RX0) (T := TX0) (N := 3) (n := 3) hts uw_X0 (hts _ in_X0)
  obtain ⟨c1, i1, hK1⟩ := u_known (C := RX1) (T := TX1) (N := 6) (n := 6) hts uw_X1 (hts _ in_X1)
  obtain ⟨c2, i2, hK2⟩ := u_known (C := RX2) (T := TX2) (N := 2) (n := 2) hts uw_X2 (hts _ in_X2)
  obtain ⟨c3, i3, hK3⟩ := u_known (C := RX3) (T := TX3) (N := 5) (n := 5) hts uw_X3 (hts _ in_X3)
  obtain ⟨c4, i4, hK4⟩ := u_known (C := RX4) (T := TX4) (N := 2) (n := 2) hts uw_X4 (hts _ in_X4)
  obtain ⟨c5, i5, hK5⟩ := u_known (C := RX5) (T := TX5) (N := 2) (n := 2) hts uw_X5 (hts _ in_X5)
  obtain ⟨c6, i6, hK6⟩ := u_known (C := RX6) (T := TX6) (N := 12) (n := 12) hts uw_X6 (hts _ in_X6)
  obtain ⟨c7, i7, hK7⟩ := u_known (C := RX7) (T := TX7) (N := 32) (n := 32) hts uw_X7 (hts _ in_X7)
  have hao5 : (Cond.arrayOver (.object RX5)).before #[Value.ref b] s = true := hts0 _ (List.mem_of_getElem? (i := 79) (by decide +kernel))
  have hao1 : (Cond.arrayOver (.object RX1)).before #[Value.ref b] s = true := hts0 _ (List.mem_of_getElem? (i := 81) (by decide +kernel))
  have hao0 : (Cond.arrayOver (.object RX0)).before #[Value.ref b] s = true := hts0 _ (List.mem_of_getElem? (i := 83) (by decide +kernel))
  obtain ⟨a0, hA0⟩ := arr_prim (ty := .int) (hts _ ac_int) (fun C => by intro h; cases h)
  obtain ⟨a1, hA1⟩ := arr_prim (ty := .boolean) (hts _ ac_boolean) (fun C => by intro h; cases h)
  obtain ⟨a2, hA2⟩ := arr_prim (ty := .long) (hts _ ac_long) (fun C => by intro h; cases h)
  obtain ⟨a3, hA3⟩ := arr_obj hao5
  obtain ⟨a4, hA4⟩ := arr_obj hao1
  obtain ⟨a5, hA5⟩ := arr_obj hao0
  obtain ⟨g, hgB, hK⟩ : ∃ g : Gx, g.2.2 = s.heap.size ∧ va_K g.1 cls8 (tys6 g.2.1) s := by
    refine ⟨((fun k => match k with | 0 => c0 | 1 => c1 | 2 => c2 | 3 => c3 | 4 => c4 | 5 => c5 | 6 => c6 | _ => c7, fun k => match k with | 0 => i0 | 1 => i1 | 2 => i2 | 3 => i3 | 4 => i4 | 5 => i5 | 6 => i6 | _ => i7), (fun k => match k with | 0 => a0 | 1 => a1 | 2 => a2 | 3 => a3 | 4 => a4 | _ => a5), s.heap.size), rfl, ?_, ?_⟩
    · intro k q hq
      match k, hq with
      | 0, hq => cases hq; exact hK0
      | 1, hq => cases hq; exact hK1
      | 2, hq => cases hq; exact hK2
      | 3, hq => cases hq; exact hK3
      | 4, hq => cases hq; exact hK4
      | 5, hq => cases hq; exact hK5
      | 6, hq => cases hq; exact hK6
      | 7, hq => cases hq; exact hK7
      | k + 8, hq => simp [cls8] at hq
    · intro k q hq
      match k, hq with
      | 0, hq => cases hq; exact hA0
      | 1, hq => cases hq; exact hA1
      | 2, hq => cases hq; exact hA2
      | 3, hq => cases hq; exact hA3
      | 4, hq => cases hq; exact hA4
      | 5, hq => cases hq; exact hA5
      | k + 6, hq => simp [tys6] at hq
  have F : Fx g RL cL_law 4 9 342 p room_1 s m #[Value.ref b] c 0 0 := ⟨hx, hb, hml, hown, hts, hK, NB_of hts0, Nat.le_refl _, Nat.le_refl _, Nat.zero_le _, Nat.zero_le _⟩
  obtain ⟨V, hV⟩ : ∃ V : VKT, V = VKC g p l e room_1 s m #[Value.ref b] below meth c 4 (lw_Z below #[Value.ref b] s) := ⟨_, rfl⟩
  have o : OkK g l RL cL_law 4 9 342 600000 7302250 false V := ⟨p, e, room_1, s, m, _, below, meth, c, _, ⟨F, Nat.le_refl _, Nat.le_refl _, by rw [hgB]; exact Nat.le_refl _, (fun h => by cases h), va_AO.of hao5, va_AO.of hao1, va_AO.of hao0⟩, hV⟩
  have key : V 0 [(0, .ref b)] [] (fun _ => .inr (0, [])) 0 0 0 := by
    refine Q_new (ci := 6) (ty := tyX6) (fs := [.null, .null, .null, .null, .null, .null, .null, .null, .null, .int 0, .int 0, .null]) o dL_law_0 rfl uw_X6 tyX6_ok cl_L_7 in_X6 iz_X6 df_X6 (by decide) (by decide) (fun d1 e1 => ?_)
    refine Q_dup o dL_law_3 rfl ?_
    refine Q_init o dL_law_4 li_L_9 rfl (Nat.le_of_ble_eq_true rfl) (k_X6 g l d1 (by rw [e1, va_up_self])) (by decide) (by decide) (fun d2 e2 => ?_)
    refine Q_astore_n (lv2 := [(0, .ref b), (1, rA g 0)]) o dL_law_7 rfl (by decide) rfl ?_
    refine Q_new (ci := 7) (ty := tyX7) (fs := [.int 0, .null, .int 0, .long 0, .long 0, .null, .null, .null, .null, .null, .null, .null, .null, .null, .null, .null, .int 0, .null, .null, .null, .null, .int 0, .int 0, .null, .null, .int 0, .int 0, .null, .null, .null, .null, .long 0]) o dL_law_8 rfl uw_X7 tyX7_ok cl_L_10 in_X7 iz_X7 df_X7 (by decide) (by decide) (fun d3 e3 => ?_)
    refine Q_dup o dL_law_11 rfl ?_
    refine Q_init o dL_law_12 li_L_12 rfl (Nat.le_of_ble_eq_true rfl) (k_X7 g l d3 (by rw [e3, va_up_self]) (fun j hj => by rw [e3, va_up_ne _ _ (by omega), e2])) (by decide) (by decide) (fun d4 e4 => ?_)
    refine Q_astore_n (lv2 := [(0, .ref b), (1, rA g 0), (2, rA g 64)]) o dL_law_15 rfl (by decide) rfl ?_
    refine Q_iconst (v := 0) o dL_law_16 (by decide) ?_
    refine Q_istore_n (lv2 := [(0, .ref b), (1, rA g 0), (2, rA g 64), (3, .int 0)]) o dL_law_17 rfl (by decide) rfl ?_
    rw [hV, e4]
    intro hN H locs ls hP hz hS hl
    have CL : LwC g b L xs p s m meth c 87 13041 := ⟨⟨hx, hb, hml, hown, hts, hK, NB_of hts0, Nat.le_refl _, Nat.le_refl _, by decide, by decide⟩, hX, hbl, hgB, hr, hlocks⟩
    exact law_loop (l := l) (e := e) hL Inv step CL (L / 6) 0 h00 (by omega) h0 H locs ls hP (fun _ => hz) hS hl
  rw [hV] at key
  have hl := lv_entry ([.ref b]) (n := 4) (Nat.le_of_ble_eq_true rfl)
  rw [lg_entry_eq]
  exact key (by rw [hgB]) s.heap [] _ (fun k q h => by simp [wk] at h) (by rw [hgB]; rfl) va_S.rf hl
