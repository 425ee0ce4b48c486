/-- the class's world while its rows are made -/
def cP (g : Gx) (r t v d : Nat) (a : Nat) : va_E :=
  if a = 1 then .inl (g.2.1 3, 6, .inr (.inr (.inr (.inr (fun j => if j < r then some (g.2.2 + (18 + 2 * j)) else none)))))
  else if a = 2 then .inl (g.2.1 3, 4, .inr (.inr (.inr (.inr (fun j => if j < t then some (g.2.2 + (30 + 2 * j)) else none)))))
  else if a = 3 then .inl (g.2.1 4, 6, .inr (.inr (.inr (.inr (fun j => if j < v then some (g.2.2 + (38 + 3 * j)) else none)))))
  else if a = 4 then .inl (g.2.1 5, 4, .inr (.inr (.inr (.inr (fun j => if j < d then some (g.2.2 + (56 + 2 * j)) else none)))))
  else cellE g h00 a
theorem cP_1 (g : Gx) : (.inl (g.2.1 3, 6, .inr (.inr (.inr (.inr (fun _ => none))))) : va_E) = cP g 0 0 0 0 1 := by simp [cP]
theorem cP_2 (g : Gx) : (.inl (g.2.1 3, 4, .inr (.inr (.inr (.inr (fun _ => none))))) : va_E) = cP g 0 0 0 0 2 := by simp [cP]
theorem cP_3 (g : Gx) : (.inl (g.2.1 4, 6, .inr (.inr (.inr (.inr (fun _ => none))))) : va_E) = cP g 0 0 0 0 3 := by simp [cP]
theorem cP_4 (g : Gx) : (.inl (g.2.1 5, 4, .inr (.inr (.inr (.inr (fun _ => none))))) : va_E) = cP g 0 0 0 0 4 := by simp [cP]
theorem cP_o {g : Gx} {r t v d a : Nat} (h : a = 0 ∨ 5 ≤ a) : cP g r t v d a = cellE g h00 a := by
  unfold cP
  rw [if_neg (by omega), if_neg (by omega), if_neg (by omega), if_neg (by omega)]
theorem up_lt {α : Type} (f : Nat → α) (z : α) (r : Nat) : va_up (fun j => if j < r then f j else z) r (f r) = fun j => if j < r + 1 then f j else z := by
  funext j
  unfold va_up
  by_cases h1 : j = r
  · subst h1
    rw [if_pos rfl, if_pos (by omega)]
  · rw [if_neg h1]
    by_cases h2 : j < r
    · show (if j < r then f j else z) = _
      rw [if_pos h2, if_pos (by omega)]
    · show (if j < r then f j else z) = _
      rw [if_neg h2, if_neg (by omega)]
theorem Q_conv {g : Gx} {l : Launch} {own : String} {cc : ByteArray} {nL fr lo CE SL : Nat} {ini : Bool} {V : VKT} {pc : Nat} {lv : List (Nat × Value)} {st : List Value} {c c2 : Nat → va_E} {N ce sl N2 ce2 sl2 : Nat} (o : OkK g l own cc nL fr lo CE SL ini V) (hN : N = N2) (hce : ce = ce2) (hsl : sl = sl2) (hc : ∀ a, a < N2 → c a = c2 a) (k : V pc lv st c2 N2 ce2 sl2) : V pc lv st c N ce sl := by
  subst hN
  subst hce
  subst hsl
  obtain ⟨p, e, R, s, m, args, below, meth, cd, Q, F, rfl⟩ := o
  intro hN H locs ls hP hz hS hl
  rw [wk_congr hc] at hP
  exact k hN H locs ls hP hz hS hl
set_option maxRecDepth 100000 in
set_option maxHeartbeats 40000000 in
theorem kA_X6 {g : Gx} {l : Launch} {V : VKT} (c : Nat → va_E) (hc : c 0 = .inr (6, [.null, .null, .null, .null, .null, .null, .null, .null, .null, .int 0, .int 0, .null])) (o : OkK g l RX6 cX6_init 2 2 33 63 1526 true V) (kt : V 113 [(0, rA g 0), (1, .int 0)] [] (cP g 0 0 0 0) 18 17 354) : V 0 [(0, rA g 0)] [] c 1 0 0 := by
  refine Q_aload_n o 0 dX6_init_0 rfl rfl ?_
  refine Q_objInit o dX6_init_1 lo_X6_3 (by decide) ?_
  refine Q_aload_n o 0 dX6_init_4 rfl rfl ?_
  refine Q_bipush (v := 6) o dX6_init_5 (by decide) ?_
  refine Q_newq (ti := 3) (n := 6) o dX6_init_7 cl_X6_9 (fun _ q => q.1) rfl (by decide) (by decide) (by decide) (by decide) (by decide) (fun c1 e1 => ?_)
  have f0_1 : c1 0 = .inr (6, [.null, .null, .null, .null, .null, .null, .null, .null, .null, .int 0, .int 0, .null]) := by rw [e1, va_up_ne _ _ (by decide)]; exact hc
  have f1_1 : c1 1 = .inl (g.2.1 3, 6, .inr (.inr (.inr (.inr (fun _ => none))))) := by rw [e1, va_up_self]
  refine Q_put (fs := [.null, .null, .null, .null, .null, .null, .null, .null, .null, .int 0, .int 0, .null]) o [rA g 1, .null, .null, .null, .null, .null, .null, .null, .null, .int 0, .int 0, .null] dX6_init_10 fk_X6_11 f0_1 (by decide) (by show 0 < 12; decide) rfl rfl rfl (fun c2 e2 => ?_)
  have f1_2 : c2 1 = .inl (g.2.1 3, 6, .inr (.inr (.inr (.inr (fun _ => none))))) := by rw [e2, va_up_ne _ _ (by decide)]; exact f1_1
  have f0_2 : c2 0 = .inr (6, [rA g 1, .null, .null, .null, .null, .null, .null, .null, .null, .int 0, .int 0, .null]) := by rw [e2, va_up_self]
  refine Q_aload_n o 0 dX6_init_13 rfl rfl ?_
  refine Q_iconst (v := 4) o dX6_init_14 (by decide) ?_
  refine Q_newq (ti := 3) (n := 4) o dX6_init_15 cl_X6_9 (fun _ q => q.1) rfl (by decide) (by decide) (by decide) (by decide) (by decide) (fun c3 e3 => ?_)
  have f0_3 : c3 0 = .inr (6, [rA g 1, .null, .null, .null, .null, .null, .null, .null, .null, .int 0, .int 0, .null]) := by rw [e3, va_up_ne _ _ (by decide)]; exact f0_2
  have f1_3 : c3 1 = .inl (g.2.1 3, 6, .inr (.inr (.inr (.inr (fun _ => none))))) := by rw [e3, va_up_ne _ _ (by decide)]; exact f1_2
  have f2_3 : c3 2 = .inl (g.2.1 3, 4, .inr (.inr (.inr (.inr (fun _ => none))))) := by rw [e3, va_up_self]
  refine Q_put (fs := [rA g 1, .null, .null, .null, .null, .null, .null, .null, .null, .int 0, .int 0, .null]) o [rA g 1, rA g 2, .null, .null, .null, .null, .null, .null, .null, .int 0, .int 0, .null] dX6_init_18 fk_X6_15 f0_3 (by decide) (by show 1 < 12; decide) rfl rfl rfl (fun c4 e4 => ?_)
  have f1_4 : c4 1 = .inl (g.2.1 3, 6, .inr (.inr (.inr (.inr (fun _ => none))))) := by rw [e4, va_up_ne _ _ (by decide)]; exact f1_3
  have f2_4 : c4 2 = .inl (g.2.1 3, 4, .inr (.inr (.inr (.inr (fun _ => none))))) := by rw [e4, va_up_ne _ _ (by decide)]; exact f2_3
  have f0_4 : c4 0 = .inr (6, [rA g 1, rA g 2, .null, .null, .null, .null, .null, .null, .null, .int 0, .int 0, .null]) := by rw [e4, va_up_self]
  refine Q_aload_n o 0 dX6_init_21 rfl rfl ?_
  refine Q_bipush (v := 6) o dX6_init_22 (by decide) ?_
  refine Q_newq (ti := 4) (n := 6) o dX6_init_24 cl_X6_18 (fun _ q => q.2.1) rfl (by decide) (by decide) (by decide) (by decide) (by decide) (fun c5 e5 => ?_)
  have f0_5 : c5 0 = .inr (6, [rA g 1, rA g 2, .null, .null, .null, .null, .null, .null, .null, .int 0, .int 0, .null]) := by rw [e5, va_up_ne _ _ (by decide)]; exact f0_4
  have f1_5 : c5 1 = .inl (g.2.1 3, 6, .inr (.inr (.inr (.inr (fun _ => none))))) := by rw [e5, va_up_ne _ _ (by decide)]; exact f1_4
  have f2_5 : c5 2 = .inl (g.2.1 3, 4, .inr (.inr (.inr (.inr (fun _ => none))))) := by rw [e5, va_up_ne _ _ (by decide)]; exact f2_4
  have f3_5 : c5 3 = .inl (g.2.1 4, 6, .inr (.inr (.inr (.inr (fun _ => none))))) := by rw [e5, va_up_self]
  refine Q_put (fs := [rA g 1, rA g 2, .null, .null, .null, .null, .null, .null, .null, .int 0, .int 0, .null]) o [rA g 1, rA g 2, rA g 3, .null, .null, .null, .null, .null, .null, .int 0, .int 0, .null] dX6_init_27 fk_X6_20 f0_5 (by decide) (by show 2 < 12; decide) rfl rfl rfl (fun c6 e6 => ?_)
  have f1_6 : c6 1 = .inl (g.2.1 3, 6, .inr (.inr (.inr (.inr (fun _ => none))))) := by rw [e6, va_up_ne _ _ (by decide)]; exact f1_5
  have f2_6 : c6 2 = .inl (g.2.1 3, 4, .inr (.inr (.inr (.inr (fun _ => none))))) := by rw [e6, va_up_ne _ _ (by decide)]; exact f2_5
  have f3_6 : c6 3 = .inl (g.2.1 4, 6, .inr (.inr (.inr (.inr (fun _ => none))))) := by rw [e6, va_up_ne _ _ (by decide)]; exact f3_5
  have f0_6 : c6 0 = .inr (6, [rA g 1, rA g 2, rA g 3, .null, .null, .null, .null, .null, .null, .int 0, .int 0, .null]) := by rw [e6, va_up_self]
  refine Q_aload_n o 0 dX6_init_30 rfl rfl ?_
  refine Q_iconst (v := 4) o dX6_init_31 (by decide) ?_
  refine Q_newq (ti := 5) (n := 4) o dX6_init_32 cl_X6_24 (fun _ q => q.2.2) rfl (by decide) (by decide) (by decide) (by decide) (by decide) (fun c7 e7 => ?_)
  have f0_7 : c7 0 = .inr (6, [rA g 1, rA g 2, rA g 3, .null, .null, .null, .null, .null, .null, .int 0, .int 0, .null]) := by rw [e7, va_up_ne _ _ (by decide)]; exact f0_6
  have f1_7 : c7 1 = .inl (g.2.1 3, 6, .inr (.inr (.inr (.inr (fun _ => none))))) := by rw [e7, va_up_ne _ _ (by decide)]; exact f1_6
  have f2_7 : c7 2 = .inl (g.2.1 3, 4, .inr (.inr (.inr (.inr (fun _ => none))))) := by rw [e7, va_up_ne _ _ (by decide)]; exact f2_6
  have f3_7 : c7 3 = .inl (g.2.1 4, 6, .inr (.inr (.inr (.inr (fun _ => none))))) := by rw [e7, va_up_ne _ _ (by decide)]; exact f3_6
  have f4_7 : c7 4 = .inl (g.2.1 5, 4, .inr (.inr (.inr (.inr (fun _ => none))))) := by rw [e7, va_up_self]
  refine Q_put (fs := [rA g 1, rA g 2, rA g 3, .null, .null, .null, .null, .null, .null, .int 0, .int 0, .null]) o [rA g 1, rA g 2, rA g 3, rA g 4, .null, .null, .null, .null, .null, .int 0, .int 0, .null] dX6_init_35 fk_X6_26 f0_7 (by decide) (by show 3 < 12; decide) rfl rfl rfl (fun c8 e8 => ?_)
  have f1_8 : c8 1 = .inl (g.2.1 3, 6, .inr (.inr (.inr (.inr (fun _ => none))))) := by rw [e8, va_up_ne _ _ (by decide)]; exact f1_7
  have f2_8 : c8 2 = .inl (g.2.1 3, 4, .inr (.inr (.inr (.inr (fun _ => none))))) := by rw [e8, va_up_ne _ _ (by decide)]; exact f2_7
  have f3_8 : c8 3 = .inl (g.2.1 4, 6, .inr (.inr (.inr (.inr (fun _ => none))))) := by rw [e8, va_up_ne _ _ (by decide)]; exact f3_7
  have f4_8 : c8 4 = .inl (g.2.1 5, 4, .inr (.inr (.inr (.inr (fun _ => none))))) := by rw [e8, va_up_ne _ _ (by decide)]; exact f4_7
  have f0_8 : c8 0 = .inr (6, [rA g 1, rA g 2, rA g 3, rA g 4, .null, .null, .null, .null, .null, .int 0, .int 0, .null]) := by rw [e8, va_up_self]
  refine Q_aload_n o 0 dX6_init_38 rfl rfl ?_
  refine Q_new (ci := 0) (ty := tyX0) (fs := [.null, .int 0, .int 0]) o dX6_init_39 rfl uw_X0 tyX0_ok cl_X6_24 in_X0 iz_X0 df_X0 (by decide) (by decide) (fun c9 e9 => ?_)
  have f0_9 : c9 0 = .inr (6, [rA g 1, rA g 2, rA g 3, rA g 4, .null, .null, .null, .null, .null, .int 0, .int 0, .null]) := by rw [e9, va_up_ne _ _ (by decide)]; exact f0_8
  have f1_9 : c9 1 = .inl (g.2.1 3, 6, .inr (.inr (.inr (.inr (fun _ => none))))) := by rw [e9, va_up_ne _ _ (by decide)]; exact f1_8
  have f2_9 : c9 2 = .inl (g.2.1 3, 4, .inr (.inr (.inr (.inr (fun _ => none))))) := by rw [e9, va_up_ne _ _ (by decide)]; exact f2_8
  have f3_9 : c9 3 = .inl (g.2.1 4, 6, .inr (.inr (.inr (.inr (fun _ => none))))) := by rw [e9, va_up_ne _ _ (by decide)]; exact f3_8
  have f4_9 : c9 4 = .inl (g.2.1 5, 4, .inr (.inr (.inr (.inr (fun _ => none))))) := by rw [e9, va_up_ne _ _ (by decide)]; exact f4_8
  have f5_9 : c9 5 = .inr (0, [.null, .int 0, .int 0]) := by rw [e9, va_up_self]
  refine Q_dup o dX6_init_42 rfl ?_
  refine Q_init o dX6_init_43 li_X6_30 rfl (Nat.le_of_ble_eq_true rfl) (k_X0 g l 5 6 c9 f5_9 (by decide)) (by decide) (by decide) (fun c10 e10 => ?_)
  have f0_10 : c10 0 = .inr (6, [rA g 1, rA g 2, rA g 3, rA g 4, .null, .null, .null, .null, .null, .int 0, .int 0, .null]) := by rw [e10, va_up_ne _ _ (by decide), va_up_ne _ _ (by decide), va_up_ne _ _ (by decide), va_up_ne _ _ (by decide)]; exact f0_9
  have f1_10 : c10 1 = .inl (g.2.1 3, 6, .inr (.inr (.inr (.inr (fun _ => none))))) := by rw [e10, va_up_ne _ _ (by decide), va_up_ne _ _ (by decide), va_up_ne _ _ (by decide), va_up_ne _ _ (by decide)]; exact f1_9
  have f2_10 : c10 2 = .inl (g.2.1 3, 4, .inr (.inr (.inr (.inr (fun _ => none))))) := by rw [e10, va_up_ne _ _ (by decide), va_up_ne _ _ (by decide), va_up_ne _ _ (by decide), va_up_ne _ _ (by decide)]; exact f2_9
  have f3_10 : c10 3 = .inl (g.2.1 4, 6, .inr (.inr (.inr (.inr (fun _ => none))))) := by rw [e10, va_up_ne _ _ (by decide), va_up_ne _ _ (by decide), va_up_ne _ _ (by decide), va_up_ne _ _ (by decide)]; exact f3_9
  have f4_10 : c10 4 = .inl (g.2.1 5, 4, .inr (.inr (.inr (.inr (fun _ => none))))) := by rw [e10, va_up_ne _ _ (by decide), va_up_ne _ _ (by decide), va_up_ne _ _ (by decide), va_up_ne _ _ (by decide)]; exact f4_9
  have f5_10 : c10 5 = .inr (0, [rA g 6, .int 0, .int 0]) := by rw [e10, va_up_self]
  refine Q_put (fs := [rA g 1, rA g 2, rA g 3, rA g 4, .null, .null, .null, .null, .null, .int 0, .int 0, .null]) o [rA g 1, rA g 2, rA g 3, rA g 4, rA g 5, .null, .null, .null, .null, .int 0, .int 0, .null] dX6_init_46 fk_X6_31 f0_10 (by decide) (by show 4 < 12; decide) rfl rfl rfl (fun c11 e11 => ?_)
  have f1_11 : c11 1 = .inl (g.2.1 3, 6, .inr (.inr (.inr (.inr (fun _ => none))))) := by rw [e11, va_up_ne _ _ (by decide)]; exact f1_10
  have f2_11 : c11 2 = .inl (g.2.1 3, 4, .inr (.inr (.inr (.inr (fun _ => none))))) := by rw [e11, va_up_ne _ _ (by decide)]; exact f2_10
  have f3_11 : c11 3 = .inl (g.2.1 4, 6, .inr (.inr (.inr (.inr (fun _ => none))))) := by rw [e11, va_up_ne _ _ (by decide)]; exact f3_10
  have f4_11 : c11 4 = .inl (g.2.1 5, 4, .inr (.inr (.inr (.inr (fun _ => none))))) := by rw [e11, va_up_ne _ _ (by decide)]; exact f4_10
  have f5_11 : c11 5 = .inr (0, [rA g 6, .int 0, .int 0]) := by rw [e11, va_up_ne _ _ (by decide)]; exact f5_10
  have f0_11 : c11 0 = .inr (6, [rA g 1, rA g 2, rA g 3, rA g 4, rA g 5, .null, .null, .null, .null, .int 0, .int 0, .null]) := by rw [e11, va_up_self]
  refine Q_aload_n o 0 dX6_init_49 rfl rfl ?_
  refine Q_new (ci := 5) (ty := tyX5) (fs := [.null, .int 0]) o dX6_init_50 rfl uw_X5 tyX5_ok cl_X6_9 in_X5 iz_X5 df_X5 (by decide) (by decide) (fun c12 e12 => ?_)
  have f0_12 : c12 0 = .inr (6, [rA g 1, rA g 2, rA g 3, rA g 4, rA g 5, .null, .null, .null, .null, .int 0, .int 0, .null]) := by rw [e12, va_up_ne _ _ (by decide)]; exact f0_11
  have f1_12 : c12 1 = .inl (g.2.1 3, 6, .inr (.inr (.inr (.inr (fun _ => none))))) := by rw [e12, va_up_ne _ _ (by decide)]; exact f1_11
  have f2_12 : c12 2 = .inl (g.2.1 3, 4, .inr (.inr (.inr (.inr (fun _ => none))))) := by rw [e12, va_up_ne _ _ (by decide)]; exact f2_11
  have f3_12 : c12 3 = .inl (g.2.1 4, 6, .inr (.inr (.inr (.inr (fun _ => none))))) := by rw [e12, va_up_ne _ _ (by decide)]; exact f3_11
  have f4_12 : c12 4 = .inl (g.2.1 5, 4, .inr (.inr (.inr (.inr (fun _ => none))))) := by rw [e12, va_up_ne _ _ (by decide)]; exact f4_11
  have f5_12 : c12 5 = .inr (0, [rA g 6, .int 0, .int 0]) := by rw [e12, va_up_ne _ _ (by decide)]; exact f5_11
  have f7_12 : c12 7 = .inr (5, [.null, .int 0]) := by rw [e12, va_up_self]
  refine Q_dup o dX6_init_53 rfl ?_
  refine Q_init o dX6_init_54 li_X6_35 rfl (Nat.le_of_ble_eq_true rfl) (k_X5 g l 7 8 c12 f7_12 (by decide)) (by decide) (by decide) (fun c13 e13 => ?_)
  have f0_13 : c13 0 = .inr (6, [rA g 1, rA g 2, rA g 3, rA g 4, rA g 5, .null, .null, .null, .null, .int 0, .int 0, .null]) := by rw [e13, va_up_ne _ _ (by decide), va_up_ne _ _ (by decide), va_up_ne _ _ (by decide)]; exact f0_12
  have f1_13 : c13 1 = .inl (g.2.1 3, 6, .inr (.inr (.inr (.inr (fun _ => none))))) := by rw [e13, va_up_ne _ _ (by decide), va_up_ne _ _ (by decide), va_up_ne _ _ (by decide)]; exact f1_12
  have f2_13 : c13 2 = .inl (g.2.1 3, 4, .inr (.inr (.inr (.inr (fun _ => none))))) := by rw [e13, va_up_ne _ _ (by decide), va_up_ne _ _ (by decide), va_up_ne _ _ (by decide)]; exact f2_12
  have f3_13 : c13 3 = .inl (g.2.1 4, 6, .inr (.inr (.inr (.inr (fun _ => none))))) := by rw [e13, va_up_ne _ _ (by decide), va_up_ne _ _ (by decide), va_up_ne _ _ (by decide)]; exact f3_12
  have f4_13 : c13 4 = .inl (g.2.1 5, 4, .inr (.inr (.inr (.inr (fun _ => none))))) := by rw [e13, va_up_ne _ _ (by decide), va_up_ne _ _ (by decide), va_up_ne _ _ (by decide)]; exact f4_12
  have f5_13 : c13 5 = .inr (0, [rA g 6, .int 0, .int 0]) := by rw [e13, va_up_ne _ _ (by decide), va_up_ne _ _ (by decide), va_up_ne _ _ (by decide)]; exact f5_12
  have f7_13 : c13 7 = .inr (5, [rA g 8, .int (-1)]) := by rw [e13, va_up_self]
  refine Q_put (fs := [rA g 1, rA g 2, rA g 3, rA g 4, rA g 5, .null, .null, .null, .null, .int 0, .int 0, .null]) o [rA g 1, rA g 2, rA g 3, rA g 4, rA g 5, rA g 7, .null, .null, .null, .int 0, .int 0, .null] dX6_init_57 fk_X6_36 f0_13 (by decide) (by show 5 < 12; decide) rfl rfl rfl (fun c14 e14 => ?_)
  have f1_14 : c14 1 = .inl (g.2.1 3, 6, .inr (.inr (.inr (.inr (fun _ => none))))) := by rw [e14, va_up_ne _ _ (by decide)]; exact f1_13
  have f2_14 : c14 2 = .inl (g.2.1 3, 4, .inr (.inr (.inr (.inr (fun _ => none))))) := by rw [e14, va_up_ne _ _ (by decide)]; exact f2_13
  have f3_14 : c14 3 = .inl (g.2.1 4, 6, .inr (.inr (.inr (.inr (fun _ => none))))) := by rw [e14, va_up_ne _ _ (by decide)]; exact f3_13
  have f4_14 : c14 4 = .inl (g.2.1 5, 4, .inr (.inr (.inr (.inr (fun _ => none))))) := by rw [e14, va_up_ne _ _ (by decide)]; exact f4_13
  have f5_14 : c14 5 = .inr (0, [rA g 6, .int 0, .int 0]) := by rw [e14, va_up_ne _ _ (by decide)]; exact f5_13
  have f7_14 : c14 7 = .inr (5, [rA g 8, .int (-1)]) := by rw [e14, va_up_ne _ _ (by decide)]; exact f7_13
  have f0_14 : c14 0 = .inr (6, [rA g 1, rA g 2, rA g 3, rA g 4, rA g 5, rA g 7, .null, .null, .null, .int 0, .int 0, .null]) := by rw [e14, va_up_self]
  refine Q_aload_n o 0 dX6_init_60 rfl rfl ?_
  refine Q_new (ci := 3) (ty := tyX3) (fs := [.null, .null, .null, .null, .int 0]) o dX6_init_61 rfl uw_X3 tyX3_ok cl_X6_40 in_X3 iz_X3 df_X3 (by decide) (by decide) (fun c15 e15 => ?_)
  have f0_15 : c15 0 = .inr (6, [rA g 1, rA g 2, rA g 3, rA g 4, rA g 5, rA g 7, .null, .null, .null, .int 0, .int 0, .null]) := by rw [e15, va_up_ne _ _ (by decide)]; exact f0_14
  have f1_15 : c15 1 = .inl (g.2.1 3, 6, .inr (.inr (.inr (.inr (fun _ => none))))) := by rw [e15, va_up_ne _ _ (by decide)]; exact f1_14
  have f2_15 : c15 2 = .inl (g.2.1 3, 4, .inr (.inr (.inr (.inr (fun _ => none))))) := by rw [e15, va_up_ne _ _ (by decide)]; exact f2_14
  have f3_15 : c15 3 = .inl (g.2.1 4, 6, .inr (.inr (.inr (.inr (fun _ => none))))) := by rw [e15, va_up_ne _ _ (by decide)]; exact f3_14
  have f4_15 : c15 4 = .inl (g.2.1 5, 4, .inr (.inr (.inr (.inr (fun _ => none))))) := by rw [e15, va_up_ne _ _ (by decide)]; exact f4_14
  have f5_15 : c15 5 = .inr (0, [rA g 6, .int 0, .int 0]) := by rw [e15, va_up_ne _ _ (by decide)]; exact f5_14
  have f7_15 : c15 7 = .inr (5, [rA g 8, .int (-1)]) := by rw [e15, va_up_ne _ _ (by decide)]; exact f7_14
  have f9_15 : c15 9 = .inr (3, [.null, .null, .null, .null, .int 0]) := by rw [e15, va_up_self]
  refine Q_dup o dX6_init_64 rfl ?_
  refine Q_init o dX6_init_65 li_X6_42 rfl (Nat.le_of_ble_eq_true rfl) (k_X3 g l 9 10 c15 f9_15 (by decide)) (by decide) (by decide) (fun c16 e16 => ?_)
  have f0_16 : c16 0 = .inr (6, [rA g 1, rA g 2, rA g 3, rA g 4, rA g 5, rA g 7, .null, .null, .null, .int 0, .int 0, .null]) := by rw [e16, va_up_ne _ _ (by decide), va_up_ne _ _ (by decide), va_up_ne _ _ (by decide), va_up_ne _ _ (by decide), va_up_ne _ _ (by decide), va_up_ne _ _ (by decide), va_up_ne _ _ (by decide), va_up_ne _ _ (by decide), va_up_ne _ _ (by decide)]; exact f0_15
  have f1_16 : c16 1 = .inl (g.2.1 3, 6, .inr (.inr (.inr (.inr (fun _ => none))))) := by rw [e16, va_up_ne _ _ (by decide), va_up_ne _ _ (by decide), va_up_ne _ _ (by decide), va_up_ne _ _ (by decide), va_up_ne _ _ (by decide), va_up_ne _ _ (by decide), va_up_ne _ _ (by decide), va_up_ne _ _ (by decide), va_up_ne _ _ (by decide)]; exact f1_15
  have f2_16 : c16 2 = .inl (g.2.1 3, 4, .inr (.inr (.inr (.inr (fun _ => none))))) := by rw [e16, va_up_ne _ _ (by decide), va_up_ne _ _ (by decide), va_up_ne _ _ (by decide), va_up_ne _ _ (by decide), va_up_ne _ _ (by decide), va_up_ne _ _ (by decide), va_up_ne _ _ (by decide), va_up_ne _ _ (by decide), va_up_ne _ _ (by decide)]; exact f2_15
  have f3_16 : c16 3 = .inl (g.2.1 4, 6, .inr (.inr (.inr (.inr (fun _ => none))))) := by rw [e16, va_up_ne _ _ (by decide), va_up_ne _ _ (by decide), va_up_ne _ _ (by decide), va_up_ne _ _ (by decide), va_up_ne _ _ (by decide), va_up_ne _ _ (by decide), va_up_ne _ _ (by decide), va_up_ne _ _ (by decide), va_up_ne _ _ (by decide)]; exact f3_15
  have f4_16 : c16 4 = .inl (g.2.1 5, 4, .inr (.inr (.inr (.inr (fun _ => none))))) := by rw [e16, va_up_ne _ _ (by decide), va_up_ne _ _ (by decide), va_up_ne _ _ (by decide), va_up_ne _ _ (by decide), va_up_ne _ _ (by decide), va_up_ne _ _ (by decide), va_up_ne _ _ (by decide), va_up_ne _ _ (by decide), va_up_ne _ _ (by decide)]; exact f4_15
  have f5_16 : c16 5 = .inr (0, [rA g 6, .int 0, .int 0]) := by rw [e16, va_up_ne _ _ (by decide), va_up_ne _ _ (by decide), va_up_ne _ _ (by decide), va_up_ne _ _ (by decide), va_up_ne _ _ (by decide), va_up_ne _ _ (by decide), va_up_ne _ _ (by decide), va_up_ne _ _ (by decide), va_up_ne _ _ (by decide)]; exact f5_15
  have f7_16 : c16 7 = .inr (5, [rA g 8, .int (-1)]) := by rw [e16, va_up_ne _ _ (by decide), va_up_ne _ _ (by decide), va_up_ne _ _ (by decide), va_up_ne _ _ (by decide), va_up_ne _ _ (by decide), va_up_ne _ _ (by decide), va_up_ne _ _ (by decide), va_up_ne _ _ (by decide), va_up_ne _ _ (by decide)]; exact f7_15
  have f9_16 : c16 9 = .inr (3, [rA g 10, rA g 11, rA g 12, rA g 13, .int 0]) := by rw [e16, va_up_self]
  refine Q_put (fs := [rA g 1, rA g 2, rA g 3, rA g 4, rA g 5, rA g 7, .null, .null, .null, .int 0, .int 0, .null]) o [rA g 1, rA g 2, rA g 3, rA g 4, rA g 5, rA g 7, rA g 9, .null, .null, .int 0, .int 0, .null] dX6_init_68 fk_X6_43 f0_16 (by decide) (by show 6 < 12; decide) rfl rfl rfl (fun c17 e17 => ?_)
  have f1_17 : c17 1 = .inl (g.2.1 3, 6, .inr (.inr (.inr (.inr (fun _ => none))))) := by rw [e17, va_up_ne _ _ (by decide)]; exact f1_16
  have f2_17 : c17 2 = .inl (g.2.1 3, 4, .inr (.inr (.inr (.inr (fun _ => none))))) := by rw [e17, va_up_ne _ _ (by decide)]; exact f2_16
  have f3_17 : c17 3 = .inl (g.2.1 4, 6, .inr (.inr (.inr (.inr (fun _ => none))))) := by rw [e17, va_up_ne _ _ (by decide)]; exact f3_16
  have f4_17 : c17 4 = .inl (g.2.1 5, 4, .inr (.inr (.inr (.inr (fun _ => none))))) := by rw [e17, va_up_ne _ _ (by decide)]; exact f4_16
  have f5_17 : c17 5 = .inr (0, [rA g 6, .int 0, .int 0]) := by rw [e17, va_up_ne _ _ (by decide)]; exact f5_16
  have f7_17 : c17 7 = .inr (5, [rA g 8, .int (-1)]) := by rw [e17, va_up_ne _ _ (by decide)]; exact f7_16
  have f9_17 : c17 9 = .inr (3, [rA g 10, rA g 11, rA g 12, rA g 13, .int 0]) := by rw [e17, va_up_ne _ _ (by decide)]; exact f9_16
  have f0_17 : c17 0 = .inr (6, [rA g 1, rA g 2, rA g 3, rA g 4, rA g 5, rA g 7, rA g 9, .null, .null, .int 0, .int 0, .null]) := by rw [e17, va_up_self]
  refine Q_aload_n o 0 dX6_init_71 rfl rfl ?_
  refine Q_new (ci := 4) (ty := tyX4) (fs := [.null, .null]) o dX6_init_72 rfl uw_X4 tyX4_ok cl_X6_47 in_X4 iz_X4 df_X4 (by decide) (by decide) (fun c18 e18 => ?_)
  have f0_18 : c18 0 = .inr (6, [rA g 1, rA g 2, rA g 3, rA g 4, rA g 5, rA g 7, rA g 9, .null, .null, .int 0, .int 0, .null]) := by rw [e18, va_up_ne _ _ (by decide)]; exact f0_17
  have f1_18 : c18 1 = .inl (g.2.1 3, 6, .inr (.inr (.inr (.inr (fun _ => none))))) := by rw [e18, va_up_ne _ _ (by decide)]; exact f1_17
  have f2_18 : c18 2 = .inl (g.2.1 3, 4, .inr (.inr (.inr (.inr (fun _ => none))))) := by rw [e18, va_up_ne _ _ (by decide)]; exact f2_17
  have f3_18 : c18 3 = .inl (g.2.1 4, 6, .inr (.inr (.inr (.inr (fun _ => none))))) := by rw [e18, va_up_ne _ _ (by decide)]; exact f3_17
  have f4_18 : c18 4 = .inl (g.2.1 5, 4, .inr (.inr (.inr (.inr (fun _ => none))))) := by rw [e18, va_up_ne _ _ (by decide)]; exact f4_17
  have f5_18 : c18 5 = .inr (0, [rA g 6, .int 0, .int 0]) := by rw [e18, va_up_ne _ _ (by decide)]; exact f5_17
  have f7_18 : c18 7 = .inr (5, [rA g 8, .int (-1)]) := by rw [e18, va_up_ne _ _ (by decide)]; exact f7_17
  have f9_18 : c18 9 = .inr (3, [rA g 10, rA g 11, rA g 12, rA g 13, .int 0]) := by rw [e18, va_up_ne _ _ (by decide)]; exact f9_17
  have f14_18 : c18 14 = .inr (4, [.null, .null]) := by rw [e18, va_up_self]
  refine Q_dup o dX6_init_75 rfl ?_
  refine Q_init o dX6_init_76 li_X6_49 rfl (Nat.le_of_ble_eq_true rfl) (k_X4 g l 14 15 c18 f14_18 (by decide)) (by decide) (by decide) (fun c19 e19 => ?_)
  have f0_19 : c19 0 = .inr (6, [rA g 1, rA g 2, rA g 3, rA g 4, rA g 5, rA g 7, rA g 9, .null, .null, .int 0, .int 0, .null]) := by rw [e19, va_up_ne _ _ (by decide), va_up_ne _ _ (by decide), va_up_ne _ _ (by decide)]; exact f0_18
  have f1_19 : c19 1 = .inl (g.2.1 3, 6, .inr (.inr (.inr (.inr (fun _ => none))))) := by rw [e19, va_up_ne _ _ (by decide), va_up_ne _ _ (by decide), va_up_ne _ _ (by decide)]; exact f1_18
  have f2_19 : c19 2 = .inl (g.2.1 3, 4, .inr (.inr (.inr (.inr (fun _ => none))))) := by rw [e19, va_up_ne _ _ (by decide), va_up_ne _ _ (by decide), va_up_ne _ _ (by decide)]; exact f2_18
  have f3_19 : c19 3 = .inl (g.2.1 4, 6, .inr (.inr (.inr (.inr (fun _ => none))))) := by rw [e19, va_up_ne _ _ (by decide), va_up_ne _ _ (by decide), va_up_ne _ _ (by decide)]; exact f3_18
  have f4_19 : c19 4 = .inl (g.2.1 5, 4, .inr (.inr (.inr (.inr (fun _ => none))))) := by rw [e19, va_up_ne _ _ (by decide), va_up_ne _ _ (by decide), va_up_ne _ _ (by decide)]; exact f4_18
  have f5_19 : c19 5 = .inr (0, [rA g 6, .int 0, .int 0]) := by rw [e19, va_up_ne _ _ (by decide), va_up_ne _ _ (by decide), va_up_ne _ _ (by decide)]; exact f5_18
  have f7_19 : c19 7 = .inr (5, [rA g 8, .int (-1)]) := by rw [e19, va_up_ne _ _ (by decide), va_up_ne _ _ (by decide), va_up_ne _ _ (by decide)]; exact f7_18
  have f9_19 : c19 9 = .inr (3, [rA g 10, rA g 11, rA g 12, rA g 13, .int 0]) := by rw [e19, va_up_ne _ _ (by decide), va_up_ne _ _ (by decide), va_up_ne _ _ (by decide)]; exact f9_18
  have f14_19 : c19 14 = .inr (4, [rA g 15, .null]) := by rw [e19, va_up_self]
  refine Q_put (fs := [rA g 1, rA g 2, rA g 3, rA g 4, rA g 5, rA g 7, rA g 9, .null, .null, .int 0, .int 0, .null]) o [rA g 1, rA g 2, rA g 3, rA g 4, rA g 5, rA g 7, rA g 9, rA g 14, .null, .int 0, .int 0, .null] dX6_init_79 fk_X6_50 f0_19 (by decide) (by show 7 < 12; decide) rfl rfl rfl (fun c20 e20 => ?_)
  have f1_20 : c20 1 = .inl (g.2.1 3, 6, .inr (.inr (.inr (.inr (fun _ => none))))) := by rw [e20, va_up_ne _ _ (by decide)]; exact f1_19
  have f2_20 : c20 2 = .inl (g.2.1 3, 4, .inr (.inr (.inr (.inr (fun _ => none))))) := by rw [e20, va_up_ne _ _ (by decide)]; exact f2_19
  have f3_20 : c20 3 = .inl (g.2.1 4, 6, .inr (.inr (.inr (.inr (fun _ => none))))) := by rw [e20, va_up_ne _ _ (by decide)]; exact f3_19
  have f4_20 : c20 4 = .inl (g.2.1 5, 4, .inr (.inr (.inr (.inr (fun _ => none))))) := by rw [e20, va_up_ne _ _ (by decide)]; exact f4_19
  have f5_20 : c20 5 = .inr (0, [rA g 6, .int 0, .int 0]) := by rw [e20, va_up_ne _ _ (by decide)]; exact f5_19
  have f7_20 : c20 7 = .inr (5, [rA g 8, .int (-1)]) := by rw [e20, va_up_ne _ _ (by decide)]; exact f7_19
  have f9_20 : c20 9 = .inr (3, [rA g 10, rA g 11, rA g 12, rA g 13, .int 0]) := by rw [e20, va_up_ne _ _ (by decide)]; exact f9_19
  have f14_20 : c20 14 = .inr (4, [rA g 15, .null]) := by rw [e20, va_up_ne _ _ (by decide)]; exact f14_19
  have f0_20 : c20 0 = .inr (6, [rA g 1, rA g 2, rA g 3, rA g 4, rA g 5, rA g 7, rA g 9, rA g 14, .null, .int 0, .int 0, .null]) := by rw [e20, va_up_self]
  refine Q_aload_n o 0 dX6_init_82 rfl rfl ?_
  refine Q_new (ci := 2) (ty := tyX2) (fs := [.long 0, .long 0]) o dX6_init_83 rfl uw_X2 tyX2_ok cl_X6_54 in_X2 iz_X2 df_X2 (by decide) (by decide) (fun c21 e21 => ?_)
  have f0_21 : c21 0 = .inr (6, [rA g 1, rA g 2, rA g 3, rA g 4, rA g 5, rA g 7, rA g 9, rA g 14, .null, .int 0, .int 0, .null]) := by rw [e21, va_up_ne _ _ (by decide)]; exact f0_20
  have f1_21 : c21 1 = .inl (g.2.1 3, 6, .inr (.inr (.inr (.inr (fun _ => none))))) := by rw [e21, va_up_ne _ _ (by decide)]; exact f1_20
  have f2_21 : c21 2 = .inl (g.2.1 3, 4, .inr (.inr (.inr (.inr (fun _ => none))))) := by rw [e21, va_up_ne _ _ (by decide)]; exact f2_20
  have f3_21 : c21 3 = .inl (g.2.1 4, 6, .inr (.inr (.inr (.inr (fun _ => none))))) := by rw [e21, va_up_ne _ _ (by decide)]; exact f3_20
  have f4_21 : c21 4 = .inl (g.2.1 5, 4, .inr (.inr (.inr (.inr (fun _ => none))))) := by rw [e21, va_up_ne _ _ (by decide)]; exact f4_20
  have f5_21 : c21 5 = .inr (0, [rA g 6, .int 0, .int 0]) := by rw [e21, va_up_ne _ _ (by decide)]; exact f5_20
  have f7_21 : c21 7 = .inr (5, [rA g 8, .int (-1)]) := by rw [e21, va_up_ne _ _ (by decide)]; exact f7_20
  have f9_21 : c21 9 = .inr (3, [rA g 10, rA g 11, rA g 12, rA g 13, .int 0]) := by rw [e21, va_up_ne _ _ (by decide)]; exact f9_20
  have f14_21 : c21 14 = .inr (4, [rA g 15, .null]) := by rw [e21, va_up_ne _ _ (by decide)]; exact f14_20
  have f16_21 : c21 16 = .inr (2, [.long 0, .long 0]) := by rw [e21, va_up_self]
  refine Q_dup o dX6_init_86 rfl ?_
  refine Q_init o dX6_init_87 li_X6_56 rfl (Nat.le_of_ble_eq_true rfl) (k_X2 g l 16 17 c21 f16_21 (by decide)) (by decide) (by decide) (fun c22 e22 => ?_)
  have f0_22 : c22 0 = .inr (6, [rA g 1, rA g 2, rA g 3, rA g 4, rA g 5, rA g 7, rA g 9, rA g 14, .null, .int 0, .int 0, .null]) := by rw [e22, va_up_ne _ _ (by decide), va_up_ne _ _ (by decide)]; exact f0_21
  have f1_22 : c22 1 = .inl (g.2.1 3, 6, .inr (.inr (.inr (.inr (fun _ => none))))) := by rw [e22, va_up_ne _ _ (by decide), va_up_ne _ _ (by decide)]; exact f1_21
  have f2_22 : c22 2 = .inl (g.2.1 3, 4, .inr (.inr (.inr (.inr (fun _ => none))))) := by rw [e22, va_up_ne _ _ (by decide), va_up_ne _ _ (by decide)]; exact f2_21
  have f3_22 : c22 3 = .inl (g.2.1 4, 6, .inr (.inr (.inr (.inr (fun _ => none))))) := by rw [e22, va_up_ne _ _ (by decide), va_up_ne _ _ (by decide)]; exact f3_21
  have f4_22 : c22 4 = .inl (g.2.1 5, 4, .inr (.inr (.inr (.inr (fun _ => none))))) := by rw [e22, va_up_ne _ _ (by decide), va_up_ne _ _ (by decide)]; exact f4_21
  have f5_22 : c22 5 = .inr (0, [rA g 6, .int 0, .int 0]) := by rw [e22, va_up_ne _ _ (by decide), va_up_ne _ _ (by decide)]; exact f5_21
  have f7_22 : c22 7 = .inr (5, [rA g 8, .int (-1)]) := by rw [e22, va_up_ne _ _ (by decide), va_up_ne _ _ (by decide)]; exact f7_21
  have f9_22 : c22 9 = .inr (3, [rA g 10, rA g 11, rA g 12, rA g 13, .int 0]) := by rw [e22, va_up_ne _ _ (by decide), va_up_ne _ _ (by decide)]; exact f9_21
  have f14_22 : c22 14 = .inr (4, [rA g 15, .null]) := by rw [e22, va_up_ne _ _ (by decide), va_up_ne _ _ (by decide)]; exact f14_21
  have f16_22 : c22 16 = .inr (2, [.long 0, .long 1]) := by rw [e22, va_up_self]
  refine Q_put (fs := [rA g 1, rA g 2, rA g 3, rA g 4, rA g 5, rA g 7, rA g 9, rA g 14, .null, .int 0, .int 0, .null]) o [rA g 1, rA g 2, rA g 3, rA g 4, rA g 5, rA g 7, rA g 9, rA g 14, rA g 16, .int 0, .int 0, .null] dX6_init_90 fk_X6_57 f0_22 (by decide) (by show 8 < 12; decide) rfl rfl rfl (fun c23 e23 => ?_)
  have f1_23 : c23 1 = .inl (g.2.1 3, 6, .inr (.inr (.inr (.inr (fun _ => none))))) := by rw [e23, va_up_ne _ _ (by decide)]; exact f1_22
  have f2_23 : c23 2 = .inl (g.2.1 3, 4, .inr (.inr (.inr (.inr (fun _ => none))))) := by rw [e23, va_up_ne _ _ (by decide)]; exact f2_22
  have f3_23 : c23 3 = .inl (g.2.1 4, 6, .inr (.inr (.inr (.inr (fun _ => none))))) := by rw [e23, va_up_ne _ _ (by decide)]; exact f3_22
  have f4_23 : c23 4 = .inl (g.2.1 5, 4, .inr (.inr (.inr (.inr (fun _ => none))))) := by rw [e23, va_up_ne _ _ (by decide)]; exact f4_22
  have f5_23 : c23 5 = .inr (0, [rA g 6, .int 0, .int 0]) := by rw [e23, va_up_ne _ _ (by decide)]; exact f5_22
  have f7_23 : c23 7 = .inr (5, [rA g 8, .int (-1)]) := by rw [e23, va_up_ne _ _ (by decide)]; exact f7_22
  have f9_23 : c23 9 = .inr (3, [rA g 10, rA g 11, rA g 12, rA g 13, .int 0]) := by rw [e23, va_up_ne _ _ (by decide)]; exact f9_22
  have f14_23 : c23 14 = .inr (4, [rA g 15, .null]) := by rw [e23, va_up_ne _ _ (by decide)]; exact f14_22
  have f16_23 : c23 16 = .inr (2, [.long 0, .long 1]) := by rw [e23, va_up_ne _ _ (by decide)]; exact f16_22
  have f0_23 : c23 0 = .inr (6, [rA g 1, rA g 2, rA g 3, rA g 4, rA g 5, rA g 7, rA g 9, rA g 14, rA g 16, .int 0, .int 0, .null]) := by rw [e23, va_up_self]
  refine Q_aload_n o 0 dX6_init_93 rfl rfl ?_
  refine Q_iconst (v := 0) o dX6_init_94 (by decide) ?_
  refine Q_put (fs := [rA g 1, rA g 2, rA g 3, rA g 4, rA g 5, rA g 7, rA g 9, rA g 14, rA g 16, .int 0, .int 0, .null]) o [rA g 1, rA g 2, rA g 3, rA g 4, rA g 5, rA g 7, rA g 9, rA g 14, rA g 16, .int 0, .int 0, .null] dX6_init_95 fk_X6_61 f0_23 (by decide) (by show 9 < 12; decide) rfl rfl rfl (fun c24 e24 => ?_)
  have f1_24 : c24 1 = .inl (g.2.1 3, 6, .inr (.inr (.inr (.inr (fun _ => none))))) := by rw [e24, va_up_ne _ _ (by decide)]; exact f1_23
  have f2_24 : c24 2 = .inl (g.2.1 3, 4, .inr (.inr (.inr (.inr (fun _ => none))))) := by rw [e24, va_up_ne _ _ (by decide)]; exact f2_23
  have f3_24 : c24 3 = .inl (g.2.1 4, 6, .inr (.inr (.inr (.inr (fun _ => none))))) := by rw [e24, va_up_ne _ _ (by decide)]; exact f3_23
  have f4_24 : c24 4 = .inl (g.2.1 5, 4, .inr (.inr (.inr (.inr (fun _ => none))))) := by rw [e24, va_up_ne _ _ (by decide)]; exact f4_23
  have f5_24 : c24 5 = .inr (0, [rA g 6, .int 0, .int 0]) := by rw [e24, va_up_ne _ _ (by decide)]; exact f5_23
  have f7_24 : c24 7 = .inr (5, [rA g 8, .int (-1)]) := by rw [e24, va_up_ne _ _ (by decide)]; exact f7_23
  have f9_24 : c24 9 = .inr (3, [rA g 10, rA g 11, rA g 12, rA g 13, .int 0]) := by rw [e24, va_up_ne _ _ (by decide)]; exact f9_23
  have f14_24 : c24 14 = .inr (4, [rA g 15, .null]) := by rw [e24, va_up_ne _ _ (by decide)]; exact f14_23
  have f16_24 : c24 16 = .inr (2, [.long 0, .long 1]) := by rw [e24, va_up_ne _ _ (by decide)]; exact f16_23
  have f0_24 : c24 0 = .inr (6, [rA g 1, rA g 2, rA g 3, rA g 4, rA g 5, rA g 7, rA g 9, rA g 14, rA g 16, .int 0, .int 0, .null]) := by rw [e24, va_up_self]
  refine Q_aload_n o 0 dX6_init_98 rfl rfl ?_
  refine Q_iconst (v := 0) o dX6_init_99 (by decide) ?_
  refine Q_put (fs := [rA g 1, rA g 2, rA g 3, rA g 4, rA g 5, rA g 7, rA g 9, rA g 14, rA g 16, .int 0, .int 0, .null]) o [rA g 1, rA g 2, rA g 3, rA g 4, rA g 5, rA g 7, rA g 9, rA g 14, rA g 16, .int 0, .int 0, .null] dX6_init_100 fk_X6_65 f0_24 (by decide) (by show 10 < 12; decide) rfl rfl rfl (fun c25 e25 => ?_)
  have f1_25 : c25 1 = .inl (g.2.1 3, 6, .inr (.inr (.inr (.inr (fun _ => none))))) := by rw [e25, va_up_ne _ _ (by decide)]; exact f1_24
  have f2_25 : c25 2 = .inl (g.2.1 3, 4, .inr (.inr (.inr (.inr (fun _ => none))))) := by rw [e25, va_up_ne _ _ (by decide)]; exact f2_24
  have f3_25 : c25 3 = .inl (g.2.1 4, 6, .inr (.inr (.inr (.inr (fun _ => none))))) := by rw [e25, va_up_ne _ _ (by decide)]; exact f3_24
  have f4_25 : c25 4 = .inl (g.2.1 5, 4, .inr (.inr (.inr (.inr (fun _ => none))))) := by rw [e25, va_up_ne _ _ (by decide)]; exact f4_24
  have f5_25 : c25 5 = .inr (0, [rA g 6, .int 0, .int 0]) := by rw [e25, va_up_ne _ _ (by decide)]; exact f5_24
  have f7_25 : c25 7 = .inr (5, [rA g 8, .int (-1)]) := by rw [e25, va_up_ne _ _ (by decide)]; exact f7_24
  have f9_25 : c25 9 = .inr (3, [rA g 10, rA g 11, rA g 12, rA g 13, .int 0]) := by rw [e25, va_up_ne _ _ (by decide)]; exact f9_24
  have f14_25 : c25 14 = .inr (4, [rA g 15, .null]) := by rw [e25, va_up_ne _ _ (by decide)]; exact f14_24
  have f16_25 : c25 16 = .inr (2, [.long 0, .long 1]) := by rw [e25, va_up_ne _ _ (by decide)]; exact f16_24
  have f0_25 : c25 0 = .inr (6, [rA g 1, rA g 2, rA g 3, rA g 4, rA g 5, rA g 7, rA g 9, rA g 14, rA g 16, .int 0, .int 0, .null]) := by rw [e25, va_up_self]
  refine Q_aload_n o 0 dX6_init_103 rfl rfl ?_
  refine Q_bipush (v := 6) o dX6_init_104 (by decide) ?_
  refine Q_newa (ti := 0) (n := 6) (ty := .int) (a0 := (6, .inl (fun _ => 0))) o dX6_init_106 rfl ac_int rfl (fun _ _ => Iff.rfl) (fun _ => rfl) (by decide) (by decide) (by decide) (by decide) (by decide) (fun c26 e26 => ?_)
  have f0_26 : c26 0 = .inr (6, [rA g 1, rA g 2, rA g 3, rA g 4, rA g 5, rA g 7, rA g 9, rA g 14, rA g 16, .int 0, .int 0, .null]) := by rw [e26, va_up_ne _ _ (by decide)]; exact f0_25
  have f1_26 : c26 1 = .inl (g.2.1 3, 6, .inr (.inr (.inr (.inr (fun _ => none))))) := by rw [e26, va_up_ne _ _ (by decide)]; exact f1_25
  have f2_26 : c26 2 = .inl (g.2.1 3, 4, .inr (.inr (.inr (.inr (fun _ => none))))) := by rw [e26, va_up_ne _ _ (by decide)]; exact f2_25
  have f3_26 : c26 3 = .inl (g.2.1 4, 6, .inr (.inr (.inr (.inr (fun _ => none))))) := by rw [e26, va_up_ne _ _ (by decide)]; exact f3_25
  have f4_26 : c26 4 = .inl (g.2.1 5, 4, .inr (.inr (.inr (.inr (fun _ => none))))) := by rw [e26, va_up_ne _ _ (by decide)]; exact f4_25
  have f5_26 : c26 5 = .inr (0, [rA g 6, .int 0, .int 0]) := by rw [e26, va_up_ne _ _ (by decide)]; exact f5_25
  have f7_26 : c26 7 = .inr (5, [rA g 8, .int (-1)]) := by rw [e26, va_up_ne _ _ (by decide)]; exact f7_25
  have f9_26 : c26 9 = .inr (3, [rA g 10, rA g 11, rA g 12, rA g 13, .int 0]) := by rw [e26, va_up_ne _ _ (by decide)]; exact f9_25
  have f14_26 : c26 14 = .inr (4, [rA g 15, .null]) := by rw [e26, va_up_ne _ _ (by decide)]; exact f14_25
  have f16_26 : c26 16 = .inr (2, [.long 0, .long 1]) := by rw [e26, va_up_ne _ _ (by decide)]; exact f16_25
  refine Q_put (fs := [rA g 1, rA g 2, rA g 3, rA g 4, rA g 5, rA g 7, rA g 9, rA g 14, rA g 16, .int 0, .int 0, .null]) o [rA g 1, rA g 2, rA g 3, rA g 4, rA g 5, rA g 7, rA g 9, rA g 14, rA g 16, .int 0, .int 0, rA g 17] dX6_init_108 fk_X6_68 f0_26 (by decide) (by show 11 < 12; decide) rfl rfl rfl (fun c27 e27 => ?_)
  have f1_27 : c27 1 = .inl (g.2.1 3, 6, .inr (.inr (.inr (.inr (fun _ => none))))) := by rw [e27, va_up_ne _ _ (by decide)]; exact f1_26
  have f2_27 : c27 2 = .inl (g.2.1 3, 4, .inr (.inr (.inr (.inr (fun _ => none))))) := by rw [e27, va_up_ne _ _ (by decide)]; exact f2_26
  have f3_27 : c27 3 = .inl (g.2.1 4, 6, .inr (.inr (.inr (.inr (fun _ => none))))) := by rw [e27, va_up_ne _ _ (by decide)]; exact f3_26
  have f4_27 : c27 4 = .inl (g.2.1 5, 4, .inr (.inr (.inr (.inr (fun _ => none))))) := by rw [e27, va_up_ne _ _ (by decide)]; exact f4_26
  have f5_27 : c27 5 = .inr (0, [rA g 6, .int 0, .int 0]) := by rw [e27, va_up_ne _ _ (by decide)]; exact f5_26
  have f7_27 : c27 7 = .inr (5, [rA g 8, .int (-1)]) := by rw [e27, va_up_ne _ _ (by decide)]; exact f7_26
  have f9_27 : c27 9 = .inr (3, [rA g 10, rA g 11, rA g 12, rA g 13, .int 0]) := by rw [e27, va_up_ne _ _ (by decide)]; exact f9_26
  have f14_27 : c27 14 = .inr (4, [rA g 15, .null]) := by rw [e27, va_up_ne _ _ (by decide)]; exact f14_26
  have f16_27 : c27 16 = .inr (2, [.long 0, .long 1]) := by rw [e27, va_up_ne _ _ (by decide)]; exact f16_26
  have f0_27 : c27 0 = .inr (6, [rA g 1, rA g 2, rA g 3, rA g 4, rA g 5, rA g 7, rA g 9, rA g 14, rA g 16, .int 0, .int 0, rA g 17]) := by rw [e27, va_up_self]
  refine Q_iconst (v := 0) o dX6_init_111 (by decide) ?_
  refine Q_istore_n (lv2 := [(0, rA g 0), (1, .int 0)]) o dX6_init_112 rfl (by decide) rfl ?_
  refine Q_conv o rfl rfl rfl ?_ kt
  subst e27 e26 e25 e24 e23 e22 e21 e20 e19 e18 e17 e16 e15 e14 e13 e12 e11 e10 e9 e8 e7 e6 e5 e4 e3 e2 e1
  intro j hj
  match j, hj with
  | 0, _ => rfl
  | 1, _ => exact cP_1 g
  | 2, _ => exact cP_2 g
  | 3, _ => exact cP_3 g
  | 4, _ => exact cP_4 g
  | 5, _ => rfl
  | 6, _ => rfl
  | 7, _ => rfl
  | 8, _ => rfl
  | 9, _ => rfl
  | 10, _ => rfl
  | 11, _ => rfl
  | 12, _ => rfl
  | 13, _ => rfl
  | 14, _ => rfl
  | 15, _ => rfl
  | 16, _ => rfl
  | 17, _ => rfl
  | j + 18, hj => exact absurd hj (by omega)
theorem ce_rows (g : Gx) : ∀ r, r < 6 → cellE g h00 (18 + 2 * r) = .inr (5, [rA g (18 + 2 * r + 1), .int (-1)]) ∧ cellE g h00 (18 + 2 * r + 1) = .inl (g.2.1 0, 60, .inl (fun _ => 0)) := by
  intro r hr
  match r, hr with
  | 0, _ => exact ⟨rfl, rfl⟩
  | 1, _ => exact ⟨rfl, rfl⟩
  | 2, _ => exact ⟨rfl, rfl⟩
  | 3, _ => exact ⟨rfl, rfl⟩
  | 4, _ => exact ⟨rfl, rfl⟩
  | 5, _ => exact ⟨rfl, rfl⟩
  | r + 6, hr => exact absurd hr (by omega)
set_option maxRecDepth 100000 in
set_option maxHeartbeats 4000000 in
theorem kL_rows {g : Gx} {l : Launch} {V : VKT} (o : OkK g l RX6 cX6_init 2 2 33 63 1526 true V) (r : Nat) (hr : r < 6) (k : V 113 [(0, rA g 0), (1, .int (nI (r + 1)))] [] (cP g (r + 1) 0 0 0) (18 + 2 * (r + 1)) (17 + 2 * (r + 1)) (354 + 62 * (r + 1))) : V 113 [(0, rA g 0), (1, .int (nI r))] [] (cP g r 0 0 0) (18 + 2 * r) (17 + 2 * r) (354 + 62 * r) := by
  have f1 : (cP g r 0 0 0) 1 = .inl (g.2.1 3, 6, .inr (.inr (.inr (.inr (fun j => if j < r then some (g.2.2 + (18 + 2 * j)) else none))))) := by simp [cP]
  refine Q_iload_n o 1 dX6_init_113 rfl rfl ?_
  refine Q_aload_n o 0 dX6_init_114 rfl rfl ?_
  refine Q_get (v := rA g 1) (fs := [rA g 1, rA g 2, rA g 3, rA g 4, rA g 5, rA g 7, rA g 9, rA g 14, rA g 16, .int 0, .int 0, rA g 17]) o dX6_init_115 fg_X6_11 (by rw [cP_o (Or.inl rfl)]; rfl) (by omega) rfl ?_
  refine Q_alen (v := 6) o dX6_init_118 f1 (by omega) rfl rfl ?_
  refine Q_geF o 141 dX6_init_119 (by decide) (show ¬ nI 6 ≤ nI r from nI_ge hr (by decide)) ?_
  refine Q_aload_n o 0 dX6_init_122 rfl rfl ?_
  refine Q_get (v := rA g 1) (fs := [rA g 1, rA g 2, rA g 3, rA g 4, rA g 5, rA g 7, rA g 9, rA g 14, rA g 16, .int 0, .int 0, rA g 17]) o dX6_init_123 fg_X6_11 (by rw [cP_o (Or.inl rfl)]; rfl) (by omega) rfl ?_
  refine Q_iload_n o 1 dX6_init_126 rfl rfl ?_
  refine Q_new (ci := 5) (ty := tyX5) (fs := [.null, .int 0]) o dX6_init_127 rfl uw_X5 tyX5_ok cl_X6_9 in_X5 iz_X5 df_X5 (by omega) (by omega) (fun c1 e1 => ?_)
  refine Q_dup o dX6_init_130 rfl ?_
  refine Q_init o dX6_init_131 li_X6_35 rfl (Nat.le_of_ble_eq_true rfl) (k_X5 g l (18 + 2 * r) ((18 + 2 * r) + 1) c1 (by rw [e1, va_up_self]) (by omega)) (by omega) (by omega) (fun c2 e2 => ?_)
  have f2 : c2 (18 + 2 * r) = .inr (5, [rA g (18 + 2 * r + 1), .int (-1)]) := by rw [e2, va_up_self]
  have f3 : c2 1 = .inl (g.2.1 3, 6, .inr (.inr (.inr (.inr (fun j => if j < r then some (g.2.2 + (18 + 2 * j)) else none))))) := by rw [e2, va_up_ne _ _ (by omega), va_up_ne _ _ (by omega), va_up_ne _ _ (by omega), e1, va_up_ne _ _ (by omega)]; exact f1
  refine Q_aast o dX6_init_134 f3 (by omega) rfl f2 (by omega) rfl (vp_in_nI hr (by decide)) (fun c3 e3 => ?_)
  refine Q_iinc (v := nI (r + 1)) (lv2 := [(0, rA g 0), (1, .int (nI (r + 1)))]) o 1 dX6_init_135 rfl (by rw [nI_succ]; rfl) (by decide) rfl ?_
  refine Q_goto o 113 dX6_init_138 (by decide) ?_
  refine Q_conv o (by omega) (by omega) (by omega) ?_ k
  intro a ha
  rw [e3]
  by_cases h1 : a = 1
  · subst h1
    rw [va_up_self, nI_clamp (by omega), up_lt (fun j => some (g.2.2 + (18 + 2 * j)))]
    simp [cP]
  rw [va_up_ne _ _ h1, e2]
  obtain ⟨g0, g1⟩ := ce_rows g r hr
  by_cases h2 : a = 18 + 2 * r
  · subst h2
    rw [va_up_self, cP_o (Or.inr (by omega)), g0]
  by_cases h3 : a = 18 + 2 * r + 1
  · subst h3
    rw [va_up_ne _ _ (by omega), va_up_ne _ _ (by omega), va_up_self, cP_o (Or.inr (by omega)), g1]
  rw [va_up_ne _ _ (by omega), va_up_ne _ _ (by omega), va_up_ne _ _ (by omega), e1, va_up_ne _ _ (by omega)]
  unfold cP
  by_cases q1 : a = 1 <;> by_cases q2 : a = 2 <;> by_cases q3 : a = 3 <;> by_cases q4 : a = 4 <;> first | omega | simp [*]
theorem ce_texts (g : Gx) : ∀ r, r < 4 → cellE g h00 (30 + 2 * r) = .inr (5, [rA g (30 + 2 * r + 1), .int (-1)]) ∧ cellE g h00 (30 + 2 * r + 1) = .inl (g.2.1 0, 60, .inl (fun _ => 0)) := by
  intro r hr
  match r, hr with
  | 0, _ => exact ⟨rfl, rfl⟩
  | 1, _ => exact ⟨rfl, rfl⟩
  | 2, _ => exact ⟨rfl, rfl⟩
  | 3, _ => exact ⟨rfl, rfl⟩
  | r + 4, hr => exact absurd hr (by omega)
set_option maxRecDepth 100000 in
set_option maxHeartbeats 4000000 in
theorem kL_texts {g : Gx} {l : Launch} {V : VKT} (o : OkK g l RX6 cX6_init 2 2 33 63 1526 true V) (r : Nat) (hr : r < 4) (k : V 143 [(0, rA g 0), (1, .int (nI (r + 1)))] [] (cP g 6 (r + 1) 0 0) (30 + 2 * (r + 1)) (29 + 2 * (r + 1)) (726 + 62 * (r + 1))) : V 143 [(0, rA g 0), (1, .int (nI r))] [] (cP g 6 r 0 0) (30 + 2 * r) (29 + 2 * r) (726 + 62 * r) := by
  have f1 : (cP g 6 r 0 0) 2 = .inl (g.2.1 3, 4, .inr (.inr (.inr (.inr (fun j => if j < r then some (g.2.2 + (30 + 2 * j)) else none))))) := by simp [cP]
  refine Q_iload_n o 1 dX6_init_143 rfl rfl ?_
  refine Q_aload_n o 0 dX6_init_144 rfl rfl ?_
  refine Q_get (v := rA g 2) (fs := [rA g 1, rA g 2, rA g 3, rA g 4, rA g 5, rA g 7, rA g 9, rA g 14, rA g 16, .int 0, .int 0, rA g 17]) o dX6_init_145 fg_X6_15 (by rw [cP_o (Or.inl rfl)]; rfl) (by omega) rfl ?_
  refine Q_alen (v := 4) o dX6_init_148 f1 (by omega) rfl rfl ?_
  refine Q_geF o 171 dX6_init_149 (by decide) (show ¬ nI 4 ≤ nI r from nI_ge hr (by decide)) ?_
  refine Q_aload_n o 0 dX6_init_152 rfl rfl ?_
  refine Q_get (v := rA g 2) (fs := [rA g 1, rA g 2, rA g 3, rA g 4, rA g 5, rA g 7, rA g 9, rA g 14, rA g 16, .int 0, .int 0, rA g 17]) o dX6_init_153 fg_X6_15 (by rw [cP_o (Or.inl rfl)]; rfl) (by omega) rfl ?_
  refine Q_iload_n o 1 dX6_init_156 rfl rfl ?_
  refine Q_new (ci := 5) (ty := tyX5) (fs := [.null, .int 0]) o dX6_init_157 rfl uw_X5 tyX5_ok cl_X6_9 in_X5 iz_X5 df_X5 (by omega) (by omega) (fun c1 e1 => ?_)
  refine Q_dup o dX6_init_160 rfl ?_
  refine Q_init o dX6_init_161 li_X6_35 rfl (Nat.le_of_ble_eq_true rfl) (k_X5 g l (30 + 2 * r) ((30 + 2 * r) + 1) c1 (by rw [e1, va_up_self]) (by omega)) (by omega) (by omega) (fun c2 e2 => ?_)
  have f2 : c2 (30 + 2 * r) = .inr (5, [rA g (30 + 2 * r + 1), .int (-1)]) := by rw [e2, va_up_self]
  have f3 : c2 2 = .inl (g.2.1 3, 4, .inr (.inr (.inr (.inr (fun j => if j < r then some (g.2.2 + (30 + 2 * j)) else none))))) := by rw [e2, va_up_ne _ _ (by omega), va_up_ne _ _ (by omega), va_up_ne _ _ (by omega), e1, va_up_ne _ _ (by omega)]; exact f1
  refine Q_aast o dX6_init_164 f3 (by omega) rfl f2 (by omega) rfl (vp_in_nI hr (by decide)) (fun c3 e3 => ?_)
  refine Q_iinc (v := nI (r + 1)) (lv2 := [(0, rA g 0), (1, .int (nI (r + 1)))]) o 1 dX6_init_165 rfl (by rw [nI_succ]; rfl) (by decide) rfl ?_
  refine Q_goto o 143 dX6_init_168 (by decide) ?_
  refine Q_conv o (by omega) (by omega) (by omega) ?_ k
  intro a ha
  rw [e3]
  by_cases h1 : a = 2
  · subst h1
    rw [va_up_self, nI_clamp (by omega), up_lt (fun j => some (g.2.2 + (30 + 2 * j)))]
    simp [cP]
  rw [va_up_ne _ _ h1, e2]
  obtain ⟨g0, g1⟩ := ce_texts g r hr
  by_cases h2 : a = 30 + 2 * r
  · subst h2
    rw [va_up_self, cP_o (Or.inr (by omega)), g0]
  by_cases h3 : a = 30 + 2 * r + 1
  · subst h3
    rw [va_up_ne _ _ (by omega), va_up_ne _ _ (by omega), va_up_self, cP_o (Or.inr (by omega)), g1]
  rw [va_up_ne _ _ (by omega), va_up_ne _ _ (by omega), va_up_ne _ _ (by omega), e1, va_up_ne _ _ (by omega)]
  unfold cP
  by_cases q1 : a = 1 <;> by_cases q2 : a = 2 <;> by_cases q3 : a = 3 <;> by_cases q4 : a = 4 <;> first | omega | simp [*]
theorem ce_covers (g : Gx) : ∀ r, r < 6 → cellE g h00 (38 + 3 * r) = .inr (1, [rA g (38 + 3 * r + 1), rA g (38 + 3 * r + 2), .int 0, .int 0, .int 0, .int 0]) ∧ cellE g h00 (38 + 3 * r + 1) = .inl (g.2.1 0, 40, .inl (fun _ => 0)) ∧ cellE g h00 (38 + 3 * r + 2) = .inl (g.2.1 0, 40, .inl (fun _ => 0)) := by
  intro r hr
  match r, hr with
  | 0, _ => exact ⟨rfl, rfl, rfl⟩
  | 1, _ => exact ⟨rfl, rfl, rfl⟩
  | 2, _ => exact ⟨rfl, rfl, rfl⟩
  | 3, _ => exact ⟨rfl, rfl, rfl⟩
  | 4, _ => exact ⟨rfl, rfl, rfl⟩
  | 5, _ => exact ⟨rfl, rfl, rfl⟩
  | r + 6, hr => exact absurd hr (by omega)
set_option maxRecDepth 100000 in
set_option maxHeartbeats 4000000 in
theorem kL_covers {g : Gx} {l : Launch} {V : VKT} (o : OkK g l RX6 cX6_init 2 2 33 63 1526 true V) (r : Nat) (hr : r < 6) (k : V 173 [(0, rA g 0), (1, .int (nI (r + 1)))] [] (cP g 6 4 (r + 1) 0) (38 + 3 * (r + 1)) (37 + 3 * (r + 1)) (974 + 86 * (r + 1))) : V 173 [(0, rA g 0), (1, .int (nI r))] [] (cP g 6 4 r 0) (38 + 3 * r) (37 + 3 * r) (974 + 86 * r) := by
  have f1 : (cP g 6 4 r 0) 3 = .inl (g.2.1 4, 6, .inr (.inr (.inr (.inr (fun j => if j < r then some (g.2.2 + (38 + 3 * j)) else none))))) := by simp [cP]
  refine Q_iload_n o 1 dX6_init_173 rfl rfl ?_
  refine Q_aload_n o 0 dX6_init_174 rfl rfl ?_
  refine Q_get (v := rA g 3) (fs := [rA g 1, rA g 2, rA g 3, rA g 4, rA g 5, rA g 7, rA g 9, rA g 14, rA g 16, .int 0, .int 0, rA g 17]) o dX6_init_175 fg_X6_20 (by rw [cP_o (Or.inl rfl)]; rfl) (by omega) rfl ?_
  refine Q_alen (v := 6) o dX6_init_178 f1 (by omega) rfl rfl ?_
  refine Q_geF o 201 dX6_init_179 (by decide) (show ¬ nI 6 ≤ nI r from nI_ge hr (by decide)) ?_
  refine Q_aload_n o 0 dX6_init_182 rfl rfl ?_
  refine Q_get (v := rA g 3) (fs := [rA g 1, rA g 2, rA g 3, rA g 4, rA g 5, rA g 7, rA g 9, rA g 14, rA g 16, .int 0, .int 0, rA g 17]) o dX6_init_183 fg_X6_20 (by rw [cP_o (Or.inl rfl)]; rfl) (by omega) rfl ?_
  refine Q_iload_n o 1 dX6_init_186 rfl rfl ?_
  refine Q_new (ci := 1) (ty := tyX1) (fs := [.null, .null, .int 0, .int 0, .int 0, .int 0]) o dX6_init_187 rfl uw_X1 tyX1_ok cl_X6_18 in_X1 iz_X1 df_X1 (by omega) (by omega) (fun c1 e1 => ?_)
  refine Q_dup o dX6_init_190 rfl ?_
  refine Q_init o dX6_init_191 li_X6_72 rfl (Nat.le_of_ble_eq_true rfl) (k_X1 g l (38 + 3 * r) ((38 + 3 * r) + 1) c1 (by rw [e1, va_up_self]) (by omega)) (by omega) (by omega) (fun c2 e2 => ?_)
  have f2 : c2 (38 + 3 * r) = .inr (1, [rA g (38 + 3 * r + 1), rA g (38 + 3 * r + 2), .int 0, .int 0, .int 0, .int 0]) := by rw [e2, va_up_self]
  have f3 : c2 3 = .inl (g.2.1 4, 6, .inr (.inr (.inr (.inr (fun j => if j < r then some (g.2.2 + (38 + 3 * j)) else none))))) := by rw [e2, va_up_ne _ _ (by omega), va_up_ne _ _ (by omega), va_up_ne _ _ (by omega), va_up_ne _ _ (by omega), va_up_ne _ _ (by omega), va_up_ne _ _ (by omega), va_up_ne _ _ (by omega), va_up_ne _ _ (by omega), e1, va_up_ne _ _ (by omega)]; exact f1
  refine Q_aast o dX6_init_194 f3 (by omega) rfl f2 (by omega) rfl (vp_in_nI hr (by decide)) (fun c3 e3 => ?_)
  refine Q_iinc (v := nI (r + 1)) (lv2 := [(0, rA g 0), (1, .int (nI (r + 1)))]) o 1 dX6_init_195 rfl (by rw [nI_succ]; rfl) (by decide) rfl ?_
  refine Q_goto o 173 dX6_init_198 (by decide) ?_
  refine Q_conv o (by omega) (by omega) (by omega) ?_ k
  intro a ha
  rw [e3]
  by_cases h1 : a = 3
  · subst h1
    rw [va_up_self, nI_clamp (by omega), up_lt (fun j => some (g.2.2 + (38 + 3 * j)))]
    simp [cP]
  rw [va_up_ne _ _ h1, e2]
  obtain ⟨g0, g1, g2⟩ := ce_covers g r hr
  by_cases h2 : a = 38 + 3 * r
  · subst h2
    rw [va_up_self, cP_o (Or.inr (by omega)), g0]
  by_cases h3 : a = 38 + 3 * r + 1
  · subst h3
    rw [va_up_ne _ _ (by omega), va_up_ne _ _ (by omega), va_up_ne _ _ (by omega), va_up_ne _ _ (by omega), va_up_ne _ _ (by omega), va_up_ne _ _ (by omega), va_up_ne _ _ (by omega), va_up_self, cP_o (Or.inr (by omega)), g1]
  by_cases h4 : a = 38 + 3 * r + 2
  · subst h4
    rw [va_up_ne _ _ (by omega), va_up_ne _ _ (by omega), va_up_ne _ _ (by omega), va_up_ne _ _ (by omega), va_up_ne _ _ (by omega), va_up_self, cP_o (Or.inr (by omega)), g2]
  rw [va_up_ne _ _ (by omega), va_up_ne _ _ (by omega), va_up_ne _ _ (by omega), va_up_ne _ _ (by omega), va_up_ne _ _ (by omega), va_up_ne _ _ (by omega), va_up_ne _ _ (by omega), va_up_ne _ _ (by omega), e1, va_up_ne _ _ (by omega)]
  unfold cP
  by_cases q1 : a = 1 <;> by_cases q2 : a = 2 <;> by_cases q3 : a = 3 <;> by_cases q4 : a = 4 <;> first | omega | simp [*]
theorem ce_codes (g : Gx) : ∀ r, r < 4 → cellE g h00 (56 + 2 * r) = .inr (0, [rA g (56 + 2 * r + 1), .int 0, .int 0]) ∧ cellE g h00 (56 + 2 * r + 1) = .inl (g.2.1 0, 6, .inl (fun _ => 0)) := by
  intro r hr
  match r, hr with
  | 0, _ => exact ⟨rfl, rfl⟩
  | 1, _ => exact ⟨rfl, rfl⟩
  | 2, _ => exact ⟨rfl, rfl⟩
  | 3, _ => exact ⟨rfl, rfl⟩
  | r + 4, hr => exact absurd hr (by omega)
set_option maxRecDepth 100000 in
set_option maxHeartbeats 4000000 in
theorem kL_codes {g : Gx} {l : Launch} {V : VKT} (o : OkK g l RX6 cX6_init 2 2 33 63 1526 true V) (r : Nat) (hr : r < 4) (k : V 203 [(0, rA g 0), (1, .int (nI (r + 1)))] [] (cP g 6 4 6 (r + 1)) (56 + 2 * (r + 1)) (55 + 2 * (r + 1)) (1490 + 9 * (r + 1))) : V 203 [(0, rA g 0), (1, .int (nI r))] [] (cP g 6 4 6 r) (56 + 2 * r) (55 + 2 * r) (1490 + 9 * r) := by
  have f1 : (cP g 6 4 6 r) 4 = .inl (g.2.1 5, 4, .inr (.inr (.inr (.inr (fun j => if j < r then some (g.2.2 + (56 + 2 * j)) else none))))) := by simp [cP]
  refine Q_iload_n o 1 dX6_init_203 rfl rfl ?_
  refine Q_aload_n o 0 dX6_init_204 rfl rfl ?_
  refine Q_get (v := rA g 4) (fs := [rA g 1, rA g 2, rA g 3, rA g 4, rA g 5, rA g 7, rA g 9, rA g 14, rA g 16, .int 0, .int 0, rA g 17]) o dX6_init_205 fg_X6_26 (by rw [cP_o (Or.inl rfl)]; rfl) (by omega) rfl ?_
  refine Q_alen (v := 4) o dX6_init_208 f1 (by omega) rfl rfl ?_
  refine Q_geF o 231 dX6_init_209 (by decide) (show ¬ nI 4 ≤ nI r from nI_ge hr (by decide)) ?_
  refine Q_aload_n o 0 dX6_init_212 rfl rfl ?_
  refine Q_get (v := rA g 4) (fs := [rA g 1, rA g 2, rA g 3, rA g 4, rA g 5, rA g 7, rA g 9, rA g 14, rA g 16, .int 0, .int 0, rA g 17]) o dX6_init_213 fg_X6_26 (by rw [cP_o (Or.inl rfl)]; rfl) (by omega) rfl ?_
  refine Q_iload_n o 1 dX6_init_216 rfl rfl ?_
  refine Q_new (ci := 0) (ty := tyX0) (fs := [.null, .int 0, .int 0]) o dX6_init_217 rfl uw_X0 tyX0_ok cl_X6_24 in_X0 iz_X0 df_X0 (by omega) (by omega) (fun c1 e1 => ?_)
  refine Q_dup o dX6_init_220 rfl ?_
  refine Q_init o dX6_init_221 li_X6_30 rfl (Nat.le_of_ble_eq_true rfl) (k_X0 g l (56 + 2 * r) ((56 + 2 * r) + 1) c1 (by rw [e1, va_up_self]) (by omega)) (by omega) (by omega) (fun c2 e2 => ?_)
  have f2 : c2 (56 + 2 * r) = .inr (0, [rA g (56 + 2 * r + 1), .int 0, .int 0]) := by rw [e2, va_up_self]
  have f3 : c2 4 = .inl (g.2.1 5, 4, .inr (.inr (.inr (.inr (fun j => if j < r then some (g.2.2 + (56 + 2 * j)) else none))))) := by rw [e2, va_up_ne _ _ (by omega), va_up_ne _ _ (by omega), va_up_ne _ _ (by omega), va_up_ne _ _ (by omega), e1, va_up_ne _ _ (by omega)]; exact f1
  refine Q_aast o dX6_init_224 f3 (by omega) rfl f2 (by omega) rfl (vp_in_nI hr (by decide)) (fun c3 e3 => ?_)
  refine Q_iinc (v := nI (r + 1)) (lv2 := [(0, rA g 0), (1, .int (nI (r + 1)))]) o 1 dX6_init_225 rfl (by rw [nI_succ]; rfl) (by decide) rfl ?_
  refine Q_goto o 203 dX6_init_228 (by decide) ?_
  refine Q_conv o (by omega) (by omega) (by omega) ?_ k
  intro a ha
  rw [e3]
  by_cases h1 : a = 4
  · subst h1
    rw [va_up_self, nI_clamp (by omega), up_lt (fun j => some (g.2.2 + (56 + 2 * j)))]
    simp [cP]
  rw [va_up_ne _ _ h1, e2]
  obtain ⟨g0, g1⟩ := ce_codes g r hr
  by_cases h2 : a = 56 + 2 * r
  · subst h2
    rw [va_up_self, cP_o (Or.inr (by omega)), g0]
  by_cases h3 : a = 56 + 2 * r + 1
  · subst h3
    rw [va_up_ne _ _ (by omega), va_up_ne _ _ (by omega), va_up_ne _ _ (by omega), va_up_self, cP_o (Or.inr (by omega)), g1]
  rw [va_up_ne _ _ (by omega), va_up_ne _ _ (by omega), va_up_ne _ _ (by omega), va_up_ne _ _ (by omega), e1, va_up_ne _ _ (by omega)]
  unfold cP
  by_cases q1 : a = 1 <;> by_cases q2 : a = 2 <;> by_cases q3 : a = 3 <;> by_cases q4 : a = 4 <;> first | omega | simp [*]
set_option maxRecDepth 100000 in
set_option maxHeartbeats 4000000 in
theorem k_X6 (g : Gx) (l : Launch) (c : Nat → va_E) (hc : c 0 = .inr (6, [.null, .null, .null, .null, .null, .null, .null, .null, .null, .int 0, .int 0, .null])) : CtrK g l yX6_init cX6_init 2 2 33 63 1526 0 c 1 (cellE g h00) := mkK (plainFor_of_name (by decide)) rfl (by decide) (fun V o kr => by
  refine kA_X6 c hc o ?_
  refine kL_rows o 0 (by decide) ?_
  refine kL_rows o 1 (by decide) ?_
  refine kL_rows o 2 (by decide) ?_
  refine kL_rows o 3 (by decide) ?_
  refine kL_rows o 4 (by decide) ?_
  refine kL_rows o 5 (by decide) ?_
  refine Q_iload_n o 1 dX6_init_113 rfl rfl ?_
  refine Q_aload_n o 0 dX6_init_114 rfl rfl ?_
  refine Q_get (v := rA g 1) (fs := [rA g 1, rA g 2, rA g 3, rA g 4, rA g 5, rA g 7, rA g 9, rA g 14, rA g 16, .int 0, .int 0, rA g 17]) o dX6_init_115 fg_X6_11 (by rw [cP_o (Or.inl rfl)]; rfl) (by decide) rfl ?_
  refine Q_alen (x := (6, .inr (.inr (.inr (.inr (fun j => if j < 6 then some (g.2.2 + (18 + 2 * j)) else none)))))) (v := 6) (ti := 3) o dX6_init_118 (by simp [cP]) (by decide) rfl rfl ?_
  refine Q_geT o 141 dX6_init_119 (by decide) (by decide) ?_
  refine Q_iconst (v := 0) o dX6_init_141 (by decide) ?_
  refine Q_istore_n (lv2 := [(0, rA g 0), (1, .int (nI 0))]) o dX6_init_142 rfl (by decide) rfl ?_
  refine kL_texts o 0 (by decide) ?_
  refine kL_texts o 1 (by decide) ?_
  refine kL_texts o 2 (by decide) ?_
  refine kL_texts o 3 (by decide) ?_
  refine Q_iload_n o 1 dX6_init_143 rfl rfl ?_
  refine Q_aload_n o 0 dX6_init_144 rfl rfl ?_
  refine Q_get (v := rA g 2) (fs := [rA g 1, rA g 2, rA g 3, rA g 4, rA g 5, rA g 7, rA g 9, rA g 14, rA g 16, .int 0, .int 0, rA g 17]) o dX6_init_145 fg_X6_15 (by rw [cP_o (Or.inl rfl)]; rfl) (by decide) rfl ?_
  refine Q_alen (x := (4, .inr (.inr (.inr (.inr (fun j => if j < 4 then some (g.2.2 + (30 + 2 * j)) else none)))))) (v := 4) (ti := 3) o dX6_init_148 (by simp [cP]) (by decide) rfl rfl ?_
  refine Q_geT o 171 dX6_init_149 (by decide) (by decide) ?_
  refine Q_iconst (v := 0) o dX6_init_171 (by decide) ?_
  refine Q_istore_n (lv2 := [(0, rA g 0), (1, .int (nI 0))]) o dX6_init_172 rfl (by decide) rfl ?_
  refine kL_covers o 0 (by decide) ?_
  refine kL_covers o 1 (by decide) ?_
  refine kL_covers o 2 (by decide) ?_
  refine kL_covers o 3 (by decide) ?_
  refine kL_covers o 4 (by decide) ?_
  refine kL_covers o 5 (by decide) ?_
  refine Q_iload_n o 1 dX6_init_173 rfl rfl ?_
  refine Q_aload_n o 0 dX6_init_174 rfl rfl ?_
  refine Q_get (v := rA g 3) (fs := [rA g 1, rA g 2, rA g 3, rA g 4, rA g 5, rA g 7, rA g 9, rA g 14, rA g 16, .int 0, .int 0, rA g 17]) o dX6_init_175 fg_X6_20 (by rw [cP_o (Or.inl rfl)]; rfl) (by decide) rfl ?_
  refine Q_alen (x := (6, .inr (.inr (.inr (.inr (fun j => if j < 6 then some (g.2.2 + (38 + 3 * j)) else none)))))) (v := 6) (ti := 4) o dX6_init_178 (by simp [cP]) (by decide) rfl rfl ?_
  refine Q_geT o 201 dX6_init_179 (by decide) (by decide) ?_
  refine Q_iconst (v := 0) o dX6_init_201 (by decide) ?_
  refine Q_istore_n (lv2 := [(0, rA g 0), (1, .int (nI 0))]) o dX6_init_202 rfl (by decide) rfl ?_
  refine kL_codes o 0 (by decide) ?_
  refine kL_codes o 1 (by decide) ?_
  refine kL_codes o 2 (by decide) ?_
  refine kL_codes o 3 (by decide) ?_
  refine Q_iload_n o 1 dX6_init_203 rfl rfl ?_
  refine Q_aload_n o 0 dX6_init_204 rfl rfl ?_
  refine Q_get (v := rA g 4) (fs := [rA g 1, rA g 2, rA g 3, rA g 4, rA g 5, rA g 7, rA g 9, rA g 14, rA g 16, .int 0, .int 0, rA g 17]) o dX6_init_205 fg_X6_26 (by rw [cP_o (Or.inl rfl)]; rfl) (by decide) rfl ?_
  refine Q_alen (x := (4, .inr (.inr (.inr (.inr (fun j => if j < 4 then some (g.2.2 + (56 + 2 * j)) else none)))))) (v := 4) (ti := 5) o dX6_init_208 (by simp [cP]) (by decide) rfl rfl ?_
  refine Q_geT o 231 dX6_init_209 (by decide) (by decide) ?_
  refine kr _ _ _ dX6_init_231 ?_
  intro a ha
  by_cases h : a = 0 ∨ 5 ≤ a
  · exact Or.inl (cP_o h)
  · have h2 : a = 1 ∨ a = 2 ∨ a = 3 ∨ a = 4 := by omega
    rcases h2 with rfl | rfl | rfl | rfl
    · refine Or.inr ⟨_, _, _, _, rfl, rfl, fun q hq => ?_⟩
      match q, hq with
      | 0, _ => rfl
      | 1, _ => rfl
      | 2, _ => rfl
      | 3, _ => rfl
      | 4, _ => rfl
      | 5, _ => rfl
      | q + 6, hq => exact absurd hq (by omega)
    · refine Or.inr ⟨_, _, _, _, rfl, rfl, fun q hq => ?_⟩
      match q, hq with
      | 0, _ => rfl
      | 1, _ => rfl
      | 2, _ => rfl
      | 3, _ => rfl
      | q + 4, hq => exact absurd hq (by omega)
    · refine Or.inr ⟨_, _, _, _, rfl, rfl, fun q hq => ?_⟩
      match q, hq with
      | 0, _ => rfl
      | 1, _ => rfl
      | 2, _ => rfl
      | 3, _ => rfl
      | 4, _ => rfl
      | 5, _ => rfl
      | q + 6, hq => exact absurd hq (by omega)
    · refine Or.inr ⟨_, _, _, _, rfl, rfl, fun q hq => ?_⟩
      match q, hq with
      | 0, _ => rfl
      | 1, _ => rfl
      | 2, _ => rfl
      | 3, _ => rfl
      | q + 4, hq => exact absurd hq (by omega))
