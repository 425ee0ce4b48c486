set_option maxRecDepth 100000 in
set_option maxHeartbeats 40000000 in
theorem k_X7 (g : Gx) (l : Launch) (c : Nat → va_E) (hc : c 64 = .inr (7, [.int 0, .null, .int 0, .long 0, .long 0, .null, .null, .null, .null, .null, .null, .null, .null, .null, .null, .null, .int 0, .null, .null, .null, .null, .int 0, .int 0, .null, .null, .int 0, .int 0, .null, .null, .null, .null, .long 0])) (hp : ∀ j, j < 64 → c j = cellE g h00 j) : CtrK g l yX7_init cX7_init 2 1 13 22 11471 64 c 65 (cellE g h00) := mkK (plainFor_of_name (by decide)) rfl (by decide) (fun V o kr => by
  refine Q_aload_n o 0 dX7_init_0 rfl rfl ?_
  refine Q_objInit o dX7_init_1 lo_X7_1 (by decide) ?_
  refine Q_aload_n o 0 dX7_init_4 rfl rfl ?_
  refine Q_bipush (v := 6) o dX7_init_5 (by decide) ?_
  refine Q_newa (ti := 0) (n := 6) (ty := .int) (a0 := (6, .inl (fun _ => 0))) o dX7_init_7 rfl ac_int rfl (fun _ _ => Iff.rfl) (fun _ => rfl) (by decide) (by decide) (by decide) (by decide) (by decide) (fun c1 e1 => ?_)
  have f64_1 : c1 64 = .inr (7, [.int 0, .null, .int 0, .long 0, .long 0, .null, .null, .null, .null, .null, .null, .null, .null, .null, .null, .null, .int 0, .null, .null, .null, .null, .int 0, .int 0, .null, .null, .int 0, .int 0, .null, .null, .null, .null, .long 0]) := by rw [e1, va_up_ne _ _ (by decide)]; exact hc
  refine Q_put (fs := [.int 0, .null, .int 0, .long 0, .long 0, .null, .null, .null, .null, .null, .null, .null, .null, .null, .null, .null, .int 0, .null, .null, .null, .null, .int 0, .int 0, .null, .null, .int 0, .int 0, .null, .null, .null, .null, .long 0]) o [.int 0, rA g 65, .int 0, .long 0, .long 0, .null, .null, .null, .null, .null, .null, .null, .null, .null, .null, .null, .int 0, .null, .null, .null, .null, .int 0, .int 0, .null, .null, .int 0, .int 0, .null, .null, .null, .null, .long 0] dX7_init_9 fk_X7_7 f64_1 (by decide) (by show 1 < 32; decide) rfl rfl rfl (fun c2 e2 => ?_)
  have f64_2 : c2 64 = .inr (7, [.int 0, rA g 65, .int 0, .long 0, .long 0, .null, .null, .null, .null, .null, .null, .null, .null, .null, .null, .null, .int 0, .null, .null, .null, .null, .int 0, .int 0, .null, .null, .int 0, .int 0, .null, .null, .null, .null, .long 0]) := by rw [e2, va_up_self]
  refine Q_aload_n o 0 dX7_init_12 rfl rfl ?_
  refine Q_lconst (v := 1) o dX7_init_13 (by decide) ?_
  refine Q_put (fs := [.int 0, rA g 65, .int 0, .long 0, .long 0, .null, .null, .null, .null, .null, .null, .null, .null, .null, .null, .null, .int 0, .null, .null, .null, .null, .int 0, .int 0, .null, .null, .int 0, .int 0, .null, .null, .null, .null, .long 0]) o [.int 0, rA g 65, .int 0, .long 0, .long 1, .null, .null, .null, .null, .null, .null, .null, .null, .null, .null, .null, .int 0, .null, .null, .null, .null, .int 0, .int 0, .null, .null, .int 0, .int 0, .null, .null, .null, .null, .long 0] dX7_init_14 fk_X7_13 f64_2 (by decide) (by show 4 < 32; decide) rfl rfl rfl (fun c3 e3 => ?_)
  have f64_3 : c3 64 = .inr (7, [.int 0, rA g 65, .int 0, .long 0, .long 1, .null, .null, .null, .null, .null, .null, .null, .null, .null, .null, .null, .int 0, .null, .null, .null, .null, .int 0, .int 0, .null, .null, .int 0, .int 0, .null, .null, .null, .null, .long 0]) := by rw [e3, va_up_self]
  refine Q_aload_n o 0 dX7_init_17 rfl rfl ?_
  refine Q_bipush (v := 6) o dX7_init_18 (by decide) ?_
  refine Q_newa (ti := 0) (n := 6) (ty := .int) (a0 := (6, .inl (fun _ => 0))) o dX7_init_20 rfl ac_int rfl (fun _ _ => Iff.rfl) (fun _ => rfl) (by decide) (by decide) (by decide) (by decide) (by decide) (fun c4 e4 => ?_)
  have f64_4 : c4 64 = .inr (7, [.int 0, rA g 65, .int 0, .long 0, .long 1, .null, .null, .null, .null, .null, .null, .null, .null, .null, .null, .null, .int 0, .null, .null, .null, .null, .int 0, .int 0, .null, .null, .int 0, .int 0, .null, .null, .null, .null, .long 0]) := by rw [e4, va_up_ne _ _ (by decide)]; exact f64_3
  have f66_4 : c4 66 = .inl (g.2.1 0, 6, .inl (fun _ => 0)) := by rw [e4, va_up_self]
  refine Q_put (fs := [.int 0, rA g 65, .int 0, .long 0, .long 1, .null, .null, .null, .null, .null, .null, .null, .null, .null, .null, .null, .int 0, .null, .null, .null, .null, .int 0, .int 0, .null, .null, .int 0, .int 0, .null, .null, .null, .null, .long 0]) o [.int 0, rA g 65, .int 0, .long 0, .long 1, rA g 66, .null, .null, .null, .null, .null, .null, .null, .null, .null, .null, .int 0, .null, .null, .null, .null, .int 0, .int 0, .null, .null, .int 0, .int 0, .null, .null, .null, .null, .long 0] dX7_init_22 fk_X7_17 f64_4 (by decide) (by show 5 < 32; decide) rfl rfl rfl (fun c5 e5 => ?_)
  have f66_5 : c5 66 = .inl (g.2.1 0, 6, .inl (fun _ => 0)) := by rw [e5, va_up_ne _ _ (by decide)]; exact f66_4
  have f64_5 : c5 64 = .inr (7, [.int 0, rA g 65, .int 0, .long 0, .long 1, rA g 66, .null, .null, .null, .null, .null, .null, .null, .null, .null, .null, .int 0, .null, .null, .null, .null, .int 0, .int 0, .null, .null, .int 0, .int 0, .null, .null, .null, .null, .long 0]) := by rw [e5, va_up_self]
  refine Q_aload_n o 0 dX7_init_25 rfl rfl ?_
  refine Q_sipush (v := 240) o dX7_init_26 (by decide) ?_
  refine Q_newa (ti := 0) (n := 240) (ty := .int) (a0 := (240, .inl (fun _ => 0))) o dX7_init_29 rfl ac_int rfl (fun _ _ => Iff.rfl) (fun _ => rfl) (by decide) (by decide) (by decide) (by decide) (by decide) (fun c6 e6 => ?_)
  have f64_6 : c6 64 = .inr (7, [.int 0, rA g 65, .int 0, .long 0, .long 1, rA g 66, .null, .null, .null, .null, .null, .null, .null, .null, .null, .null, .int 0, .null, .null, .null, .null, .int 0, .int 0, .null, .null, .int 0, .int 0, .null, .null, .null, .null, .long 0]) := by rw [e6, va_up_ne _ _ (by decide)]; exact f64_5
  have f66_6 : c6 66 = .inl (g.2.1 0, 6, .inl (fun _ => 0)) := by rw [e6, va_up_ne _ _ (by decide)]; exact f66_5
  refine Q_put (fs := [.int 0, rA g 65, .int 0, .long 0, .long 1, rA g 66, .null, .null, .null, .null, .null, .null, .null, .null, .null, .null, .int 0, .null, .null, .null, .null, .int 0, .int 0, .null, .null, .int 0, .int 0, .null, .null, .null, .null, .long 0]) o [.int 0, rA g 65, .int 0, .long 0, .long 1, rA g 66, rA g 67, .null, .null, .null, .null, .null, .null, .null, .null, .null, .int 0, .null, .null, .null, .null, .int 0, .int 0, .null, .null, .int 0, .int 0, .null, .null, .null, .null, .long 0] dX7_init_31 fk_X7_20 f64_6 (by decide) (by show 6 < 32; decide) rfl rfl rfl (fun c7 e7 => ?_)
  have f66_7 : c7 66 = .inl (g.2.1 0, 6, .inl (fun _ => 0)) := by rw [e7, va_up_ne _ _ (by decide)]; exact f66_6
  have f64_7 : c7 64 = .inr (7, [.int 0, rA g 65, .int 0, .long 0, .long 1, rA g 66, rA g 67, .null, .null, .null, .null, .null, .null, .null, .null, .null, .int 0, .null, .null, .null, .null, .int 0, .int 0, .null, .null, .int 0, .int 0, .null, .null, .null, .null, .long 0]) := by rw [e7, va_up_self]
  refine Q_aload_n o 0 dX7_init_34 rfl rfl ?_
  refine Q_bipush (v := 40) o dX7_init_35 (by decide) ?_
  refine Q_newa (ti := 0) (n := 40) (ty := .int) (a0 := (40, .inl (fun _ => 0))) o dX7_init_37 rfl ac_int rfl (fun _ _ => Iff.rfl) (fun _ => rfl) (by decide) (by decide) (by decide) (by decide) (by decide) (fun c8 e8 => ?_)
  have f64_8 : c8 64 = .inr (7, [.int 0, rA g 65, .int 0, .long 0, .long 1, rA g 66, rA g 67, .null, .null, .null, .null, .null, .null, .null, .null, .null, .int 0, .null, .null, .null, .null, .int 0, .int 0, .null, .null, .int 0, .int 0, .null, .null, .null, .null, .long 0]) := by rw [e8, va_up_ne _ _ (by decide)]; exact f64_7
  have f66_8 : c8 66 = .inl (g.2.1 0, 6, .inl (fun _ => 0)) := by rw [e8, va_up_ne _ _ (by decide)]; exact f66_7
  refine Q_put (fs := [.int 0, rA g 65, .int 0, .long 0, .long 1, rA g 66, rA g 67, .null, .null, .null, .null, .null, .null, .null, .null, .null, .int 0, .null, .null, .null, .null, .int 0, .int 0, .null, .null, .int 0, .int 0, .null, .null, .null, .null, .long 0]) o [.int 0, rA g 65, .int 0, .long 0, .long 1, rA g 66, rA g 67, rA g 68, .null, .null, .null, .null, .null, .null, .null, .null, .int 0, .null, .null, .null, .null, .int 0, .int 0, .null, .null, .int 0, .int 0, .null, .null, .null, .null, .long 0] dX7_init_39 fk_X7_23 f64_8 (by decide) (by show 7 < 32; decide) rfl rfl rfl (fun c9 e9 => ?_)
  have f66_9 : c9 66 = .inl (g.2.1 0, 6, .inl (fun _ => 0)) := by rw [e9, va_up_ne _ _ (by decide)]; exact f66_8
  have f64_9 : c9 64 = .inr (7, [.int 0, rA g 65, .int 0, .long 0, .long 1, rA g 66, rA g 67, rA g 68, .null, .null, .null, .null, .null, .null, .null, .null, .int 0, .null, .null, .null, .null, .int 0, .int 0, .null, .null, .int 0, .int 0, .null, .null, .null, .null, .long 0]) := by rw [e9, va_up_self]
  refine Q_aload_n o 0 dX7_init_42 rfl rfl ?_
  refine Q_iconst (v := 4) o dX7_init_43 (by decide) ?_
  refine Q_newa (ti := 0) (n := 4) (ty := .int) (a0 := (4, .inl (fun _ => 0))) o dX7_init_44 rfl ac_int rfl (fun _ _ => Iff.rfl) (fun _ => rfl) (by decide) (by decide) (by decide) (by decide) (by decide) (fun c10 e10 => ?_)
  have f64_10 : c10 64 = .inr (7, [.int 0, rA g 65, .int 0, .long 0, .long 1, rA g 66, rA g 67, rA g 68, .null, .null, .null, .null, .null, .null, .null, .null, .int 0, .null, .null, .null, .null, .int 0, .int 0, .null, .null, .int 0, .int 0, .null, .null, .null, .null, .long 0]) := by rw [e10, va_up_ne _ _ (by decide)]; exact f64_9
  have f66_10 : c10 66 = .inl (g.2.1 0, 6, .inl (fun _ => 0)) := by rw [e10, va_up_ne _ _ (by decide)]; exact f66_9
  have f69_10 : c10 69 = .inl (g.2.1 0, 4, .inl (fun _ => 0)) := by rw [e10, va_up_self]
  refine Q_put (fs := [.int 0, rA g 65, .int 0, .long 0, .long 1, rA g 66, rA g 67, rA g 68, .null, .null, .null, .null, .null, .null, .null, .null, .int 0, .null, .null, .null, .null, .int 0, .int 0, .null, .null, .int 0, .int 0, .null, .null, .null, .null, .long 0]) o [.int 0, rA g 65, .int 0, .long 0, .long 1, rA g 66, rA g 67, rA g 68, rA g 69, .null, .null, .null, .null, .null, .null, .null, .int 0, .null, .null, .null, .null, .int 0, .int 0, .null, .null, .int 0, .int 0, .null, .null, .null, .null, .long 0] dX7_init_46 fk_X7_26 f64_10 (by decide) (by show 8 < 32; decide) rfl rfl rfl (fun c11 e11 => ?_)
  have f66_11 : c11 66 = .inl (g.2.1 0, 6, .inl (fun _ => 0)) := by rw [e11, va_up_ne _ _ (by decide)]; exact f66_10
  have f69_11 : c11 69 = .inl (g.2.1 0, 4, .inl (fun _ => 0)) := by rw [e11, va_up_ne _ _ (by decide)]; exact f69_10
  have f64_11 : c11 64 = .inr (7, [.int 0, rA g 65, .int 0, .long 0, .long 1, rA g 66, rA g 67, rA g 68, rA g 69, .null, .null, .null, .null, .null, .null, .null, .int 0, .null, .null, .null, .null, .int 0, .int 0, .null, .null, .int 0, .int 0, .null, .null, .null, .null, .long 0]) := by rw [e11, va_up_self]
  refine Q_aload_n o 0 dX7_init_49 rfl rfl ?_
  refine Q_sipush (v := 240) o dX7_init_50 (by decide) ?_
  refine Q_newa (ti := 0) (n := 240) (ty := .int) (a0 := (240, .inl (fun _ => 0))) o dX7_init_53 rfl ac_int rfl (fun _ _ => Iff.rfl) (fun _ => rfl) (by decide) (by decide) (by decide) (by decide) (by decide) (fun c12 e12 => ?_)
  have f64_12 : c12 64 = .inr (7, [.int 0, rA g 65, .int 0, .long 0, .long 1, rA g 66, rA g 67, rA g 68, rA g 69, .null, .null, .null, .null, .null, .null, .null, .int 0, .null, .null, .null, .null, .int 0, .int 0, .null, .null, .int 0, .int 0, .null, .null, .null, .null, .long 0]) := by rw [e12, va_up_ne _ _ (by decide)]; exact f64_11
  have f66_12 : c12 66 = .inl (g.2.1 0, 6, .inl (fun _ => 0)) := by rw [e12, va_up_ne _ _ (by decide)]; exact f66_11
  have f69_12 : c12 69 = .inl (g.2.1 0, 4, .inl (fun _ => 0)) := by rw [e12, va_up_ne _ _ (by decide)]; exact f69_11
  refine Q_put (fs := [.int 0, rA g 65, .int 0, .long 0, .long 1, rA g 66, rA g 67, rA g 68, rA g 69, .null, .null, .null, .null, .null, .null, .null, .int 0, .null, .null, .null, .null, .int 0, .int 0, .null, .null, .int 0, .int 0, .null, .null, .null, .null, .long 0]) o [.int 0, rA g 65, .int 0, .long 0, .long 1, rA g 66, rA g 67, rA g 68, rA g 69, rA g 70, .null, .null, .null, .null, .null, .null, .int 0, .null, .null, .null, .null, .int 0, .int 0, .null, .null, .int 0, .int 0, .null, .null, .null, .null, .long 0] dX7_init_55 fk_X7_29 f64_12 (by decide) (by show 9 < 32; decide) rfl rfl rfl (fun c13 e13 => ?_)
  have f66_13 : c13 66 = .inl (g.2.1 0, 6, .inl (fun _ => 0)) := by rw [e13, va_up_ne _ _ (by decide)]; exact f66_12
  have f69_13 : c13 69 = .inl (g.2.1 0, 4, .inl (fun _ => 0)) := by rw [e13, va_up_ne _ _ (by decide)]; exact f69_12
  have f64_13 : c13 64 = .inr (7, [.int 0, rA g 65, .int 0, .long 0, .long 1, rA g 66, rA g 67, rA g 68, rA g 69, rA g 70, .null, .null, .null, .null, .null, .null, .int 0, .null, .null, .null, .null, .int 0, .int 0, .null, .null, .int 0, .int 0, .null, .null, .null, .null, .long 0]) := by rw [e13, va_up_self]
  refine Q_aload_n o 0 dX7_init_58 rfl rfl ?_
  refine Q_bipush (v := 6) o dX7_init_59 (by decide) ?_
  refine Q_newa (ti := 0) (n := 6) (ty := .int) (a0 := (6, .inl (fun _ => 0))) o dX7_init_61 rfl ac_int rfl (fun _ _ => Iff.rfl) (fun _ => rfl) (by decide) (by decide) (by decide) (by decide) (by decide) (fun c14 e14 => ?_)
  have f64_14 : c14 64 = .inr (7, [.int 0, rA g 65, .int 0, .long 0, .long 1, rA g 66, rA g 67, rA g 68, rA g 69, rA g 70, .null, .null, .null, .null, .null, .null, .int 0, .null, .null, .null, .null, .int 0, .int 0, .null, .null, .int 0, .int 0, .null, .null, .null, .null, .long 0]) := by rw [e14, va_up_ne _ _ (by decide)]; exact f64_13
  have f66_14 : c14 66 = .inl (g.2.1 0, 6, .inl (fun _ => 0)) := by rw [e14, va_up_ne _ _ (by decide)]; exact f66_13
  have f69_14 : c14 69 = .inl (g.2.1 0, 4, .inl (fun _ => 0)) := by rw [e14, va_up_ne _ _ (by decide)]; exact f69_13
  refine Q_put (fs := [.int 0, rA g 65, .int 0, .long 0, .long 1, rA g 66, rA g 67, rA g 68, rA g 69, rA g 70, .null, .null, .null, .null, .null, .null, .int 0, .null, .null, .null, .null, .int 0, .int 0, .null, .null, .int 0, .int 0, .null, .null, .null, .null, .long 0]) o [.int 0, rA g 65, .int 0, .long 0, .long 1, rA g 66, rA g 67, rA g 68, rA g 69, rA g 70, rA g 71, .null, .null, .null, .null, .null, .int 0, .null, .null, .null, .null, .int 0, .int 0, .null, .null, .int 0, .int 0, .null, .null, .null, .null, .long 0] dX7_init_63 fk_X7_32 f64_14 (by decide) (by show 10 < 32; decide) rfl rfl rfl (fun c15 e15 => ?_)
  have f66_15 : c15 66 = .inl (g.2.1 0, 6, .inl (fun _ => 0)) := by rw [e15, va_up_ne _ _ (by decide)]; exact f66_14
  have f69_15 : c15 69 = .inl (g.2.1 0, 4, .inl (fun _ => 0)) := by rw [e15, va_up_ne _ _ (by decide)]; exact f69_14
  have f64_15 : c15 64 = .inr (7, [.int 0, rA g 65, .int 0, .long 0, .long 1, rA g 66, rA g 67, rA g 68, rA g 69, rA g 70, rA g 71, .null, .null, .null, .null, .null, .int 0, .null, .null, .null, .null, .int 0, .int 0, .null, .null, .int 0, .int 0, .null, .null, .null, .null, .long 0]) := by rw [e15, va_up_self]
  refine Q_aload_n o 0 dX7_init_66 rfl rfl ?_
  refine Q_bipush (v := 6) o dX7_init_67 (by decide) ?_
  refine Q_newa (ti := 0) (n := 6) (ty := .int) (a0 := (6, .inl (fun _ => 0))) o dX7_init_69 rfl ac_int rfl (fun _ _ => Iff.rfl) (fun _ => rfl) (by decide) (by decide) (by decide) (by decide) (by decide) (fun c16 e16 => ?_)
  have f64_16 : c16 64 = .inr (7, [.int 0, rA g 65, .int 0, .long 0, .long 1, rA g 66, rA g 67, rA g 68, rA g 69, rA g 70, rA g 71, .null, .null, .null, .null, .null, .int 0, .null, .null, .null, .null, .int 0, .int 0, .null, .null, .int 0, .int 0, .null, .null, .null, .null, .long 0]) := by rw [e16, va_up_ne _ _ (by decide)]; exact f64_15
  have f66_16 : c16 66 = .inl (g.2.1 0, 6, .inl (fun _ => 0)) := by rw [e16, va_up_ne _ _ (by decide)]; exact f66_15
  have f69_16 : c16 69 = .inl (g.2.1 0, 4, .inl (fun _ => 0)) := by rw [e16, va_up_ne _ _ (by decide)]; exact f69_15
  refine Q_put (fs := [.int 0, rA g 65, .int 0, .long 0, .long 1, rA g 66, rA g 67, rA g 68, rA g 69, rA g 70, rA g 71, .null, .null, .null, .null, .null, .int 0, .null, .null, .null, .null, .int 0, .int 0, .null, .null, .int 0, .int 0, .null, .null, .null, .null, .long 0]) o [.int 0, rA g 65, .int 0, .long 0, .long 1, rA g 66, rA g 67, rA g 68, rA g 69, rA g 70, rA g 71, rA g 72, .null, .null, .null, .null, .int 0, .null, .null, .null, .null, .int 0, .int 0, .null, .null, .int 0, .int 0, .null, .null, .null, .null, .long 0] dX7_init_71 fk_X7_35 f64_16 (by decide) (by show 11 < 32; decide) rfl rfl rfl (fun c17 e17 => ?_)
  have f66_17 : c17 66 = .inl (g.2.1 0, 6, .inl (fun _ => 0)) := by rw [e17, va_up_ne _ _ (by decide)]; exact f66_16
  have f69_17 : c17 69 = .inl (g.2.1 0, 4, .inl (fun _ => 0)) := by rw [e17, va_up_ne _ _ (by decide)]; exact f69_16
  have f64_17 : c17 64 = .inr (7, [.int 0, rA g 65, .int 0, .long 0, .long 1, rA g 66, rA g 67, rA g 68, rA g 69, rA g 70, rA g 71, rA g 72, .null, .null, .null, .null, .int 0, .null, .null, .null, .null, .int 0, .int 0, .null, .null, .int 0, .int 0, .null, .null, .null, .null, .long 0]) := by rw [e17, va_up_self]
  refine Q_aload_n o 0 dX7_init_74 rfl rfl ?_
  refine Q_sipush (v := 240) o dX7_init_75 (by decide) ?_
  refine Q_newa (ti := 0) (n := 240) (ty := .int) (a0 := (240, .inl (fun _ => 0))) o dX7_init_78 rfl ac_int rfl (fun _ _ => Iff.rfl) (fun _ => rfl) (by decide) (by decide) (by decide) (by decide) (by decide) (fun c18 e18 => ?_)
  have f64_18 : c18 64 = .inr (7, [.int 0, rA g 65, .int 0, .long 0, .long 1, rA g 66, rA g 67, rA g 68, rA g 69, rA g 70, rA g 71, rA g 72, .null, .null, .null, .null, .int 0, .null, .null, .null, .null, .int 0, .int 0, .null, .null, .int 0, .int 0, .null, .null, .null, .null, .long 0]) := by rw [e18, va_up_ne _ _ (by decide)]; exact f64_17
  have f66_18 : c18 66 = .inl (g.2.1 0, 6, .inl (fun _ => 0)) := by rw [e18, va_up_ne _ _ (by decide)]; exact f66_17
  have f69_18 : c18 69 = .inl (g.2.1 0, 4, .inl (fun _ => 0)) := by rw [e18, va_up_ne _ _ (by decide)]; exact f69_17
  refine Q_put (fs := [.int 0, rA g 65, .int 0, .long 0, .long 1, rA g 66, rA g 67, rA g 68, rA g 69, rA g 70, rA g 71, rA g 72, .null, .null, .null, .null, .int 0, .null, .null, .null, .null, .int 0, .int 0, .null, .null, .int 0, .int 0, .null, .null, .null, .null, .long 0]) o [.int 0, rA g 65, .int 0, .long 0, .long 1, rA g 66, rA g 67, rA g 68, rA g 69, rA g 70, rA g 71, rA g 72, rA g 73, .null, .null, .null, .int 0, .null, .null, .null, .null, .int 0, .int 0, .null, .null, .int 0, .int 0, .null, .null, .null, .null, .long 0] dX7_init_80 fk_X7_38 f64_18 (by decide) (by show 12 < 32; decide) rfl rfl rfl (fun c19 e19 => ?_)
  have f66_19 : c19 66 = .inl (g.2.1 0, 6, .inl (fun _ => 0)) := by rw [e19, va_up_ne _ _ (by decide)]; exact f66_18
  have f69_19 : c19 69 = .inl (g.2.1 0, 4, .inl (fun _ => 0)) := by rw [e19, va_up_ne _ _ (by decide)]; exact f69_18
  have f64_19 : c19 64 = .inr (7, [.int 0, rA g 65, .int 0, .long 0, .long 1, rA g 66, rA g 67, rA g 68, rA g 69, rA g 70, rA g 71, rA g 72, rA g 73, .null, .null, .null, .int 0, .null, .null, .null, .null, .int 0, .int 0, .null, .null, .int 0, .int 0, .null, .null, .null, .null, .long 0]) := by rw [e19, va_up_self]
  refine Q_aload_n o 0 dX7_init_83 rfl rfl ?_
  refine Q_sipush (v := 240) o dX7_init_84 (by decide) ?_
  refine Q_newa (ti := 0) (n := 240) (ty := .int) (a0 := (240, .inl (fun _ => 0))) o dX7_init_87 rfl ac_int rfl (fun _ _ => Iff.rfl) (fun _ => rfl) (by decide) (by decide) (by decide) (by decide) (by decide) (fun c20 e20 => ?_)
  have f64_20 : c20 64 = .inr (7, [.int 0, rA g 65, .int 0, .long 0, .long 1, rA g 66, rA g 67, rA g 68, rA g 69, rA g 70, rA g 71, rA g 72, rA g 73, .null, .null, .null, .int 0, .null, .null, .null, .null, .int 0, .int 0, .null, .null, .int 0, .int 0, .null, .null, .null, .null, .long 0]) := by rw [e20, va_up_ne _ _ (by decide)]; exact f64_19
  have f66_20 : c20 66 = .inl (g.2.1 0, 6, .inl (fun _ => 0)) := by rw [e20, va_up_ne _ _ (by decide)]; exact f66_19
  have f69_20 : c20 69 = .inl (g.2.1 0, 4, .inl (fun _ => 0)) := by rw [e20, va_up_ne _ _ (by decide)]; exact f69_19
  refine Q_put (fs := [.int 0, rA g 65, .int 0, .long 0, .long 1, rA g 66, rA g 67, rA g 68, rA g 69, rA g 70, rA g 71, rA g 72, rA g 73, .null, .null, .null, .int 0, .null, .null, .null, .null, .int 0, .int 0, .null, .null, .int 0, .int 0, .null, .null, .null, .null, .long 0]) o [.int 0, rA g 65, .int 0, .long 0, .long 1, rA g 66, rA g 67, rA g 68, rA g 69, rA g 70, rA g 71, rA g 72, rA g 73, rA g 74, .null, .null, .int 0, .null, .null, .null, .null, .int 0, .int 0, .null, .null, .int 0, .int 0, .null, .null, .null, .null, .long 0] dX7_init_89 fk_X7_41 f64_20 (by decide) (by show 13 < 32; decide) rfl rfl rfl (fun c21 e21 => ?_)
  have f66_21 : c21 66 = .inl (g.2.1 0, 6, .inl (fun _ => 0)) := by rw [e21, va_up_ne _ _ (by decide)]; exact f66_20
  have f69_21 : c21 69 = .inl (g.2.1 0, 4, .inl (fun _ => 0)) := by rw [e21, va_up_ne _ _ (by decide)]; exact f69_20
  have f64_21 : c21 64 = .inr (7, [.int 0, rA g 65, .int 0, .long 0, .long 1, rA g 66, rA g 67, rA g 68, rA g 69, rA g 70, rA g 71, rA g 72, rA g 73, rA g 74, .null, .null, .int 0, .null, .null, .null, .null, .int 0, .int 0, .null, .null, .int 0, .int 0, .null, .null, .null, .null, .long 0]) := by rw [e21, va_up_self]
  refine Q_aload_n o 0 dX7_init_92 rfl rfl ?_
  refine Q_bipush (v := 6) o dX7_init_93 (by decide) ?_
  refine Q_newa (ti := 0) (n := 6) (ty := .int) (a0 := (6, .inl (fun _ => 0))) o dX7_init_95 rfl ac_int rfl (fun _ _ => Iff.rfl) (fun _ => rfl) (by decide) (by decide) (by decide) (by decide) (by decide) (fun c22 e22 => ?_)
  have f64_22 : c22 64 = .inr (7, [.int 0, rA g 65, .int 0, .long 0, .long 1, rA g 66, rA g 67, rA g 68, rA g 69, rA g 70, rA g 71, rA g 72, rA g 73, rA g 74, .null, .null, .int 0, .null, .null, .null, .null, .int 0, .int 0, .null, .null, .int 0, .int 0, .null, .null, .null, .null, .long 0]) := by rw [e22, va_up_ne _ _ (by decide)]; exact f64_21
  have f66_22 : c22 66 = .inl (g.2.1 0, 6, .inl (fun _ => 0)) := by rw [e22, va_up_ne _ _ (by decide)]; exact f66_21
  have f69_22 : c22 69 = .inl (g.2.1 0, 4, .inl (fun _ => 0)) := by rw [e22, va_up_ne _ _ (by decide)]; exact f69_21
  refine Q_put (fs := [.int 0, rA g 65, .int 0, .long 0, .long 1, rA g 66, rA g 67, rA g 68, rA g 69, rA g 70, rA g 71, rA g 72, rA g 73, rA g 74, .null, .null, .int 0, .null, .null, .null, .null, .int 0, .int 0, .null, .null, .int 0, .int 0, .null, .null, .null, .null, .long 0]) o [.int 0, rA g 65, .int 0, .long 0, .long 1, rA g 66, rA g 67, rA g 68, rA g 69, rA g 70, rA g 71, rA g 72, rA g 73, rA g 74, rA g 75, .null, .int 0, .null, .null, .null, .null, .int 0, .int 0, .null, .null, .int 0, .int 0, .null, .null, .null, .null, .long 0] dX7_init_97 fk_X7_44 f64_22 (by decide) (by show 14 < 32; decide) rfl rfl rfl (fun c23 e23 => ?_)
  have f66_23 : c23 66 = .inl (g.2.1 0, 6, .inl (fun _ => 0)) := by rw [e23, va_up_ne _ _ (by decide)]; exact f66_22
  have f69_23 : c23 69 = .inl (g.2.1 0, 4, .inl (fun _ => 0)) := by rw [e23, va_up_ne _ _ (by decide)]; exact f69_22
  have f64_23 : c23 64 = .inr (7, [.int 0, rA g 65, .int 0, .long 0, .long 1, rA g 66, rA g 67, rA g 68, rA g 69, rA g 70, rA g 71, rA g 72, rA g 73, rA g 74, rA g 75, .null, .int 0, .null, .null, .null, .null, .int 0, .int 0, .null, .null, .int 0, .int 0, .null, .null, .null, .null, .long 0]) := by rw [e23, va_up_self]
  refine Q_aload_n o 0 dX7_init_100 rfl rfl ?_
  refine Q_bipush (v := 6) o dX7_init_101 (by decide) ?_
  refine Q_newa (ti := 0) (n := 6) (ty := .int) (a0 := (6, .inl (fun _ => 0))) o dX7_init_103 rfl ac_int rfl (fun _ _ => Iff.rfl) (fun _ => rfl) (by decide) (by decide) (by decide) (by decide) (by decide) (fun c24 e24 => ?_)
  have f64_24 : c24 64 = .inr (7, [.int 0, rA g 65, .int 0, .long 0, .long 1, rA g 66, rA g 67, rA g 68, rA g 69, rA g 70, rA g 71, rA g 72, rA g 73, rA g 74, rA g 75, .null, .int 0, .null, .null, .null, .null, .int 0, .int 0, .null, .null, .int 0, .int 0, .null, .null, .null, .null, .long 0]) := by rw [e24, va_up_ne _ _ (by decide)]; exact f64_23
  have f66_24 : c24 66 = .inl (g.2.1 0, 6, .inl (fun _ => 0)) := by rw [e24, va_up_ne _ _ (by decide)]; exact f66_23
  have f69_24 : c24 69 = .inl (g.2.1 0, 4, .inl (fun _ => 0)) := by rw [e24, va_up_ne _ _ (by decide)]; exact f69_23
  refine Q_put (fs := [.int 0, rA g 65, .int 0, .long 0, .long 1, rA g 66, rA g 67, rA g 68, rA g 69, rA g 70, rA g 71, rA g 72, rA g 73, rA g 74, rA g 75, .null, .int 0, .null, .null, .null, .null, .int 0, .int 0, .null, .null, .int 0, .int 0, .null, .null, .null, .null, .long 0]) o [.int 0, rA g 65, .int 0, .long 0, .long 1, rA g 66, rA g 67, rA g 68, rA g 69, rA g 70, rA g 71, rA g 72, rA g 73, rA g 74, rA g 75, rA g 76, .int 0, .null, .null, .null, .null, .int 0, .int 0, .null, .null, .int 0, .int 0, .null, .null, .null, .null, .long 0] dX7_init_105 fk_X7_47 f64_24 (by decide) (by show 15 < 32; decide) rfl rfl rfl (fun c25 e25 => ?_)
  have f66_25 : c25 66 = .inl (g.2.1 0, 6, .inl (fun _ => 0)) := by rw [e25, va_up_ne _ _ (by decide)]; exact f66_24
  have f69_25 : c25 69 = .inl (g.2.1 0, 4, .inl (fun _ => 0)) := by rw [e25, va_up_ne _ _ (by decide)]; exact f69_24
  have f64_25 : c25 64 = .inr (7, [.int 0, rA g 65, .int 0, .long 0, .long 1, rA g 66, rA g 67, rA g 68, rA g 69, rA g 70, rA g 71, rA g 72, rA g 73, rA g 74, rA g 75, rA g 76, .int 0, .null, .null, .null, .null, .int 0, .int 0, .null, .null, .int 0, .int 0, .null, .null, .null, .null, .long 0]) := by rw [e25, va_up_self]
  refine Q_aload_n o 0 dX7_init_108 rfl rfl ?_
  refine Q_bipush (v := 40) o dX7_init_109 (by decide) ?_
  refine Q_newa (ti := 0) (n := 40) (ty := .int) (a0 := (40, .inl (fun _ => 0))) o dX7_init_111 rfl ac_int rfl (fun _ _ => Iff.rfl) (fun _ => rfl) (by decide) (by decide) (by decide) (by decide) (by decide) (fun c26 e26 => ?_)
  have f64_26 : c26 64 = .inr (7, [.int 0, rA g 65, .int 0, .long 0, .long 1, rA g 66, rA g 67, rA g 68, rA g 69, rA g 70, rA g 71, rA g 72, rA g 73, rA g 74, rA g 75, rA g 76, .int 0, .null, .null, .null, .null, .int 0, .int 0, .null, .null, .int 0, .int 0, .null, .null, .null, .null, .long 0]) := by rw [e26, va_up_ne _ _ (by decide)]; exact f64_25
  have f66_26 : c26 66 = .inl (g.2.1 0, 6, .inl (fun _ => 0)) := by rw [e26, va_up_ne _ _ (by decide)]; exact f66_25
  have f69_26 : c26 69 = .inl (g.2.1 0, 4, .inl (fun _ => 0)) := by rw [e26, va_up_ne _ _ (by decide)]; exact f69_25
  refine Q_put (fs := [.int 0, rA g 65, .int 0, .long 0, .long 1, rA g 66, rA g 67, rA g 68, rA g 69, rA g 70, rA g 71, rA g 72, rA g 73, rA g 74, rA g 75, rA g 76, .int 0, .null, .null, .null, .null, .int 0, .int 0, .null, .null, .int 0, .int 0, .null, .null, .null, .null, .long 0]) o [.int 0, rA g 65, .int 0, .long 0, .long 1, rA g 66, rA g 67, rA g 68, rA g 69, rA g 70, rA g 71, rA g 72, rA g 73, rA g 74, rA g 75, rA g 76, .int 0, rA g 77, .null, .null, .null, .int 0, .int 0, .null, .null, .int 0, .int 0, .null, .null, .null, .null, .long 0] dX7_init_113 fk_X7_50 f64_26 (by decide) (by show 17 < 32; decide) rfl rfl rfl (fun c27 e27 => ?_)
  have f66_27 : c27 66 = .inl (g.2.1 0, 6, .inl (fun _ => 0)) := by rw [e27, va_up_ne _ _ (by decide)]; exact f66_26
  have f69_27 : c27 69 = .inl (g.2.1 0, 4, .inl (fun _ => 0)) := by rw [e27, va_up_ne _ _ (by decide)]; exact f69_26
  have f64_27 : c27 64 = .inr (7, [.int 0, rA g 65, .int 0, .long 0, .long 1, rA g 66, rA g 67, rA g 68, rA g 69, rA g 70, rA g 71, rA g 72, rA g 73, rA g 74, rA g 75, rA g 76, .int 0, rA g 77, .null, .null, .null, .int 0, .int 0, .null, .null, .int 0, .int 0, .null, .null, .null, .null, .long 0]) := by rw [e27, va_up_self]
  refine Q_aload_n o 0 dX7_init_116 rfl rfl ?_
  refine Q_iconst (v := 4) o dX7_init_117 (by decide) ?_
  refine Q_newa (ti := 0) (n := 4) (ty := .int) (a0 := (4, .inl (fun _ => 0))) o dX7_init_118 rfl ac_int rfl (fun _ _ => Iff.rfl) (fun _ => rfl) (by decide) (by decide) (by decide) (by decide) (by decide) (fun c28 e28 => ?_)
  have f64_28 : c28 64 = .inr (7, [.int 0, rA g 65, .int 0, .long 0, .long 1, rA g 66, rA g 67, rA g 68, rA g 69, rA g 70, rA g 71, rA g 72, rA g 73, rA g 74, rA g 75, rA g 76, .int 0, rA g 77, .null, .null, .null, .int 0, .int 0, .null, .null, .int 0, .int 0, .null, .null, .null, .null, .long 0]) := by rw [e28, va_up_ne _ _ (by decide)]; exact f64_27
  have f66_28 : c28 66 = .inl (g.2.1 0, 6, .inl (fun _ => 0)) := by rw [e28, va_up_ne _ _ (by decide)]; exact f66_27
  have f69_28 : c28 69 = .inl (g.2.1 0, 4, .inl (fun _ => 0)) := by rw [e28, va_up_ne _ _ (by decide)]; exact f69_27
  refine Q_put (fs := [.int 0, rA g 65, .int 0, .long 0, .long 1, rA g 66, rA g 67, rA g 68, rA g 69, rA g 70, rA g 71, rA g 72, rA g 73, rA g 74, rA g 75, rA g 76, .int 0, rA g 77, .null, .null, .null, .int 0, .int 0, .null, .null, .int 0, .int 0, .null, .null, .null, .null, .long 0]) o [.int 0, rA g 65, .int 0, .long 0, .long 1, rA g 66, rA g 67, rA g 68, rA g 69, rA g 70, rA g 71, rA g 72, rA g 73, rA g 74, rA g 75, rA g 76, .int 0, rA g 77, rA g 78, .null, .null, .int 0, .int 0, .null, .null, .int 0, .int 0, .null, .null, .null, .null, .long 0] dX7_init_120 fk_X7_53 f64_28 (by decide) (by show 18 < 32; decide) rfl rfl rfl (fun c29 e29 => ?_)
  have f66_29 : c29 66 = .inl (g.2.1 0, 6, .inl (fun _ => 0)) := by rw [e29, va_up_ne _ _ (by decide)]; exact f66_28
  have f69_29 : c29 69 = .inl (g.2.1 0, 4, .inl (fun _ => 0)) := by rw [e29, va_up_ne _ _ (by decide)]; exact f69_28
  have f64_29 : c29 64 = .inr (7, [.int 0, rA g 65, .int 0, .long 0, .long 1, rA g 66, rA g 67, rA g 68, rA g 69, rA g 70, rA g 71, rA g 72, rA g 73, rA g 74, rA g 75, rA g 76, .int 0, rA g 77, rA g 78, .null, .null, .int 0, .int 0, .null, .null, .int 0, .int 0, .null, .null, .null, .null, .long 0]) := by rw [e29, va_up_self]
  refine Q_aload_n o 0 dX7_init_123 rfl rfl ?_
  refine Q_iconst (v := 4) o dX7_init_124 (by decide) ?_
  refine Q_newa (ti := 0) (n := 4) (ty := .int) (a0 := (4, .inl (fun _ => 0))) o dX7_init_125 rfl ac_int rfl (fun _ _ => Iff.rfl) (fun _ => rfl) (by decide) (by decide) (by decide) (by decide) (by decide) (fun c30 e30 => ?_)
  have f64_30 : c30 64 = .inr (7, [.int 0, rA g 65, .int 0, .long 0, .long 1, rA g 66, rA g 67, rA g 68, rA g 69, rA g 70, rA g 71, rA g 72, rA g 73, rA g 74, rA g 75, rA g 76, .int 0, rA g 77, rA g 78, .null, .null, .int 0, .int 0, .null, .null, .int 0, .int 0, .null, .null, .null, .null, .long 0]) := by rw [e30, va_up_ne _ _ (by decide)]; exact f64_29
  have f66_30 : c30 66 = .inl (g.2.1 0, 6, .inl (fun _ => 0)) := by rw [e30, va_up_ne _ _ (by decide)]; exact f66_29
  have f69_30 : c30 69 = .inl (g.2.1 0, 4, .inl (fun _ => 0)) := by rw [e30, va_up_ne _ _ (by decide)]; exact f69_29
  refine Q_put (fs := [.int 0, rA g 65, .int 0, .long 0, .long 1, rA g 66, rA g 67, rA g 68, rA g 69, rA g 70, rA g 71, rA g 72, rA g 73, rA g 74, rA g 75, rA g 76, .int 0, rA g 77, rA g 78, .null, .null, .int 0, .int 0, .null, .null, .int 0, .int 0, .null, .null, .null, .null, .long 0]) o [.int 0, rA g 65, .int 0, .long 0, .long 1, rA g 66, rA g 67, rA g 68, rA g 69, rA g 70, rA g 71, rA g 72, rA g 73, rA g 74, rA g 75, rA g 76, .int 0, rA g 77, rA g 78, rA g 79, .null, .int 0, .int 0, .null, .null, .int 0, .int 0, .null, .null, .null, .null, .long 0] dX7_init_127 fk_X7_56 f64_30 (by decide) (by show 19 < 32; decide) rfl rfl rfl (fun c31 e31 => ?_)
  have f66_31 : c31 66 = .inl (g.2.1 0, 6, .inl (fun _ => 0)) := by rw [e31, va_up_ne _ _ (by decide)]; exact f66_30
  have f69_31 : c31 69 = .inl (g.2.1 0, 4, .inl (fun _ => 0)) := by rw [e31, va_up_ne _ _ (by decide)]; exact f69_30
  have f64_31 : c31 64 = .inr (7, [.int 0, rA g 65, .int 0, .long 0, .long 1, rA g 66, rA g 67, rA g 68, rA g 69, rA g 70, rA g 71, rA g 72, rA g 73, rA g 74, rA g 75, rA g 76, .int 0, rA g 77, rA g 78, rA g 79, .null, .int 0, .int 0, .null, .null, .int 0, .int 0, .null, .null, .null, .null, .long 0]) := by rw [e31, va_up_self]
  refine Q_aload_n o 0 dX7_init_130 rfl rfl ?_
  refine Q_bipush (v := 24) o dX7_init_131 (by decide) ?_
  refine Q_newa (ti := 0) (n := 24) (ty := .int) (a0 := (24, .inl (fun _ => 0))) o dX7_init_133 rfl ac_int rfl (fun _ _ => Iff.rfl) (fun _ => rfl) (by decide) (by decide) (by decide) (by decide) (by decide) (fun c32 e32 => ?_)
  have f64_32 : c32 64 = .inr (7, [.int 0, rA g 65, .int 0, .long 0, .long 1, rA g 66, rA g 67, rA g 68, rA g 69, rA g 70, rA g 71, rA g 72, rA g 73, rA g 74, rA g 75, rA g 76, .int 0, rA g 77, rA g 78, rA g 79, .null, .int 0, .int 0, .null, .null, .int 0, .int 0, .null, .null, .null, .null, .long 0]) := by rw [e32, va_up_ne _ _ (by decide)]; exact f64_31
  have f66_32 : c32 66 = .inl (g.2.1 0, 6, .inl (fun _ => 0)) := by rw [e32, va_up_ne _ _ (by decide)]; exact f66_31
  have f69_32 : c32 69 = .inl (g.2.1 0, 4, .inl (fun _ => 0)) := by rw [e32, va_up_ne _ _ (by decide)]; exact f69_31
  refine Q_put (fs := [.int 0, rA g 65, .int 0, .long 0, .long 1, rA g 66, rA g 67, rA g 68, rA g 69, rA g 70, rA g 71, rA g 72, rA g 73, rA g 74, rA g 75, rA g 76, .int 0, rA g 77, rA g 78, rA g 79, .null, .int 0, .int 0, .null, .null, .int 0, .int 0, .null, .null, .null, .null, .long 0]) o [.int 0, rA g 65, .int 0, .long 0, .long 1, rA g 66, rA g 67, rA g 68, rA g 69, rA g 70, rA g 71, rA g 72, rA g 73, rA g 74, rA g 75, rA g 76, .int 0, rA g 77, rA g 78, rA g 79, rA g 80, .int 0, .int 0, .null, .null, .int 0, .int 0, .null, .null, .null, .null, .long 0] dX7_init_135 fk_X7_59 f64_32 (by decide) (by show 20 < 32; decide) rfl rfl rfl (fun c33 e33 => ?_)
  have f66_33 : c33 66 = .inl (g.2.1 0, 6, .inl (fun _ => 0)) := by rw [e33, va_up_ne _ _ (by decide)]; exact f66_32
  have f69_33 : c33 69 = .inl (g.2.1 0, 4, .inl (fun _ => 0)) := by rw [e33, va_up_ne _ _ (by decide)]; exact f69_32
  have f64_33 : c33 64 = .inr (7, [.int 0, rA g 65, .int 0, .long 0, .long 1, rA g 66, rA g 67, rA g 68, rA g 69, rA g 70, rA g 71, rA g 72, rA g 73, rA g 74, rA g 75, rA g 76, .int 0, rA g 77, rA g 78, rA g 79, rA g 80, .int 0, .int 0, .null, .null, .int 0, .int 0, .null, .null, .null, .null, .long 0]) := by rw [e33, va_up_self]
  refine Q_aload_n o 0 dX7_init_138 rfl rfl ?_
  refine Q_bipush (v := 6) o dX7_init_139 (by decide) ?_
  refine Q_newa (ti := 0) (n := 6) (ty := .int) (a0 := (6, .inl (fun _ => 0))) o dX7_init_141 rfl ac_int rfl (fun _ _ => Iff.rfl) (fun _ => rfl) (by decide) (by decide) (by decide) (by decide) (by decide) (fun c34 e34 => ?_)
  have f64_34 : c34 64 = .inr (7, [.int 0, rA g 65, .int 0, .long 0, .long 1, rA g 66, rA g 67, rA g 68, rA g 69, rA g 70, rA g 71, rA g 72, rA g 73, rA g 74, rA g 75, rA g 76, .int 0, rA g 77, rA g 78, rA g 79, rA g 80, .int 0, .int 0, .null, .null, .int 0, .int 0, .null, .null, .null, .null, .long 0]) := by rw [e34, va_up_ne _ _ (by decide)]; exact f64_33
  have f66_34 : c34 66 = .inl (g.2.1 0, 6, .inl (fun _ => 0)) := by rw [e34, va_up_ne _ _ (by decide)]; exact f66_33
  have f69_34 : c34 69 = .inl (g.2.1 0, 4, .inl (fun _ => 0)) := by rw [e34, va_up_ne _ _ (by decide)]; exact f69_33
  refine Q_put (fs := [.int 0, rA g 65, .int 0, .long 0, .long 1, rA g 66, rA g 67, rA g 68, rA g 69, rA g 70, rA g 71, rA g 72, rA g 73, rA g 74, rA g 75, rA g 76, .int 0, rA g 77, rA g 78, rA g 79, rA g 80, .int 0, .int 0, .null, .null, .int 0, .int 0, .null, .null, .null, .null, .long 0]) o [.int 0, rA g 65, .int 0, .long 0, .long 1, rA g 66, rA g 67, rA g 68, rA g 69, rA g 70, rA g 71, rA g 72, rA g 73, rA g 74, rA g 75, rA g 76, .int 0, rA g 77, rA g 78, rA g 79, rA g 80, .int 0, .int 0, rA g 81, .null, .int 0, .int 0, .null, .null, .null, .null, .long 0] dX7_init_143 fk_X7_62 f64_34 (by decide) (by show 23 < 32; decide) rfl rfl rfl (fun c35 e35 => ?_)
  have f66_35 : c35 66 = .inl (g.2.1 0, 6, .inl (fun _ => 0)) := by rw [e35, va_up_ne _ _ (by decide)]; exact f66_34
  have f69_35 : c35 69 = .inl (g.2.1 0, 4, .inl (fun _ => 0)) := by rw [e35, va_up_ne _ _ (by decide)]; exact f69_34
  have f64_35 : c35 64 = .inr (7, [.int 0, rA g 65, .int 0, .long 0, .long 1, rA g 66, rA g 67, rA g 68, rA g 69, rA g 70, rA g 71, rA g 72, rA g 73, rA g 74, rA g 75, rA g 76, .int 0, rA g 77, rA g 78, rA g 79, rA g 80, .int 0, .int 0, rA g 81, .null, .int 0, .int 0, .null, .null, .null, .null, .long 0]) := by rw [e35, va_up_self]
  refine Q_aload_n o 0 dX7_init_146 rfl rfl ?_
  refine Q_bipush (v := 40) o dX7_init_147 (by decide) ?_
  refine Q_newa (ti := 1) (n := 40) (ty := .boolean) (a0 := (40, .inl (fun _ => 0))) o dX7_init_149 rfl ac_boolean rfl (fun _ _ => Iff.rfl) (fun _ => rfl) (by decide) (by decide) (by decide) (by decide) (by decide) (fun c36 e36 => ?_)
  have f64_36 : c36 64 = .inr (7, [.int 0, rA g 65, .int 0, .long 0, .long 1, rA g 66, rA g 67, rA g 68, rA g 69, rA g 70, rA g 71, rA g 72, rA g 73, rA g 74, rA g 75, rA g 76, .int 0, rA g 77, rA g 78, rA g 79, rA g 80, .int 0, .int 0, rA g 81, .null, .int 0, .int 0, .null, .null, .null, .null, .long 0]) := by rw [e36, va_up_ne _ _ (by decide)]; exact f64_35
  have f66_36 : c36 66 = .inl (g.2.1 0, 6, .inl (fun _ => 0)) := by rw [e36, va_up_ne _ _ (by decide)]; exact f66_35
  have f69_36 : c36 69 = .inl (g.2.1 0, 4, .inl (fun _ => 0)) := by rw [e36, va_up_ne _ _ (by decide)]; exact f69_35
  refine Q_put (fs := [.int 0, rA g 65, .int 0, .long 0, .long 1, rA g 66, rA g 67, rA g 68, rA g 69, rA g 70, rA g 71, rA g 72, rA g 73, rA g 74, rA g 75, rA g 76, .int 0, rA g 77, rA g 78, rA g 79, rA g 80, .int 0, .int 0, rA g 81, .null, .int 0, .int 0, .null, .null, .null, .null, .long 0]) o [.int 0, rA g 65, .int 0, .long 0, .long 1, rA g 66, rA g 67, rA g 68, rA g 69, rA g 70, rA g 71, rA g 72, rA g 73, rA g 74, rA g 75, rA g 76, .int 0, rA g 77, rA g 78, rA g 79, rA g 80, .int 0, .int 0, rA g 81, rA g 82, .int 0, .int 0, .null, .null, .null, .null, .long 0] dX7_init_151 fk_X7_65 f64_36 (by decide) (by show 24 < 32; decide) rfl rfl rfl (fun c37 e37 => ?_)
  have f66_37 : c37 66 = .inl (g.2.1 0, 6, .inl (fun _ => 0)) := by rw [e37, va_up_ne _ _ (by decide)]; exact f66_36
  have f69_37 : c37 69 = .inl (g.2.1 0, 4, .inl (fun _ => 0)) := by rw [e37, va_up_ne _ _ (by decide)]; exact f69_36
  have f64_37 : c37 64 = .inr (7, [.int 0, rA g 65, .int 0, .long 0, .long 1, rA g 66, rA g 67, rA g 68, rA g 69, rA g 70, rA g 71, rA g 72, rA g 73, rA g 74, rA g 75, rA g 76, .int 0, rA g 77, rA g 78, rA g 79, rA g 80, .int 0, .int 0, rA g 81, rA g 82, .int 0, .int 0, .null, .null, .null, .null, .long 0]) := by rw [e37, va_up_self]
  refine Q_aload_n o 0 dX7_init_154 rfl rfl ?_
  refine Q_bipush (v := 64) o dX7_init_155 (by decide) ?_
  refine Q_newa (ti := 0) (n := 64) (ty := .int) (a0 := (64, .inl (fun _ => 0))) o dX7_init_157 rfl ac_int rfl (fun _ _ => Iff.rfl) (fun _ => rfl) (by decide) (by decide) (by decide) (by decide) (by decide) (fun c38 e38 => ?_)
  have f64_38 : c38 64 = .inr (7, [.int 0, rA g 65, .int 0, .long 0, .long 1, rA g 66, rA g 67, rA g 68, rA g 69, rA g 70, rA g 71, rA g 72, rA g 73, rA g 74, rA g 75, rA g 76, .int 0, rA g 77, rA g 78, rA g 79, rA g 80, .int 0, .int 0, rA g 81, rA g 82, .int 0, .int 0, .null, .null, .null, .null, .long 0]) := by rw [e38, va_up_ne _ _ (by decide)]; exact f64_37
  have f66_38 : c38 66 = .inl (g.2.1 0, 6, .inl (fun _ => 0)) := by rw [e38, va_up_ne _ _ (by decide)]; exact f66_37
  have f69_38 : c38 69 = .inl (g.2.1 0, 4, .inl (fun _ => 0)) := by rw [e38, va_up_ne _ _ (by decide)]; exact f69_37
  refine Q_put (fs := [.int 0, rA g 65, .int 0, .long 0, .long 1, rA g 66, rA g 67, rA g 68, rA g 69, rA g 70, rA g 71, rA g 72, rA g 73, rA g 74, rA g 75, rA g 76, .int 0, rA g 77, rA g 78, rA g 79, rA g 80, .int 0, .int 0, rA g 81, rA g 82, .int 0, .int 0, .null, .null, .null, .null, .long 0]) o [.int 0, rA g 65, .int 0, .long 0, .long 1, rA g 66, rA g 67, rA g 68, rA g 69, rA g 70, rA g 71, rA g 72, rA g 73, rA g 74, rA g 75, rA g 76, .int 0, rA g 77, rA g 78, rA g 79, rA g 80, .int 0, .int 0, rA g 81, rA g 82, .int 0, .int 0, rA g 83, .null, .null, .null, .long 0] dX7_init_159 fk_X7_69 f64_38 (by decide) (by show 27 < 32; decide) rfl rfl rfl (fun c39 e39 => ?_)
  have f66_39 : c39 66 = .inl (g.2.1 0, 6, .inl (fun _ => 0)) := by rw [e39, va_up_ne _ _ (by decide)]; exact f66_38
  have f69_39 : c39 69 = .inl (g.2.1 0, 4, .inl (fun _ => 0)) := by rw [e39, va_up_ne _ _ (by decide)]; exact f69_38
  have f64_39 : c39 64 = .inr (7, [.int 0, rA g 65, .int 0, .long 0, .long 1, rA g 66, rA g 67, rA g 68, rA g 69, rA g 70, rA g 71, rA g 72, rA g 73, rA g 74, rA g 75, rA g 76, .int 0, rA g 77, rA g 78, rA g 79, rA g 80, .int 0, .int 0, rA g 81, rA g 82, .int 0, .int 0, rA g 83, .null, .null, .null, .long 0]) := by rw [e39, va_up_self]
  refine Q_aload_n o 0 dX7_init_162 rfl rfl ?_
  refine Q_bipush (v := 40) o dX7_init_163 (by decide) ?_
  refine Q_newa (ti := 0) (n := 40) (ty := .int) (a0 := (40, .inl (fun _ => 0))) o dX7_init_165 rfl ac_int rfl (fun _ _ => Iff.rfl) (fun _ => rfl) (by decide) (by decide) (by decide) (by decide) (by decide) (fun c40 e40 => ?_)
  have f64_40 : c40 64 = .inr (7, [.int 0, rA g 65, .int 0, .long 0, .long 1, rA g 66, rA g 67, rA g 68, rA g 69, rA g 70, rA g 71, rA g 72, rA g 73, rA g 74, rA g 75, rA g 76, .int 0, rA g 77, rA g 78, rA g 79, rA g 80, .int 0, .int 0, rA g 81, rA g 82, .int 0, .int 0, rA g 83, .null, .null, .null, .long 0]) := by rw [e40, va_up_ne _ _ (by decide)]; exact f64_39
  have f66_40 : c40 66 = .inl (g.2.1 0, 6, .inl (fun _ => 0)) := by rw [e40, va_up_ne _ _ (by decide)]; exact f66_39
  have f69_40 : c40 69 = .inl (g.2.1 0, 4, .inl (fun _ => 0)) := by rw [e40, va_up_ne _ _ (by decide)]; exact f69_39
  refine Q_put (fs := [.int 0, rA g 65, .int 0, .long 0, .long 1, rA g 66, rA g 67, rA g 68, rA g 69, rA g 70, rA g 71, rA g 72, rA g 73, rA g 74, rA g 75, rA g 76, .int 0, rA g 77, rA g 78, rA g 79, rA g 80, .int 0, .int 0, rA g 81, rA g 82, .int 0, .int 0, rA g 83, .null, .null, .null, .long 0]) o [.int 0, rA g 65, .int 0, .long 0, .long 1, rA g 66, rA g 67, rA g 68, rA g 69, rA g 70, rA g 71, rA g 72, rA g 73, rA g 74, rA g 75, rA g 76, .int 0, rA g 77, rA g 78, rA g 79, rA g 80, .int 0, .int 0, rA g 81, rA g 82, .int 0, .int 0, rA g 83, rA g 84, .null, .null, .long 0] dX7_init_167 fk_X7_72 f64_40 (by decide) (by show 28 < 32; decide) rfl rfl rfl (fun c41 e41 => ?_)
  have f66_41 : c41 66 = .inl (g.2.1 0, 6, .inl (fun _ => 0)) := by rw [e41, va_up_ne _ _ (by decide)]; exact f66_40
  have f69_41 : c41 69 = .inl (g.2.1 0, 4, .inl (fun _ => 0)) := by rw [e41, va_up_ne _ _ (by decide)]; exact f69_40
  have f64_41 : c41 64 = .inr (7, [.int 0, rA g 65, .int 0, .long 0, .long 1, rA g 66, rA g 67, rA g 68, rA g 69, rA g 70, rA g 71, rA g 72, rA g 73, rA g 74, rA g 75, rA g 76, .int 0, rA g 77, rA g 78, rA g 79, rA g 80, .int 0, .int 0, rA g 81, rA g 82, .int 0, .int 0, rA g 83, rA g 84, .null, .null, .long 0]) := by rw [e41, va_up_self]
  refine Q_aload_n o 0 dX7_init_170 rfl rfl ?_
  refine Q_sipush (v := 10201) o dX7_init_171 (by decide) ?_
  refine Q_newa (ti := 2) (n := 10201) (ty := .long) (a0 := (10201, .inr (.inl (fun _ => 0)))) o dX7_init_174 rfl ac_long rfl (fun _ _ => Iff.rfl) (fun _ => rfl) (by decide) (by decide) (by decide) (by decide) (by decide) (fun c42 e42 => ?_)
  have f64_42 : c42 64 = .inr (7, [.int 0, rA g 65, .int 0, .long 0, .long 1, rA g 66, rA g 67, rA g 68, rA g 69, rA g 70, rA g 71, rA g 72, rA g 73, rA g 74, rA g 75, rA g 76, .int 0, rA g 77, rA g 78, rA g 79, rA g 80, .int 0, .int 0, rA g 81, rA g 82, .int 0, .int 0, rA g 83, rA g 84, .null, .null, .long 0]) := by rw [e42, va_up_ne _ _ (by decide)]; exact f64_41
  have f66_42 : c42 66 = .inl (g.2.1 0, 6, .inl (fun _ => 0)) := by rw [e42, va_up_ne _ _ (by decide)]; exact f66_41
  have f69_42 : c42 69 = .inl (g.2.1 0, 4, .inl (fun _ => 0)) := by rw [e42, va_up_ne _ _ (by decide)]; exact f69_41
  refine Q_put (fs := [.int 0, rA g 65, .int 0, .long 0, .long 1, rA g 66, rA g 67, rA g 68, rA g 69, rA g 70, rA g 71, rA g 72, rA g 73, rA g 74, rA g 75, rA g 76, .int 0, rA g 77, rA g 78, rA g 79, rA g 80, .int 0, .int 0, rA g 81, rA g 82, .int 0, .int 0, rA g 83, rA g 84, .null, .null, .long 0]) o [.int 0, rA g 65, .int 0, .long 0, .long 1, rA g 66, rA g 67, rA g 68, rA g 69, rA g 70, rA g 71, rA g 72, rA g 73, rA g 74, rA g 75, rA g 76, .int 0, rA g 77, rA g 78, rA g 79, rA g 80, .int 0, .int 0, rA g 81, rA g 82, .int 0, .int 0, rA g 83, rA g 84, rA g 85, .null, .long 0] dX7_init_176 fk_X7_75 f64_42 (by decide) (by show 29 < 32; decide) rfl rfl rfl (fun c43 e43 => ?_)
  have f66_43 : c43 66 = .inl (g.2.1 0, 6, .inl (fun _ => 0)) := by rw [e43, va_up_ne _ _ (by decide)]; exact f66_42
  have f69_43 : c43 69 = .inl (g.2.1 0, 4, .inl (fun _ => 0)) := by rw [e43, va_up_ne _ _ (by decide)]; exact f69_42
  have f64_43 : c43 64 = .inr (7, [.int 0, rA g 65, .int 0, .long 0, .long 1, rA g 66, rA g 67, rA g 68, rA g 69, rA g 70, rA g 71, rA g 72, rA g 73, rA g 74, rA g 75, rA g 76, .int 0, rA g 77, rA g 78, rA g 79, rA g 80, .int 0, .int 0, rA g 81, rA g 82, .int 0, .int 0, rA g 83, rA g 84, rA g 85, .null, .long 0]) := by rw [e43, va_up_self]
  refine Q_aload_n o 0 dX7_init_179 rfl rfl ?_
  refine Q_bipush (v := 8) o dX7_init_180 (by decide) ?_
  refine Q_newa (ti := 0) (n := 8) (ty := .int) (a0 := (8, .inl (fun _ => 0))) o dX7_init_182 rfl ac_int rfl (fun _ _ => Iff.rfl) (fun _ => rfl) (by decide) (by decide) (by decide) (by decide) (by decide) (fun c44 e44 => ?_)
  have f64_44 : c44 64 = .inr (7, [.int 0, rA g 65, .int 0, .long 0, .long 1, rA g 66, rA g 67, rA g 68, rA g 69, rA g 70, rA g 71, rA g 72, rA g 73, rA g 74, rA g 75, rA g 76, .int 0, rA g 77, rA g 78, rA g 79, rA g 80, .int 0, .int 0, rA g 81, rA g 82, .int 0, .int 0, rA g 83, rA g 84, rA g 85, .null, .long 0]) := by rw [e44, va_up_ne _ _ (by decide)]; exact f64_43
  have f66_44 : c44 66 = .inl (g.2.1 0, 6, .inl (fun _ => 0)) := by rw [e44, va_up_ne _ _ (by decide)]; exact f66_43
  have f69_44 : c44 69 = .inl (g.2.1 0, 4, .inl (fun _ => 0)) := by rw [e44, va_up_ne _ _ (by decide)]; exact f69_43
  refine Q_put (fs := [.int 0, rA g 65, .int 0, .long 0, .long 1, rA g 66, rA g 67, rA g 68, rA g 69, rA g 70, rA g 71, rA g 72, rA g 73, rA g 74, rA g 75, rA g 76, .int 0, rA g 77, rA g 78, rA g 79, rA g 80, .int 0, .int 0, rA g 81, rA g 82, .int 0, .int 0, rA g 83, rA g 84, rA g 85, .null, .long 0]) o [.int 0, rA g 65, .int 0, .long 0, .long 1, rA g 66, rA g 67, rA g 68, rA g 69, rA g 70, rA g 71, rA g 72, rA g 73, rA g 74, rA g 75, rA g 76, .int 0, rA g 77, rA g 78, rA g 79, rA g 80, .int 0, .int 0, rA g 81, rA g 82, .int 0, .int 0, rA g 83, rA g 84, rA g 85, rA g 86, .long 0] dX7_init_184 fk_X7_79 f64_44 (by decide) (by show 30 < 32; decide) rfl rfl rfl (fun c45 e45 => ?_)
  have f66_45 : c45 66 = .inl (g.2.1 0, 6, .inl (fun _ => 0)) := by rw [e45, va_up_ne _ _ (by decide)]; exact f66_44
  have f69_45 : c45 69 = .inl (g.2.1 0, 4, .inl (fun _ => 0)) := by rw [e45, va_up_ne _ _ (by decide)]; exact f69_44
  have f64_45 : c45 64 = .inr (7, [.int 0, rA g 65, .int 0, .long 0, .long 1, rA g 66, rA g 67, rA g 68, rA g 69, rA g 70, rA g 71, rA g 72, rA g 73, rA g 74, rA g 75, rA g 76, .int 0, rA g 77, rA g 78, rA g 79, rA g 80, .int 0, .int 0, rA g 81, rA g 82, .int 0, .int 0, rA g 83, rA g 84, rA g 85, rA g 86, .long 0]) := by rw [e45, va_up_self]
  refine Q_iconst (v := 0) o dX7_init_187 (by decide) ?_
  refine Q_istore_n (lv2 := [(0, rA g 64), (1, .int 0)]) o dX7_init_188 rfl (by decide) rfl ?_
  refine Q_iload_n o 1 dX7_init_189 rfl rfl ?_
  refine Q_bipush (v := 6) o dX7_init_190 (by decide) ?_
  refine Q_geF o 209 dX7_init_192 (by decide) (by decide) ?_
  refine Q_aload_n o 0 dX7_init_195 rfl rfl ?_
  refine Q_get (v := rA g 66) o dX7_init_196 fg_X7_17 f64_45 (by decide) rfl ?_
  refine Q_iload_n o 1 dX7_init_199 rfl rfl ?_
  refine Q_bipush (v := (-9)) o dX7_init_200 (by decide) ?_
  refine Q_iast o dX7_init_202 f66_45 (by decide) (by unfold vp_in; decide) (fun c46 e46 => ?_)
  have f64_46 : c46 64 = .inr (7, [.int 0, rA g 65, .int 0, .long 0, .long 1, rA g 66, rA g 67, rA g 68, rA g 69, rA g 70, rA g 71, rA g 72, rA g 73, rA g 74, rA g 75, rA g 76, .int 0, rA g 77, rA g 78, rA g 79, rA g 80, .int 0, .int 0, rA g 81, rA g 82, .int 0, .int 0, rA g 83, rA g 84, rA g 85, rA g 86, .long 0]) := by rw [e46, va_up_ne _ _ (by decide)]; exact f64_45
  have f69_46 : c46 69 = .inl (g.2.1 0, 4, .inl (fun _ => 0)) := by rw [e46, va_up_ne _ _ (by decide)]; exact f69_45
  have f66_46 : c46 66 = .inl (g.2.1 0, 6, .inl (upd (fun _ => 0) (0 : Int32).toNatClampNeg (-9))) := by rw [e46, va_up_self]
  refine Q_iinc (v := 1) (lv2 := [(0, rA g 64), (1, .int 1)]) o 1 dX7_init_203 rfl (by decide) (by decide) rfl ?_
  refine Q_goto o 189 dX7_init_206 (by decide) ?_
  refine Q_iload_n o 1 dX7_init_189 rfl rfl ?_
  refine Q_bipush (v := 6) o dX7_init_190 (by decide) ?_
  refine Q_geF o 209 dX7_init_192 (by decide) (by decide) ?_
  refine Q_aload_n o 0 dX7_init_195 rfl rfl ?_
  refine Q_get (v := rA g 66) o dX7_init_196 fg_X7_17 f64_46 (by decide) rfl ?_
  refine Q_iload_n o 1 dX7_init_199 rfl rfl ?_
  refine Q_bipush (v := (-9)) o dX7_init_200 (by decide) ?_
  refine Q_iast o dX7_init_202 f66_46 (by decide) (by unfold vp_in; decide) (fun c47 e47 => ?_)
  have f64_47 : c47 64 = .inr (7, [.int 0, rA g 65, .int 0, .long 0, .long 1, rA g 66, rA g 67, rA g 68, rA g 69, rA g 70, rA g 71, rA g 72, rA g 73, rA g 74, rA g 75, rA g 76, .int 0, rA g 77, rA g 78, rA g 79, rA g 80, .int 0, .int 0, rA g 81, rA g 82, .int 0, .int 0, rA g 83, rA g 84, rA g 85, rA g 86, .long 0]) := by rw [e47, va_up_ne _ _ (by decide)]; exact f64_46
  have f69_47 : c47 69 = .inl (g.2.1 0, 4, .inl (fun _ => 0)) := by rw [e47, va_up_ne _ _ (by decide)]; exact f69_46
  have f66_47 : c47 66 = .inl (g.2.1 0, 6, .inl (upd (upd (fun _ => 0) (0 : Int32).toNatClampNeg (-9)) (1 : Int32).toNatClampNeg (-9))) := by rw [e47, va_up_self]
  refine Q_iinc (v := 2) (lv2 := [(0, rA g 64), (1, .int 2)]) o 1 dX7_init_203 rfl (by decide) (by decide) rfl ?_
  refine Q_goto o 189 dX7_init_206 (by decide) ?_
  refine Q_iload_n o 1 dX7_init_189 rfl rfl ?_
  refine Q_bipush (v := 6) o dX7_init_190 (by decide) ?_
  refine Q_geF o 209 dX7_init_192 (by decide) (by decide) ?_
  refine Q_aload_n o 0 dX7_init_195 rfl rfl ?_
  refine Q_get (v := rA g 66) o dX7_init_196 fg_X7_17 f64_47 (by decide) rfl ?_
  refine Q_iload_n o 1 dX7_init_199 rfl rfl ?_
  refine Q_bipush (v := (-9)) o dX7_init_200 (by decide) ?_
  refine Q_iast o dX7_init_202 f66_47 (by decide) (by unfold vp_in; decide) (fun c48 e48 => ?_)
  have f64_48 : c48 64 = .inr (7, [.int 0, rA g 65, .int 0, .long 0, .long 1, rA g 66, rA g 67, rA g 68, rA g 69, rA g 70, rA g 71, rA g 72, rA g 73, rA g 74, rA g 75, rA g 76, .int 0, rA g 77, rA g 78, rA g 79, rA g 80, .int 0, .int 0, rA g 81, rA g 82, .int 0, .int 0, rA g 83, rA g 84, rA g 85, rA g 86, .long 0]) := by rw [e48, va_up_ne _ _ (by decide)]; exact f64_47
  have f69_48 : c48 69 = .inl (g.2.1 0, 4, .inl (fun _ => 0)) := by rw [e48, va_up_ne _ _ (by decide)]; exact f69_47
  have f66_48 : c48 66 = .inl (g.2.1 0, 6, .inl (upd (upd (upd (fun _ => 0) (0 : Int32).toNatClampNeg (-9)) (1 : Int32).toNatClampNeg (-9)) (2 : Int32).toNatClampNeg (-9))) := by rw [e48, va_up_self]
  refine Q_iinc (v := 3) (lv2 := [(0, rA g 64), (1, .int 3)]) o 1 dX7_init_203 rfl (by decide) (by decide) rfl ?_
  refine Q_goto o 189 dX7_init_206 (by decide) ?_
  refine Q_iload_n o 1 dX7_init_189 rfl rfl ?_
  refine Q_bipush (v := 6) o dX7_init_190 (by decide) ?_
  refine Q_geF o 209 dX7_init_192 (by decide) (by decide) ?_
  refine Q_aload_n o 0 dX7_init_195 rfl rfl ?_
  refine Q_get (v := rA g 66) o dX7_init_196 fg_X7_17 f64_48 (by decide) rfl ?_
  refine Q_iload_n o 1 dX7_init_199 rfl rfl ?_
  refine Q_bipush (v := (-9)) o dX7_init_200 (by decide) ?_
  refine Q_iast o dX7_init_202 f66_48 (by decide) (by unfold vp_in; decide) (fun c49 e49 => ?_)
  have f64_49 : c49 64 = .inr (7, [.int 0, rA g 65, .int 0, .long 0, .long 1, rA g 66, rA g 67, rA g 68, rA g 69, rA g 70, rA g 71, rA g 72, rA g 73, rA g 74, rA g 75, rA g 76, .int 0, rA g 77, rA g 78, rA g 79, rA g 80, .int 0, .int 0, rA g 81, rA g 82, .int 0, .int 0, rA g 83, rA g 84, rA g 85, rA g 86, .long 0]) := by rw [e49, va_up_ne _ _ (by decide)]; exact f64_48
  have f69_49 : c49 69 = .inl (g.2.1 0, 4, .inl (fun _ => 0)) := by rw [e49, va_up_ne _ _ (by decide)]; exact f69_48
  have f66_49 : c49 66 = .inl (g.2.1 0, 6, .inl (upd (upd (upd (upd (fun _ => 0) (0 : Int32).toNatClampNeg (-9)) (1 : Int32).toNatClampNeg (-9)) (2 : Int32).toNatClampNeg (-9)) (3 : Int32).toNatClampNeg (-9))) := by rw [e49, va_up_self]
  refine Q_iinc (v := 4) (lv2 := [(0, rA g 64), (1, .int 4)]) o 1 dX7_init_203 rfl (by decide) (by decide) rfl ?_
  refine Q_goto o 189 dX7_init_206 (by decide) ?_
  refine Q_iload_n o 1 dX7_init_189 rfl rfl ?_
  refine Q_bipush (v := 6) o dX7_init_190 (by decide) ?_
  refine Q_geF o 209 dX7_init_192 (by decide) (by decide) ?_
  refine Q_aload_n o 0 dX7_init_195 rfl rfl ?_
  refine Q_get (v := rA g 66) o dX7_init_196 fg_X7_17 f64_49 (by decide) rfl ?_
  refine Q_iload_n o 1 dX7_init_199 rfl rfl ?_
  refine Q_bipush (v := (-9)) o dX7_init_200 (by decide) ?_
  refine Q_iast o dX7_init_202 f66_49 (by decide) (by unfold vp_in; decide) (fun c50 e50 => ?_)
  have f64_50 : c50 64 = .inr (7, [.int 0, rA g 65, .int 0, .long 0, .long 1, rA g 66, rA g 67, rA g 68, rA g 69, rA g 70, rA g 71, rA g 72, rA g 73, rA g 74, rA g 75, rA g 76, .int 0, rA g 77, rA g 78, rA g 79, rA g 80, .int 0, .int 0, rA g 81, rA g 82, .int 0, .int 0, rA g 83, rA g 84, rA g 85, rA g 86, .long 0]) := by rw [e50, va_up_ne _ _ (by decide)]; exact f64_49
  have f69_50 : c50 69 = .inl (g.2.1 0, 4, .inl (fun _ => 0)) := by rw [e50, va_up_ne _ _ (by decide)]; exact f69_49
  have f66_50 : c50 66 = .inl (g.2.1 0, 6, .inl (upd (upd (upd (upd (upd (fun _ => 0) (0 : Int32).toNatClampNeg (-9)) (1 : Int32).toNatClampNeg (-9)) (2 : Int32).toNatClampNeg (-9)) (3 : Int32).toNatClampNeg (-9)) (4 : Int32).toNatClampNeg (-9))) := by rw [e50, va_up_self]
  refine Q_iinc (v := 5) (lv2 := [(0, rA g 64), (1, .int 5)]) o 1 dX7_init_203 rfl (by decide) (by decide) rfl ?_
  refine Q_goto o 189 dX7_init_206 (by decide) ?_
  refine Q_iload_n o 1 dX7_init_189 rfl rfl ?_
  refine Q_bipush (v := 6) o dX7_init_190 (by decide) ?_
  refine Q_geF o 209 dX7_init_192 (by decide) (by decide) ?_
  refine Q_aload_n o 0 dX7_init_195 rfl rfl ?_
  refine Q_get (v := rA g 66) o dX7_init_196 fg_X7_17 f64_50 (by decide) rfl ?_
  refine Q_iload_n o 1 dX7_init_199 rfl rfl ?_
  refine Q_bipush (v := (-9)) o dX7_init_200 (by decide) ?_
  refine Q_iast o dX7_init_202 f66_50 (by decide) (by unfold vp_in; decide) (fun c51 e51 => ?_)
  have f64_51 : c51 64 = .inr (7, [.int 0, rA g 65, .int 0, .long 0, .long 1, rA g 66, rA g 67, rA g 68, rA g 69, rA g 70, rA g 71, rA g 72, rA g 73, rA g 74, rA g 75, rA g 76, .int 0, rA g 77, rA g 78, rA g 79, rA g 80, .int 0, .int 0, rA g 81, rA g 82, .int 0, .int 0, rA g 83, rA g 84, rA g 85, rA g 86, .long 0]) := by rw [e51, va_up_ne _ _ (by decide)]; exact f64_50
  have f69_51 : c51 69 = .inl (g.2.1 0, 4, .inl (fun _ => 0)) := by rw [e51, va_up_ne _ _ (by decide)]; exact f69_50
  have f66_51 : c51 66 = .inl (g.2.1 0, 6, .inl (upd (upd (upd (upd (upd (upd (fun _ => 0) (0 : Int32).toNatClampNeg (-9)) (1 : Int32).toNatClampNeg (-9)) (2 : Int32).toNatClampNeg (-9)) (3 : Int32).toNatClampNeg (-9)) (4 : Int32).toNatClampNeg (-9)) (5 : Int32).toNatClampNeg (-9))) := by rw [e51, va_up_self]
  refine Q_iinc (v := 6) (lv2 := [(0, rA g 64), (1, .int 6)]) o 1 dX7_init_203 rfl (by decide) (by decide) rfl ?_
  refine Q_goto o 189 dX7_init_206 (by decide) ?_
  refine Q_iload_n o 1 dX7_init_189 rfl rfl ?_
  refine Q_bipush (v := 6) o dX7_init_190 (by decide) ?_
  refine Q_geT o 209 dX7_init_192 (by decide) (by decide) ?_
  refine Q_iconst (v := 0) o dX7_init_209 (by decide) ?_
  refine Q_istore_n (lv2 := [(0, rA g 64), (1, .int 0)]) o dX7_init_210 rfl (by decide) rfl ?_
  refine Q_iload_n o 1 dX7_init_211 rfl rfl ?_
  refine Q_iconst (v := 4) o dX7_init_212 (by decide) ?_
  refine Q_geF o 230 dX7_init_213 (by decide) (by decide) ?_
  refine Q_aload_n o 0 dX7_init_216 rfl rfl ?_
  refine Q_get (v := rA g 69) o dX7_init_217 fg_X7_26 f64_51 (by decide) rfl ?_
  refine Q_iload_n o 1 dX7_init_220 rfl rfl ?_
  refine Q_bipush (v := (-9)) o dX7_init_221 (by decide) ?_
  refine Q_iast o dX7_init_223 f69_51 (by decide) (by unfold vp_in; decide) (fun c52 e52 => ?_)
  have f64_52 : c52 64 = .inr (7, [.int 0, rA g 65, .int 0, .long 0, .long 1, rA g 66, rA g 67, rA g 68, rA g 69, rA g 70, rA g 71, rA g 72, rA g 73, rA g 74, rA g 75, rA g 76, .int 0, rA g 77, rA g 78, rA g 79, rA g 80, .int 0, .int 0, rA g 81, rA g 82, .int 0, .int 0, rA g 83, rA g 84, rA g 85, rA g 86, .long 0]) := by rw [e52, va_up_ne _ _ (by decide)]; exact f64_51
  have f66_52 : c52 66 = .inl (g.2.1 0, 6, .inl (upd (upd (upd (upd (upd (upd (fun _ => 0) (0 : Int32).toNatClampNeg (-9)) (1 : Int32).toNatClampNeg (-9)) (2 : Int32).toNatClampNeg (-9)) (3 : Int32).toNatClampNeg (-9)) (4 : Int32).toNatClampNeg (-9)) (5 : Int32).toNatClampNeg (-9))) := by rw [e52, va_up_ne _ _ (by decide)]; exact f66_51
  have f69_52 : c52 69 = .inl (g.2.1 0, 4, .inl (upd (fun _ => 0) (0 : Int32).toNatClampNeg (-9))) := by rw [e52, va_up_self]
  refine Q_iinc (v := 1) (lv2 := [(0, rA g 64), (1, .int 1)]) o 1 dX7_init_224 rfl (by decide) (by decide) rfl ?_
  refine Q_goto o 211 dX7_init_227 (by decide) ?_
  refine Q_iload_n o 1 dX7_init_211 rfl rfl ?_
  refine Q_iconst (v := 4) o dX7_init_212 (by decide) ?_
  refine Q_geF o 230 dX7_init_213 (by decide) (by decide) ?_
  refine Q_aload_n o 0 dX7_init_216 rfl rfl ?_
  refine Q_get (v := rA g 69) o dX7_init_217 fg_X7_26 f64_52 (by decide) rfl ?_
  refine Q_iload_n o 1 dX7_init_220 rfl rfl ?_
  refine Q_bipush (v := (-9)) o dX7_init_221 (by decide) ?_
  refine Q_iast o dX7_init_223 f69_52 (by decide) (by unfold vp_in; decide) (fun c53 e53 => ?_)
  have f64_53 : c53 64 = .inr (7, [.int 0, rA g 65, .int 0, .long 0, .long 1, rA g 66, rA g 67, rA g 68, rA g 69, rA g 70, rA g 71, rA g 72, rA g 73, rA g 74, rA g 75, rA g 76, .int 0, rA g 77, rA g 78, rA g 79, rA g 80, .int 0, .int 0, rA g 81, rA g 82, .int 0, .int 0, rA g 83, rA g 84, rA g 85, rA g 86, .long 0]) := by rw [e53, va_up_ne _ _ (by decide)]; exact f64_52
  have f66_53 : c53 66 = .inl (g.2.1 0, 6, .inl (upd (upd (upd (upd (upd (upd (fun _ => 0) (0 : Int32).toNatClampNeg (-9)) (1 : Int32).toNatClampNeg (-9)) (2 : Int32).toNatClampNeg (-9)) (3 : Int32).toNatClampNeg (-9)) (4 : Int32).toNatClampNeg (-9)) (5 : Int32).toNatClampNeg (-9))) := by rw [e53, va_up_ne _ _ (by decide)]; exact f66_52
  have f69_53 : c53 69 = .inl (g.2.1 0, 4, .inl (upd (upd (fun _ => 0) (0 : Int32).toNatClampNeg (-9)) (1 : Int32).toNatClampNeg (-9))) := by rw [e53, va_up_self]
  refine Q_iinc (v := 2) (lv2 := [(0, rA g 64), (1, .int 2)]) o 1 dX7_init_224 rfl (by decide) (by decide) rfl ?_
  refine Q_goto o 211 dX7_init_227 (by decide) ?_
  refine Q_iload_n o 1 dX7_init_211 rfl rfl ?_
  refine Q_iconst (v := 4) o dX7_init_212 (by decide) ?_
  refine Q_geF o 230 dX7_init_213 (by decide) (by decide) ?_
  refine Q_aload_n o 0 dX7_init_216 rfl rfl ?_
  refine Q_get (v := rA g 69) o dX7_init_217 fg_X7_26 f64_53 (by decide) rfl ?_
  refine Q_iload_n o 1 dX7_init_220 rfl rfl ?_
  refine Q_bipush (v := (-9)) o dX7_init_221 (by decide) ?_
  refine Q_iast o dX7_init_223 f69_53 (by decide) (by unfold vp_in; decide) (fun c54 e54 => ?_)
  have f64_54 : c54 64 = .inr (7, [.int 0, rA g 65, .int 0, .long 0, .long 1, rA g 66, rA g 67, rA g 68, rA g 69, rA g 70, rA g 71, rA g 72, rA g 73, rA g 74, rA g 75, rA g 76, .int 0, rA g 77, rA g 78, rA g 79, rA g 80, .int 0, .int 0, rA g 81, rA g 82, .int 0, .int 0, rA g 83, rA g 84, rA g 85, rA g 86, .long 0]) := by rw [e54, va_up_ne _ _ (by decide)]; exact f64_53
  have f66_54 : c54 66 = .inl (g.2.1 0, 6, .inl (upd (upd (upd (upd (upd (upd (fun _ => 0) (0 : Int32).toNatClampNeg (-9)) (1 : Int32).toNatClampNeg (-9)) (2 : Int32).toNatClampNeg (-9)) (3 : Int32).toNatClampNeg (-9)) (4 : Int32).toNatClampNeg (-9)) (5 : Int32).toNatClampNeg (-9))) := by rw [e54, va_up_ne _ _ (by decide)]; exact f66_53
  have f69_54 : c54 69 = .inl (g.2.1 0, 4, .inl (upd (upd (upd (fun _ => 0) (0 : Int32).toNatClampNeg (-9)) (1 : Int32).toNatClampNeg (-9)) (2 : Int32).toNatClampNeg (-9))) := by rw [e54, va_up_self]
  refine Q_iinc (v := 3) (lv2 := [(0, rA g 64), (1, .int 3)]) o 1 dX7_init_224 rfl (by decide) (by decide) rfl ?_
  refine Q_goto o 211 dX7_init_227 (by decide) ?_
  refine Q_iload_n o 1 dX7_init_211 rfl rfl ?_
  refine Q_iconst (v := 4) o dX7_init_212 (by decide) ?_
  refine Q_geF o 230 dX7_init_213 (by decide) (by decide) ?_
  refine Q_aload_n o 0 dX7_init_216 rfl rfl ?_
  refine Q_get (v := rA g 69) o dX7_init_217 fg_X7_26 f64_54 (by decide) rfl ?_
  refine Q_iload_n o 1 dX7_init_220 rfl rfl ?_
  refine Q_bipush (v := (-9)) o dX7_init_221 (by decide) ?_
  refine Q_iast o dX7_init_223 f69_54 (by decide) (by unfold vp_in; decide) (fun c55 e55 => ?_)
  have f64_55 : c55 64 = .inr (7, [.int 0, rA g 65, .int 0, .long 0, .long 1, rA g 66, rA g 67, rA g 68, rA g 69, rA g 70, rA g 71, rA g 72, rA g 73, rA g 74, rA g 75, rA g 76, .int 0, rA g 77, rA g 78, rA g 79, rA g 80, .int 0, .int 0, rA g 81, rA g 82, .int 0, .int 0, rA g 83, rA g 84, rA g 85, rA g 86, .long 0]) := by rw [e55, va_up_ne _ _ (by decide)]; exact f64_54
  have f66_55 : c55 66 = .inl (g.2.1 0, 6, .inl (upd (upd (upd (upd (upd (upd (fun _ => 0) (0 : Int32).toNatClampNeg (-9)) (1 : Int32).toNatClampNeg (-9)) (2 : Int32).toNatClampNeg (-9)) (3 : Int32).toNatClampNeg (-9)) (4 : Int32).toNatClampNeg (-9)) (5 : Int32).toNatClampNeg (-9))) := by rw [e55, va_up_ne _ _ (by decide)]; exact f66_54
  have f69_55 : c55 69 = .inl (g.2.1 0, 4, .inl (upd (upd (upd (upd (fun _ => 0) (0 : Int32).toNatClampNeg (-9)) (1 : Int32).toNatClampNeg (-9)) (2 : Int32).toNatClampNeg (-9)) (3 : Int32).toNatClampNeg (-9))) := by rw [e55, va_up_self]
  refine Q_iinc (v := 4) (lv2 := [(0, rA g 64), (1, .int 4)]) o 1 dX7_init_224 rfl (by decide) (by decide) rfl ?_
  refine Q_goto o 211 dX7_init_227 (by decide) ?_
  refine Q_iload_n o 1 dX7_init_211 rfl rfl ?_
  refine Q_iconst (v := 4) o dX7_init_212 (by decide) ?_
  refine Q_geT o 230 dX7_init_213 (by decide) (by decide) ?_
  refine kr _ _ _ dX7_init_230 ?_
  subst e55 e54 e53 e52 e51 e50 e49 e48 e47 e46 e45 e44 e43 e42 e41 e40 e39 e38 e37 e36 e35 e34 e33 e32 e31 e30 e29 e28 e27 e26 e25 e24 e23 e22 e21 e20 e19 e18 e17 e16 e15 e14 e13 e12 e11 e10 e9 e8 e7 e6 e5 e4 e3 e2 e1
  intro j hj
  match j, hj with
  | 0, _ => exact Or.inl (hp 0 (by decide))
  | 1, _ => exact Or.inl (hp 1 (by decide))
  | 2, _ => exact Or.inl (hp 2 (by decide))
  | 3, _ => exact Or.inl (hp 3 (by decide))
  | 4, _ => exact Or.inl (hp 4 (by decide))
  | 5, _ => exact Or.inl (hp 5 (by decide))
  | 6, _ => exact Or.inl (hp 6 (by decide))
  | 7, _ => exact Or.inl (hp 7 (by decide))
  | 8, _ => exact Or.inl (hp 8 (by decide))
  | 9, _ => exact Or.inl (hp 9 (by decide))
  | 10, _ => exact Or.inl (hp 10 (by decide))
  | 11, _ => exact Or.inl (hp 11 (by decide))
  | 12, _ => exact Or.inl (hp 12 (by decide))
  | 13, _ => exact Or.inl (hp 13 (by decide))
  | 14, _ => exact Or.inl (hp 14 (by decide))
  | 15, _ => exact Or.inl (hp 15 (by decide))
  | 16, _ => exact Or.inl (hp 16 (by decide))
  | 17, _ => exact Or.inl (hp 17 (by decide))
  | 18, _ => exact Or.inl (hp 18 (by decide))
  | 19, _ => exact Or.inl (hp 19 (by decide))
  | 20, _ => exact Or.inl (hp 20 (by decide))
  | 21, _ => exact Or.inl (hp 21 (by decide))
  | 22, _ => exact Or.inl (hp 22 (by decide))
  | 23, _ => exact Or.inl (hp 23 (by decide))
  | 24, _ => exact Or.inl (hp 24 (by decide))
  | 25, _ => exact Or.inl (hp 25 (by decide))
  | 26, _ => exact Or.inl (hp 26 (by decide))
  | 27, _ => exact Or.inl (hp 27 (by decide))
  | 28, _ => exact Or.inl (hp 28 (by decide))
  | 29, _ => exact Or.inl (hp 29 (by decide))
  | 30, _ => exact Or.inl (hp 30 (by decide))
  | 31, _ => exact Or.inl (hp 31 (by decide))
  | 32, _ => exact Or.inl (hp 32 (by decide))
  | 33, _ => exact Or.inl (hp 33 (by decide))
  | 34, _ => exact Or.inl (hp 34 (by decide))
  | 35, _ => exact Or.inl (hp 35 (by decide))
  | 36, _ => exact Or.inl (hp 36 (by decide))
  | 37, _ => exact Or.inl (hp 37 (by decide))
  | 38, _ => exact Or.inl (hp 38 (by decide))
  | 39, _ => exact Or.inl (hp 39 (by decide))
  | 40, _ => exact Or.inl (hp 40 (by decide))
  | 41, _ => exact Or.inl (hp 41 (by decide))
  | 42, _ => exact Or.inl (hp 42 (by decide))
  | 43, _ => exact Or.inl (hp 43 (by decide))
  | 44, _ => exact Or.inl (hp 44 (by decide))
  | 45, _ => exact Or.inl (hp 45 (by decide))
  | 46, _ => exact Or.inl (hp 46 (by decide))
  | 47, _ => exact Or.inl (hp 47 (by decide))
  | 48, _ => exact Or.inl (hp 48 (by decide))
  | 49, _ => exact Or.inl (hp 49 (by decide))
  | 50, _ => exact Or.inl (hp 50 (by decide))
  | 51, _ => exact Or.inl (hp 51 (by decide))
  | 52, _ => exact Or.inl (hp 52 (by decide))
  | 53, _ => exact Or.inl (hp 53 (by decide))
  | 54, _ => exact Or.inl (hp 54 (by decide))
  | 55, _ => exact Or.inl (hp 55 (by decide))
  | 56, _ => exact Or.inl (hp 56 (by decide))
  | 57, _ => exact Or.inl (hp 57 (by decide))
  | 58, _ => exact Or.inl (hp 58 (by decide))
  | 59, _ => exact Or.inl (hp 59 (by decide))
  | 60, _ => exact Or.inl (hp 60 (by decide))
  | 61, _ => exact Or.inl (hp 61 (by decide))
  | 62, _ => exact Or.inl (hp 62 (by decide))
  | 63, _ => exact Or.inl (hp 63 (by decide))
  | 64, _ => exact Or.inl rfl
  | 65, _ => exact Or.inl rfl
  | 66, _ => exact Or.inl rfl
  | 67, _ => exact Or.inl rfl
  | 68, _ => exact Or.inl rfl
  | 69, _ => exact Or.inl rfl
  | 70, _ => exact Or.inl rfl
  | 71, _ => exact Or.inl rfl
  | 72, _ => exact Or.inl rfl
  | 73, _ => exact Or.inl rfl
  | 74, _ => exact Or.inl rfl
  | 75, _ => exact Or.inl rfl
  | 76, _ => exact Or.inl rfl
  | 77, _ => exact Or.inl rfl
  | 78, _ => exact Or.inl rfl
  | 79, _ => exact Or.inl rfl
  | 80, _ => exact Or.inl rfl
  | 81, _ => exact Or.inl rfl
  | 82, _ => exact Or.inl rfl
  | 83, _ => exact Or.inl rfl
  | 84, _ => exact Or.inl rfl
  | 85, _ => exact Or.inl rfl
  | 86, _ => exact Or.inl rfl
  | j + 87, hj => exact absurd hj (by omega))
