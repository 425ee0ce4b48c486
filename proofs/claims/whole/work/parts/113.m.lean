/-! X7_asked -/
noncomputable def f_X7_asked (h : MH)  : Option Int32 :=
  some (h.1 64 2)
set_option maxRecDepth 100000 in
set_option maxHeartbeats 4000000 in
theorem b_X7_asked {g : Gx} {l : Launch} {V : VT} {Rt : Option Value → MH → Prop} (o : Ok g l RX7 cX7_asked 1 0 0 0 V) (rr : ORi cX7_asked V Rt) (h : MH)  : T (fun r => Rt (some (.int r)) h) (f_X7_asked h) (V 0 [(0, rA g 64)] [] h) := by
  unfold f_X7_asked
  refine R_aload_n o 0 dX7_asked_0 rfl rfl ?_
  refine R_getI o dX7_asked_1 fl_X7_86 sh_64 (by decide) rfl ?_
  exact T_some (fun p => rr _ _ _ _ dX7_asked_4 p)
theorem c_X7_asked (g : Gx) (l : Launch) (h : MH)  (r : Int32) (e : f_X7_asked h = some r) : Ctr g l yX7_asked cX7_asked 1 (some .int) 0 0 0 [rA g 64] h (some (.int r)) h := mkCi (plainFor_of_name (by decide)) (Nat.le_of_ble_eq_true rfl) (fun V Rt o rr p => b_X7_asked o rr h   r e p)
/-! X7_upper -/
noncomputable def f_X7_upper (h : MH)  : Option Int64 :=
  some (h.2.1 64 3)
set_option maxRecDepth 100000 in
set_option maxHeartbeats 4000000 in
theorem b_X7_upper {g : Gx} {l : Launch} {V : VT} {Rt : Option Value → MH → Prop} (o : Ok g l RX7 cX7_upper 1 0 0 0 V) (rr : ORl cX7_upper V Rt) (h : MH)  : T (fun r => Rt (some (.long r)) h) (f_X7_upper h) (V 0 [(0, rA g 64)] [] h) := by
  unfold f_X7_upper
  refine R_aload_n o 0 dX7_upper_0 rfl rfl ?_
  refine R_getL o dX7_upper_1 fl_X7_89 sh_64 (by decide) rfl ?_
  exact T_some (fun p => rr _ _ _ _ dX7_upper_4 p)
theorem c_X7_upper (g : Gx) (l : Launch) (h : MH)  (r : Int64) (e : f_X7_upper h = some r) : Ctr g l yX7_upper cX7_upper 1 (some .long) 0 0 0 [rA g 64] h (some (.long r)) h := mkCl (plainFor_of_name (by decide)) (Nat.le_of_ble_eq_true rfl) (fun V Rt o rr p => b_X7_upper o rr h   r e p)
/-! X7_lower -/
noncomputable def f_X7_lower (h : MH)  : Option Int64 :=
  some (h.2.1 64 4)
set_option maxRecDepth 100000 in
set_option maxHeartbeats 4000000 in
theorem b_X7_lower {g : Gx} {l : Launch} {V : VT} {Rt : Option Value → MH → Prop} (o : Ok g l RX7 cX7_lower 1 0 0 0 V) (rr : ORl cX7_lower V Rt) (h : MH)  : T (fun r => Rt (some (.long r)) h) (f_X7_lower h) (V 0 [(0, rA g 64)] [] h) := by
  unfold f_X7_lower
  refine R_aload_n o 0 dX7_lower_0 rfl rfl ?_
  refine R_getL o dX7_lower_1 fl_X7_13 sh_64 (by decide) rfl ?_
  exact T_some (fun p => rr _ _ _ _ dX7_lower_4 p)
theorem c_X7_lower (g : Gx) (l : Launch) (h : MH)  (r : Int64) (e : f_X7_lower h = some r) : Ctr g l yX7_lower cX7_lower 1 (some .long) 0 0 0 [rA g 64] h (some (.long r)) h := mkCl (plainFor_of_name (by decide)) (Nat.le_of_ble_eq_true rfl) (fun V Rt o rr p => b_X7_lower o rr h   r e p)
/-! X7_counts -/
noncomputable def f_X7_counts_J79_4 (h : MH) (x1 : Int32) (x3 : Int32) (s0 : Int32) (s1 : Int32) : Option ((Int32 × Int32) ⊕ (Int32)) :=
  nm (s0 + s1) (fun v80 => (if x1 = 5 then gd (ix x3 6) (nm (v80 + (h.1 71 x3.toNatClampNeg)) (fun v98 => some (.inl (v98, (x3 + 1))))) else nm (v80 + 0) (fun v98 => some (.inl (v98, (x3 + 1))))))
set_option maxRecDepth 100000 in
set_option maxHeartbeats 4000000 in
theorem t_X7_counts_J79_4 {g : Gx} {l : Launch} {V : VT} {Rt : Option Value → MH → Prop} (o : Ok g l RX7 cX7_counts 4 1 22 0 V) (rr : ORi cX7_counts V Rt) (h : MH) (x1 : Int32) (x3 : Int32) (s0 : Int32) (s1 : Int32) : T (Sum.elim (fun s => V 4 [(0, rA g 64), (1, .int x1), (2, .int s.1), (3, .int s.2)] [] h) (fun b => V 105 [(0, rA g 64), (1, .int x1), (2, .int b)] [] h)) (f_X7_counts_J79_4  h x1 x3 s0 s1) (V 79 [(0, rA g 64), (1, .int x1), (3, .int x3)] [.int s1, .int s0] h) := by
  unfold f_X7_counts_J79_4
  refine R_iadd o dX7_counts_79 ?_
  refine R_nmI (fun v80 => ?_)
  refine R_istore_n (lv2 := [(0, rA g 64), (1, .int x1), (2, .int v80), (3, .int x3)]) o dX7_counts_80 rfl (by decide) rfl ?_
  refine R_iload_n o 2 dX7_counts_81 rfl rfl ?_
  refine R_iload_n o 1 dX7_counts_82 rfl rfl ?_
  refine R_iconst (v := 5) o dX7_counts_83 (by decide) ?_
  refine R_icmp_ne o 96 dX7_counts_84 (by decide) ?_ ?_
  · refine R_aload_n o 0 dX7_counts_87 rfl rfl ?_
    refine R_getR (a2 := 71) o dX7_counts_88 fl_X7_32 sh_64 (by decide) rfl rf_64_10 ?_
    refine R_iload_n o 3 dX7_counts_91 rfl rfl ?_
    refine R_iald o dX7_counts_92 sh_71 ?_
    refine R_goto o 97 dX7_counts_93 (by decide) ?_
    refine R_iadd o dX7_counts_97 ?_
    refine R_nmI (fun v98 => ?_)
    refine R_istore_n (lv2 := [(0, rA g 64), (1, .int x1), (2, .int v98), (3, .int x3)]) o dX7_counts_98 rfl (by decide) rfl ?_
    refine R_iinc (v := (x3 + 1)) (lv2 := [(0, rA g 64), (1, .int x1), (2, .int v98), (3, .int (x3 + 1))]) o 3 dX7_counts_99 rfl rfl (by decide) rfl ?_
    refine R_goto o 4 dX7_counts_102 (by decide) ?_
    exact T_some (fun p => p)
  · refine R_iconst (v := 0) o dX7_counts_96 (by decide) ?_
    refine R_iadd o dX7_counts_97 ?_
    refine R_nmI (fun v98 => ?_)
    refine R_istore_n (lv2 := [(0, rA g 64), (1, .int x1), (2, .int v98), (3, .int x3)]) o dX7_counts_98 rfl (by decide) rfl ?_
    refine R_iinc (v := (x3 + 1)) (lv2 := [(0, rA g 64), (1, .int x1), (2, .int v98), (3, .int (x3 + 1))]) o 3 dX7_counts_99 rfl rfl (by decide) rfl ?_
    refine R_goto o 4 dX7_counts_102 (by decide) ?_
    exact T_some (fun p => p)
noncomputable def f_X7_counts_J78_4 (h : MH) (x1 : Int32) (x3 : Int32) (s0 : Int32) : Option ((Int32 × Int32) ⊕ (Int32)) :=
  f_X7_counts_J79_4 h x1 x3 s0 0
set_option maxRecDepth 100000 in
set_option maxHeartbeats 4000000 in
theorem t_X7_counts_J78_4 {g : Gx} {l : Launch} {V : VT} {Rt : Option Value → MH → Prop} (o : Ok g l RX7 cX7_counts 4 1 22 0 V) (rr : ORi cX7_counts V Rt) (h : MH) (x1 : Int32) (x3 : Int32) (s0 : Int32) : T (Sum.elim (fun s => V 4 [(0, rA g 64), (1, .int x1), (2, .int s.1), (3, .int s.2)] [] h) (fun b => V 105 [(0, rA g 64), (1, .int x1), (2, .int b)] [] h)) (f_X7_counts_J78_4  h x1 x3 s0) (V 78 [(0, rA g 64), (1, .int x1), (3, .int x3)] [.int s0] h) := by
  unfold f_X7_counts_J78_4
  refine R_iconst (v := 0) o dX7_counts_78 (by decide) ?_
  exact t_X7_counts_J79_4 o rr h x1 x3 s0 0
noncomputable def f_X7_counts_J74_4 (h : MH) (x1 : Int32) (x3 : Int32) (s0 : Int32) : Option ((Int32 × Int32) ⊕ (Int32)) :=
  f_X7_counts_J79_4 h x1 x3 s0 1
set_option maxRecDepth 100000 in
set_option maxHeartbeats 4000000 in
theorem t_X7_counts_J74_4 {g : Gx} {l : Launch} {V : VT} {Rt : Option Value → MH → Prop} (o : Ok g l RX7 cX7_counts 4 1 22 0 V) (rr : ORi cX7_counts V Rt) (h : MH) (x1 : Int32) (x3 : Int32) (s0 : Int32) : T (Sum.elim (fun s => V 4 [(0, rA g 64), (1, .int x1), (2, .int s.1), (3, .int s.2)] [] h) (fun b => V 105 [(0, rA g 64), (1, .int x1), (2, .int b)] [] h)) (f_X7_counts_J74_4  h x1 x3 s0) (V 74 [(0, rA g 64), (1, .int x1), (3, .int x3)] [.int s0] h) := by
  unfold f_X7_counts_J74_4
  refine R_iconst (v := 1) o dX7_counts_74 (by decide) ?_
  refine R_goto o 79 dX7_counts_75 (by decide) ?_
  exact t_X7_counts_J79_4 o rr h x1 x3 s0 1
noncomputable def f_X7_counts_J46_4 (h : MH) (x1 : Int32) (x3 : Int32) (s0 : Int32) : Option ((Int32 × Int32) ⊕ (Int32)) :=
  (if x1 = 3 then gd (ix x3 6) ((if 0 < (h.1 71 x3.toNatClampNeg) then gd (ix x3 6) (Option.bind (f_X7_in (h.1 72 x3.toNatClampNeg) 1 2) (fun r68 => (if r68 = true then f_X7_counts_J74_4 h x1 x3 s0 else f_X7_counts_J78_4 h x1 x3 s0))) else f_X7_counts_J78_4 h x1 x3 s0)) else f_X7_counts_J78_4 h x1 x3 s0)
set_option maxRecDepth 100000 in
set_option maxHeartbeats 4000000 in
theorem t_X7_counts_J46_4 {g : Gx} {l : Launch} {V : VT} {Rt : Option Value → MH → Prop} (o : Ok g l RX7 cX7_counts 4 1 22 0 V) (rr : ORi cX7_counts V Rt) (h : MH) (x1 : Int32) (x3 : Int32) (s0 : Int32) : T (Sum.elim (fun s => V 4 [(0, rA g 64), (1, .int x1), (2, .int s.1), (3, .int s.2)] [] h) (fun b => V 105 [(0, rA g 64), (1, .int x1), (2, .int b)] [] h)) (f_X7_counts_J46_4  h x1 x3 s0) (V 46 [(0, rA g 64), (1, .int x1), (3, .int x3)] [.int s0] h) := by
  unfold f_X7_counts_J46_4
  refine R_iload_n o 1 dX7_counts_46 rfl rfl ?_
  refine R_iconst (v := 3) o dX7_counts_47 (by decide) ?_
  refine R_icmp_ne o 78 dX7_counts_48 (by decide) ?_ ?_
  · refine R_aload_n o 0 dX7_counts_51 rfl rfl ?_
    refine R_getR (a2 := 71) o dX7_counts_52 fl_X7_32 sh_64 (by decide) rfl rf_64_10 ?_
    refine R_iload_n o 2 dX7_counts_55 rfl rfl ?_
    refine R_iald o dX7_counts_56 sh_71 ?_
    refine R_if_le o 78 dX7_counts_57 (by decide) ?_ ?_
    · refine R_aload_n o 0 dX7_counts_60 rfl rfl ?_
      refine R_getR (a2 := 72) o dX7_counts_61 fl_X7_35 sh_64 (by decide) rfl rf_64_11 ?_
      refine R_iload_n o 2 dX7_counts_64 rfl rfl ?_
      refine R_iald o dX7_counts_65 sh_72 ?_
      refine R_iconst (v := 1) o dX7_counts_66 (by decide) ?_
      refine R_iconst (v := 2) o dX7_counts_67 (by decide) ?_
      refine K_z (callS' (av := [.int (h.1 72 x3.toNatClampNeg), .int 1, .int 2]) (rest := [.int s0]) o dX7_counts_68 lk_X7_92 rfl rfl rfl (Nat.le_of_ble_eq_true rfl)) (c_X7_in g l h (h.1 72 x3.toNatClampNeg) 1 2) (fun r68 => ?_)
      refine R_bif_eq o 78 dX7_counts_71 (by decide) ?_ ?_
      · exact t_X7_counts_J74_4 o rr h x1 x3 s0
      · exact t_X7_counts_J78_4 o rr h x1 x3 s0
    · exact t_X7_counts_J78_4 o rr h x1 x3 s0
  · exact t_X7_counts_J78_4 o rr h x1 x3 s0
noncomputable def f_X7_counts_J29_4 (h : MH) (x1 : Int32) (x3 : Int32) (s0 : Int32) (s1 : Int32) : Option ((Int32 × Int32) ⊕ (Int32)) :=
  nm (s0 + s1) (fun v30 => (if x1 = 2 then gd (ix x3 6) ((if 0 < (h.1 71 x3.toNatClampNeg) then f_X7_counts_J74_4 h x1 x3 v30 else f_X7_counts_J46_4 h x1 x3 v30)) else f_X7_counts_J46_4 h x1 x3 v30))
set_option maxRecDepth 100000 in
set_option maxHeartbeats 4000000 in
theorem t_X7_counts_J29_4 {g : Gx} {l : Launch} {V : VT} {Rt : Option Value → MH → Prop} (o : Ok g l RX7 cX7_counts 4 1 22 0 V) (rr : ORi cX7_counts V Rt) (h : MH) (x1 : Int32) (x3 : Int32) (s0 : Int32) (s1 : Int32) : T (Sum.elim (fun s => V 4 [(0, rA g 64), (1, .int x1), (2, .int s.1), (3, .int s.2)] [] h) (fun b => V 105 [(0, rA g 64), (1, .int x1), (2, .int b)] [] h)) (f_X7_counts_J29_4  h x1 x3 s0 s1) (V 29 [(0, rA g 64), (1, .int x1), (3, .int x3)] [.int s1, .int s0] h) := by
  unfold f_X7_counts_J29_4
  refine R_iadd o dX7_counts_29 ?_
  refine R_nmI (fun v30 => ?_)
  refine R_istore_n (lv2 := [(0, rA g 64), (1, .int x1), (2, .int v30), (3, .int x3)]) o dX7_counts_30 rfl (by decide) rfl ?_
  refine R_iload_n o 2 dX7_counts_31 rfl rfl ?_
  refine R_iload_n o 1 dX7_counts_32 rfl rfl ?_
  refine R_iconst (v := 2) o dX7_counts_33 (by decide) ?_
  refine R_icmp_ne o 46 dX7_counts_34 (by decide) ?_ ?_
  · refine R_aload_n o 0 dX7_counts_37 rfl rfl ?_
    refine R_getR (a2 := 71) o dX7_counts_38 fl_X7_32 sh_64 (by decide) rfl rf_64_10 ?_
    refine R_iload_n o 3 dX7_counts_41 rfl rfl ?_
    refine R_iald o dX7_counts_42 sh_71 ?_
    refine R_if_gt o 74 dX7_counts_43 (by decide) ?_ ?_
    · refine R_drop (lv2 := [(0, rA g 64), (1, .int x1), (3, .int x3)]) o [0, 1, 3] rfl ?_
      exact t_X7_counts_J74_4 o rr h x1 x3 v30
    · refine R_drop (lv2 := [(0, rA g 64), (1, .int x1), (3, .int x3)]) o [0, 1, 3] rfl ?_
      exact t_X7_counts_J46_4 o rr h x1 x3 v30
  · refine R_drop (lv2 := [(0, rA g 64), (1, .int x1), (3, .int x3)]) o [0, 1, 3] rfl ?_
    exact t_X7_counts_J46_4 o rr h x1 x3 v30
noncomputable def f_X7_counts_J28_4 (h : MH) (x1 : Int32) (x3 : Int32) (s0 : Int32) : Option ((Int32 × Int32) ⊕ (Int32)) :=
  f_X7_counts_J29_4 h x1 x3 s0 0
set_option maxRecDepth 100000 in
set_option maxHeartbeats 4000000 in
theorem t_X7_counts_J28_4 {g : Gx} {l : Launch} {V : VT} {Rt : Option Value → MH → Prop} (o : Ok g l RX7 cX7_counts 4 1 22 0 V) (rr : ORi cX7_counts V Rt) (h : MH) (x1 : Int32) (x3 : Int32) (s0 : Int32) : T (Sum.elim (fun s => V 4 [(0, rA g 64), (1, .int x1), (2, .int s.1), (3, .int s.2)] [] h) (fun b => V 105 [(0, rA g 64), (1, .int x1), (2, .int b)] [] h)) (f_X7_counts_J28_4  h x1 x3 s0) (V 28 [(0, rA g 64), (1, .int x1), (3, .int x3)] [.int s0] h) := by
  unfold f_X7_counts_J28_4
  refine R_iconst (v := 0) o dX7_counts_28 (by decide) ?_
  exact t_X7_counts_J29_4 o rr h x1 x3 s0 0
noncomputable def f_X7_counts_B4 (h : MH) (x1 : Int32) (x2 : Int32) (x3 : Int32) : Option ((Int32 × Int32) ⊕ (Int32)) :=
  (if x3 < 6 then (if x1 = 0 then gd (ix x3 6) ((if (h.1 66 x3.toNatClampNeg) < 0 then f_X7_counts_J28_4 h x1 x3 x2 else f_X7_counts_J29_4 h x1 x3 x2 1)) else f_X7_counts_J28_4 h x1 x3 x2) else some (.inr x2))
set_option maxRecDepth 100000 in
set_option maxHeartbeats 4000000 in
theorem t_X7_counts_B4 {g : Gx} {l : Launch} {V : VT} {Rt : Option Value → MH → Prop} (o : Ok g l RX7 cX7_counts 4 1 22 0 V) (rr : ORi cX7_counts V Rt) (h : MH) (x1 : Int32) (x2 : Int32) (x3 : Int32) : T (Sum.elim (fun s => V 4 [(0, rA g 64), (1, .int x1), (2, .int s.1), (3, .int s.2)] [] h) (fun b => V 105 [(0, rA g 64), (1, .int x1), (2, .int b)] [] h)) (f_X7_counts_B4  h x1 x2 x3) (V 4 [(0, rA g 64), (1, .int x1), (2, .int x2), (3, .int x3)] [] h) := by
  unfold f_X7_counts_B4
  refine R_iload_n o 3 dX7_counts_4 rfl rfl ?_
  refine R_bipush (v := 6) o dX7_counts_5 (by decide) ?_
  refine R_icmp_ge o 105 dX7_counts_7 (by decide) ?_ ?_
  · refine R_iload_n o 2 dX7_counts_10 rfl rfl ?_
    refine R_iload_n o 1 dX7_counts_11 rfl rfl ?_
    refine R_if_ne o 28 dX7_counts_12 (by decide) ?_ ?_
    · refine R_aload_n o 0 dX7_counts_15 rfl rfl ?_
      refine R_getR (a2 := 66) o dX7_counts_16 fl_X7_17 sh_64 (by decide) rfl rf_64_5 ?_
      refine R_iload_n o 3 dX7_counts_19 rfl rfl ?_
      refine R_iald o dX7_counts_20 sh_66 ?_
      refine R_if_lt o 28 dX7_counts_21 (by decide) ?_ ?_
      · refine R_drop (lv2 := [(0, rA g 64), (1, .int x1), (3, .int x3)]) o [0, 1, 3] rfl ?_
        exact t_X7_counts_J28_4 o rr h x1 x3 x2
      · refine R_iconst (v := 1) o dX7_counts_24 (by decide) ?_
        refine R_goto o 29 dX7_counts_25 (by decide) ?_
        refine R_drop (lv2 := [(0, rA g 64), (1, .int x1), (3, .int x3)]) o [0, 1, 3] rfl ?_
        exact t_X7_counts_J29_4 o rr h x1 x3 x2 1
    · refine R_drop (lv2 := [(0, rA g 64), (1, .int x1), (3, .int x3)]) o [0, 1, 3] rfl ?_
      exact t_X7_counts_J28_4 o rr h x1 x3 x2
  · refine R_drop (lv2 := [(0, rA g 64), (1, .int x1), (2, .int x2)]) o [0, 1, 2] rfl ?_
    exact T_some (fun p => p)
noncomputable def f_X7_counts_L4 (h : MH) (x1 : Int32) (x2 : Int32) (x3 : Int32) : Option (Int32) :=
  lpo (fun s : Int32 × Int32 => f_X7_counts_B4 h x1 s.1 s.2) (x2, x3)
theorem t_X7_counts_L4 {g : Gx} {l : Launch} {V : VT} {Rt : Option Value → MH → Prop} (o : Ok g l RX7 cX7_counts 4 1 22 0 V) (rr : ORi cX7_counts V Rt) (h : MH) (x1 : Int32) (x2 : Int32) (x3 : Int32) : T (fun b => V 105 [(0, rA g 64), (1, .int x1), (2, .int b)] [] h) (f_X7_counts_L4 h x1 x2 x3) (V 4 [(0, rA g 64), (1, .int x1), (2, .int x2), (3, .int x3)] [] h) := T_loop (head := fun s : Int32 × Int32 => V 4 [(0, rA g 64), (1, .int x1), (2, .int s.1), (3, .int s.2)] [] h) (fun s => t_X7_counts_B4 o rr h x1 s.1 s.2 ) (x2, x3)
noncomputable def f_X7_counts_J127_107 (h : MH) (x1 : Int32) (x3 : Int32) (s0 : Int32) : Option ((Int32 × Int32) ⊕ (Int32)) :=
  (if x1 = 4 then gd (ix x3 4) ((if 0 < (h.1 78 x3.toNatClampNeg) then nm (s0 + 1) (fun v147 => some (.inl (v147, (x3 + 1)))) else nm (s0 + 0) (fun v147 => some (.inl (v147, (x3 + 1)))))) else nm (s0 + 0) (fun v147 => some (.inl (v147, (x3 + 1)))))
set_option maxRecDepth 100000 in
set_option maxHeartbeats 4000000 in
theorem t_X7_counts_J127_107 {g : Gx} {l : Launch} {V : VT} {Rt : Option Value → MH → Prop} (o : Ok g l RX7 cX7_counts 4 1 22 0 V) (rr : ORi cX7_counts V Rt) (h : MH) (x1 : Int32) (x3 : Int32) (s0 : Int32) : T (Sum.elim (fun s => V 107 [(0, rA g 64), (1, .int x1), (2, .int s.1), (3, .int s.2)] [] h) (fun b => V 154 [(2, .int b)] [] h)) (f_X7_counts_J127_107  h x1 x3 s0) (V 127 [(0, rA g 64), (1, .int x1), (3, .int x3)] [.int s0] h) := by
  unfold f_X7_counts_J127_107
  refine R_iload_n o 1 dX7_counts_127 rfl rfl ?_
  refine R_iconst (v := 4) o dX7_counts_128 (by decide) ?_
  refine R_icmp_ne o 145 dX7_counts_129 (by decide) ?_ ?_
  · refine R_aload_n o 0 dX7_counts_132 rfl rfl ?_
    refine R_getR (a2 := 78) o dX7_counts_133 fl_X7_53 sh_64 (by decide) rfl rf_64_18 ?_
    refine R_iload_n o 2 dX7_counts_136 rfl rfl ?_
    refine R_iald o dX7_counts_137 sh_78 ?_
    refine R_if_le o 145 dX7_counts_138 (by decide) ?_ ?_
    · refine R_iconst (v := 1) o dX7_counts_141 (by decide) ?_
      refine R_goto o 146 dX7_counts_142 (by decide) ?_
      refine R_iadd o dX7_counts_146 ?_
      refine R_nmI (fun v147 => ?_)
      refine R_istore_n (lv2 := [(0, rA g 64), (1, .int x1), (2, .int v147), (3, .int x3)]) o dX7_counts_147 rfl (by decide) rfl ?_
      refine R_iinc (v := (x3 + 1)) (lv2 := [(0, rA g 64), (1, .int x1), (2, .int v147), (3, .int (x3 + 1))]) o 3 dX7_counts_148 rfl rfl (by decide) rfl ?_
      refine R_goto o 107 dX7_counts_151 (by decide) ?_
      exact T_some (fun p => p)
    · refine R_iconst (v := 0) o dX7_counts_145 (by decide) ?_
      refine R_iadd o dX7_counts_146 ?_
      refine R_nmI (fun v147 => ?_)
      refine R_istore_n (lv2 := [(0, rA g 64), (1, .int x1), (2, .int v147), (3, .int x3)]) o dX7_counts_147 rfl (by decide) rfl ?_
      refine R_iinc (v := (x3 + 1)) (lv2 := [(0, rA g 64), (1, .int x1), (2, .int v147), (3, .int (x3 + 1))]) o 3 dX7_counts_148 rfl rfl (by decide) rfl ?_
      refine R_goto o 107 dX7_counts_151 (by decide) ?_
      exact T_some (fun p => p)
  · refine R_iconst (v := 0) o dX7_counts_145 (by decide) ?_
    refine R_iadd o dX7_counts_146 ?_
    refine R_nmI (fun v147 => ?_)
    refine R_istore_n (lv2 := [(0, rA g 64), (1, .int x1), (2, .int v147), (3, .int x3)]) o dX7_counts_147 rfl (by decide) rfl ?_
    refine R_iinc (v := (x3 + 1)) (lv2 := [(0, rA g 64), (1, .int x1), (2, .int v147), (3, .int (x3 + 1))]) o 3 dX7_counts_148 rfl rfl (by decide) rfl ?_
    refine R_goto o 107 dX7_counts_151 (by decide) ?_
    exact T_some (fun p => p)
noncomputable def f_X7_counts_B107 (h : MH) (x1 : Int32) (x2 : Int32) (x3 : Int32) : Option ((Int32 × Int32) ⊕ (Int32)) :=
  (if x3 < 4 then (if x1 = 1 then gd (ix x3 4) ((if (h.1 69 x3.toNatClampNeg) < 0 then f_X7_counts_J127_107 h x1 x3 x2 else nm (x2 + 1) (fun v147 => some (.inl (v147, (x3 + 1)))))) else f_X7_counts_J127_107 h x1 x3 x2) else some (.inr x2))
set_option maxRecDepth 100000 in
set_option maxHeartbeats 4000000 in
theorem t_X7_counts_B107 {g : Gx} {l : Launch} {V : VT} {Rt : Option Value → MH → Prop} (o : Ok g l RX7 cX7_counts 4 1 22 0 V) (rr : ORi cX7_counts V Rt) (h : MH) (x1 : Int32) (x2 : Int32) (x3 : Int32) : T (Sum.elim (fun s => V 107 [(0, rA g 64), (1, .int x1), (2, .int s.1), (3, .int s.2)] [] h) (fun b => V 154 [(2, .int b)] [] h)) (f_X7_counts_B107  h x1 x2 x3) (V 107 [(0, rA g 64), (1, .int x1), (2, .int x2), (3, .int x3)] [] h) := by
  unfold f_X7_counts_B107
  refine R_iload_n o 3 dX7_counts_107 rfl rfl ?_
  refine R_iconst (v := 4) o dX7_counts_108 (by decide) ?_
  refine R_icmp_ge o 154 dX7_counts_109 (by decide) ?_ ?_
  · refine R_iload_n o 2 dX7_counts_112 rfl rfl ?_
    refine R_iload_n o 1 dX7_counts_113 rfl rfl ?_
    refine R_iconst (v := 1) o dX7_counts_114 (by decide) ?_
    refine R_icmp_ne o 127 dX7_counts_115 (by decide) ?_ ?_
    · refine R_aload_n o 0 dX7_counts_118 rfl rfl ?_
      refine R_getR (a2 := 69) o dX7_counts_119 fl_X7_26 sh_64 (by decide) rfl rf_64_8 ?_
      refine R_iload_n o 3 dX7_counts_122 rfl rfl ?_
      refine R_iald o dX7_counts_123 sh_69 ?_
      refine R_if_ge o 141 dX7_counts_124 (by decide) ?_ ?_
      · refine R_drop (lv2 := [(0, rA g 64), (1, .int x1), (3, .int x3)]) o [0, 1, 3] rfl ?_
        exact t_X7_counts_J127_107 o rr h x1 x3 x2
      · refine R_iconst (v := 1) o dX7_counts_141 (by decide) ?_
        refine R_goto o 146 dX7_counts_142 (by decide) ?_
        refine R_iadd o dX7_counts_146 ?_
        refine R_nmI (fun v147 => ?_)
        refine R_istore_n (lv2 := [(0, rA g 64), (1, .int x1), (2, .int v147), (3, .int x3)]) o dX7_counts_147 rfl (by decide) rfl ?_
        refine R_iinc (v := (x3 + 1)) (lv2 := [(0, rA g 64), (1, .int x1), (2, .int v147), (3, .int (x3 + 1))]) o 3 dX7_counts_148 rfl rfl (by decide) rfl ?_
        refine R_goto o 107 dX7_counts_151 (by decide) ?_
        exact T_some (fun p => p)
    · refine R_drop (lv2 := [(0, rA g 64), (1, .int x1), (3, .int x3)]) o [0, 1, 3] rfl ?_
      exact t_X7_counts_J127_107 o rr h x1 x3 x2
  · refine R_drop (lv2 := [(2, .int x2)]) o [2] rfl ?_
    exact T_some (fun p => p)
noncomputable def f_X7_counts_L107 (h : MH) (x1 : Int32) (x2 : Int32) (x3 : Int32) : Option (Int32) :=
  lpo (fun s : Int32 × Int32 => f_X7_counts_B107 h x1 s.1 s.2) (x2, x3)
theorem t_X7_counts_L107 {g : Gx} {l : Launch} {V : VT} {Rt : Option Value → MH → Prop} (o : Ok g l RX7 cX7_counts 4 1 22 0 V) (rr : ORi cX7_counts V Rt) (h : MH) (x1 : Int32) (x2 : Int32) (x3 : Int32) : T (fun b => V 154 [(2, .int b)] [] h) (f_X7_counts_L107 h x1 x2 x3) (V 107 [(0, rA g 64), (1, .int x1), (2, .int x2), (3, .int x3)] [] h) := T_loop (head := fun s : Int32 × Int32 => V 107 [(0, rA g 64), (1, .int x1), (2, .int s.1), (3, .int s.2)] [] h) (fun s => t_X7_counts_B107 o rr h x1 s.1 s.2 ) (x2, x3)
noncomputable def f_X7_counts (h : MH) (x1 : Int32) : Option Int32 :=
  Option.bind (f_X7_counts_L4 h x1 0 0) (fun b4 => Option.bind (f_X7_counts_L107 h x1 b4 0) (fun b107 => some b107))
set_option maxRecDepth 100000 in
set_option maxHeartbeats 4000000 in
theorem b_X7_counts {g : Gx} {l : Launch} {V : VT} {Rt : Option Value → MH → Prop} (o : Ok g l RX7 cX7_counts 4 1 22 0 V) (rr : ORi cX7_counts V Rt) (h : MH) (x1 : Int32) : T (fun r => Rt (some (.int r)) h) (f_X7_counts h x1) (V 0 [(0, rA g 64), (1, .int x1)] [] h) := by
  unfold f_X7_counts
  refine R_iconst (v := 0) o dX7_counts_0 (by decide) ?_
  refine R_istore_n (lv2 := [(0, rA g 64), (1, .int x1), (2, .int 0)]) o dX7_counts_1 rfl (by decide) rfl ?_
  refine R_iconst (v := 0) o dX7_counts_2 (by decide) ?_
  refine R_istore_n (lv2 := [(0, rA g 64), (1, .int x1), (2, .int 0), (3, .int 0)]) o dX7_counts_3 rfl (by decide) rfl ?_
  refine T_bind (t_X7_counts_L4 o rr h x1 0 0) (fun b4 => ?_)
  refine R_iconst (v := 0) o dX7_counts_105 (by decide) ?_
  refine R_istore_n (lv2 := [(0, rA g 64), (1, .int x1), (2, .int b4), (3, .int 0)]) o dX7_counts_106 rfl (by decide) rfl ?_
  refine T_bind (t_X7_counts_L107 o rr h x1 b4 0) (fun b107 => ?_)
  refine R_iload_n o 0 dX7_counts_154 rfl rfl ?_
  exact T_some (fun p => rr _ _ _ _ dX7_counts_155 p)
theorem c_X7_counts (g : Gx) (l : Launch) (h : MH) (x1 : Int32) (r : Int32) (e : f_X7_counts h x1 = some r) : Ctr g l yX7_counts cX7_counts 4 (some .int) 1 22 0 [rA g 64, .int x1] h (some (.int r)) h := mkCi (plainFor_of_name (by decide)) (Nat.le_of_ble_eq_true rfl) (fun V Rt o rr p => b_X7_counts o rr h x1  r e p)
/-! X7_count -/
noncomputable def f_X7_count (h : MH) (x1 : Int32) : Option Int32 :=
  Option.bind (f_X7_in x1 0 5) (fun r3 => (if r3 = true then Option.bind (f_X7_counts h x1) (fun r11 => some r11) else some (-1)))
set_option maxRecDepth 100000 in
set_option maxHeartbeats 4000000 in
theorem b_X7_count {g : Gx} {l : Launch} {V : VT} {Rt : Option Value → MH → Prop} (o : Ok g l RX7 cX7_count 2 2 45 0 V) (rr : ORi cX7_count V Rt) (h : MH) (x1 : Int32) : T (fun r => Rt (some (.int r)) h) (f_X7_count h x1) (V 0 [(0, rA g 64), (1, .int x1)] [] h) := by
  unfold f_X7_count
  refine R_iload_n o 1 dX7_count_0 rfl rfl ?_
  refine R_iconst (v := 0) o dX7_count_1 (by decide) ?_
  refine R_iconst (v := 5) o dX7_count_2 (by decide) ?_
  refine K_z (callS' (av := [.int x1, .int 0, .int 5]) (rest := []) o dX7_count_3 lk_X7_92 rfl rfl rfl (Nat.le_of_ble_eq_true rfl)) (c_X7_in g l h x1 0 5) (fun r3 => ?_)
  refine R_bif_eq o 17 dX7_count_6 (by decide) ?_ ?_
  · refine R_aload_n o 0 dX7_count_9 rfl rfl ?_
    refine R_iload_n o 1 dX7_count_10 rfl rfl ?_
    refine K_i (callV' (As := [.int x1]) (rest := []) o dX7_count_11 lk_X7_265 rfl sh_64 rfl rfl rfl rfl (Nat.le_of_ble_eq_true rfl)) (c_X7_counts g l h x1) (fun r11 => ?_)
    refine R_goto o 18 dX7_count_14 (by decide) ?_
    exact T_some (fun p => rr _ _ _ _ dX7_count_18 p)
  · refine R_iconst (v := (-1)) o dX7_count_17 (by decide) ?_
    exact T_some (fun p => rr _ _ _ _ dX7_count_18 p)
theorem c_X7_count (g : Gx) (l : Launch) (h : MH) (x1 : Int32) (r : Int32) (e : f_X7_count h x1 = some r) : Ctr g l yX7_count cX7_count 2 (some .int) 2 45 0 [rA g 64, .int x1] h (some (.int r)) h := mkCi (plainFor_of_name (by decide)) (Nat.le_of_ble_eq_true rfl) (fun V Rt o rr p => b_X7_count o rr h x1  r e p)
/-! X7_finding -/
noncomputable def f_X7_finding (h : MH)  : Option Int32 :=
  some (h.1 64 0)
set_option maxRecDepth 100000 in
set_option maxHeartbeats 4000000 in
theorem b_X7_finding {g : Gx} {l : Launch} {V : VT} {Rt : Option Value → MH → Prop} (o : Ok g l RX7 cX7_finding 1 0 0 0 V) (rr : ORi cX7_finding V Rt) (h : MH)  : T (fun r => Rt (some (.int r)) h) (f_X7_finding h) (V 0 [(0, rA g 64)] [] h) := by
  unfold f_X7_finding
  refine R_aload_n o 0 dX7_finding_0 rfl rfl ?_
  refine R_getI o dX7_finding_1 fl_X7_82 sh_64 (by decide) rfl ?_
  exact T_some (fun p => rr _ _ _ _ dX7_finding_4 p)
theorem c_X7_finding (g : Gx) (l : Launch) (h : MH)  (r : Int32) (e : f_X7_finding h = some r) : Ctr g l yX7_finding cX7_finding 1 (some .int) 0 0 0 [rA g 64] h (some (.int r)) h := mkCi (plainFor_of_name (by decide)) (Nat.le_of_ble_eq_true rfl) (fun V Rt o rr p => b_X7_finding o rr h   r e p)
/-! X7_findings -/
noncomputable def f_X7_findings (h : MH) (x1 : Int32) : Option Int32 :=
  Option.bind (f_X7_in x1 1 5) (fun r3 => (if r3 = true then gd (ix x1 6) (some (h.1 65 x1.toNatClampNeg)) else some (-1)))
set_option maxRecDepth 100000 in
set_option maxHeartbeats 4000000 in
theorem b_X7_findings {g : Gx} {l : Launch} {V : VT} {Rt : Option Value → MH → Prop} (o : Ok g l RX7 cX7_findings 2 1 22 0 V) (rr : ORi cX7_findings V Rt) (h : MH) (x1 : Int32) : T (fun r => Rt (some (.int r)) h) (f_X7_findings h x1) (V 0 [(0, rA g 64), (1, .int x1)] [] h) := by
  unfold f_X7_findings
  refine R_iload_n o 1 dX7_findings_0 rfl rfl ?_
  refine R_iconst (v := 1) o dX7_findings_1 (by decide) ?_
  refine R_iconst (v := 5) o dX7_findings_2 (by decide) ?_
  refine K_z (callS' (av := [.int x1, .int 1, .int 5]) (rest := []) o dX7_findings_3 lk_X7_92 rfl rfl rfl (Nat.le_of_ble_eq_true rfl)) (c_X7_in g l h x1 1 5) (fun r3 => ?_)
  refine R_bif_eq o 18 dX7_findings_6 (by decide) ?_ ?_
  · refine R_aload_n o 0 dX7_findings_9 rfl rfl ?_
    refine R_getR (a2 := 65) o dX7_findings_10 fl_X7_7 sh_64 (by decide) rfl rf_64_1 ?_
    refine R_iload_n o 1 dX7_findings_13 rfl rfl ?_
    refine R_iald o dX7_findings_14 sh_65 ?_
    refine R_goto o 19 dX7_findings_15 (by decide) ?_
    exact T_some (fun p => rr _ _ _ _ dX7_findings_19 p)
  · refine R_iconst (v := (-1)) o dX7_findings_18 (by decide) ?_
    exact T_some (fun p => rr _ _ _ _ dX7_findings_19 p)
theorem c_X7_findings (g : Gx) (l : Launch) (h : MH) (x1 : Int32) (r : Int32) (e : f_X7_findings h x1 = some r) : Ctr g l yX7_findings cX7_findings 2 (some .int) 1 22 0 [rA g 64, .int x1] h (some (.int r)) h := mkCi (plainFor_of_name (by decide)) (Nat.le_of_ble_eq_true rfl) (fun V Rt o rr p => b_X7_findings o rr h x1  r e p)
/-! X7_mix -/
noncomputable def f_X7_mix (h : MH) (x1 : Int32) : Option MH :=
  nm (uL h 64 31 ((31 * (h.2.1 64 31)) + (Int32.toInt64 x1))) (fun h12 => some h12)
set_option maxRecDepth 100000 in
set_option maxHeartbeats 4000000 in
theorem b_X7_mix {g : Gx} {l : Launch} {V : VT} {Rt : Option Value → MH → Prop} (o : Ok g l RX7 cX7_mix 2 0 0 0 V) (rr : ORv cX7_mix V Rt) (h : MH) (x1 : Int32) : T (fun r => Rt none r) (f_X7_mix h x1) (V 0 [(0, rA g 64), (1, .int x1)] [] h) := by
  unfold f_X7_mix
  refine R_aload_n o 0 dX7_mix_0 rfl rfl ?_
  refine R_ldc2 (v := 31) o dX7_mix_1 kc_X7_268 ?_
  refine R_aload_n o 0 dX7_mix_4 rfl rfl ?_
  refine R_getL o dX7_mix_5 fl_X7_270 sh_64 (by decide) rfl ?_
  refine R_lmul o dX7_mix_8 ?_
  refine R_iload_n o 1 dX7_mix_9 rfl rfl ?_
  refine R_i2l o dX7_mix_10 ?_
  refine R_ladd o dX7_mix_11 ?_
  refine R_putL o dX7_mix_12 fp_X7_270 sh_64 (by decide) rfl ?_
  refine R_nmH (fun h12 => ?_)
  exact T_some (fun p => rr _ _ _ dX7_mix_15 p)
theorem c_X7_mix (g : Gx) (l : Launch) (h : MH) (x1 : Int32) (r : MH) (e : f_X7_mix h x1 = some r) : Ctr g l yX7_mix cX7_mix 2 none 0 0 0 [rA g 64, .int x1] h none r := mkCv (plainFor_of_name (by decide)) (Nat.le_of_ble_eq_true rfl) (fun V Rt o rr p => b_X7_mix o rr h x1  r e p)
/-! X7_mixCover -/
noncomputable def f_X7_mixCover_B49 (h : MH) (x1 : Int32) (x2 : Int32) (x3 : Int32) : Option ((Int32 × MH) ⊕ (MH)) :=
  (if 4 < x3 then some (.inr h) else Option.bind (f_X7_dotTells h x1 x2 x3) (fun r59 => Option.bind (f_X7_mix h r59) (fun h62 => some (.inl ((x3 + 1), h62)))))
set_option maxRecDepth 100000 in
set_option maxHeartbeats 4000000 in
theorem t_X7_mixCover_B49 {g : Gx} {l : Launch} {V : VT} {Rt : Option Value → MH → Prop} (o : Ok g l RX7 cX7_mixCover 4 3 71 0 V) (rr : ORv cX7_mixCover V Rt) (h : MH) (x1 : Int32) (x2 : Int32) (x3 : Int32) : T (Sum.elim (fun s => V 49 [(0, rA g 64), (1, .int x1), (2, .int x2), (3, .int s.1)] [] s.2) (fun b => V 71 [(0, rA g 64), (1, .int x1), (2, .int x2)] [] b)) (f_X7_mixCover_B49  h x1 x2 x3) (V 49 [(0, rA g 64), (1, .int x1), (2, .int x2), (3, .int x3)] [] h) := by
  unfold f_X7_mixCover_B49
  refine R_iload_n o 3 dX7_mixCover_49 rfl rfl ?_
  refine R_iconst (v := 4) o dX7_mixCover_50 (by decide) ?_
  refine R_icmp_gt o 71 dX7_mixCover_51 (by decide) ?_ ?_
  · refine R_drop (lv2 := [(0, rA g 64), (1, .int x1), (2, .int x2)]) o [0, 1, 2] rfl ?_
    exact T_some (fun p => p)
  · refine R_aload_n o 0 dX7_mixCover_54 rfl rfl ?_
    refine R_aload_n o 0 dX7_mixCover_55 rfl rfl ?_
    refine R_iload_n o 1 dX7_mixCover_56 rfl rfl ?_
    refine R_iload_n o 2 dX7_mixCover_57 rfl rfl ?_
    refine R_iload_n o 3 dX7_mixCover_58 rfl rfl ?_
    refine K_i (callV' (As := [.int x1, .int x2, .int x3]) (rest := [rA g 64]) o dX7_mixCover_59 lk_X7_162 rfl sh_64 rfl rfl rfl rfl (Nat.le_of_ble_eq_true rfl)) (c_X7_dotTells g l h x1 x2 x3) (fun r59 => ?_)
    refine K_vh (callV' (As := [.int r59]) (rest := []) o dX7_mixCover_62 lk_X7_273 rfl sh_64 rfl rfl rfl rfl (Nat.le_of_ble_eq_true rfl)) (c_X7_mix g l h r59) (fun h62 => ?_)
    refine R_iinc (v := (x3 + 1)) (lv2 := [(0, rA g 64), (1, .int x1), (2, .int x2), (3, .int (x3 + 1))]) o 3 dX7_mixCover_65 rfl rfl (by decide) rfl ?_
    refine R_goto o 49 dX7_mixCover_68 (by decide) ?_
    exact T_some (fun p => p)
noncomputable def f_X7_mixCover_L49 (h : MH) (x1 : Int32) (x2 : Int32) (x3 : Int32) : Option (MH) :=
  lpo (fun s : Int32 × MH => f_X7_mixCover_B49 s.2 x1 x2 s.1) (x3, h)
theorem t_X7_mixCover_L49 {g : Gx} {l : Launch} {V : VT} {Rt : Option Value → MH → Prop} (o : Ok g l RX7 cX7_mixCover 4 3 71 0 V) (rr : ORv cX7_mixCover V Rt) (h : MH) (x1 : Int32) (x2 : Int32) (x3 : Int32) : T (fun b => V 71 [(0, rA g 64), (1, .int x1), (2, .int x2)] [] b) (f_X7_mixCover_L49 h x1 x2 x3) (V 49 [(0, rA g 64), (1, .int x1), (2, .int x2), (3, .int x3)] [] h) := T_loop (head := fun s : Int32 × MH => V 49 [(0, rA g 64), (1, .int x1), (2, .int x2), (3, .int s.1)] [] s.2) (fun s => t_X7_mixCover_B49 o rr s.2 x1 x2 s.1 ) (x3, h)
noncomputable def f_X7_mixCover_B37 (h : MH) (x1 : Int32) (x2 : Int32) : Option ((Int32 × MH) ⊕ (MH)) :=
  gd (ix x1 6) ((if x2 < (h.1 71 x1.toNatClampNeg) then Option.bind (f_X7_mixCover_L49 h x1 x2 0) (fun b49 => some (.inl ((x2 + 1), b49))) else some (.inr h)))
set_option maxRecDepth 100000 in
set_option maxHeartbeats 4000000 in
theorem t_X7_mixCover_B37 {g : Gx} {l : Launch} {V : VT} {Rt : Option Value → MH → Prop} (o : Ok g l RX7 cX7_mixCover 4 3 71 0 V) (rr : ORv cX7_mixCover V Rt) (h : MH) (x1 : Int32) (x2 : Int32) : T (Sum.elim (fun s => V 37 [(0, rA g 64), (1, .int x1), (2, .int s.1)] [] s.2) (fun b => V 77 [] [] b)) (f_X7_mixCover_B37  h x1 x2) (V 37 [(0, rA g 64), (1, .int x1), (2, .int x2)] [] h) := by
  unfold f_X7_mixCover_B37
  refine R_iload_n o 2 dX7_mixCover_37 rfl rfl ?_
  refine R_aload_n o 0 dX7_mixCover_38 rfl rfl ?_
  refine R_getR (a2 := 71) o dX7_mixCover_39 fl_X7_32 sh_64 (by decide) rfl rf_64_10 ?_
  refine R_iload_n o 1 dX7_mixCover_42 rfl rfl ?_
  refine R_iald o dX7_mixCover_43 sh_71 ?_
  refine R_icmp_ge o 77 dX7_mixCover_44 (by decide) ?_ ?_
  · refine R_iconst (v := 0) o dX7_mixCover_47 (by decide) ?_
    refine R_istore_n (lv2 := [(0, rA g 64), (1, .int x1), (2, .int x2), (3, .int 0)]) o dX7_mixCover_48 rfl (by decide) rfl ?_
    refine T_bind (t_X7_mixCover_L49 o rr h x1 x2 0) (fun b49 => ?_)
    refine R_iinc (v := (x2 + 1)) (lv2 := [(0, rA g 64), (1, .int x1), (2, .int (x2 + 1))]) o 2 dX7_mixCover_71 rfl rfl (by decide) rfl ?_
    refine R_goto o 37 dX7_mixCover_74 (by decide) ?_
    exact T_some (fun p => p)
  · refine R_drop (lv2 := []) o [] rfl ?_
    exact T_some (fun p => p)
noncomputable def f_X7_mixCover_L37 (h : MH) (x1 : Int32) (x2 : Int32) : Option (MH) :=
  lpo (fun s : Int32 × MH => f_X7_mixCover_B37 s.2 x1 s.1) (x2, h)
theorem t_X7_mixCover_L37 {g : Gx} {l : Launch} {V : VT} {Rt : Option Value → MH → Prop} (o : Ok g l RX7 cX7_mixCover 4 3 71 0 V) (rr : ORv cX7_mixCover V Rt) (h : MH) (x1 : Int32) (x2 : Int32) : T (fun b => V 77 [] [] b) (f_X7_mixCover_L37 h x1 x2) (V 37 [(0, rA g 64), (1, .int x1), (2, .int x2)] [] h) := T_loop (head := fun s : Int32 × MH => V 37 [(0, rA g 64), (1, .int x1), (2, .int s.1)] [] s.2) (fun s => t_X7_mixCover_B37 o rr s.2 x1 s.1 ) (x2, h)
noncomputable def f_X7_mixCover (h : MH) (x1 : Int32) : Option MH :=
  gd (ix x1 6) ((if (h.1 71 x1.toNatClampNeg) = 0 then Option.bind (f_X7_mix h (-1)) (fun h11 => some h11) else gd (ix x1 6) (Option.bind (f_X7_mix h (h.1 72 x1.toNatClampNeg)) (fun h22 => gd (ix x1 6) (Option.bind (f_X7_mix h22 (h22.1 71 x1.toNatClampNeg)) (fun h32 => Option.bind (f_X7_mixCover_L37 h32 x1 0) (fun b37 => some b37)))))))
set_option maxRecDepth 100000 in
set_option maxHeartbeats 4000000 in
theorem b_X7_mixCover {g : Gx} {l : Launch} {V : VT} {Rt : Option Value → MH → Prop} (o : Ok g l RX7 cX7_mixCover 4 3 71 0 V) (rr : ORv cX7_mixCover V Rt) (h : MH) (x1 : Int32) : T (fun r => Rt none r) (f_X7_mixCover h x1) (V 0 [(0, rA g 64), (1, .int x1)] [] h) := by
  unfold f_X7_mixCover
  refine R_aload_n o 0 dX7_mixCover_0 rfl rfl ?_
  refine R_getR (a2 := 71) o dX7_mixCover_1 fl_X7_32 sh_64 (by decide) rfl rf_64_10 ?_
  refine R_iload_n o 1 dX7_mixCover_4 rfl rfl ?_
  refine R_iald o dX7_mixCover_5 sh_71 ?_
  refine R_if_ne o 15 dX7_mixCover_6 (by decide) ?_ ?_
  · refine R_aload_n o 0 dX7_mixCover_9 rfl rfl ?_
    refine R_iconst (v := (-1)) o dX7_mixCover_10 (by decide) ?_
    refine K_vh (callV' (As := [.int (-1)]) (rest := []) o dX7_mixCover_11 lk_X7_273 rfl sh_64 rfl rfl rfl rfl (Nat.le_of_ble_eq_true rfl)) (c_X7_mix g l h (-1)) (fun h11 => ?_)
    exact T_some (fun p => rr _ _ _ dX7_mixCover_14 p)
  · refine R_aload_n o 0 dX7_mixCover_15 rfl rfl ?_
    refine R_aload_n o 0 dX7_mixCover_16 rfl rfl ?_
    refine R_getR (a2 := 72) o dX7_mixCover_17 fl_X7_35 sh_64 (by decide) rfl rf_64_11 ?_
    refine R_iload_n o 1 dX7_mixCover_20 rfl rfl ?_
    refine R_iald o dX7_mixCover_21 sh_72 ?_
    refine K_vh (callV' (As := [.int (h.1 72 x1.toNatClampNeg)]) (rest := []) o dX7_mixCover_22 lk_X7_273 rfl sh_64 rfl rfl rfl rfl (Nat.le_of_ble_eq_true rfl)) (c_X7_mix g l h (h.1 72 x1.toNatClampNeg)) (fun h22 => ?_)
    refine R_aload_n o 0 dX7_mixCover_25 rfl rfl ?_
    refine R_aload_n o 0 dX7_mixCover_26 rfl rfl ?_
    refine R_getR (a2 := 71) o dX7_mixCover_27 fl_X7_32 sh_64 (by decide) rfl rf_64_10 ?_
    refine R_iload_n o 1 dX7_mixCover_30 rfl rfl ?_
    refine R_iald o dX7_mixCover_31 sh_71 ?_
    refine K_vh (callV' (As := [.int (h22.1 71 x1.toNatClampNeg)]) (rest := []) o dX7_mixCover_32 lk_X7_273 rfl sh_64 rfl rfl rfl rfl (Nat.le_of_ble_eq_true rfl)) (c_X7_mix g l h22 (h22.1 71 x1.toNatClampNeg)) (fun h32 => ?_)
    refine R_iconst (v := 0) o dX7_mixCover_35 (by decide) ?_
    refine R_istore_n (lv2 := [(0, rA g 64), (1, .int x1), (2, .int 0)]) o dX7_mixCover_36 rfl (by decide) rfl ?_
    refine T_bind (t_X7_mixCover_L37 o rr h32 x1 0) (fun b37 => ?_)
    exact T_some (fun p => rr _ _ _ dX7_mixCover_77 p)
theorem c_X7_mixCover (g : Gx) (l : Launch) (h : MH) (x1 : Int32) (r : MH) (e : f_X7_mixCover h x1 = some r) : Ctr g l yX7_mixCover cX7_mixCover 4 none 3 71 0 [rA g 64, .int x1] h none r := mkCv (plainFor_of_name (by decide)) (Nat.le_of_ble_eq_true rfl) (fun V Rt o rr p => b_X7_mixCover o rr h x1  r e p)
/-! X7_mixCode -/
noncomputable def f_X7_mixCode_B37 (h : MH) (x1 : Int32) (x2 : Int32) : Option ((Int32 × MH) ⊕ (MH)) :=
  gd (ix x1 4) ((if x2 < (h.1 78 x1.toNatClampNeg) then gd (ix ((6 * x1) + x2) 24) (Option.bind (f_X7_mix h (h.1 80 ((6 * x1) + x2).toNatClampNeg)) (fun h59 => some (.inl ((x2 + 1), h59)))) else some (.inr h)))
set_option maxRecDepth 100000 in
set_option maxHeartbeats 4000000 in
theorem t_X7_mixCode_B37 {g : Gx} {l : Launch} {V : VT} {Rt : Option Value → MH → Prop} (o : Ok g l RX7 cX7_mixCode 3 1 21 0 V) (rr : ORv cX7_mixCode V Rt) (h : MH) (x1 : Int32) (x2 : Int32) : T (Sum.elim (fun s => V 37 [(0, rA g 64), (1, .int x1), (2, .int s.1)] [] s.2) (fun b => V 68 [] [] b)) (f_X7_mixCode_B37  h x1 x2) (V 37 [(0, rA g 64), (1, .int x1), (2, .int x2)] [] h) := by
  unfold f_X7_mixCode_B37
  refine R_iload_n o 2 dX7_mixCode_37 rfl rfl ?_
  refine R_aload_n o 0 dX7_mixCode_38 rfl rfl ?_
  refine R_getR (a2 := 78) o dX7_mixCode_39 fl_X7_53 sh_64 (by decide) rfl rf_64_18 ?_
  refine R_iload_n o 1 dX7_mixCode_42 rfl rfl ?_
  refine R_iald o dX7_mixCode_43 sh_78 ?_
  refine R_icmp_ge o 68 dX7_mixCode_44 (by decide) ?_ ?_
  · refine R_aload_n o 0 dX7_mixCode_47 rfl rfl ?_
    refine R_aload_n o 0 dX7_mixCode_48 rfl rfl ?_
    refine R_getR (a2 := 80) o dX7_mixCode_49 fl_X7_59 sh_64 (by decide) rfl rf_64_20 ?_
    refine R_bipush (v := 6) o dX7_mixCode_52 (by decide) ?_
    refine R_iload_n o 1 dX7_mixCode_54 rfl rfl ?_
    refine R_imul o dX7_mixCode_55 ?_
    refine R_iload_n o 2 dX7_mixCode_56 rfl rfl ?_
    refine R_iadd o dX7_mixCode_57 ?_
    refine R_iald o dX7_mixCode_58 sh_80 ?_
    refine K_vh (callV' (As := [.int (h.1 80 ((6 * x1) + x2).toNatClampNeg)]) (rest := []) o dX7_mixCode_59 lk_X7_273 rfl sh_64 rfl rfl rfl rfl (Nat.le_of_ble_eq_true rfl)) (c_X7_mix g l h (h.1 80 ((6 * x1) + x2).toNatClampNeg)) (fun h59 => ?_)
    refine R_iinc (v := (x2 + 1)) (lv2 := [(0, rA g 64), (1, .int x1), (2, .int (x2 + 1))]) o 2 dX7_mixCode_62 rfl rfl (by decide) rfl ?_
    refine R_goto o 37 dX7_mixCode_65 (by decide) ?_
    exact T_some (fun p => p)
  · refine R_drop (lv2 := []) o [] rfl ?_
    exact T_some (fun p => p)
noncomputable def f_X7_mixCode_L37 (h : MH) (x1 : Int32) (x2 : Int32) : Option (MH) :=
  lpo (fun s : Int32 × MH => f_X7_mixCode_B37 s.2 x1 s.1) (x2, h)
theorem t_X7_mixCode_L37 {g : Gx} {l : Launch} {V : VT} {Rt : Option Value → MH → Prop} (o : Ok g l RX7 cX7_mixCode 3 1 21 0 V) (rr : ORv cX7_mixCode V Rt) (h : MH) (x1 : Int32) (x2 : Int32) : T (fun b => V 68 [] [] b) (f_X7_mixCode_L37 h x1 x2) (V 37 [(0, rA g 64), (1, .int x1), (2, .int x2)] [] h) := T_loop (head := fun s : Int32 × MH => V 37 [(0, rA g 64), (1, .int x1), (2, .int s.1)] [] s.2) (fun s => t_X7_mixCode_B37 o rr s.2 x1 s.1 ) (x2, h)
noncomputable def f_X7_mixCode (h : MH) (x1 : Int32) : Option MH :=
  gd (ix x1 4) ((if (h.1 78 x1.toNatClampNeg) = 0 then Option.bind (f_X7_mix h (-1)) (fun h11 => some h11) else gd (ix x1 4) (Option.bind (f_X7_mix h (h.1 78 x1.toNatClampNeg)) (fun h22 => gd (ix x1 4) (Option.bind (f_X7_mix h22 (h22.1 79 x1.toNatClampNeg)) (fun h32 => Option.bind (f_X7_mixCode_L37 h32 x1 0) (fun b37 => some b37)))))))
set_option maxRecDepth 100000 in
set_option maxHeartbeats 4000000 in
theorem b_X7_mixCode {g : Gx} {l : Launch} {V : VT} {Rt : Option Value → MH → Prop} (o : Ok g l RX7 cX7_mixCode 3 1 21 0 V) (rr : ORv cX7_mixCode V Rt) (h : MH) (x1 : Int32) : T (fun r => Rt none r) (f_X7_mixCode h x1) (V 0 [(0, rA g 64), (1, .int x1)] [] h) := by
  unfold f_X7_mixCode
  refine R_aload_n o 0 dX7_mixCode_0 rfl rfl ?_
  refine R_getR (a2 := 78) o dX7_mixCode_1 fl_X7_53 sh_64 (by decide) rfl rf_64_18 ?_
  refine R_iload_n o 1 dX7_mixCode_4 rfl rfl ?_
  refine R_iald o dX7_mixCode_5 sh_78 ?_
  refine R_if_ne o 15 dX7_mixCode_6 (by decide) ?_ ?_
  · refine R_aload_n o 0 dX7_mixCode_9 rfl rfl ?_
    refine R_iconst (v := (-1)) o dX7_mixCode_10 (by decide) ?_
    refine K_vh (callV' (As := [.int (-1)]) (rest := []) o dX7_mixCode_11 lk_X7_273 rfl sh_64 rfl rfl rfl rfl (Nat.le_of_ble_eq_true rfl)) (c_X7_mix g l h (-1)) (fun h11 => ?_)
    exact T_some (fun p => rr _ _ _ dX7_mixCode_14 p)
  · refine R_aload_n o 0 dX7_mixCode_15 rfl rfl ?_
    refine R_aload_n o 0 dX7_mixCode_16 rfl rfl ?_
    refine R_getR (a2 := 78) o dX7_mixCode_17 fl_X7_53 sh_64 (by decide) rfl rf_64_18 ?_
    refine R_iload_n o 1 dX7_mixCode_20 rfl rfl ?_
    refine R_iald o dX7_mixCode_21 sh_78 ?_
    refine K_vh (callV' (As := [.int (h.1 78 x1.toNatClampNeg)]) (rest := []) o dX7_mixCode_22 lk_X7_273 rfl sh_64 rfl rfl rfl rfl (Nat.le_of_ble_eq_true rfl)) (c_X7_mix g l h (h.1 78 x1.toNatClampNeg)) (fun h22 => ?_)
    refine R_aload_n o 0 dX7_mixCode_25 rfl rfl ?_
    refine R_aload_n o 0 dX7_mixCode_26 rfl rfl ?_
    refine R_getR (a2 := 79) o dX7_mixCode_27 fl_X7_56 sh_64 (by decide) rfl rf_64_19 ?_
    refine R_iload_n o 1 dX7_mixCode_30 rfl rfl ?_
    refine R_iald o dX7_mixCode_31 sh_79 ?_
    refine K_vh (callV' (As := [.int (h22.1 79 x1.toNatClampNeg)]) (rest := []) o dX7_mixCode_32 lk_X7_273 rfl sh_64 rfl rfl rfl rfl (Nat.le_of_ble_eq_true rfl)) (c_X7_mix g l h22 (h22.1 79 x1.toNatClampNeg)) (fun h32 => ?_)
    refine R_iconst (v := 0) o dX7_mixCode_35 (by decide) ?_
    refine R_istore_n (lv2 := [(0, rA g 64), (1, .int x1), (2, .int 0)]) o dX7_mixCode_36 rfl (by decide) rfl ?_
    refine T_bind (t_X7_mixCode_L37 o rr h32 x1 0) (fun b37 => ?_)
    exact T_some (fun p => rr _ _ _ dX7_mixCode_68 p)
theorem c_X7_mixCode (g : Gx) (l : Launch) (h : MH) (x1 : Int32) (r : MH) (e : f_X7_mixCode h x1 = some r) : Ctr g l yX7_mixCode cX7_mixCode 3 none 1 21 0 [rA g 64, .int x1] h none r := mkCv (plainFor_of_name (by decide)) (Nat.le_of_ble_eq_true rfl) (fun V Rt o rr p => b_X7_mixCode o rr h x1  r e p)
/-! X7_digest -/
noncomputable def f_X7_digest_B9 (h : MH) (x1 : Int32) : Option ((Int32 × MH) ⊕ (MH)) :=
  (if 5 < x1 then some (.inr h) else Option.bind (f_X7_counts h x1) (fun r17 => Option.bind (f_X7_mix h r17) (fun h20 => some (.inl ((x1 + 1), h20)))))
set_option maxRecDepth 100000 in
set_option maxHeartbeats 4000000 in
theorem t_X7_digest_B9 {g : Gx} {l : Launch} {V : VT} {Rt : Option Value → MH → Prop} (o : Ok g l RX7 cX7_digest 3 4 94 0 V) (rr : ORl cX7_digest V Rt) (h : MH) (x1 : Int32) : T (Sum.elim (fun s => V 9 [(0, rA g 64), (1, .int s.1)] [] s.2) (fun b => V 29 [(0, rA g 64)] [] b)) (f_X7_digest_B9  h x1) (V 9 [(0, rA g 64), (1, .int x1)] [] h) := by
  unfold f_X7_digest_B9
  refine R_iload_n o 1 dX7_digest_9 rfl rfl ?_
  refine R_iconst (v := 5) o dX7_digest_10 (by decide) ?_
  refine R_icmp_gt o 29 dX7_digest_11 (by decide) ?_ ?_
  · refine R_drop (lv2 := [(0, rA g 64)]) o [0] rfl ?_
    exact T_some (fun p => p)
  · refine R_aload_n o 0 dX7_digest_14 rfl rfl ?_
    refine R_aload_n o 0 dX7_digest_15 rfl rfl ?_
    refine R_iload_n o 1 dX7_digest_16 rfl rfl ?_
    refine K_i (callV' (As := [.int x1]) (rest := [rA g 64]) o dX7_digest_17 lk_X7_265 rfl sh_64 rfl rfl rfl rfl (Nat.le_of_ble_eq_true rfl)) (c_X7_counts g l h x1) (fun r17 => ?_)
    refine K_vh (callV' (As := [.int r17]) (rest := []) o dX7_digest_20 lk_X7_273 rfl sh_64 rfl rfl rfl rfl (Nat.le_of_ble_eq_true rfl)) (c_X7_mix g l h r17) (fun h20 => ?_)
    refine R_iinc (v := (x1 + 1)) (lv2 := [(0, rA g 64), (1, .int (x1 + 1))]) o 1 dX7_digest_23 rfl rfl (by decide) rfl ?_
    refine R_goto o 9 dX7_digest_26 (by decide) ?_
    exact T_some (fun p => p)
noncomputable def f_X7_digest_L9 (h : MH) (x1 : Int32) : Option (MH) :=
  lpo (fun s : Int32 × MH => f_X7_digest_B9 s.2 s.1) (x1, h)
theorem t_X7_digest_L9 {g : Gx} {l : Launch} {V : VT} {Rt : Option Value → MH → Prop} (o : Ok g l RX7 cX7_digest 3 4 94 0 V) (rr : ORl cX7_digest V Rt) (h : MH) (x1 : Int32) : T (fun b => V 29 [(0, rA g 64)] [] b) (f_X7_digest_L9 h x1) (V 9 [(0, rA g 64), (1, .int x1)] [] h) := T_loop (head := fun s : Int32 × MH => V 9 [(0, rA g 64), (1, .int s.1)] [] s.2) (fun s => t_X7_digest_B9 o rr s.2 s.1 ) (x1, h)
noncomputable def f_X7_digest_B31 (h : MH) (x1 : Int32) : Option ((Int32 × MH) ⊕ (MH)) :=
  (if x1 < 6 then Option.bind (f_X7_mixCover h x1) (fun h39 => some (.inl ((x1 + 1), h39))) else some (.inr h))
set_option maxRecDepth 100000 in
set_option maxHeartbeats 4000000 in
theorem t_X7_digest_B31 {g : Gx} {l : Launch} {V : VT} {Rt : Option Value → MH → Prop} (o : Ok g l RX7 cX7_digest 3 4 94 0 V) (rr : ORl cX7_digest V Rt) (h : MH) (x1 : Int32) : T (Sum.elim (fun s => V 31 [(0, rA g 64), (1, .int s.1)] [] s.2) (fun b => V 48 [(0, rA g 64)] [] b)) (f_X7_digest_B31  h x1) (V 31 [(0, rA g 64), (1, .int x1)] [] h) := by
  unfold f_X7_digest_B31
  refine R_iload_n o 1 dX7_digest_31 rfl rfl ?_
  refine R_bipush (v := 6) o dX7_digest_32 (by decide) ?_
  refine R_icmp_ge o 48 dX7_digest_34 (by decide) ?_ ?_
  · refine R_aload_n o 0 dX7_digest_37 rfl rfl ?_
    refine R_iload_n o 1 dX7_digest_38 rfl rfl ?_
    refine K_vh (callV' (As := [.int x1]) (rest := []) o dX7_digest_39 lk_X7_278 rfl sh_64 rfl rfl rfl rfl (Nat.le_of_ble_eq_true rfl)) (c_X7_mixCover g l h x1) (fun h39 => ?_)
    refine R_iinc (v := (x1 + 1)) (lv2 := [(0, rA g 64), (1, .int (x1 + 1))]) o 1 dX7_digest_42 rfl rfl (by decide) rfl ?_
    refine R_goto o 31 dX7_digest_45 (by decide) ?_
    exact T_some (fun p => p)
  · refine R_drop (lv2 := [(0, rA g 64)]) o [0] rfl ?_
    exact T_some (fun p => p)
noncomputable def f_X7_digest_L31 (h : MH) (x1 : Int32) : Option (MH) :=
  lpo (fun s : Int32 × MH => f_X7_digest_B31 s.2 s.1) (x1, h)
theorem t_X7_digest_L31 {g : Gx} {l : Launch} {V : VT} {Rt : Option Value → MH → Prop} (o : Ok g l RX7 cX7_digest 3 4 94 0 V) (rr : ORl cX7_digest V Rt) (h : MH) (x1 : Int32) : T (fun b => V 48 [(0, rA g 64)] [] b) (f_X7_digest_L31 h x1) (V 31 [(0, rA g 64), (1, .int x1)] [] h) := T_loop (head := fun s : Int32 × MH => V 31 [(0, rA g 64), (1, .int s.1)] [] s.2) (fun s => t_X7_digest_B31 o rr s.2 s.1 ) (x1, h)
noncomputable def f_X7_digest_B50 (h : MH) (x1 : Int32) : Option ((Int32 × MH) ⊕ (MH)) :=
  (if x1 < 4 then Option.bind (f_X7_mixCode h x1) (fun h57 => some (.inl ((x1 + 1), h57))) else some (.inr h))
set_option maxRecDepth 100000 in
set_option maxHeartbeats 4000000 in
theorem t_X7_digest_B50 {g : Gx} {l : Launch} {V : VT} {Rt : Option Value → MH → Prop} (o : Ok g l RX7 cX7_digest 3 4 94 0 V) (rr : ORl cX7_digest V Rt) (h : MH) (x1 : Int32) : T (Sum.elim (fun s => V 50 [(0, rA g 64), (1, .int s.1)] [] s.2) (fun b => V 66 [(0, rA g 64)] [] b)) (f_X7_digest_B50  h x1) (V 50 [(0, rA g 64), (1, .int x1)] [] h) := by
  unfold f_X7_digest_B50
  refine R_iload_n o 1 dX7_digest_50 rfl rfl ?_
  refine R_iconst (v := 4) o dX7_digest_51 (by decide) ?_
  refine R_icmp_ge o 66 dX7_digest_52 (by decide) ?_ ?_
  · refine R_aload_n o 0 dX7_digest_55 rfl rfl ?_
    refine R_iload_n o 1 dX7_digest_56 rfl rfl ?_
    refine K_vh (callV' (As := [.int x1]) (rest := []) o dX7_digest_57 lk_X7_281 rfl sh_64 rfl rfl rfl rfl (Nat.le_of_ble_eq_true rfl)) (c_X7_mixCode g l h x1) (fun h57 => ?_)
    refine R_iinc (v := (x1 + 1)) (lv2 := [(0, rA g 64), (1, .int (x1 + 1))]) o 1 dX7_digest_60 rfl rfl (by decide) rfl ?_
    refine R_goto o 50 dX7_digest_63 (by decide) ?_
    exact T_some (fun p => p)
  · refine R_drop (lv2 := [(0, rA g 64)]) o [0] rfl ?_
    exact T_some (fun p => p)
noncomputable def f_X7_digest_L50 (h : MH) (x1 : Int32) : Option (MH) :=
  lpo (fun s : Int32 × MH => f_X7_digest_B50 s.2 s.1) (x1, h)
theorem t_X7_digest_L50 {g : Gx} {l : Launch} {V : VT} {Rt : Option Value → MH → Prop} (o : Ok g l RX7 cX7_digest 3 4 94 0 V) (rr : ORl cX7_digest V Rt) (h : MH) (x1 : Int32) : T (fun b => V 66 [(0, rA g 64)] [] b) (f_X7_digest_L50 h x1) (V 50 [(0, rA g 64), (1, .int x1)] [] h) := T_loop (head := fun s : Int32 × MH => V 50 [(0, rA g 64), (1, .int s.1)] [] s.2) (fun s => t_X7_digest_B50 o rr s.2 s.1 ) (x1, h)
noncomputable def f_X7_digest_B99 (h : MH) (x1 : Int32) (x2 : Int32) : Option ((Int32 × MH) ⊕ (MH)) :=
  gd (ix x1 6) ((if x2 < (h.1 66 x1.toNatClampNeg) then Option.bind (f_X7_rowAt h x1 x2) (fun r113 => Option.bind (f_X7_mix h r113) (fun h116 => some (.inl ((x2 + 1), h116)))) else some (.inr h)))
set_option maxRecDepth 100000 in
set_option maxHeartbeats 4000000 in
theorem t_X7_digest_B99 {g : Gx} {l : Launch} {V : VT} {Rt : Option Value → MH → Prop} (o : Ok g l RX7 cX7_digest 3 4 94 0 V) (rr : ORl cX7_digest V Rt) (h : MH) (x1 : Int32) (x2 : Int32) : T (Sum.elim (fun s => V 99 [(0, rA g 64), (1, .int x1), (2, .int s.1)] [] s.2) (fun b => V 125 [(0, rA g 64), (1, .int x1)] [] b)) (f_X7_digest_B99  h x1 x2) (V 99 [(0, rA g 64), (1, .int x1), (2, .int x2)] [] h) := by
  unfold f_X7_digest_B99
  refine R_iload_n o 2 dX7_digest_99 rfl rfl ?_
  refine R_aload_n o 0 dX7_digest_100 rfl rfl ?_
  refine R_getR (a2 := 66) o dX7_digest_101 fl_X7_17 sh_64 (by decide) rfl rf_64_5 ?_
  refine R_iload_n o 1 dX7_digest_104 rfl rfl ?_
  refine R_iald o dX7_digest_105 sh_66 ?_
  refine R_icmp_ge o 125 dX7_digest_106 (by decide) ?_ ?_
  · refine R_aload_n o 0 dX7_digest_109 rfl rfl ?_
    refine R_aload_n o 0 dX7_digest_110 rfl rfl ?_
    refine R_iload_n o 1 dX7_digest_111 rfl rfl ?_
    refine R_iload_n o 2 dX7_digest_112 rfl rfl ?_
    refine K_i (callV' (As := [.int x1, .int x2]) (rest := [rA g 64]) o dX7_digest_113 lk_X7_110 rfl sh_64 rfl rfl rfl rfl (Nat.le_of_ble_eq_true rfl)) (c_X7_rowAt g l h x1 x2) (fun r113 => ?_)
    refine K_vh (callV' (As := [.int r113]) (rest := []) o dX7_digest_116 lk_X7_273 rfl sh_64 rfl rfl rfl rfl (Nat.le_of_ble_eq_true rfl)) (c_X7_mix g l h r113) (fun h116 => ?_)
    refine R_iinc (v := (x2 + 1)) (lv2 := [(0, rA g 64), (1, .int x1), (2, .int (x2 + 1))]) o 2 dX7_digest_119 rfl rfl (by decide) rfl ?_
    refine R_goto o 99 dX7_digest_122 (by decide) ?_
    exact T_some (fun p => p)
  · refine R_drop (lv2 := [(0, rA g 64), (1, .int x1)]) o [0, 1] rfl ?_
    exact T_some (fun p => p)
noncomputable def f_X7_digest_L99 (h : MH) (x1 : Int32) (x2 : Int32) : Option (MH) :=
  lpo (fun s : Int32 × MH => f_X7_digest_B99 s.2 x1 s.1) (x2, h)
theorem t_X7_digest_L99 {g : Gx} {l : Launch} {V : VT} {Rt : Option Value → MH → Prop} (o : Ok g l RX7 cX7_digest 3 4 94 0 V) (rr : ORl cX7_digest V Rt) (h : MH) (x1 : Int32) (x2 : Int32) : T (fun b => V 125 [(0, rA g 64), (1, .int x1)] [] b) (f_X7_digest_L99 h x1 x2) (V 99 [(0, rA g 64), (1, .int x1), (2, .int x2)] [] h) := T_loop (head := fun s : Int32 × MH => V 99 [(0, rA g 64), (1, .int x1), (2, .int s.1)] [] s.2) (fun s => t_X7_digest_B99 o rr s.2 x1 s.1 ) (x2, h)
noncomputable def f_X7_digest_J94_68 (h : MH) (x1 : Int32) (s1 : Int32) : Option ((Int32 × MH) ⊕ (MH)) :=
  Option.bind (f_X7_mix h s1) (fun h94 => Option.bind (f_X7_digest_L99 h94 x1 0) (fun b99 => some (.inl ((x1 + 1), b99))))
set_option maxRecDepth 100000 in
set_option maxHeartbeats 4000000 in
theorem t_X7_digest_J94_68 {g : Gx} {l : Launch} {V : VT} {Rt : Option Value → MH → Prop} (o : Ok g l RX7 cX7_digest 3 4 94 0 V) (rr : ORl cX7_digest V Rt) (h : MH) (x1 : Int32) (s1 : Int32) : T (Sum.elim (fun s => V 68 [(0, rA g 64), (1, .int s.1)] [] s.2) (fun b => V 131 [(0, rA g 64)] [] b)) (f_X7_digest_J94_68  h x1 s1) (V 94 [(0, rA g 64), (1, .int x1)] [.int s1, rA g 64] h) := by
  unfold f_X7_digest_J94_68
  refine K_vh (callV' (As := [.int s1]) (rest := []) o dX7_digest_94 lk_X7_273 rfl sh_64 rfl rfl rfl rfl (Nat.le_of_ble_eq_true rfl)) (c_X7_mix g l h s1) (fun h94 => ?_)
  refine R_iconst (v := 0) o dX7_digest_97 (by decide) ?_
  refine R_istore_n (lv2 := [(0, rA g 64), (1, .int x1), (2, .int 0)]) o dX7_digest_98 rfl (by decide) rfl ?_
  refine T_bind (t_X7_digest_L99 o rr h94 x1 0) (fun b99 => ?_)
  refine R_iinc (v := (x1 + 1)) (lv2 := [(0, rA g 64), (1, .int (x1 + 1))]) o 1 dX7_digest_125 rfl rfl (by decide) rfl ?_
  refine R_goto o 68 dX7_digest_128 (by decide) ?_
  exact T_some (fun p => p)
noncomputable def f_X7_digest_B68 (h : MH) (x1 : Int32) : Option ((Int32 × MH) ⊕ (MH)) :=
  (if x1 < 6 then gd (ix x1 6) ((if (h.1 66 x1.toNatClampNeg) < 0 then f_X7_digest_J94_68 h x1 (-1) else gd (ix x1 6) (f_X7_digest_J94_68 h x1 (h.1 66 x1.toNatClampNeg)))) else some (.inr h))
set_option maxRecDepth 100000 in
set_option maxHeartbeats 4000000 in
theorem t_X7_digest_B68 {g : Gx} {l : Launch} {V : VT} {Rt : Option Value → MH → Prop} (o : Ok g l RX7 cX7_digest 3 4 94 0 V) (rr : ORl cX7_digest V Rt) (h : MH) (x1 : Int32) : T (Sum.elim (fun s => V 68 [(0, rA g 64), (1, .int s.1)] [] s.2) (fun b => V 131 [(0, rA g 64)] [] b)) (f_X7_digest_B68  h x1) (V 68 [(0, rA g 64), (1, .int x1)] [] h) := by
  unfold f_X7_digest_B68
  refine R_iload_n o 1 dX7_digest_68 rfl rfl ?_
  refine R_bipush (v := 6) o dX7_digest_69 (by decide) ?_
  refine R_icmp_ge o 131 dX7_digest_71 (by decide) ?_ ?_
  · refine R_aload_n o 0 dX7_digest_74 rfl rfl ?_
    refine R_aload_n o 0 dX7_digest_75 rfl rfl ?_
    refine R_getR (a2 := 66) o dX7_digest_76 fl_X7_17 sh_64 (by decide) rfl rf_64_5 ?_
    refine R_iload_n o 1 dX7_digest_79 rfl rfl ?_
    refine R_iald o dX7_digest_80 sh_66 ?_
    refine R_if_ge o 88 dX7_digest_81 (by decide) ?_ ?_
    · refine R_iconst (v := (-1)) o dX7_digest_84 (by decide) ?_
      refine R_goto o 94 dX7_digest_85 (by decide) ?_
      exact t_X7_digest_J94_68 o rr h x1 (-1)
    · refine R_aload_n o 0 dX7_digest_88 rfl rfl ?_
      refine R_getR (a2 := 66) o dX7_digest_89 fl_X7_17 sh_64 (by decide) rfl rf_64_5 ?_
      refine R_iload_n o 1 dX7_digest_92 rfl rfl ?_
      refine R_iald o dX7_digest_93 sh_66 ?_
      exact t_X7_digest_J94_68 o rr h x1 (h.1 66 x1.toNatClampNeg)
  · refine R_drop (lv2 := [(0, rA g 64)]) o [0] rfl ?_
    exact T_some (fun p => p)
noncomputable def f_X7_digest_L68 (h : MH) (x1 : Int32) : Option (MH) :=
  lpo (fun s : Int32 × MH => f_X7_digest_B68 s.2 s.1) (x1, h)
theorem t_X7_digest_L68 {g : Gx} {l : Launch} {V : VT} {Rt : Option Value → MH → Prop} (o : Ok g l RX7 cX7_digest 3 4 94 0 V) (rr : ORl cX7_digest V Rt) (h : MH) (x1 : Int32) : T (fun b => V 131 [(0, rA g 64)] [] b) (f_X7_digest_L68 h x1) (V 68 [(0, rA g 64), (1, .int x1)] [] h) := T_loop (head := fun s : Int32 × MH => V 68 [(0, rA g 64), (1, .int s.1)] [] s.2) (fun s => t_X7_digest_B68 o rr s.2 s.1 ) (x1, h)
noncomputable def f_X7_digest_B163 (h : MH) (x1 : Int32) (x2 : Int32) : Option ((Int32 × MH) ⊕ (MH)) :=
  gd (ix x1 4) ((if x2 < (h.1 69 x1.toNatClampNeg) then gd (ix ((60 * x1) + x2) 240) (Option.bind (f_X7_mix h (h.1 70 ((60 * x1) + x2).toNatClampNeg)) (fun h185 => some (.inl ((x2 + 1), h185)))) else some (.inr h)))
set_option maxRecDepth 100000 in
set_option maxHeartbeats 4000000 in
theorem t_X7_digest_B163 {g : Gx} {l : Launch} {V : VT} {Rt : Option Value → MH → Prop} (o : Ok g l RX7 cX7_digest 3 4 94 0 V) (rr : ORl cX7_digest V Rt) (h : MH) (x1 : Int32) (x2 : Int32) : T (Sum.elim (fun s => V 163 [(0, rA g 64), (1, .int x1), (2, .int s.1)] [] s.2) (fun b => V 194 [(0, rA g 64), (1, .int x1)] [] b)) (f_X7_digest_B163  h x1 x2) (V 163 [(0, rA g 64), (1, .int x1), (2, .int x2)] [] h) := by
  unfold f_X7_digest_B163
  refine R_iload_n o 2 dX7_digest_163 rfl rfl ?_
  refine R_aload_n o 0 dX7_digest_164 rfl rfl ?_
  refine R_getR (a2 := 69) o dX7_digest_165 fl_X7_26 sh_64 (by decide) rfl rf_64_8 ?_
  refine R_iload_n o 1 dX7_digest_168 rfl rfl ?_
  refine R_iald o dX7_digest_169 sh_69 ?_
  refine R_icmp_ge o 194 dX7_digest_170 (by decide) ?_ ?_
  · refine R_aload_n o 0 dX7_digest_173 rfl rfl ?_
    refine R_aload_n o 0 dX7_digest_174 rfl rfl ?_
    refine R_getR (a2 := 70) o dX7_digest_175 fl_X7_29 sh_64 (by decide) rfl rf_64_9 ?_
    refine R_bipush (v := 60) o dX7_digest_178 (by decide) ?_
    refine R_iload_n o 1 dX7_digest_180 rfl rfl ?_
    refine R_imul o dX7_digest_181 ?_
    refine R_iload_n o 2 dX7_digest_182 rfl rfl ?_
    refine R_iadd o dX7_digest_183 ?_
    refine R_iald o dX7_digest_184 sh_70 ?_
    refine K_vh (callV' (As := [.int (h.1 70 ((60 * x1) + x2).toNatClampNeg)]) (rest := []) o dX7_digest_185 lk_X7_273 rfl sh_64 rfl rfl rfl rfl (Nat.le_of_ble_eq_true rfl)) (c_X7_mix g l h (h.1 70 ((60 * x1) + x2).toNatClampNeg)) (fun h185 => ?_)
    refine R_iinc (v := (x2 + 1)) (lv2 := [(0, rA g 64), (1, .int x1), (2, .int (x2 + 1))]) o 2 dX7_digest_188 rfl rfl (by decide) rfl ?_
    refine R_goto o 163 dX7_digest_191 (by decide) ?_
    exact T_some (fun p => p)
  · refine R_drop (lv2 := [(0, rA g 64), (1, .int x1)]) o [0, 1] rfl ?_
    exact T_some (fun p => p)
noncomputable def f_X7_digest_L163 (h : MH) (x1 : Int32) (x2 : Int32) : Option (MH) :=
  lpo (fun s : Int32 × MH => f_X7_digest_B163 s.2 x1 s.1) (x2, h)
theorem t_X7_digest_L163 {g : Gx} {l : Launch} {V : VT} {Rt : Option Value → MH → Prop} (o : Ok g l RX7 cX7_digest 3 4 94 0 V) (rr : ORl cX7_digest V Rt) (h : MH) (x1 : Int32) (x2 : Int32) : T (fun b => V 194 [(0, rA g 64), (1, .int x1)] [] b) (f_X7_digest_L163 h x1 x2) (V 163 [(0, rA g 64), (1, .int x1), (2, .int x2)] [] h) := T_loop (head := fun s : Int32 × MH => V 163 [(0, rA g 64), (1, .int x1), (2, .int s.1)] [] s.2) (fun s => t_X7_digest_B163 o rr s.2 x1 s.1 ) (x2, h)
noncomputable def f_X7_digest_J158_133 (h : MH) (x1 : Int32) (s1 : Int32) : Option ((Int32 × MH) ⊕ (MH)) :=
  Option.bind (f_X7_mix h s1) (fun h158 => Option.bind (f_X7_digest_L163 h158 x1 0) (fun b163 => some (.inl ((x1 + 1), b163))))
set_option maxRecDepth 100000 in
set_option maxHeartbeats 4000000 in
theorem t_X7_digest_J158_133 {g : Gx} {l : Launch} {V : VT} {Rt : Option Value → MH → Prop} (o : Ok g l RX7 cX7_digest 3 4 94 0 V) (rr : ORl cX7_digest V Rt) (h : MH) (x1 : Int32) (s1 : Int32) : T (Sum.elim (fun s => V 133 [(0, rA g 64), (1, .int s.1)] [] s.2) (fun b => V 200 [(0, rA g 64)] [] b)) (f_X7_digest_J158_133  h x1 s1) (V 158 [(0, rA g 64), (1, .int x1)] [.int s1, rA g 64] h) := by
  unfold f_X7_digest_J158_133
  refine K_vh (callV' (As := [.int s1]) (rest := []) o dX7_digest_158 lk_X7_273 rfl sh_64 rfl rfl rfl rfl (Nat.le_of_ble_eq_true rfl)) (c_X7_mix g l h s1) (fun h158 => ?_)
  refine R_iconst (v := 0) o dX7_digest_161 (by decide) ?_
  refine R_istore_n (lv2 := [(0, rA g 64), (1, .int x1), (2, .int 0)]) o dX7_digest_162 rfl (by decide) rfl ?_
  refine T_bind (t_X7_digest_L163 o rr h158 x1 0) (fun b163 => ?_)
  refine R_iinc (v := (x1 + 1)) (lv2 := [(0, rA g 64), (1, .int (x1 + 1))]) o 1 dX7_digest_194 rfl rfl (by decide) rfl ?_
  refine R_goto o 133 dX7_digest_197 (by decide) ?_
  exact T_some (fun p => p)
noncomputable def f_X7_digest_B133 (h : MH) (x1 : Int32) : Option ((Int32 × MH) ⊕ (MH)) :=
  (if x1 < 4 then gd (ix x1 4) ((if (h.1 69 x1.toNatClampNeg) < 0 then f_X7_digest_J158_133 h x1 (-1) else gd (ix x1 4) (f_X7_digest_J158_133 h x1 (h.1 69 x1.toNatClampNeg)))) else some (.inr h))
set_option maxRecDepth 100000 in
set_option maxHeartbeats 4000000 in
theorem t_X7_digest_B133 {g : Gx} {l : Launch} {V : VT} {Rt : Option Value → MH → Prop} (o : Ok g l RX7 cX7_digest 3 4 94 0 V) (rr : ORl cX7_digest V Rt) (h : MH) (x1 : Int32) : T (Sum.elim (fun s => V 133 [(0, rA g 64), (1, .int s.1)] [] s.2) (fun b => V 200 [(0, rA g 64)] [] b)) (f_X7_digest_B133  h x1) (V 133 [(0, rA g 64), (1, .int x1)] [] h) := by
  unfold f_X7_digest_B133
  refine R_iload_n o 1 dX7_digest_133 rfl rfl ?_
  refine R_iconst (v := 4) o dX7_digest_134 (by decide) ?_
  refine R_icmp_ge o 200 dX7_digest_135 (by decide) ?_ ?_
  · refine R_aload_n o 0 dX7_digest_138 rfl rfl ?_
    refine R_aload_n o 0 dX7_digest_139 rfl rfl ?_
    refine R_getR (a2 := 69) o dX7_digest_140 fl_X7_26 sh_64 (by decide) rfl rf_64_8 ?_
    refine R_iload_n o 1 dX7_digest_143 rfl rfl ?_
    refine R_iald o dX7_digest_144 sh_69 ?_
    refine R_if_ge o 152 dX7_digest_145 (by decide) ?_ ?_
    · refine R_iconst (v := (-1)) o dX7_digest_148 (by decide) ?_
      refine R_goto o 158 dX7_digest_149 (by decide) ?_
      exact t_X7_digest_J158_133 o rr h x1 (-1)
    · refine R_aload_n o 0 dX7_digest_152 rfl rfl ?_
      refine R_getR (a2 := 69) o dX7_digest_153 fl_X7_26 sh_64 (by decide) rfl rf_64_8 ?_
      refine R_iload_n o 1 dX7_digest_156 rfl rfl ?_
      refine R_iald o dX7_digest_157 sh_69 ?_
      exact t_X7_digest_J158_133 o rr h x1 (h.1 69 x1.toNatClampNeg)
  · refine R_drop (lv2 := [(0, rA g 64)]) o [0] rfl ?_
    exact T_some (fun p => p)
noncomputable def f_X7_digest_L133 (h : MH) (x1 : Int32) : Option (MH) :=
  lpo (fun s : Int32 × MH => f_X7_digest_B133 s.2 s.1) (x1, h)
theorem t_X7_digest_L133 {g : Gx} {l : Launch} {V : VT} {Rt : Option Value → MH → Prop} (o : Ok g l RX7 cX7_digest 3 4 94 0 V) (rr : ORl cX7_digest V Rt) (h : MH) (x1 : Int32) : T (fun b => V 200 [(0, rA g 64)] [] b) (f_X7_digest_L133 h x1) (V 133 [(0, rA g 64), (1, .int x1)] [] h) := T_loop (head := fun s : Int32 × MH => V 133 [(0, rA g 64), (1, .int s.1)] [] s.2) (fun s => t_X7_digest_B133 o rr s.2 s.1 ) (x1, h)
noncomputable def f_X7_digest (h : MH)  : Option (Int64 × MH) :=
  nm (uL h 64 31 17) (fun h4 => Option.bind (f_X7_digest_L9 h4 0) (fun b9 => Option.bind (f_X7_digest_L31 b9 0) (fun b31 => Option.bind (f_X7_digest_L50 b31 0) (fun b50 => Option.bind (f_X7_digest_L68 b50 0) (fun b68 => Option.bind (f_X7_digest_L133 b68 0) (fun b133 => some ((b133.2.1 64 31), b133)))))))
set_option maxRecDepth 100000 in
set_option maxHeartbeats 4000000 in
theorem b_X7_digest {g : Gx} {l : Launch} {V : VT} {Rt : Option Value → MH → Prop} (o : Ok g l RX7 cX7_digest 3 4 94 0 V) (rr : ORl cX7_digest V Rt) (h : MH)  : T (fun r => Rt (some (.long r.1)) r.2) (f_X7_digest h) (V 0 [(0, rA g 64)] [] h) := by
  unfold f_X7_digest
  refine R_aload_n o 0 dX7_digest_0 rfl rfl ?_
  refine R_ldc2 (v := 17) o dX7_digest_1 kc_X7_276 ?_
  refine R_putL o dX7_digest_4 fp_X7_270 sh_64 (by decide) rfl ?_
  refine R_nmH (fun h4 => ?_)
  refine R_iconst (v := 0) o dX7_digest_7 (by decide) ?_
  refine R_istore_n (lv2 := [(0, rA g 64), (1, .int 0)]) o dX7_digest_8 rfl (by decide) rfl ?_
  refine T_bind (t_X7_digest_L9 o rr h4 0) (fun b9 => ?_)
  refine R_iconst (v := 0) o dX7_digest_29 (by decide) ?_
  refine R_istore_n (lv2 := [(0, rA g 64), (1, .int 0)]) o dX7_digest_30 rfl (by decide) rfl ?_
  refine T_bind (t_X7_digest_L31 o rr b9 0) (fun b31 => ?_)
  refine R_iconst (v := 0) o dX7_digest_48 (by decide) ?_
  refine R_istore_n (lv2 := [(0, rA g 64), (1, .int 0)]) o dX7_digest_49 rfl (by decide) rfl ?_
  refine T_bind (t_X7_digest_L50 o rr b31 0) (fun b50 => ?_)
  refine R_iconst (v := 0) o dX7_digest_66 (by decide) ?_
  refine R_istore_n (lv2 := [(0, rA g 64), (1, .int 0)]) o dX7_digest_67 rfl (by decide) rfl ?_
  refine T_bind (t_X7_digest_L68 o rr b50 0) (fun b68 => ?_)
  refine R_iconst (v := 0) o dX7_digest_131 (by decide) ?_
  refine R_istore_n (lv2 := [(0, rA g 64), (1, .int 0)]) o dX7_digest_132 rfl (by decide) rfl ?_
  refine T_bind (t_X7_digest_L133 o rr b68 0) (fun b133 => ?_)
  refine R_aload_n o 0 dX7_digest_200 rfl rfl ?_
  refine R_getL o dX7_digest_201 fl_X7_270 sh_64 (by decide) rfl ?_
  exact T_some (fun p => rr _ _ _ _ dX7_digest_204 p)
theorem c_X7_digest (g : Gx) (l : Launch) (h : MH)  (r : (Int64 × MH)) (e : f_X7_digest h = some r) : Ctr g l yX7_digest cX7_digest 3 (some .long) 4 94 0 [rA g 64] h (some (.long r.1)) r.2 := mkCl (plainFor_of_name (by decide)) (Nat.le_of_ble_eq_true rfl) (fun V Rt o rr p => b_X7_digest o rr h   r e p)
