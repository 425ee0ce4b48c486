/-! X6_rank -/
noncomputable def f_X6_rank_B49 (h : MH) (a2 : Nat) (l3 : Int64) (x5 : Int32) : Option ((Int64 × Int32) ⊕ (Int64)) :=
  (if x5 < (h.1 a2 3) then Option.bind (f_X1_countLessBehind h a2 x5) (fun r71 => nm (lrm ((l3 * (Int32.toInt64 ((h.1 a2 3) - x5))) + (Int32.toInt64 r71)) 1000003) (fun v80 => some (.inl (v80, (x5 + 1))))) else some (.inr l3))
set_option maxRecDepth 100000 in
set_option maxHeartbeats 4000000 in
theorem t_X6_rank_B49 {g : Gx} {l : Launch} {V : VT} {Rt : Option Value → MH → Prop} (o : Ok g l RX6 cX6_rank 6 3 65 0 V) (rr : ORi cX6_rank V Rt) (h : MH) (a2 : Nat) (l3 : Int64) (x5 : Int32) (ha2 : shp a2 = (1, 0)) : T (Sum.elim (fun s => V 49 [(2, rA g a2), (3, .long s.1), (5, .int s.2)] [] h) (fun b => V 87 [(3, .long b)] [] h)) (f_X6_rank_B49  h a2 l3 x5) (V 49 [(2, rA g a2), (3, .long l3), (5, .int x5)] [] h) := by
  unfold f_X6_rank_B49
  refine R_iload o 2 dX6_rank_49 rfl ?_
  refine R_aload_n o 0 dX6_rank_51 rfl rfl ?_
  refine R_getI o dX6_rank_52 fl_X6_151 ha2 (by decide) rfl ?_
  refine R_icmp_ge o 87 dX6_rank_55 (by decide) ?_ ?_
  · refine R_lload_n o 1 dX6_rank_58 rfl rfl ?_
    refine R_aload_n o 0 dX6_rank_59 rfl rfl ?_
    refine R_getI o dX6_rank_60 fl_X6_151 ha2 (by decide) rfl ?_
    refine R_iload o 2 dX6_rank_63 rfl ?_
    refine R_isub o dX6_rank_65 ?_
    refine R_i2l o dX6_rank_66 ?_
    refine R_lmul o dX6_rank_67 ?_
    refine R_aload_n o 0 dX6_rank_68 rfl rfl ?_
    refine R_iload o 2 dX6_rank_69 rfl ?_
    refine K_i (callV' (As := [.int x5]) (rest := [.long (l3 * (Int32.toInt64 ((h.1 a2 3) - x5)))]) o dX6_rank_71 lk_X6_325 rfl ha2 rfl rfl rfl rfl (Nat.le_of_ble_eq_true rfl)) (c_X1_countLessBehind g l h a2 x5 ha2) (fun r71 => ?_)
    refine R_i2l o dX6_rank_74 ?_
    refine R_ladd o dX6_rank_75 ?_
    refine R_ldc2 (v := 1000003) o dX6_rank_76 kc_X6_328 ?_
    refine R_lrem_c o dX6_rank_79 (by decide) ?_
    refine R_nmL (fun v80 => ?_)
    refine R_lstore_n (lv2 := [(2, rA g a2), (3, .long v80), (5, .int x5)]) o dX6_rank_80 rfl (by decide) rfl ?_
    refine R_iinc (v := (x5 + 1)) (lv2 := [(2, rA g a2), (3, .long v80), (5, .int (x5 + 1))]) o 2 dX6_rank_81 rfl rfl (by decide) rfl ?_
    refine R_goto o 49 dX6_rank_84 (by decide) ?_
    exact T_some (fun p => p)
  · refine R_drop (lv2 := [(3, .long l3)]) o [1] rfl ?_
    exact T_some (fun p => p)
noncomputable def f_X6_rank_L49 (h : MH) (a2 : Nat) (l3 : Int64) (x5 : Int32) : Option (Int64) :=
  lpo (fun s : Int64 × Int32 => f_X6_rank_B49 h a2 s.1 s.2) (l3, x5)
theorem t_X6_rank_L49 {g : Gx} {l : Launch} {V : VT} {Rt : Option Value → MH → Prop} (o : Ok g l RX6 cX6_rank 6 3 65 0 V) (rr : ORi cX6_rank V Rt) (h : MH) (a2 : Nat) (l3 : Int64) (x5 : Int32) (ha2 : shp a2 = (1, 0)) : T (fun b => V 87 [(3, .long b)] [] h) (f_X6_rank_L49 h a2 l3 x5) (V 49 [(2, rA g a2), (3, .long l3), (5, .int x5)] [] h) := T_loop (head := fun s : Int64 × Int32 => V 49 [(2, rA g a2), (3, .long s.1), (5, .int s.2)] [] h) (fun s => t_X6_rank_B49 o rr h a2 s.1 s.2 ha2) (l3, x5)
noncomputable def f_X6_rank (h : MH) (x1 : Int32) : Option (Int32 × MH) :=
  Option.bind (f_X6_isCover h x1) (fun r2 => (if r2 = true then gd (ix x1 6) (Option.bind (f_X1_isMissing h (rf 3 x1.toNatClampNeg)) (fun r18 => (if r18 = true then bnd2 (f_X6_found h 1) (fun r26 h26 => some (r26, h26)) else (if (h.1 (rf 3 x1.toNatClampNeg) 2) = 4 then Option.bind (f_X6_rank_L49 h (rf 3 x1.toNatClampNeg) 0 0) (fun b49 => some ((Int64.toInt32 b49), h)) else bnd2 (f_X6_found h 3) (fun r40 h40 => some (r40, h40)))))) else some ((-1), h)))
set_option maxRecDepth 100000 in
set_option maxHeartbeats 4000000 in
theorem b_X6_rank {g : Gx} {l : Launch} {V : VT} {Rt : Option Value → MH → Prop} (o : Ok g l RX6 cX6_rank 6 3 65 0 V) (rr : ORi cX6_rank V Rt) (h : MH) (x1 : Int32) : T (fun r => Rt (some (.int r.1)) r.2) (f_X6_rank h x1) (V 0 [(0, rA g 0), (1, .int x1)] [] h) := by
  unfold f_X6_rank
  refine R_aload_n o 0 dX6_rank_0 rfl rfl ?_
  refine R_iload_n o 1 dX6_rank_1 rfl rfl ?_
  refine K_z (callV' (As := [.int x1]) (rest := []) o dX6_rank_2 lk_X6_124 rfl sh_0 rfl rfl rfl rfl (Nat.le_of_ble_eq_true rfl)) (c_X6_isCover g l h x1) (fun r2 => ?_)
  refine R_bif_ne o 10 dX6_rank_5 (by decide) ?_ ?_
  · refine R_aload_n o 0 dX6_rank_10 rfl rfl ?_
    refine R_getR (a2 := 3) o dX6_rank_11 fl_X6_20 sh_0 (by decide) rfl rf_0_2 ?_
    refine R_iload_n o 1 dX6_rank_14 rfl rfl ?_
    refine R_aald o dX6_rank_15 sh_3 (Or.inr (Or.inl rfl)) (fun q15 => ?_)
    refine R_astore_n (lv2 := [(0, rA g 0), (1, .int x1), (2, rA g (rf 3 x1.toNatClampNeg))]) o dX6_rank_16 rfl (by decide) rfl ?_
    refine R_aload_n o 2 dX6_rank_17 rfl rfl ?_
    refine K_z (callV' (As := []) (rest := []) o dX6_rank_18 lk_X6_142 rfl (sh_el14 sh_3 q15) rfl rfl rfl rfl (Nat.le_of_ble_eq_true rfl)) (c_X1_isMissing g l h (rf 3 x1.toNatClampNeg) (sh_el14 sh_3 q15)) (fun r18 => ?_)
    refine R_bif_eq o 30 dX6_rank_21 (by decide) ?_ ?_
    · refine R_aload_n o 0 dX6_rank_24 rfl rfl ?_
      refine R_iconst (v := 1) o dX6_rank_25 (by decide) ?_
      refine K_ih (callV' (As := [.int 1]) (rest := []) o dX6_rank_26 lk_X6_77 rfl sh_0 rfl rfl rfl rfl (Nat.le_of_ble_eq_true rfl)) (c_X6_found g l h 1) (fun r26 h26 => ?_)
      exact T_some (fun p => rr _ _ _ _ dX6_rank_29 p)
    · refine R_aload_n o 2 dX6_rank_30 rfl rfl ?_
      refine R_getI o dX6_rank_31 fl_X6_160 (sh_el14 sh_3 q15) (by decide) rfl ?_
      refine R_iconst (v := 4) o dX6_rank_34 (by decide) ?_
      refine R_icmp_eq o 44 dX6_rank_35 (by decide) ?_ ?_
      · refine R_lconst (v := 0) o dX6_rank_44 (by decide) ?_
        refine R_lstore_n (lv2 := [(0, rA g 0), (1, .int x1), (2, rA g (rf 3 x1.toNatClampNeg)), (3, .long 0)]) o dX6_rank_45 rfl (by decide) rfl ?_
        refine R_iconst (v := 0) o dX6_rank_46 (by decide) ?_
        refine R_istore (lv2 := [(0, rA g 0), (1, .int x1), (2, rA g (rf 3 x1.toNatClampNeg)), (3, .long 0), (5, .int 0)]) o dX6_rank_47 (by decide) rfl ?_
        refine R_drop (lv2 := [(2, rA g (rf 3 x1.toNatClampNeg)), (3, .long 0), (5, .int 0)]) o [2, 3, 4] rfl ?_
        refine T_bind (t_X6_rank_L49 o rr h (rf 3 x1.toNatClampNeg) 0 0 (sh_el14 sh_3 q15)) (fun b49 => ?_)
        refine R_lload_n o 0 dX6_rank_87 rfl rfl ?_
        refine R_l2i o dX6_rank_88 ?_
        exact T_some (fun p => rr _ _ _ _ dX6_rank_89 p)
      · refine R_aload_n o 0 dX6_rank_38 rfl rfl ?_
        refine R_iconst (v := 3) o dX6_rank_39 (by decide) ?_
        refine K_ih (callV' (As := [.int 3]) (rest := []) o dX6_rank_40 lk_X6_77 rfl sh_0 rfl rfl rfl rfl (Nat.le_of_ble_eq_true rfl)) (c_X6_found g l h 3) (fun r40 h40 => ?_)
        exact T_some (fun p => rr _ _ _ _ dX6_rank_43 p)
  · refine R_iconst (v := (-1)) o dX6_rank_8 (by decide) ?_
    exact T_some (fun p => rr _ _ _ _ dX6_rank_9 p)
theorem c_X6_rank (g : Gx) (l : Launch) (h : MH) (x1 : Int32) (r : (Int32 × MH)) (e : f_X6_rank h x1 = some r) : Ctr g l yX6_rank cX6_rank 6 (some .int) 3 65 0 [rA g 0, .int x1] h (some (.int r.1)) r.2 := mkCi (plainFor_of_name (by decide)) (Nat.le_of_ble_eq_true rfl) (fun V Rt o rr p => b_X6_rank o rr h x1  r e p)
/-! X6_countOrders -/
noncomputable def f_X6_countOrders_B4 (x0 : Int32) (x1 : Int32) (x2 : Int32) : Option ((Int32 × Int32) ⊕ (Int32)) :=
  (if x0 < x2 then some (.inr x1) else (if 10 < x2 then some (.inr x1) else nm (x1 * x2) (fun v18 => some (.inl (v18, (x2 + 1))))))
set_option maxRecDepth 100000 in
set_option maxHeartbeats 4000000 in
theorem t_X6_countOrders_B4 {g : Gx} {l : Launch} {V : VT} {Rt : Option Value → MH → Prop} (o : Ok g l RX6 cX6_countOrders 3 0 0 0 V) (rr : ORi cX6_countOrders V Rt) (h : MH) (x0 : Int32) (x1 : Int32) (x2 : Int32) : T (Sum.elim (fun s => V 4 [(0, .int x0), (1, .int s.1), (2, .int s.2)] [] h) (fun b => V 25 [(1, .int b)] [] h)) (f_X6_countOrders_B4  x0 x1 x2) (V 4 [(0, .int x0), (1, .int x1), (2, .int x2)] [] h) := by
  unfold f_X6_countOrders_B4
  refine R_iload_n o 2 dX6_countOrders_4 rfl rfl ?_
  refine R_iload_n o 0 dX6_countOrders_5 rfl rfl ?_
  refine R_icmp_gt o 25 dX6_countOrders_6 (by decide) ?_ ?_
  · refine R_drop (lv2 := [(1, .int x1)]) o [1] rfl ?_
    exact T_some (fun p => p)
  · refine R_iload_n o 2 dX6_countOrders_9 rfl rfl ?_
    refine R_bipush (v := 10) o dX6_countOrders_10 (by decide) ?_
    refine R_icmp_gt o 25 dX6_countOrders_12 (by decide) ?_ ?_
    · refine R_drop (lv2 := [(1, .int x1)]) o [1] rfl ?_
      exact T_some (fun p => p)
    · refine R_iload_n o 1 dX6_countOrders_15 rfl rfl ?_
      refine R_iload_n o 2 dX6_countOrders_16 rfl rfl ?_
      refine R_imul o dX6_countOrders_17 ?_
      refine R_nmI (fun v18 => ?_)
      refine R_istore_n (lv2 := [(0, .int x0), (1, .int v18), (2, .int x2)]) o dX6_countOrders_18 rfl (by decide) rfl ?_
      refine R_iinc (v := (x2 + 1)) (lv2 := [(0, .int x0), (1, .int v18), (2, .int (x2 + 1))]) o 2 dX6_countOrders_19 rfl rfl (by decide) rfl ?_
      refine R_goto o 4 dX6_countOrders_22 (by decide) ?_
      exact T_some (fun p => p)
noncomputable def f_X6_countOrders_L4 (x0 : Int32) (x1 : Int32) (x2 : Int32) : Option (Int32) :=
  lpo (fun s : Int32 × Int32 => f_X6_countOrders_B4  x0 s.1 s.2) (x1, x2)
theorem t_X6_countOrders_L4 {g : Gx} {l : Launch} {V : VT} {Rt : Option Value → MH → Prop} (o : Ok g l RX6 cX6_countOrders 3 0 0 0 V) (rr : ORi cX6_countOrders V Rt) (h : MH) (x0 : Int32) (x1 : Int32) (x2 : Int32) : T (fun b => V 25 [(1, .int b)] [] h) (f_X6_countOrders_L4 x0 x1 x2) (V 4 [(0, .int x0), (1, .int x1), (2, .int x2)] [] h) := T_loop (head := fun s : Int32 × Int32 => V 4 [(0, .int x0), (1, .int s.1), (2, .int s.2)] [] h) (fun s => t_X6_countOrders_B4 o rr h x0 s.1 s.2 ) (x1, x2)
noncomputable def f_X6_countOrders (x0 : Int32) : Option Int32 :=
  Option.bind (f_X6_countOrders_L4 x0 1 2) (fun b4 => some b4)
set_option maxRecDepth 100000 in
set_option maxHeartbeats 4000000 in
theorem b_X6_countOrders {g : Gx} {l : Launch} {V : VT} {Rt : Option Value → MH → Prop} (o : Ok g l RX6 cX6_countOrders 3 0 0 0 V) (rr : ORi cX6_countOrders V Rt) (h : MH) (x0 : Int32) : T (fun r => Rt (some (.int r)) h) (f_X6_countOrders  x0) (V 0 [(0, .int x0)] [] h) := by
  unfold f_X6_countOrders
  refine R_iconst (v := 1) o dX6_countOrders_0 (by decide) ?_
  refine R_istore_n (lv2 := [(0, .int x0), (1, .int 1)]) o dX6_countOrders_1 rfl (by decide) rfl ?_
  refine R_iconst (v := 2) o dX6_countOrders_2 (by decide) ?_
  refine R_istore_n (lv2 := [(0, .int x0), (1, .int 1), (2, .int 2)]) o dX6_countOrders_3 rfl (by decide) rfl ?_
  refine T_bind (t_X6_countOrders_L4 o rr h x0 1 2) (fun b4 => ?_)
  refine R_iload_n o 0 dX6_countOrders_25 rfl rfl ?_
  exact T_some (fun p => rr _ _ _ _ dX6_countOrders_26 p)
theorem c_X6_countOrders (g : Gx) (l : Launch) (h : MH) (x0 : Int32) (r : Int32) (e : f_X6_countOrders  x0 = some r) : Ctr g l yX6_countOrders cX6_countOrders 3 (some .int) 0 0 0 [.int x0] h (some (.int r)) h := mkCi (plainFor_of_name (by decide)) (Nat.le_of_ble_eq_true rfl) (fun V Rt o rr p => b_X6_countOrders o rr h x0  r e p)
/-! X6_arrange -/
noncomputable def f_X6_arrange_B87 (h : MH) (a3 : Nat) (x4 : Int32) (x5 : Int32) : Option ((Int32 × Int32 × MH) ⊕ (MH)) :=
  (if x5 < (h.1 a3 3) then Option.bind (f_X6_countOrders (((h.1 a3 3) - 1) - x5)) (fun r106 => Option.bind (f_J9_max_7cf53 1 r106) (fun r109 => gd (nz r109) (Option.bind (f_X1_bringForward h a3 (x5 + (x4 / r109)) x5) (fun h125 => gd (nz r109) (nm (irm x4 r109) (fun v133 => some (.inl (v133, (x5 + 1), h125)))))))) else some (.inr h))
set_option maxRecDepth 100000 in
set_option maxHeartbeats 4000000 in
theorem t_X6_arrange_B87 {g : Gx} {l : Launch} {V : VT} {Rt : Option Value → MH → Prop} (o : Ok g l RX6 cX6_arrange 7 3 72 0 V) (rr : ORi cX6_arrange V Rt) (h : MH) (a3 : Nat) (x4 : Int32) (x5 : Int32) (ha3 : shp a3 = (1, 0)) : T (Sum.elim (fun s => V 87 [(3, rA g a3), (4, .int s.1), (5, .int s.2.1)] [] s.2.2) (fun b => V 141 [] [] b)) (f_X6_arrange_B87  h a3 x4 x5) (V 87 [(3, rA g a3), (4, .int x4), (5, .int x5)] [] h) := by
  unfold f_X6_arrange_B87
  refine R_iload o 2 dX6_arrange_87 rfl ?_
  refine R_aload_n o 0 dX6_arrange_89 rfl rfl ?_
  refine R_getI o dX6_arrange_90 fl_X6_151 ha3 (by decide) rfl ?_
  refine R_icmp_ge o 141 dX6_arrange_93 (by decide) ?_ ?_
  · refine R_iconst (v := 1) o dX6_arrange_96 (by decide) ?_
    refine R_aload_n o 0 dX6_arrange_97 rfl rfl ?_
    refine R_getI o dX6_arrange_98 fl_X6_151 ha3 (by decide) rfl ?_
    refine R_iconst (v := 1) o dX6_arrange_101 (by decide) ?_
    refine R_isub o dX6_arrange_102 ?_
    refine R_iload o 2 dX6_arrange_103 rfl ?_
    refine R_isub o dX6_arrange_105 ?_
    refine K_i (callS' (av := [.int (((h.1 a3 3) - 1) - x5)]) (rest := [.int 1]) o dX6_arrange_106 lk_X6_330 rfl rfl rfl (Nat.le_of_ble_eq_true rfl)) (c_X6_countOrders g l h (((h.1 a3 3) - 1) - x5)) (fun r106 => ?_)
    refine K_i (callS' (av := [.int 1, .int r106]) (rest := []) o dX6_arrange_109 lk_X6_267 rfl rfl rfl (Nat.le_of_ble_eq_true rfl)) (c_J9_max_7cf53 g l h 1 r106) (fun r109 => ?_)
    refine R_istore (lv2 := [(3, rA g a3), (4, .int x4), (5, .int x5), (6, .int r109)]) o dX6_arrange_112 (by decide) rfl ?_
    refine R_aload_n o 0 dX6_arrange_114 rfl rfl ?_
    refine R_iload o 2 dX6_arrange_115 rfl ?_
    refine R_iload o 1 dX6_arrange_117 rfl ?_
    refine R_iload o 3 dX6_arrange_119 rfl ?_
    refine R_idiv o dX6_arrange_121 ?_
    refine R_iadd o dX6_arrange_122 ?_
    refine R_iload o 2 dX6_arrange_123 rfl ?_
    refine K_vh (callV' (As := [.int (x5 + (x4 / r109)), .int x5]) (rest := []) o dX6_arrange_125 lk_X6_336 rfl ha3 rfl rfl rfl rfl (Nat.le_of_ble_eq_true rfl)) (c_X1_bringForward g l h a3 (x5 + (x4 / r109)) x5 ha3) (fun h125 => ?_)
    refine R_iload o 1 dX6_arrange_128 rfl ?_
    refine R_iload o 3 dX6_arrange_130 rfl ?_
    refine R_irem o dX6_arrange_132 ?_
    refine R_nmI (fun v133 => ?_)
    refine R_istore (lv2 := [(3, rA g a3), (4, .int v133), (5, .int x5), (6, .int r109)]) o dX6_arrange_133 (by decide) rfl ?_
    refine R_iinc (v := (x5 + 1)) (lv2 := [(3, rA g a3), (4, .int v133), (5, .int (x5 + 1)), (6, .int r109)]) o 2 dX6_arrange_135 rfl rfl (by decide) rfl ?_
    refine R_goto o 87 dX6_arrange_138 (by decide) ?_
    refine R_drop (lv2 := [(3, rA g a3), (4, .int v133), (5, .int (x5 + 1))]) o [0, 1, 2] rfl ?_
    exact T_some (fun p => p)
  · refine R_drop (lv2 := []) o [] rfl ?_
    exact T_some (fun p => p)
noncomputable def f_X6_arrange_L87 (h : MH) (a3 : Nat) (x4 : Int32) (x5 : Int32) : Option (MH) :=
  lpo (fun s : Int32 × Int32 × MH => f_X6_arrange_B87 s.2.2 a3 s.1 s.2.1) (x4, x5, h)
theorem t_X6_arrange_L87 {g : Gx} {l : Launch} {V : VT} {Rt : Option Value → MH → Prop} (o : Ok g l RX6 cX6_arrange 7 3 72 0 V) (rr : ORi cX6_arrange V Rt) (h : MH) (a3 : Nat) (x4 : Int32) (x5 : Int32) (ha3 : shp a3 = (1, 0)) : T (fun b => V 141 [] [] b) (f_X6_arrange_L87 h a3 x4 x5) (V 87 [(3, rA g a3), (4, .int x4), (5, .int x5)] [] h) := T_loop (head := fun s : Int32 × Int32 × MH => V 87 [(3, rA g a3), (4, .int s.1), (5, .int s.2.1)] [] s.2.2) (fun s => t_X6_arrange_B87 o rr s.2.2 a3 s.1 s.2.1 ha3) (x4, x5, h)
noncomputable def f_X6_arrange (h : MH) (x1 : Int32) (x2 : Int32) : Option (Int32 × MH) :=
  Option.bind (f_X6_isCover h x1) (fun r2 => (if r2 = true then (if x2 < 0 then some ((-1), h) else gd (ix x1 6) (Option.bind (f_X1_isMissing h (rf 3 x1.toNatClampNeg)) (fun r22 => (if r22 = true then bnd2 (f_X6_found h 1) (fun r30 h30 => some (r30, h30)) else (if (h.1 (rf 3 x1.toNatClampNeg) 2) = 4 then (if 10 < (h.1 (rf 3 x1.toNatClampNeg) 3) then some ((-6), h) else Option.bind (f_X6_countOrders (h.1 (rf 3 x1.toNatClampNeg) 3)) (fun r65 => (if x2 < r65 then Option.bind (f_X1_sort h (rf 3 x1.toNatClampNeg)) (fun h78 => Option.bind (f_X6_arrange_L87 h78 (rf 3 x1.toNatClampNeg) x2 0) (fun b87 => some (1, b87))) else bnd2 (f_X6_found h 2) (fun r73 h73 => some (r73, h73))))) else bnd2 (f_X6_found h 3) (fun r44 h44 => some (r44, h44))))))) else some ((-1), h)))
set_option maxRecDepth 100000 in
set_option maxHeartbeats 4000000 in
theorem b_X6_arrange {g : Gx} {l : Launch} {V : VT} {Rt : Option Value → MH → Prop} (o : Ok g l RX6 cX6_arrange 7 3 72 0 V) (rr : ORi cX6_arrange V Rt) (h : MH) (x1 : Int32) (x2 : Int32) : T (fun r => Rt (some (.int r.1)) r.2) (f_X6_arrange h x1 x2) (V 0 [(0, rA g 0), (1, .int x1), (2, .int x2)] [] h) := by
  unfold f_X6_arrange
  refine R_aload_n o 0 dX6_arrange_0 rfl rfl ?_
  refine R_iload_n o 1 dX6_arrange_1 rfl rfl ?_
  refine K_z (callV' (As := [.int x1]) (rest := []) o dX6_arrange_2 lk_X6_124 rfl sh_0 rfl rfl rfl rfl (Nat.le_of_ble_eq_true rfl)) (c_X6_isCover g l h x1) (fun r2 => ?_)
  refine R_bif_eq o 12 dX6_arrange_5 (by decide) ?_ ?_
  · refine R_iload_n o 2 dX6_arrange_8 rfl rfl ?_
    refine R_if_ge o 14 dX6_arrange_9 (by decide) ?_ ?_
    · refine R_iconst (v := (-1)) o dX6_arrange_12 (by decide) ?_
      exact T_some (fun p => rr _ _ _ _ dX6_arrange_13 p)
    · refine R_aload_n o 0 dX6_arrange_14 rfl rfl ?_
      refine R_getR (a2 := 3) o dX6_arrange_15 fl_X6_20 sh_0 (by decide) rfl rf_0_2 ?_
      refine R_iload_n o 1 dX6_arrange_18 rfl rfl ?_
      refine R_aald o dX6_arrange_19 sh_3 (Or.inr (Or.inl rfl)) (fun q19 => ?_)
      refine R_astore_n (lv2 := [(0, rA g 0), (1, .int x1), (2, .int x2), (3, rA g (rf 3 x1.toNatClampNeg))]) o dX6_arrange_20 rfl (by decide) rfl ?_
      refine R_aload_n o 3 dX6_arrange_21 rfl rfl ?_
      refine K_z (callV' (As := []) (rest := []) o dX6_arrange_22 lk_X6_142 rfl (sh_el14 sh_3 q19) rfl rfl rfl rfl (Nat.le_of_ble_eq_true rfl)) (c_X1_isMissing g l h (rf 3 x1.toNatClampNeg) (sh_el14 sh_3 q19)) (fun r22 => ?_)
      refine R_bif_eq o 34 dX6_arrange_25 (by decide) ?_ ?_
      · refine R_aload_n o 0 dX6_arrange_28 rfl rfl ?_
        refine R_iconst (v := 1) o dX6_arrange_29 (by decide) ?_
        refine K_ih (callV' (As := [.int 1]) (rest := []) o dX6_arrange_30 lk_X6_77 rfl sh_0 rfl rfl rfl rfl (Nat.le_of_ble_eq_true rfl)) (c_X6_found g l h 1) (fun r30 h30 => ?_)
        exact T_some (fun p => rr _ _ _ _ dX6_arrange_33 p)
      · refine R_aload_n o 3 dX6_arrange_34 rfl rfl ?_
        refine R_getI o dX6_arrange_35 fl_X6_160 (sh_el14 sh_3 q19) (by decide) rfl ?_
        refine R_iconst (v := 4) o dX6_arrange_38 (by decide) ?_
        refine R_icmp_eq o 48 dX6_arrange_39 (by decide) ?_ ?_
        · refine R_aload_n o 3 dX6_arrange_48 rfl rfl ?_
          refine R_getI o dX6_arrange_49 fl_X6_151 (sh_el14 sh_3 q19) (by decide) rfl ?_
          refine R_bipush (v := 10) o dX6_arrange_52 (by decide) ?_
          refine R_icmp_le o 60 dX6_arrange_54 (by decide) ?_ ?_
          · refine R_bipush (v := (-6)) o dX6_arrange_57 (by decide) ?_
            exact T_some (fun p => rr _ _ _ _ dX6_arrange_59 p)
          · refine R_iload_n o 2 dX6_arrange_60 rfl rfl ?_
            refine R_aload_n o 3 dX6_arrange_61 rfl rfl ?_
            refine R_getI o dX6_arrange_62 fl_X6_151 (sh_el14 sh_3 q19) (by decide) rfl ?_
            refine K_i (callS' (av := [.int (h.1 (rf 3 x1.toNatClampNeg) 3)]) (rest := [.int x2]) o dX6_arrange_65 lk_X6_330 rfl rfl rfl (Nat.le_of_ble_eq_true rfl)) (c_X6_countOrders g l h (h.1 (rf 3 x1.toNatClampNeg) 3)) (fun r65 => ?_)
            refine R_icmp_lt o 77 dX6_arrange_68 (by decide) ?_ ?_
            · refine R_aload_n o 3 dX6_arrange_77 rfl rfl ?_
              refine K_vh (callV' (As := []) (rest := []) o dX6_arrange_78 lk_X6_333 rfl (sh_el14 sh_3 q19) rfl rfl rfl rfl (Nat.le_of_ble_eq_true rfl)) (c_X1_sort g l h (rf 3 x1.toNatClampNeg) (sh_el14 sh_3 q19)) (fun h78 => ?_)
              refine R_iload_n o 2 dX6_arrange_81 rfl rfl ?_
              refine R_istore (lv2 := [(0, rA g 0), (1, .int x1), (2, .int x2), (3, rA g (rf 3 x1.toNatClampNeg)), (4, .int x2)]) o dX6_arrange_82 (by decide) rfl ?_
              refine R_iconst (v := 0) o dX6_arrange_84 (by decide) ?_
              refine R_istore (lv2 := [(0, rA g 0), (1, .int x1), (2, .int x2), (3, rA g (rf 3 x1.toNatClampNeg)), (4, .int x2), (5, .int 0)]) o dX6_arrange_85 (by decide) rfl ?_
              refine R_drop (lv2 := [(3, rA g (rf 3 x1.toNatClampNeg)), (4, .int x2), (5, .int 0)]) o [3, 4, 5] rfl ?_
              refine T_bind (t_X6_arrange_L87 o rr h78 (rf 3 x1.toNatClampNeg) x2 0 (sh_el14 sh_3 q19)) (fun b87 => ?_)
              refine R_iconst (v := 1) o dX6_arrange_141 (by decide) ?_
              exact T_some (fun p => rr _ _ _ _ dX6_arrange_142 p)
            · refine R_aload_n o 0 dX6_arrange_71 rfl rfl ?_
              refine R_iconst (v := 2) o dX6_arrange_72 (by decide) ?_
              refine K_ih (callV' (As := [.int 2]) (rest := []) o dX6_arrange_73 lk_X6_77 rfl sh_0 rfl rfl rfl rfl (Nat.le_of_ble_eq_true rfl)) (c_X6_found g l h 2) (fun r73 h73 => ?_)
              exact T_some (fun p => rr _ _ _ _ dX6_arrange_76 p)
        · refine R_aload_n o 0 dX6_arrange_42 rfl rfl ?_
          refine R_iconst (v := 3) o dX6_arrange_43 (by decide) ?_
          refine K_ih (callV' (As := [.int 3]) (rest := []) o dX6_arrange_44 lk_X6_77 rfl sh_0 rfl rfl rfl rfl (Nat.le_of_ble_eq_true rfl)) (c_X6_found g l h 3) (fun r44 h44 => ?_)
          exact T_some (fun p => rr _ _ _ _ dX6_arrange_47 p)
  · refine R_iconst (v := (-1)) o dX6_arrange_12 (by decide) ?_
    exact T_some (fun p => rr _ _ _ _ dX6_arrange_13 p)
theorem c_X6_arrange (g : Gx) (l : Launch) (h : MH) (x1 : Int32) (x2 : Int32) (r : (Int32 × MH)) (e : f_X6_arrange h x1 x2 = some r) : Ctr g l yX6_arrange cX6_arrange 7 (some .int) 3 72 0 [rA g 0, .int x1, .int x2] h (some (.int r.1)) r.2 := mkCi (plainFor_of_name (by decide)) (Nat.le_of_ble_eq_true rfl) (fun V Rt o rr p => b_X6_arrange o rr h x1 x2  r e p)
/-! X6_asked -/
noncomputable def f_X6_asked (h : MH)  : Option Int32 :=
  some (h.1 0 9)
set_option maxRecDepth 100000 in
set_option maxHeartbeats 4000000 in
theorem b_X6_asked {g : Gx} {l : Launch} {V : VT} {Rt : Option Value → MH → Prop} (o : Ok g l RX6 cX6_asked 1 0 0 0 V) (rr : ORi cX6_asked V Rt) (h : MH)  : T (fun r => Rt (some (.int r)) h) (f_X6_asked h) (V 0 [(0, rA g 0)] [] h) := by
  unfold f_X6_asked
  refine R_aload_n o 0 dX6_asked_0 rfl rfl ?_
  refine R_getI o dX6_asked_1 fl_X6_61 sh_0 (by decide) rfl ?_
  exact T_some (fun p => rr _ _ _ _ dX6_asked_4 p)
theorem c_X6_asked (g : Gx) (l : Launch) (h : MH)  (r : Int32) (e : f_X6_asked h = some r) : Ctr g l yX6_asked cX6_asked 1 (some .int) 0 0 0 [rA g 0] h (some (.int r)) h := mkCi (plainFor_of_name (by decide)) (Nat.le_of_ble_eq_true rfl) (fun V Rt o rr p => b_X6_asked o rr h   r e p)
/-! X6_upper -/
noncomputable def f_X6_upper (h : MH)  : Option Int64 :=
  some (h.2.1 16 0)
set_option maxRecDepth 100000 in
set_option maxHeartbeats 4000000 in
theorem b_X6_upper {g : Gx} {l : Launch} {V : VT} {Rt : Option Value → MH → Prop} (o : Ok g l RX6 cX6_upper 1 0 0 0 V) (rr : ORl cX6_upper V Rt) (h : MH)  : T (fun r => Rt (some (.long r)) h) (f_X6_upper h) (V 0 [(0, rA g 0)] [] h) := by
  unfold f_X6_upper
  refine R_aload_n o 0 dX6_upper_0 rfl rfl ?_
  refine R_getR (a2 := 16) o dX6_upper_1 fl_X6_57 sh_0 (by decide) rfl rf_0_8 ?_
  refine R_getL o dX6_upper_4 fl_X6_339 sh_16 (by decide) rfl ?_
  exact T_some (fun p => rr _ _ _ _ dX6_upper_7 p)
theorem c_X6_upper (g : Gx) (l : Launch) (h : MH)  (r : Int64) (e : f_X6_upper h = some r) : Ctr g l yX6_upper cX6_upper 1 (some .long) 0 0 0 [rA g 0] h (some (.long r)) h := mkCl (plainFor_of_name (by decide)) (Nat.le_of_ble_eq_true rfl) (fun V Rt o rr p => b_X6_upper o rr h   r e p)
/-! X6_lower -/
noncomputable def f_X6_lower (h : MH)  : Option Int64 :=
  some (h.2.1 16 1)
set_option maxRecDepth 100000 in
set_option maxHeartbeats 4000000 in
theorem b_X6_lower {g : Gx} {l : Launch} {V : VT} {Rt : Option Value → MH → Prop} (o : Ok g l RX6 cX6_lower 1 0 0 0 V) (rr : ORl cX6_lower V Rt) (h : MH)  : T (fun r => Rt (some (.long r)) h) (f_X6_lower h) (V 0 [(0, rA g 0)] [] h) := by
  unfold f_X6_lower
  refine R_aload_n o 0 dX6_lower_0 rfl rfl ?_
  refine R_getR (a2 := 16) o dX6_lower_1 fl_X6_57 sh_0 (by decide) rfl rf_0_8 ?_
  refine R_getL o dX6_lower_4 fl_X6_343 sh_16 (by decide) rfl ?_
  exact T_some (fun p => rr _ _ _ _ dX6_lower_7 p)
theorem c_X6_lower (g : Gx) (l : Launch) (h : MH)  (r : Int64) (e : f_X6_lower h = some r) : Ctr g l yX6_lower cX6_lower 1 (some .long) 0 0 0 [rA g 0] h (some (.long r)) h := mkCl (plainFor_of_name (by decide)) (Nat.le_of_ble_eq_true rfl) (fun V Rt o rr p => b_X6_lower o rr h   r e p)
/-! X6_countThere -/
noncomputable def f_X6_countThere_B10 (h : MH) (x1 : Int32) (a2 : Nat) (n2 : Nat) (x3 : Int32) (x4 : Int32) : Option ((Int32 × Int32) ⊕ (Int32)) :=
  (if x4 < x3 then gd (ix x4 n2) (Option.bind (f_X5_isMissing h (rf a2 x4.toNatClampNeg)) (fun r24 => (if r24 = true then some (.inl (x1, (x4 + 1))) else some (.inl ((x1 + 1), (x4 + 1)))))) else some (.inr x1))
set_option maxRecDepth 100000 in
set_option maxHeartbeats 4000000 in
theorem t_X6_countThere_B10 {g : Gx} {l : Launch} {V : VT} {Rt : Option Value → MH → Prop} (o : Ok g l RX6 cX6_countThere 6 1 20 0 V) (rr : ORi cX6_countThere V Rt) (h : MH) (x1 : Int32) (a2 : Nat) (n2 : Nat) (x3 : Int32) (x4 : Int32) (ha2 : shp a2 = (13, n2)) : T (Sum.elim (fun s => V 10 [(1, .int s.1), (2, rA g a2), (3, .int x3), (4, .int s.2)] [] h) (fun b => V 39 [(1, .int b)] [] h)) (f_X6_countThere_B10  h x1 a2 n2 x3 x4) (V 10 [(1, .int x1), (2, rA g a2), (3, .int x3), (4, .int x4)] [] h) := by
  unfold f_X6_countThere_B10
  refine R_iload o 3 dX6_countThere_10 rfl ?_
  refine R_iload_n o 2 dX6_countThere_12 rfl rfl ?_
  refine R_icmp_ge o 39 dX6_countThere_13 (by decide) ?_ ?_
  · refine R_aload_n o 1 dX6_countThere_16 rfl rfl ?_
    refine R_iload o 3 dX6_countThere_17 rfl ?_
    refine R_aald o dX6_countThere_19 ha2 (Or.inl rfl) (fun q19 => ?_)
    refine R_astore (lv2 := [(1, .int x1), (2, rA g a2), (3, .int x3), (4, .int x4), (5, rA g (rf a2 x4.toNatClampNeg))]) o dX6_countThere_20 (by decide) rfl ?_
    refine R_aload o 4 dX6_countThere_22 rfl ?_
    refine K_z (callV' (As := []) (rest := []) o dX6_countThere_24 lk_X6_85 rfl (sh_el13 ha2 q19) rfl rfl rfl rfl (Nat.le_of_ble_eq_true rfl)) (c_X5_isMissing g l h (rf a2 x4.toNatClampNeg) (sh_el13 ha2 q19)) (fun r24 => ?_)
    refine R_bif_ne o 33 dX6_countThere_27 (by decide) ?_ ?_
    · refine R_iinc (v := (x4 + 1)) (lv2 := [(1, .int x1), (2, rA g a2), (3, .int x3), (4, .int (x4 + 1)), (5, rA g (rf a2 x4.toNatClampNeg))]) o 3 dX6_countThere_33 rfl rfl (by decide) rfl ?_
      refine R_goto o 10 dX6_countThere_36 (by decide) ?_
      refine R_drop (lv2 := [(1, .int x1), (2, rA g a2), (3, .int x3), (4, .int (x4 + 1))]) o [0, 1, 2, 3] rfl ?_
      exact T_some (fun p => p)
    · refine R_iinc (v := (x1 + 1)) (lv2 := [(1, .int (x1 + 1)), (2, rA g a2), (3, .int x3), (4, .int x4), (5, rA g (rf a2 x4.toNatClampNeg))]) o 0 dX6_countThere_30 rfl rfl (by decide) rfl ?_
      refine R_iinc (v := (x4 + 1)) (lv2 := [(1, .int (x1 + 1)), (2, rA g a2), (3, .int x3), (4, .int (x4 + 1)), (5, rA g (rf a2 x4.toNatClampNeg))]) o 3 dX6_countThere_33 rfl rfl (by decide) rfl ?_
      refine R_goto o 10 dX6_countThere_36 (by decide) ?_
      refine R_drop (lv2 := [(1, .int (x1 + 1)), (2, rA g a2), (3, .int x3), (4, .int (x4 + 1))]) o [0, 1, 2, 3] rfl ?_
      exact T_some (fun p => p)
  · refine R_drop (lv2 := [(1, .int x1)]) o [0] rfl ?_
    exact T_some (fun p => p)
noncomputable def f_X6_countThere_L10 (h : MH) (x1 : Int32) (a2 : Nat) (n2 : Nat) (x3 : Int32) (x4 : Int32) : Option (Int32) :=
  lpo (fun s : Int32 × Int32 => f_X6_countThere_B10 h s.1 a2 n2 x3 s.2) (x1, x4)
theorem t_X6_countThere_L10 {g : Gx} {l : Launch} {V : VT} {Rt : Option Value → MH → Prop} (o : Ok g l RX6 cX6_countThere 6 1 20 0 V) (rr : ORi cX6_countThere V Rt) (h : MH) (x1 : Int32) (a2 : Nat) (n2 : Nat) (x3 : Int32) (x4 : Int32) (ha2 : shp a2 = (13, n2)) : T (fun b => V 39 [(1, .int b)] [] h) (f_X6_countThere_L10 h x1 a2 n2 x3 x4) (V 10 [(1, .int x1), (2, rA g a2), (3, .int x3), (4, .int x4)] [] h) := T_loop (head := fun s : Int32 × Int32 => V 10 [(1, .int s.1), (2, rA g a2), (3, .int x3), (4, .int s.2)] [] h) (fun s => t_X6_countThere_B10 o rr h s.1 a2 n2 x3 s.2 ha2) (x1, x4)
noncomputable def f_X6_countThere (h : MH) (a0 : Nat) (n0 : Nat) : Option Int32 :=
  nm (nI n0) (fun v6 => Option.bind (f_X6_countThere_L10 h 0 a0 n0 v6 0) (fun b10 => some b10))
set_option maxRecDepth 100000 in
set_option maxHeartbeats 4000000 in
theorem b_X6_countThere {g : Gx} {l : Launch} {V : VT} {Rt : Option Value → MH → Prop} (o : Ok g l RX6 cX6_countThere 6 1 20 0 V) (rr : ORi cX6_countThere V Rt) (h : MH) (a0 : Nat) (n0 : Nat) (ha0 : shp a0 = (13, n0)) : T (fun r => Rt (some (.int r)) h) (f_X6_countThere h a0 n0) (V 0 [(0, rA g a0)] [] h) := by
  unfold f_X6_countThere
  refine R_iconst (v := 0) o dX6_countThere_0 (by decide) ?_
  refine R_istore_n (lv2 := [(0, rA g a0), (1, .int 0)]) o dX6_countThere_1 rfl (by decide) rfl ?_
  refine R_aload_n o 0 dX6_countThere_2 rfl rfl ?_
  refine R_astore_n (lv2 := [(0, rA g a0), (1, .int 0), (2, rA g a0)]) o dX6_countThere_3 rfl (by decide) rfl ?_
  refine R_aload_n o 2 dX6_countThere_4 rfl rfl ?_
  refine R_alenI (v := (nI n0)) o dX6_countThere_5 ha0 (Or.inr (Or.inr (Or.inl rfl))) rfl ?_
  refine R_nmI (fun v6 => ?_)
  refine R_istore_n (lv2 := [(0, rA g a0), (1, .int 0), (2, rA g a0), (3, .int v6)]) o dX6_countThere_6 rfl (by decide) rfl ?_
  refine R_iconst (v := 0) o dX6_countThere_7 (by decide) ?_
  refine R_istore (lv2 := [(0, rA g a0), (1, .int 0), (2, rA g a0), (3, .int v6), (4, .int 0)]) o dX6_countThere_8 (by decide) rfl ?_
  refine R_drop (lv2 := [(1, .int 0), (2, rA g a0), (3, .int v6), (4, .int 0)]) o [1, 2, 3, 4] rfl ?_
  refine T_bind (t_X6_countThere_L10 o rr h 0 a0 n0 v6 0 ha0) (fun b10 => ?_)
  refine R_iload_n o 0 dX6_countThere_39 rfl rfl ?_
  exact T_some (fun p => rr _ _ _ _ dX6_countThere_40 p)
theorem c_X6_countThere (g : Gx) (l : Launch) (h : MH) (a0 : Nat) (n0 : Nat) (ha0 : shp a0 = (13, n0)) (r : Int32) (e : f_X6_countThere h a0 n0 = some r) : Ctr g l yX6_countThere cX6_countThere 6 (some .int) 1 20 0 [rA g a0] h (some (.int r)) h := mkCi (plainFor_of_name (by decide)) (Nat.le_of_ble_eq_true rfl) (fun V Rt o rr p => b_X6_countThere o rr h a0 n0 ha0 r e p)
/-! X6_countCovers -/
noncomputable def f_X6_countCovers_B14 (h : MH) (x1 : Int32) (x2 : Int32) (x4 : Int32) (x5 : Int32) : Option ((Int32 × Int32) ⊕ (Int32)) :=
  (if x5 < x4 then gd (ix x5 6) (Option.bind (f_X1_isMissing h (rf 3 x5.toNatClampNeg)) (fun r29 => (if r29 = true then some (.inl (x2, (x5 + 1))) else (if x1 = 0 then some (.inl ((x2 + 1), (x5 + 1))) else Option.bind (f_X1_isOfKind h (rf 3 x5.toNatClampNeg) 1) (fun r42 => (if r42 = true then some (.inl ((x2 + 1), (x5 + 1))) else some (.inl (x2, (x5 + 1))))))))) else some (.inr x2))
set_option maxRecDepth 100000 in
set_option maxHeartbeats 4000000 in
theorem t_X6_countCovers_B14 {g : Gx} {l : Launch} {V : VT} {Rt : Option Value → MH → Prop} (o : Ok g l RX6 cX6_countCovers 7 1 21 0 V) (rr : ORi cX6_countCovers V Rt) (h : MH) (x1 : Int32) (x2 : Int32) (x4 : Int32) (x5 : Int32) : T (Sum.elim (fun s => V 14 [(1, .int x1), (2, .int s.1), (3, rA g 3), (4, .int x4), (5, .int s.2)] [] h) (fun b => V 57 [(2, .int b)] [] h)) (f_X6_countCovers_B14  h x1 x2 x4 x5) (V 14 [(1, .int x1), (2, .int x2), (3, rA g 3), (4, .int x4), (5, .int x5)] [] h) := by
  unfold f_X6_countCovers_B14
  refine R_iload o 4 dX6_countCovers_14 rfl ?_
  refine R_iload o 3 dX6_countCovers_16 rfl ?_
  refine R_icmp_ge o 57 dX6_countCovers_18 (by decide) ?_ ?_
  · refine R_aload_n o 2 dX6_countCovers_21 rfl rfl ?_
    refine R_iload o 4 dX6_countCovers_22 rfl ?_
    refine R_aald o dX6_countCovers_24 sh_3 (Or.inr (Or.inl rfl)) (fun q24 => ?_)
    refine R_astore (lv2 := [(1, .int x1), (2, .int x2), (3, rA g 3), (4, .int x4), (5, .int x5), (6, rA g (rf 3 x5.toNatClampNeg))]) o dX6_countCovers_25 (by decide) rfl ?_
    refine R_aload o 5 dX6_countCovers_27 rfl ?_
    refine K_z (callV' (As := []) (rest := []) o dX6_countCovers_29 lk_X6_142 rfl (sh_el14 sh_3 q24) rfl rfl rfl rfl (Nat.le_of_ble_eq_true rfl)) (c_X1_isMissing g l h (rf 3 x5.toNatClampNeg) (sh_el14 sh_3 q24)) (fun r29 => ?_)
    refine R_bif_ne o 51 dX6_countCovers_32 (by decide) ?_ ?_
    · refine R_iinc (v := (x5 + 1)) (lv2 := [(1, .int x1), (2, .int x2), (3, rA g 3), (4, .int x4), (5, .int (x5 + 1)), (6, rA g (rf 3 x5.toNatClampNeg))]) o 4 dX6_countCovers_51 rfl rfl (by decide) rfl ?_
      refine R_goto o 14 dX6_countCovers_54 (by decide) ?_
      refine R_drop (lv2 := [(1, .int x1), (2, .int x2), (3, rA g 3), (4, .int x4), (5, .int (x5 + 1))]) o [0, 1, 2, 3, 4] rfl ?_
      exact T_some (fun p => p)
    · refine R_iload_n o 0 dX6_countCovers_35 rfl rfl ?_
      refine R_if_eq o 48 dX6_countCovers_36 (by decide) ?_ ?_
      · refine R_iinc (v := (x2 + 1)) (lv2 := [(1, .int x1), (2, .int (x2 + 1)), (3, rA g 3), (4, .int x4), (5, .int x5), (6, rA g (rf 3 x5.toNatClampNeg))]) o 1 dX6_countCovers_48 rfl rfl (by decide) rfl ?_
        refine R_iinc (v := (x5 + 1)) (lv2 := [(1, .int x1), (2, .int (x2 + 1)), (3, rA g 3), (4, .int x4), (5, .int (x5 + 1)), (6, rA g (rf 3 x5.toNatClampNeg))]) o 4 dX6_countCovers_51 rfl rfl (by decide) rfl ?_
        refine R_goto o 14 dX6_countCovers_54 (by decide) ?_
        refine R_drop (lv2 := [(1, .int x1), (2, .int (x2 + 1)), (3, rA g 3), (4, .int x4), (5, .int (x5 + 1))]) o [0, 1, 2, 3, 4] rfl ?_
        exact T_some (fun p => p)
      · refine R_aload o 5 dX6_countCovers_39 rfl ?_
        refine R_iconst (v := 1) o dX6_countCovers_41 (by decide) ?_
        refine K_z (callV' (As := [.int 1]) (rest := []) o dX6_countCovers_42 lk_X6_163 rfl (sh_el14 sh_3 q24) rfl rfl rfl rfl (Nat.le_of_ble_eq_true rfl)) (c_X1_isOfKind g l h (rf 3 x5.toNatClampNeg) 1 (sh_el14 sh_3 q24)) (fun r42 => ?_)
        refine R_bif_eq o 51 dX6_countCovers_45 (by decide) ?_ ?_
        · refine R_iinc (v := (x2 + 1)) (lv2 := [(1, .int x1), (2, .int (x2 + 1)), (3, rA g 3), (4, .int x4), (5, .int x5), (6, rA g (rf 3 x5.toNatClampNeg))]) o 1 dX6_countCovers_48 rfl rfl (by decide) rfl ?_
          refine R_iinc (v := (x5 + 1)) (lv2 := [(1, .int x1), (2, .int (x2 + 1)), (3, rA g 3), (4, .int x4), (5, .int (x5 + 1)), (6, rA g (rf 3 x5.toNatClampNeg))]) o 4 dX6_countCovers_51 rfl rfl (by decide) rfl ?_
          refine R_goto o 14 dX6_countCovers_54 (by decide) ?_
          refine R_drop (lv2 := [(1, .int x1), (2, .int (x2 + 1)), (3, rA g 3), (4, .int x4), (5, .int (x5 + 1))]) o [0, 1, 2, 3, 4] rfl ?_
          exact T_some (fun p => p)
        · refine R_iinc (v := (x5 + 1)) (lv2 := [(1, .int x1), (2, .int x2), (3, rA g 3), (4, .int x4), (5, .int (x5 + 1)), (6, rA g (rf 3 x5.toNatClampNeg))]) o 4 dX6_countCovers_51 rfl rfl (by decide) rfl ?_
          refine R_goto o 14 dX6_countCovers_54 (by decide) ?_
          refine R_drop (lv2 := [(1, .int x1), (2, .int x2), (3, rA g 3), (4, .int x4), (5, .int (x5 + 1))]) o [0, 1, 2, 3, 4] rfl ?_
          exact T_some (fun p => p)
  · refine R_drop (lv2 := [(2, .int x2)]) o [1] rfl ?_
    exact T_some (fun p => p)
noncomputable def f_X6_countCovers_L14 (h : MH) (x1 : Int32) (x2 : Int32) (x4 : Int32) (x5 : Int32) : Option (Int32) :=
  lpo (fun s : Int32 × Int32 => f_X6_countCovers_B14 h x1 s.1 x4 s.2) (x2, x5)
theorem t_X6_countCovers_L14 {g : Gx} {l : Launch} {V : VT} {Rt : Option Value → MH → Prop} (o : Ok g l RX6 cX6_countCovers 7 1 21 0 V) (rr : ORi cX6_countCovers V Rt) (h : MH) (x1 : Int32) (x2 : Int32) (x4 : Int32) (x5 : Int32) : T (fun b => V 57 [(2, .int b)] [] h) (f_X6_countCovers_L14 h x1 x2 x4 x5) (V 14 [(1, .int x1), (2, .int x2), (3, rA g 3), (4, .int x4), (5, .int x5)] [] h) := T_loop (head := fun s : Int32 × Int32 => V 14 [(1, .int x1), (2, .int s.1), (3, rA g 3), (4, .int x4), (5, .int s.2)] [] h) (fun s => t_X6_countCovers_B14 o rr h x1 s.1 x4 s.2 ) (x2, x5)
noncomputable def f_X6_countCovers (h : MH) (x1 : Int32) : Option Int32 :=
  Option.bind (f_X6_countCovers_L14 h x1 0 6 0) (fun b14 => some b14)
set_option maxRecDepth 100000 in
set_option maxHeartbeats 4000000 in
theorem b_X6_countCovers {g : Gx} {l : Launch} {V : VT} {Rt : Option Value → MH → Prop} (o : Ok g l RX6 cX6_countCovers 7 1 21 0 V) (rr : ORi cX6_countCovers V Rt) (h : MH) (x1 : Int32) : T (fun r => Rt (some (.int r)) h) (f_X6_countCovers h x1) (V 0 [(0, rA g 0), (1, .int x1)] [] h) := by
  unfold f_X6_countCovers
  refine R_iconst (v := 0) o dX6_countCovers_0 (by decide) ?_
  refine R_istore_n (lv2 := [(0, rA g 0), (1, .int x1), (2, .int 0)]) o dX6_countCovers_1 rfl (by decide) rfl ?_
  refine R_aload_n o 0 dX6_countCovers_2 rfl rfl ?_
  refine R_getR (a2 := 3) o dX6_countCovers_3 fl_X6_20 sh_0 (by decide) rfl rf_0_2 ?_
  refine R_astore_n (lv2 := [(0, rA g 0), (1, .int x1), (2, .int 0), (3, rA g 3)]) o dX6_countCovers_6 rfl (by decide) rfl ?_
  refine R_aload_n o 3 dX6_countCovers_7 rfl rfl ?_
  refine R_alenI (v := 6) o dX6_countCovers_8 sh_3 (Or.inr (Or.inr (Or.inr (Or.inl rfl)))) rfl ?_
  refine R_istore (lv2 := [(0, rA g 0), (1, .int x1), (2, .int 0), (3, rA g 3), (4, .int 6)]) o dX6_countCovers_9 (by decide) rfl ?_
  refine R_iconst (v := 0) o dX6_countCovers_11 (by decide) ?_
  refine R_istore (lv2 := [(0, rA g 0), (1, .int x1), (2, .int 0), (3, rA g 3), (4, .int 6), (5, .int 0)]) o dX6_countCovers_12 (by decide) rfl ?_
  refine R_drop (lv2 := [(1, .int x1), (2, .int 0), (3, rA g 3), (4, .int 6), (5, .int 0)]) o [1, 2, 3, 4, 5] rfl ?_
  refine T_bind (t_X6_countCovers_L14 o rr h x1 0 6 0) (fun b14 => ?_)
  refine R_iload_n o 0 dX6_countCovers_57 rfl rfl ?_
  exact T_some (fun p => rr _ _ _ _ dX6_countCovers_58 p)
theorem c_X6_countCovers (g : Gx) (l : Launch) (h : MH) (x1 : Int32) (r : Int32) (e : f_X6_countCovers h x1 = some r) : Ctr g l yX6_countCovers cX6_countCovers 7 (some .int) 1 21 0 [rA g 0, .int x1] h (some (.int r)) h := mkCi (plainFor_of_name (by decide)) (Nat.le_of_ble_eq_true rfl) (fun V Rt o rr p => b_X6_countCovers o rr h x1  r e p)
/-! X6_countCodes -/
noncomputable def f_X6_countCodes_B13 (h : MH) (x1 : Int32) (x3 : Int32) (x4 : Int32) : Option ((Int32 × Int32) ⊕ (Int32)) :=
  (if x4 < x3 then gd (ix x4 4) (Option.bind (f_X0_isMissing h (rf 4 x4.toNatClampNeg)) (fun r27 => (if r27 = true then some (.inl (x1, (x4 + 1))) else some (.inl ((x1 + 1), (x4 + 1)))))) else some (.inr x1))
set_option maxRecDepth 100000 in
set_option maxHeartbeats 4000000 in
theorem t_X6_countCodes_B13 {g : Gx} {l : Launch} {V : VT} {Rt : Option Value → MH → Prop} (o : Ok g l RX6 cX6_countCodes 6 1 20 0 V) (rr : ORi cX6_countCodes V Rt) (h : MH) (x1 : Int32) (x3 : Int32) (x4 : Int32) : T (Sum.elim (fun s => V 13 [(1, .int s.1), (2, rA g 4), (3, .int x3), (4, .int s.2)] [] h) (fun b => V 42 [(1, .int b)] [] h)) (f_X6_countCodes_B13  h x1 x3 x4) (V 13 [(1, .int x1), (2, rA g 4), (3, .int x3), (4, .int x4)] [] h) := by
  unfold f_X6_countCodes_B13
  refine R_iload o 3 dX6_countCodes_13 rfl ?_
  refine R_iload_n o 2 dX6_countCodes_15 rfl rfl ?_
  refine R_icmp_ge o 42 dX6_countCodes_16 (by decide) ?_ ?_
  · refine R_aload_n o 1 dX6_countCodes_19 rfl rfl ?_
    refine R_iload o 3 dX6_countCodes_20 rfl ?_
    refine R_aald o dX6_countCodes_22 sh_4 (Or.inr (Or.inr rfl)) (fun q22 => ?_)
    refine R_astore (lv2 := [(1, .int x1), (2, rA g 4), (3, .int x3), (4, .int x4), (5, rA g (rf 4 x4.toNatClampNeg))]) o dX6_countCodes_23 (by decide) rfl ?_
    refine R_aload o 4 dX6_countCodes_25 rfl ?_
    refine K_z (callV' (As := []) (rest := []) o dX6_countCodes_27 lk_X6_198 rfl (sh_el15 sh_4 q22) rfl rfl rfl rfl (Nat.le_of_ble_eq_true rfl)) (c_X0_isMissing g l h (rf 4 x4.toNatClampNeg) (sh_el15 sh_4 q22)) (fun r27 => ?_)
    refine R_bif_ne o 36 dX6_countCodes_30 (by decide) ?_ ?_
    · refine R_iinc (v := (x4 + 1)) (lv2 := [(1, .int x1), (2, rA g 4), (3, .int x3), (4, .int (x4 + 1)), (5, rA g (rf 4 x4.toNatClampNeg))]) o 3 dX6_countCodes_36 rfl rfl (by decide) rfl ?_
      refine R_goto o 13 dX6_countCodes_39 (by decide) ?_
      refine R_drop (lv2 := [(1, .int x1), (2, rA g 4), (3, .int x3), (4, .int (x4 + 1))]) o [0, 1, 2, 3] rfl ?_
      exact T_some (fun p => p)
    · refine R_iinc (v := (x1 + 1)) (lv2 := [(1, .int (x1 + 1)), (2, rA g 4), (3, .int x3), (4, .int x4), (5, rA g (rf 4 x4.toNatClampNeg))]) o 0 dX6_countCodes_33 rfl rfl (by decide) rfl ?_
      refine R_iinc (v := (x4 + 1)) (lv2 := [(1, .int (x1 + 1)), (2, rA g 4), (3, .int x3), (4, .int (x4 + 1)), (5, rA g (rf 4 x4.toNatClampNeg))]) o 3 dX6_countCodes_36 rfl rfl (by decide) rfl ?_
      refine R_goto o 13 dX6_countCodes_39 (by decide) ?_
      refine R_drop (lv2 := [(1, .int (x1 + 1)), (2, rA g 4), (3, .int x3), (4, .int (x4 + 1))]) o [0, 1, 2, 3] rfl ?_
      exact T_some (fun p => p)
  · refine R_drop (lv2 := [(1, .int x1)]) o [0] rfl ?_
    exact T_some (fun p => p)
noncomputable def f_X6_countCodes_L13 (h : MH) (x1 : Int32) (x3 : Int32) (x4 : Int32) : Option (Int32) :=
  lpo (fun s : Int32 × Int32 => f_X6_countCodes_B13 h s.1 x3 s.2) (x1, x4)
theorem t_X6_countCodes_L13 {g : Gx} {l : Launch} {V : VT} {Rt : Option Value → MH → Prop} (o : Ok g l RX6 cX6_countCodes 6 1 20 0 V) (rr : ORi cX6_countCodes V Rt) (h : MH) (x1 : Int32) (x3 : Int32) (x4 : Int32) : T (fun b => V 42 [(1, .int b)] [] h) (f_X6_countCodes_L13 h x1 x3 x4) (V 13 [(1, .int x1), (2, rA g 4), (3, .int x3), (4, .int x4)] [] h) := T_loop (head := fun s : Int32 × Int32 => V 13 [(1, .int s.1), (2, rA g 4), (3, .int x3), (4, .int s.2)] [] h) (fun s => t_X6_countCodes_B13 o rr h s.1 x3 s.2 ) (x1, x4)
noncomputable def f_X6_countCodes (h : MH)  : Option Int32 :=
  Option.bind (f_X6_countCodes_L13 h 0 4 0) (fun b13 => some b13)
set_option maxRecDepth 100000 in
set_option maxHeartbeats 4000000 in
theorem b_X6_countCodes {g : Gx} {l : Launch} {V : VT} {Rt : Option Value → MH → Prop} (o : Ok g l RX6 cX6_countCodes 6 1 20 0 V) (rr : ORi cX6_countCodes V Rt) (h : MH)  : T (fun r => Rt (some (.int r)) h) (f_X6_countCodes h) (V 0 [(0, rA g 0)] [] h) := by
  unfold f_X6_countCodes
  refine R_iconst (v := 0) o dX6_countCodes_0 (by decide) ?_
  refine R_istore_n (lv2 := [(0, rA g 0), (1, .int 0)]) o dX6_countCodes_1 rfl (by decide) rfl ?_
  refine R_aload_n o 0 dX6_countCodes_2 rfl rfl ?_
  refine R_getR (a2 := 4) o dX6_countCodes_3 fl_X6_26 sh_0 (by decide) rfl rf_0_3 ?_
  refine R_astore_n (lv2 := [(0, rA g 0), (1, .int 0), (2, rA g 4)]) o dX6_countCodes_6 rfl (by decide) rfl ?_
  refine R_aload_n o 2 dX6_countCodes_7 rfl rfl ?_
  refine R_alenI (v := 4) o dX6_countCodes_8 sh_4 (Or.inr (Or.inr (Or.inr (Or.inr rfl)))) rfl ?_
  refine R_istore_n (lv2 := [(0, rA g 0), (1, .int 0), (2, rA g 4), (3, .int 4)]) o dX6_countCodes_9 rfl (by decide) rfl ?_
  refine R_iconst (v := 0) o dX6_countCodes_10 (by decide) ?_
  refine R_istore (lv2 := [(0, rA g 0), (1, .int 0), (2, rA g 4), (3, .int 4), (4, .int 0)]) o dX6_countCodes_11 (by decide) rfl ?_
  refine R_drop (lv2 := [(1, .int 0), (2, rA g 4), (3, .int 4), (4, .int 0)]) o [1, 2, 3, 4] rfl ?_
  refine T_bind (t_X6_countCodes_L13 o rr h 0 4 0) (fun b13 => ?_)
  refine R_iload_n o 0 dX6_countCodes_42 rfl rfl ?_
  exact T_some (fun p => rr _ _ _ _ dX6_countCodes_43 p)
theorem c_X6_countCodes (g : Gx) (l : Launch) (h : MH)  (r : Int32) (e : f_X6_countCodes h = some r) : Ctr g l yX6_countCodes cX6_countCodes 6 (some .int) 1 20 0 [rA g 0] h (some (.int r)) h := mkCi (plainFor_of_name (by decide)) (Nat.le_of_ble_eq_true rfl) (fun V Rt o rr p => b_X6_countCodes o rr h   r e p)
/-! X6_countDots -/
noncomputable def f_X6_countDots_B13 (h : MH) (x1 : Int32) (x3 : Int32) (x4 : Int32) : Option ((Int32 × Int32) ⊕ (Int32)) :=
  (if x4 < x3 then gd (ix x4 6) (nm (x1 + (h.1 (rf 3 x4.toNatClampNeg) 3)) (fun v32 => some (.inl (v32, (x4 + 1))))) else some (.inr x1))
set_option maxRecDepth 100000 in
set_option maxHeartbeats 4000000 in
theorem t_X6_countDots_B13 {g : Gx} {l : Launch} {V : VT} {Rt : Option Value → MH → Prop} (o : Ok g l RX6 cX6_countDots 6 0 0 0 V) (rr : ORi cX6_countDots V Rt) (h : MH) (x1 : Int32) (x3 : Int32) (x4 : Int32) : T (Sum.elim (fun s => V 13 [(1, .int s.1), (2, rA g 3), (3, .int x3), (4, .int s.2)] [] h) (fun b => V 39 [(1, .int b)] [] h)) (f_X6_countDots_B13  h x1 x3 x4) (V 13 [(1, .int x1), (2, rA g 3), (3, .int x3), (4, .int x4)] [] h) := by
  unfold f_X6_countDots_B13
  refine R_iload o 3 dX6_countDots_13 rfl ?_
  refine R_iload_n o 2 dX6_countDots_15 rfl rfl ?_
  refine R_icmp_ge o 39 dX6_countDots_16 (by decide) ?_ ?_
  · refine R_aload_n o 1 dX6_countDots_19 rfl rfl ?_
    refine R_iload o 3 dX6_countDots_20 rfl ?_
    refine R_aald o dX6_countDots_22 sh_3 (Or.inr (Or.inl rfl)) (fun q22 => ?_)
    refine R_astore (lv2 := [(1, .int x1), (2, rA g 3), (3, .int x3), (4, .int x4), (5, rA g (rf 3 x4.toNatClampNeg))]) o dX6_countDots_23 (by decide) rfl ?_
    refine R_iload_n o 0 dX6_countDots_25 rfl rfl ?_
    refine R_aload o 4 dX6_countDots_26 rfl ?_
    refine R_getI o dX6_countDots_28 fl_X6_151 (sh_el14 sh_3 q22) (by decide) rfl ?_
    refine R_iadd o dX6_countDots_31 ?_
    refine R_nmI (fun v32 => ?_)
    refine R_istore_n (lv2 := [(1, .int v32), (2, rA g 3), (3, .int x3), (4, .int x4), (5, rA g (rf 3 x4.toNatClampNeg))]) o dX6_countDots_32 rfl (by decide) rfl ?_
    refine R_iinc (v := (x4 + 1)) (lv2 := [(1, .int v32), (2, rA g 3), (3, .int x3), (4, .int (x4 + 1)), (5, rA g (rf 3 x4.toNatClampNeg))]) o 3 dX6_countDots_33 rfl rfl (by decide) rfl ?_
    refine R_goto o 13 dX6_countDots_36 (by decide) ?_
    refine R_drop (lv2 := [(1, .int v32), (2, rA g 3), (3, .int x3), (4, .int (x4 + 1))]) o [0, 1, 2, 3] rfl ?_
    exact T_some (fun p => p)
  · refine R_drop (lv2 := [(1, .int x1)]) o [0] rfl ?_
    exact T_some (fun p => p)
noncomputable def f_X6_countDots_L13 (h : MH) (x1 : Int32) (x3 : Int32) (x4 : Int32) : Option (Int32) :=
  lpo (fun s : Int32 × Int32 => f_X6_countDots_B13 h s.1 x3 s.2) (x1, x4)
theorem t_X6_countDots_L13 {g : Gx} {l : Launch} {V : VT} {Rt : Option Value → MH → Prop} (o : Ok g l RX6 cX6_countDots 6 0 0 0 V) (rr : ORi cX6_countDots V Rt) (h : MH) (x1 : Int32) (x3 : Int32) (x4 : Int32) : T (fun b => V 39 [(1, .int b)] [] h) (f_X6_countDots_L13 h x1 x3 x4) (V 13 [(1, .int x1), (2, rA g 3), (3, .int x3), (4, .int x4)] [] h) := T_loop (head := fun s : Int32 × Int32 => V 13 [(1, .int s.1), (2, rA g 3), (3, .int x3), (4, .int s.2)] [] h) (fun s => t_X6_countDots_B13 o rr h s.1 x3 s.2 ) (x1, x4)
noncomputable def f_X6_countDots (h : MH)  : Option Int32 :=
  Option.bind (f_X6_countDots_L13 h 0 6 0) (fun b13 => some b13)
set_option maxRecDepth 100000 in
set_option maxHeartbeats 4000000 in
theorem b_X6_countDots {g : Gx} {l : Launch} {V : VT} {Rt : Option Value → MH → Prop} (o : Ok g l RX6 cX6_countDots 6 0 0 0 V) (rr : ORi cX6_countDots V Rt) (h : MH)  : T (fun r => Rt (some (.int r)) h) (f_X6_countDots h) (V 0 [(0, rA g 0)] [] h) := by
  unfold f_X6_countDots
  refine R_iconst (v := 0) o dX6_countDots_0 (by decide) ?_
  refine R_istore_n (lv2 := [(0, rA g 0), (1, .int 0)]) o dX6_countDots_1 rfl (by decide) rfl ?_
  refine R_aload_n o 0 dX6_countDots_2 rfl rfl ?_
  refine R_getR (a2 := 3) o dX6_countDots_3 fl_X6_20 sh_0 (by decide) rfl rf_0_2 ?_
  refine R_astore_n (lv2 := [(0, rA g 0), (1, .int 0), (2, rA g 3)]) o dX6_countDots_6 rfl (by decide) rfl ?_
  refine R_aload_n o 2 dX6_countDots_7 rfl rfl ?_
  refine R_alenI (v := 6) o dX6_countDots_8 sh_3 (Or.inr (Or.inr (Or.inr (Or.inl rfl)))) rfl ?_
  refine R_istore_n (lv2 := [(0, rA g 0), (1, .int 0), (2, rA g 3), (3, .int 6)]) o dX6_countDots_9 rfl (by decide) rfl ?_
  refine R_iconst (v := 0) o dX6_countDots_10 (by decide) ?_
  refine R_istore (lv2 := [(0, rA g 0), (1, .int 0), (2, rA g 3), (3, .int 6), (4, .int 0)]) o dX6_countDots_11 (by decide) rfl ?_
  refine R_drop (lv2 := [(1, .int 0), (2, rA g 3), (3, .int 6), (4, .int 0)]) o [1, 2, 3, 4] rfl ?_
  refine T_bind (t_X6_countDots_L13 o rr h 0 6 0) (fun b13 => ?_)
  refine R_iload_n o 0 dX6_countDots_39 rfl rfl ?_
  exact T_some (fun p => rr _ _ _ _ dX6_countDots_40 p)
theorem c_X6_countDots (g : Gx) (l : Launch) (h : MH)  (r : Int32) (e : f_X6_countDots h = some r) : Ctr g l yX6_countDots cX6_countDots 6 (some .int) 0 0 0 [rA g 0] h (some (.int r)) h := mkCi (plainFor_of_name (by decide)) (Nat.le_of_ble_eq_true rfl) (fun V Rt o rr p => b_X6_countDots o rr h   r e p)
/-! X6_count -/
noncomputable def f_X6_count (h : MH) (x1 : Int32) : Option Int32 :=
  sw x1 0 [Option.bind (f_X6_countThere h 1 6) (fun r44 => some r44), Option.bind (f_X6_countThere h 2 4) (fun r52 => some r52), Option.bind (f_X6_countCovers h 0) (fun r58 => some r58), Option.bind (f_X6_countCovers h 1) (fun r64 => some r64), Option.bind (f_X6_countCodes h) (fun r69 => some r69), Option.bind (f_X6_countDots h) (fun r74 => some r74)] (some (-1))
set_option maxRecDepth 100000 in
set_option maxHeartbeats 4000000 in
theorem b_X6_count {g : Gx} {l : Launch} {V : VT} {Rt : Option Value → MH → Prop} (o : Ok g l RX6 cX6_count 2 2 47 0 V) (rr : ORi cX6_count V Rt) (h : MH) (x1 : Int32) : T (fun r => Rt (some (.int r)) h) (f_X6_count h x1) (V 0 [(0, rA g 0), (1, .int x1)] [] h) := by
  unfold f_X6_count
  refine R_iload_n o 1 dX6_count_0 rfl rfl ?_
  refine R_tsw (lo0 := 0) (hi0 := 5) (N := 6) o dX6_count_1 rfl (by decide) rfl [40, 48, 56, 62, 68, 73] 78 (by decide +kernel) (by decide) ?_ ?_
  · intro j X tj hX hj
    match j, hX, hj with
    | 0, hX, hj =>
      cases hX
      cases hj
      refine R_aload_n o 0 dX6_count_40 rfl rfl ?_
      refine R_getR (a2 := 1) o dX6_count_41 fl_X6_11 sh_0 (by decide) rfl rf_0_0 ?_
      refine K_i (callS' (av := [rA g 1]) (rest := []) o dX6_count_44 lk_X6_346 rfl rfl rfl (Nat.le_of_ble_eq_true rfl)) (c_X6_countThere g l h 1 6 sh_1) (fun r44 => ?_)
      exact T_some (fun p => rr _ _ _ _ dX6_count_47 p)
    | 1, hX, hj =>
      cases hX
      cases hj
      refine R_aload_n o 0 dX6_count_48 rfl rfl ?_
      refine R_getR (a2 := 2) o dX6_count_49 fl_X6_15 sh_0 (by decide) rfl rf_0_1 ?_
      refine K_i (callS' (av := [rA g 2]) (rest := []) o dX6_count_52 lk_X6_346 rfl rfl rfl (Nat.le_of_ble_eq_true rfl)) (c_X6_countThere g l h 2 4 sh_2) (fun r52 => ?_)
      exact T_some (fun p => rr _ _ _ _ dX6_count_55 p)
    | 2, hX, hj =>
      cases hX
      cases hj
      refine R_aload_n o 0 dX6_count_56 rfl rfl ?_
      refine R_iconst (v := 0) o dX6_count_57 (by decide) ?_
      refine K_i (callV' (As := [.int 0]) (rest := []) o dX6_count_58 lk_X6_350 rfl sh_0 rfl rfl rfl rfl (Nat.le_of_ble_eq_true rfl)) (c_X6_countCovers g l h 0) (fun r58 => ?_)
      exact T_some (fun p => rr _ _ _ _ dX6_count_61 p)
    | 3, hX, hj =>
      cases hX
      cases hj
      refine R_aload_n o 0 dX6_count_62 rfl rfl ?_
      refine R_iconst (v := 1) o dX6_count_63 (by decide) ?_
      refine K_i (callV' (As := [.int 1]) (rest := []) o dX6_count_64 lk_X6_350 rfl sh_0 rfl rfl rfl rfl (Nat.le_of_ble_eq_true rfl)) (c_X6_countCovers g l h 1) (fun r64 => ?_)
      exact T_some (fun p => rr _ _ _ _ dX6_count_67 p)
    | 4, hX, hj =>
      cases hX
      cases hj
      refine R_aload_n o 0 dX6_count_68 rfl rfl ?_
      refine K_i (callV' (As := []) (rest := []) o dX6_count_69 lk_X6_354 rfl sh_0 rfl rfl rfl rfl (Nat.le_of_ble_eq_true rfl)) (c_X6_countCodes g l h) (fun r69 => ?_)
      exact T_some (fun p => rr _ _ _ _ dX6_count_72 p)
    | 5, hX, hj =>
      cases hX
      cases hj
      refine R_aload_n o 0 dX6_count_73 rfl rfl ?_
      refine K_i (callV' (As := []) (rest := []) o dX6_count_74 lk_X6_357 rfl sh_0 rfl rfl rfl rfl (Nat.le_of_ble_eq_true rfl)) (c_X6_countDots g l h) (fun r74 => ?_)
      exact T_some (fun p => rr _ _ _ _ dX6_count_77 p)
    | j + 6, hX, _ => simp at hX
  · refine R_iconst (v := (-1)) o dX6_count_78 (by decide) ?_
    exact T_some (fun p => rr _ _ _ _ dX6_count_79 p)
theorem c_X6_count (g : Gx) (l : Launch) (h : MH) (x1 : Int32) (r : Int32) (e : f_X6_count h x1 = some r) : Ctr g l yX6_count cX6_count 2 (some .int) 2 47 0 [rA g 0, .int x1] h (some (.int r)) h := mkCi (plainFor_of_name (by decide)) (Nat.le_of_ble_eq_true rfl) (fun V Rt o rr p => b_X6_count o rr h x1  r e p)
/-! X6_finding -/
noncomputable def f_X6_finding (h : MH)  : Option Int32 :=
  some (h.1 0 10)
set_option maxRecDepth 100000 in
set_option maxHeartbeats 4000000 in
theorem b_X6_finding {g : Gx} {l : Launch} {V : VT} {Rt : Option Value → MH → Prop} (o : Ok g l RX6 cX6_finding 1 0 0 0 V) (rr : ORi cX6_finding V Rt) (h : MH)  : T (fun r => Rt (some (.int r)) h) (f_X6_finding h) (V 0 [(0, rA g 0)] [] h) := by
  unfold f_X6_finding
  refine R_aload_n o 0 dX6_finding_0 rfl rfl ?_
  refine R_getI o dX6_finding_1 fl_X6_65 sh_0 (by decide) rfl ?_
  exact T_some (fun p => rr _ _ _ _ dX6_finding_4 p)
theorem c_X6_finding (g : Gx) (l : Launch) (h : MH)  (r : Int32) (e : f_X6_finding h = some r) : Ctr g l yX6_finding cX6_finding 1 (some .int) 0 0 0 [rA g 0] h (some (.int r)) h := mkCi (plainFor_of_name (by decide)) (Nat.le_of_ble_eq_true rfl) (fun V Rt o rr p => b_X6_finding o rr h   r e p)
/-! X6_findings -/
noncomputable def f_X6_findings (h : MH) (x1 : Int32) : Option Int32 :=
  (if x1 < 1 then some (-1) else (if 5 < x1 then some (-1) else gd (ix x1 6) (some (h.1 17 x1.toNatClampNeg))))
set_option maxRecDepth 100000 in
set_option maxHeartbeats 4000000 in
theorem b_X6_findings {g : Gx} {l : Launch} {V : VT} {Rt : Option Value → MH → Prop} (o : Ok g l RX6 cX6_findings 2 0 0 0 V) (rr : ORi cX6_findings V Rt) (h : MH) (x1 : Int32) : T (fun r => Rt (some (.int r)) h) (f_X6_findings h x1) (V 0 [(0, rA g 0), (1, .int x1)] [] h) := by
  unfold f_X6_findings
  refine R_iload_n o 1 dX6_findings_0 rfl rfl ?_
  refine R_iconst (v := 1) o dX6_findings_1 (by decide) ?_
  refine R_icmp_lt o 10 dX6_findings_2 (by decide) ?_ ?_
  · refine R_iconst (v := (-1)) o dX6_findings_10 (by decide) ?_
    refine R_goto o 20 dX6_findings_11 (by decide) ?_
    exact T_some (fun p => rr _ _ _ _ dX6_findings_20 p)
  · refine R_iload_n o 1 dX6_findings_5 rfl rfl ?_
    refine R_iconst (v := 5) o dX6_findings_6 (by decide) ?_
    refine R_icmp_le o 14 dX6_findings_7 (by decide) ?_ ?_
    · refine R_iconst (v := (-1)) o dX6_findings_10 (by decide) ?_
      refine R_goto o 20 dX6_findings_11 (by decide) ?_
      exact T_some (fun p => rr _ _ _ _ dX6_findings_20 p)
    · refine R_aload_n o 0 dX6_findings_14 rfl rfl ?_
      refine R_getR (a2 := 17) o dX6_findings_15 fl_X6_68 sh_0 (by decide) rfl rf_0_11 ?_
      refine R_iload_n o 1 dX6_findings_18 rfl rfl ?_
      refine R_iald o dX6_findings_19 sh_17 ?_
      exact T_some (fun p => rr _ _ _ _ dX6_findings_20 p)
theorem c_X6_findings (g : Gx) (l : Launch) (h : MH) (x1 : Int32) (r : Int32) (e : f_X6_findings h x1 = some r) : Ctr g l yX6_findings cX6_findings 2 (some .int) 0 0 0 [rA g 0, .int x1] h (some (.int r)) h := mkCi (plainFor_of_name (by decide)) (Nat.le_of_ble_eq_true rfl) (fun V Rt o rr p => b_X6_findings o rr h x1  r e p)
/-! X6_digest -/
noncomputable def f_X6_digest_B6 (h : MH) (l1 : Int64) (x3 : Int32) : Option ((Int64 × Int32) ⊕ (Int64)) :=
  (if 5 < x3 then some (.inr l1) else Option.bind (f_X6_count h x3) (fun r18 => nm ((31 * l1) + (Int32.toInt64 r18)) (fun v23 => some (.inl (v23, (x3 + 1))))))
set_option maxRecDepth 100000 in
set_option maxHeartbeats 4000000 in
theorem t_X6_digest_B6 {g : Gx} {l : Launch} {V : VT} {Rt : Option Value → MH → Prop} (o : Ok g l RX6 cX6_digest 4 6 136 0 V) (rr : ORl cX6_digest V Rt) (h : MH) (l1 : Int64) (x3 : Int32) : T (Sum.elim (fun s => V 6 [(0, rA g 0), (1, .long s.1), (3, .int s.2)] [] h) (fun b => V 30 [(0, rA g 0), (1, .long b)] [] h)) (f_X6_digest_B6  h l1 x3) (V 6 [(0, rA g 0), (1, .long l1), (3, .int x3)] [] h) := by
  unfold f_X6_digest_B6
  refine R_iload_n o 2 dX6_digest_6 rfl rfl ?_
  refine R_iconst (v := 5) o dX6_digest_7 (by decide) ?_
  refine R_icmp_gt o 30 dX6_digest_8 (by decide) ?_ ?_
  · refine R_drop (lv2 := [(0, rA g 0), (1, .long l1)]) o [0, 1] rfl ?_
    exact T_some (fun p => p)
  · refine R_ldc2 (v := 31) o dX6_digest_11 kc_X6_362 ?_
    refine R_lload_n o 1 dX6_digest_14 rfl rfl ?_
    refine R_lmul o dX6_digest_15 ?_
    refine R_aload_n o 0 dX6_digest_16 rfl rfl ?_
    refine R_iload_n o 2 dX6_digest_17 rfl rfl ?_
    refine K_i (callV' (As := [.int x3]) (rest := [.long (31 * l1)]) o dX6_digest_18 lk_X6_364 rfl sh_0 rfl rfl rfl rfl (Nat.le_of_ble_eq_true rfl)) (c_X6_count g l h x3) (fun r18 => ?_)
    refine R_i2l o dX6_digest_21 ?_
    refine R_ladd o dX6_digest_22 ?_
    refine R_nmL (fun v23 => ?_)
    refine R_lstore_n (lv2 := [(0, rA g 0), (1, .long v23), (3, .int x3)]) o dX6_digest_23 rfl (by decide) rfl ?_
    refine R_iinc (v := (x3 + 1)) (lv2 := [(0, rA g 0), (1, .long v23), (3, .int (x3 + 1))]) o 2 dX6_digest_24 rfl rfl (by decide) rfl ?_
    refine R_goto o 6 dX6_digest_27 (by decide) ?_
    exact T_some (fun p => p)
noncomputable def f_X6_digest_L6 (h : MH) (l1 : Int64) (x3 : Int32) : Option (Int64) :=
  lpo (fun s : Int64 × Int32 => f_X6_digest_B6 h s.1 s.2) (l1, x3)
theorem t_X6_digest_L6 {g : Gx} {l : Launch} {V : VT} {Rt : Option Value → MH → Prop} (o : Ok g l RX6 cX6_digest 4 6 136 0 V) (rr : ORl cX6_digest V Rt) (h : MH) (l1 : Int64) (x3 : Int32) : T (fun b => V 30 [(0, rA g 0), (1, .long b)] [] h) (f_X6_digest_L6 h l1 x3) (V 6 [(0, rA g 0), (1, .long l1), (3, .int x3)] [] h) := T_loop (head := fun s : Int64 × Int32 => V 6 [(0, rA g 0), (1, .long s.1), (3, .int s.2)] [] h) (fun s => t_X6_digest_B6 o rr h s.1 s.2 ) (l1, x3)
noncomputable def f_X6_digest_B32 (h : MH) (l1 : Int64) (x3 : Int32) : Option ((Int64 × Int32) ⊕ (Int64)) :=
  (if x3 < 6 then gd (ix x3 6) (Option.bind (f_X1_digestFrom h (rf 3 x3.toNatClampNeg) l1) (fun r48 => some (.inl (r48, (x3 + 1))))) else some (.inr l1))
set_option maxRecDepth 100000 in
set_option maxHeartbeats 4000000 in
theorem t_X6_digest_B32 {g : Gx} {l : Launch} {V : VT} {Rt : Option Value → MH → Prop} (o : Ok g l RX6 cX6_digest 4 6 136 0 V) (rr : ORl cX6_digest V Rt) (h : MH) (l1 : Int64) (x3 : Int32) : T (Sum.elim (fun s => V 32 [(0, rA g 0), (1, .long s.1), (3, .int s.2)] [] h) (fun b => V 58 [(0, rA g 0), (1, .long b)] [] h)) (f_X6_digest_B32  h l1 x3) (V 32 [(0, rA g 0), (1, .long l1), (3, .int x3)] [] h) := by
  unfold f_X6_digest_B32
  refine R_iload_n o 2 dX6_digest_32 rfl rfl ?_
  refine R_aload_n o 0 dX6_digest_33 rfl rfl ?_
  refine R_getR (a2 := 3) o dX6_digest_34 fl_X6_20 sh_0 (by decide) rfl rf_0_2 ?_
  refine R_alenI (v := 6) o dX6_digest_37 sh_3 (Or.inr (Or.inr (Or.inr (Or.inl rfl)))) rfl ?_
  refine R_icmp_ge o 58 dX6_digest_38 (by decide) ?_ ?_
  · refine R_aload_n o 0 dX6_digest_41 rfl rfl ?_
    refine R_getR (a2 := 3) o dX6_digest_42 fl_X6_20 sh_0 (by decide) rfl rf_0_2 ?_
    refine R_iload_n o 2 dX6_digest_45 rfl rfl ?_
    refine R_aald o dX6_digest_46 sh_3 (Or.inr (Or.inl rfl)) (fun q46 => ?_)
    refine R_lload_n o 1 dX6_digest_47 rfl rfl ?_
    refine K_l (callV' (As := [.long l1]) (rest := []) o dX6_digest_48 lk_X6_367 rfl (sh_el14 sh_3 q46) rfl rfl rfl rfl (Nat.le_of_ble_eq_true rfl)) (c_X1_digestFrom g l h (rf 3 x3.toNatClampNeg) l1 (sh_el14 sh_3 q46)) (fun r48 => ?_)
    refine R_lstore_n (lv2 := [(0, rA g 0), (1, .long r48), (3, .int x3)]) o dX6_digest_51 rfl (by decide) rfl ?_
    refine R_iinc (v := (x3 + 1)) (lv2 := [(0, rA g 0), (1, .long r48), (3, .int (x3 + 1))]) o 2 dX6_digest_52 rfl rfl (by decide) rfl ?_
    refine R_goto o 32 dX6_digest_55 (by decide) ?_
    exact T_some (fun p => p)
  · refine R_drop (lv2 := [(0, rA g 0), (1, .long l1)]) o [0, 1] rfl ?_
    exact T_some (fun p => p)
noncomputable def f_X6_digest_L32 (h : MH) (l1 : Int64) (x3 : Int32) : Option (Int64) :=
  lpo (fun s : Int64 × Int32 => f_X6_digest_B32 h s.1 s.2) (l1, x3)
theorem t_X6_digest_L32 {g : Gx} {l : Launch} {V : VT} {Rt : Option Value → MH → Prop} (o : Ok g l RX6 cX6_digest 4 6 136 0 V) (rr : ORl cX6_digest V Rt) (h : MH) (l1 : Int64) (x3 : Int32) : T (fun b => V 58 [(0, rA g 0), (1, .long b)] [] h) (f_X6_digest_L32 h l1 x3) (V 32 [(0, rA g 0), (1, .long l1), (3, .int x3)] [] h) := T_loop (head := fun s : Int64 × Int32 => V 32 [(0, rA g 0), (1, .long s.1), (3, .int s.2)] [] h) (fun s => t_X6_digest_B32 o rr h s.1 s.2 ) (l1, x3)
noncomputable def f_X6_digest_B60 (h : MH) (l1 : Int64) (x3 : Int32) : Option ((Int64 × Int32) ⊕ (Int64)) :=
  (if x3 < 4 then gd (ix x3 4) (Option.bind (f_X0_digestFrom h (rf 4 x3.toNatClampNeg) l1) (fun r76 => some (.inl (r76, (x3 + 1))))) else some (.inr l1))
set_option maxRecDepth 100000 in
set_option maxHeartbeats 4000000 in
theorem t_X6_digest_B60 {g : Gx} {l : Launch} {V : VT} {Rt : Option Value → MH → Prop} (o : Ok g l RX6 cX6_digest 4 6 136 0 V) (rr : ORl cX6_digest V Rt) (h : MH) (l1 : Int64) (x3 : Int32) : T (Sum.elim (fun s => V 60 [(0, rA g 0), (1, .long s.1), (3, .int s.2)] [] h) (fun b => V 86 [(0, rA g 0), (1, .long b)] [] h)) (f_X6_digest_B60  h l1 x3) (V 60 [(0, rA g 0), (1, .long l1), (3, .int x3)] [] h) := by
  unfold f_X6_digest_B60
  refine R_iload_n o 2 dX6_digest_60 rfl rfl ?_
  refine R_aload_n o 0 dX6_digest_61 rfl rfl ?_
  refine R_getR (a2 := 4) o dX6_digest_62 fl_X6_26 sh_0 (by decide) rfl rf_0_3 ?_
  refine R_alenI (v := 4) o dX6_digest_65 sh_4 (Or.inr (Or.inr (Or.inr (Or.inr rfl)))) rfl ?_
  refine R_icmp_ge o 86 dX6_digest_66 (by decide) ?_ ?_
  · refine R_aload_n o 0 dX6_digest_69 rfl rfl ?_
    refine R_getR (a2 := 4) o dX6_digest_70 fl_X6_26 sh_0 (by decide) rfl rf_0_3 ?_
    refine R_iload_n o 2 dX6_digest_73 rfl rfl ?_
    refine R_aald o dX6_digest_74 sh_4 (Or.inr (Or.inr rfl)) (fun q74 => ?_)
    refine R_lload_n o 1 dX6_digest_75 rfl rfl ?_
    refine K_l (callV' (As := [.long l1]) (rest := []) o dX6_digest_76 lk_X6_371 rfl (sh_el15 sh_4 q74) rfl rfl rfl rfl (Nat.le_of_ble_eq_true rfl)) (c_X0_digestFrom g l h (rf 4 x3.toNatClampNeg) l1 (sh_el15 sh_4 q74)) (fun r76 => ?_)
    refine R_lstore_n (lv2 := [(0, rA g 0), (1, .long r76), (3, .int x3)]) o dX6_digest_79 rfl (by decide) rfl ?_
    refine R_iinc (v := (x3 + 1)) (lv2 := [(0, rA g 0), (1, .long r76), (3, .int (x3 + 1))]) o 2 dX6_digest_80 rfl rfl (by decide) rfl ?_
    refine R_goto o 60 dX6_digest_83 (by decide) ?_
    exact T_some (fun p => p)
  · refine R_drop (lv2 := [(0, rA g 0), (1, .long l1)]) o [0, 1] rfl ?_
    exact T_some (fun p => p)
noncomputable def f_X6_digest_L60 (h : MH) (l1 : Int64) (x3 : Int32) : Option (Int64) :=
  lpo (fun s : Int64 × Int32 => f_X6_digest_B60 h s.1 s.2) (l1, x3)
theorem t_X6_digest_L60 {g : Gx} {l : Launch} {V : VT} {Rt : Option Value → MH → Prop} (o : Ok g l RX6 cX6_digest 4 6 136 0 V) (rr : ORl cX6_digest V Rt) (h : MH) (l1 : Int64) (x3 : Int32) : T (fun b => V 86 [(0, rA g 0), (1, .long b)] [] h) (f_X6_digest_L60 h l1 x3) (V 60 [(0, rA g 0), (1, .long l1), (3, .int x3)] [] h) := T_loop (head := fun s : Int64 × Int32 => V 60 [(0, rA g 0), (1, .long s.1), (3, .int s.2)] [] h) (fun s => t_X6_digest_B60 o rr h s.1 s.2 ) (l1, x3)
noncomputable def f_X6_digest_B88 (h : MH) (l1 : Int64) (x3 : Int32) : Option ((Int64 × Int32) ⊕ (Int64)) :=
  (if x3 < 6 then gd (ix x3 6) (Option.bind (f_X5_digestFrom h (rf 1 x3.toNatClampNeg) l1) (fun r104 => some (.inl (r104, (x3 + 1))))) else some (.inr l1))
set_option maxRecDepth 100000 in
set_option maxHeartbeats 4000000 in
theorem t_X6_digest_B88 {g : Gx} {l : Launch} {V : VT} {Rt : Option Value → MH → Prop} (o : Ok g l RX6 cX6_digest 4 6 136 0 V) (rr : ORl cX6_digest V Rt) (h : MH) (l1 : Int64) (x3 : Int32) : T (Sum.elim (fun s => V 88 [(0, rA g 0), (1, .long s.1), (3, .int s.2)] [] h) (fun b => V 114 [(0, rA g 0), (1, .long b)] [] h)) (f_X6_digest_B88  h l1 x3) (V 88 [(0, rA g 0), (1, .long l1), (3, .int x3)] [] h) := by
  unfold f_X6_digest_B88
  refine R_iload_n o 2 dX6_digest_88 rfl rfl ?_
  refine R_aload_n o 0 dX6_digest_89 rfl rfl ?_
  refine R_getR (a2 := 1) o dX6_digest_90 fl_X6_11 sh_0 (by decide) rfl rf_0_0 ?_
  refine R_alenI (v := 6) o dX6_digest_93 sh_1 (Or.inr (Or.inr (Or.inl rfl))) rfl ?_
  refine R_icmp_ge o 114 dX6_digest_94 (by decide) ?_ ?_
  · refine R_aload_n o 0 dX6_digest_97 rfl rfl ?_
    refine R_getR (a2 := 1) o dX6_digest_98 fl_X6_11 sh_0 (by decide) rfl rf_0_0 ?_
    refine R_iload_n o 2 dX6_digest_101 rfl rfl ?_
    refine R_aald o dX6_digest_102 sh_1 (Or.inl rfl) (fun q102 => ?_)
    refine R_lload_n o 1 dX6_digest_103 rfl rfl ?_
    refine K_l (callV' (As := [.long l1]) (rest := []) o dX6_digest_104 lk_X6_372 rfl (sh_el13 sh_1 q102) rfl rfl rfl rfl (Nat.le_of_ble_eq_true rfl)) (c_X5_digestFrom g l h (rf 1 x3.toNatClampNeg) l1 (sh_el13 sh_1 q102)) (fun r104 => ?_)
    refine R_lstore_n (lv2 := [(0, rA g 0), (1, .long r104), (3, .int x3)]) o dX6_digest_107 rfl (by decide) rfl ?_
    refine R_iinc (v := (x3 + 1)) (lv2 := [(0, rA g 0), (1, .long r104), (3, .int (x3 + 1))]) o 2 dX6_digest_108 rfl rfl (by decide) rfl ?_
    refine R_goto o 88 dX6_digest_111 (by decide) ?_
    exact T_some (fun p => p)
  · refine R_drop (lv2 := [(0, rA g 0), (1, .long l1)]) o [0, 1] rfl ?_
    exact T_some (fun p => p)
noncomputable def f_X6_digest_L88 (h : MH) (l1 : Int64) (x3 : Int32) : Option (Int64) :=
  lpo (fun s : Int64 × Int32 => f_X6_digest_B88 h s.1 s.2) (l1, x3)
theorem t_X6_digest_L88 {g : Gx} {l : Launch} {V : VT} {Rt : Option Value → MH → Prop} (o : Ok g l RX6 cX6_digest 4 6 136 0 V) (rr : ORl cX6_digest V Rt) (h : MH) (l1 : Int64) (x3 : Int32) : T (fun b => V 114 [(0, rA g 0), (1, .long b)] [] h) (f_X6_digest_L88 h l1 x3) (V 88 [(0, rA g 0), (1, .long l1), (3, .int x3)] [] h) := T_loop (head := fun s : Int64 × Int32 => V 88 [(0, rA g 0), (1, .long s.1), (3, .int s.2)] [] h) (fun s => t_X6_digest_B88 o rr h s.1 s.2 ) (l1, x3)
noncomputable def f_X6_digest_B116 (h : MH) (l1 : Int64) (x3 : Int32) : Option ((Int64 × Int32) ⊕ (Int64)) :=
  (if x3 < 4 then gd (ix x3 4) (Option.bind (f_X5_digestFrom h (rf 2 x3.toNatClampNeg) l1) (fun r132 => some (.inl (r132, (x3 + 1))))) else some (.inr l1))
set_option maxRecDepth 100000 in
set_option maxHeartbeats 4000000 in
theorem t_X6_digest_B116 {g : Gx} {l : Launch} {V : VT} {Rt : Option Value → MH → Prop} (o : Ok g l RX6 cX6_digest 4 6 136 0 V) (rr : ORl cX6_digest V Rt) (h : MH) (l1 : Int64) (x3 : Int32) : T (Sum.elim (fun s => V 116 [(0, rA g 0), (1, .long s.1), (3, .int s.2)] [] h) (fun b => V 142 [(1, .long b)] [] h)) (f_X6_digest_B116  h l1 x3) (V 116 [(0, rA g 0), (1, .long l1), (3, .int x3)] [] h) := by
  unfold f_X6_digest_B116
  refine R_iload_n o 2 dX6_digest_116 rfl rfl ?_
  refine R_aload_n o 0 dX6_digest_117 rfl rfl ?_
  refine R_getR (a2 := 2) o dX6_digest_118 fl_X6_15 sh_0 (by decide) rfl rf_0_1 ?_
  refine R_alenI (v := 4) o dX6_digest_121 sh_2 (Or.inr (Or.inr (Or.inl rfl))) rfl ?_
  refine R_icmp_ge o 142 dX6_digest_122 (by decide) ?_ ?_
  · refine R_aload_n o 0 dX6_digest_125 rfl rfl ?_
    refine R_getR (a2 := 2) o dX6_digest_126 fl_X6_15 sh_0 (by decide) rfl rf_0_1 ?_
    refine R_iload_n o 2 dX6_digest_129 rfl rfl ?_
    refine R_aald o dX6_digest_130 sh_2 (Or.inl rfl) (fun q130 => ?_)
    refine R_lload_n o 1 dX6_digest_131 rfl rfl ?_
    refine K_l (callV' (As := [.long l1]) (rest := []) o dX6_digest_132 lk_X6_372 rfl (sh_el13 sh_2 q130) rfl rfl rfl rfl (Nat.le_of_ble_eq_true rfl)) (c_X5_digestFrom g l h (rf 2 x3.toNatClampNeg) l1 (sh_el13 sh_2 q130)) (fun r132 => ?_)
    refine R_lstore_n (lv2 := [(0, rA g 0), (1, .long r132), (3, .int x3)]) o dX6_digest_135 rfl (by decide) rfl ?_
    refine R_iinc (v := (x3 + 1)) (lv2 := [(0, rA g 0), (1, .long r132), (3, .int (x3 + 1))]) o 2 dX6_digest_136 rfl rfl (by decide) rfl ?_
    refine R_goto o 116 dX6_digest_139 (by decide) ?_
    exact T_some (fun p => p)
  · refine R_drop (lv2 := [(1, .long l1)]) o [1] rfl ?_
    exact T_some (fun p => p)
noncomputable def f_X6_digest_L116 (h : MH) (l1 : Int64) (x3 : Int32) : Option (Int64) :=
  lpo (fun s : Int64 × Int32 => f_X6_digest_B116 h s.1 s.2) (l1, x3)
theorem t_X6_digest_L116 {g : Gx} {l : Launch} {V : VT} {Rt : Option Value → MH → Prop} (o : Ok g l RX6 cX6_digest 4 6 136 0 V) (rr : ORl cX6_digest V Rt) (h : MH) (l1 : Int64) (x3 : Int32) : T (fun b => V 142 [(1, .long b)] [] h) (f_X6_digest_L116 h l1 x3) (V 116 [(0, rA g 0), (1, .long l1), (3, .int x3)] [] h) := T_loop (head := fun s : Int64 × Int32 => V 116 [(0, rA g 0), (1, .long s.1), (3, .int s.2)] [] h) (fun s => t_X6_digest_B116 o rr h s.1 s.2 ) (l1, x3)
noncomputable def f_X6_digest (h : MH)  : Option Int64 :=
  Option.bind (f_X6_digest_L6 h 17 0) (fun b6 => Option.bind (f_X6_digest_L32 h b6 0) (fun b32 => Option.bind (f_X6_digest_L60 h b32 0) (fun b60 => Option.bind (f_X6_digest_L88 h b60 0) (fun b88 => Option.bind (f_X6_digest_L116 h b88 0) (fun b116 => some b116)))))
set_option maxRecDepth 100000 in
set_option maxHeartbeats 4000000 in
theorem b_X6_digest {g : Gx} {l : Launch} {V : VT} {Rt : Option Value → MH → Prop} (o : Ok g l RX6 cX6_digest 4 6 136 0 V) (rr : ORl cX6_digest V Rt) (h : MH)  : T (fun r => Rt (some (.long r)) h) (f_X6_digest h) (V 0 [(0, rA g 0)] [] h) := by
  unfold f_X6_digest
  refine R_ldc2 (v := 17) o dX6_digest_0 kc_X6_360 ?_
  refine R_lstore_n (lv2 := [(0, rA g 0), (1, .long 17)]) o dX6_digest_3 rfl (by decide) rfl ?_
  refine R_iconst (v := 0) o dX6_digest_4 (by decide) ?_
  refine R_istore_n (lv2 := [(0, rA g 0), (1, .long 17), (3, .int 0)]) o dX6_digest_5 rfl (by decide) rfl ?_
  refine T_bind (t_X6_digest_L6 o rr h 17 0) (fun b6 => ?_)
  refine R_iconst (v := 0) o dX6_digest_30 (by decide) ?_
  refine R_istore_n (lv2 := [(0, rA g 0), (1, .long b6), (3, .int 0)]) o dX6_digest_31 rfl (by decide) rfl ?_
  refine T_bind (t_X6_digest_L32 o rr h b6 0) (fun b32 => ?_)
  refine R_iconst (v := 0) o dX6_digest_58 (by decide) ?_
  refine R_istore_n (lv2 := [(0, rA g 0), (1, .long b32), (3, .int 0)]) o dX6_digest_59 rfl (by decide) rfl ?_
  refine T_bind (t_X6_digest_L60 o rr h b32 0) (fun b60 => ?_)
  refine R_iconst (v := 0) o dX6_digest_86 (by decide) ?_
  refine R_istore_n (lv2 := [(0, rA g 0), (1, .long b60), (3, .int 0)]) o dX6_digest_87 rfl (by decide) rfl ?_
  refine T_bind (t_X6_digest_L88 o rr h b60 0) (fun b88 => ?_)
  refine R_iconst (v := 0) o dX6_digest_114 (by decide) ?_
  refine R_istore_n (lv2 := [(0, rA g 0), (1, .long b88), (3, .int 0)]) o dX6_digest_115 rfl (by decide) rfl ?_
  refine T_bind (t_X6_digest_L116 o rr h b88 0) (fun b116 => ?_)
  refine R_lload_n o 0 dX6_digest_142 rfl rfl ?_
  exact T_some (fun p => rr _ _ _ _ dX6_digest_143 p)
theorem c_X6_digest (g : Gx) (l : Launch) (h : MH)  (r : Int64) (e : f_X6_digest h = some r) : Ctr g l yX6_digest cX6_digest 4 (some .long) 6 136 0 [rA g 0] h (some (.long r)) h := mkCl (plainFor_of_name (by decide)) (Nat.le_of_ble_eq_true rfl) (fun V Rt o rr p => b_X6_digest o rr h   r e p)
/-! X7_in -/
noncomputable def f_X7_in (x0 : Int32) (x1 : Int32) (x2 : Int32) : Option Bool :=
  (if x0 < x1 then some false else (if x2 < x0 then some false else some true))
set_option maxRecDepth 100000 in
set_option maxHeartbeats 4000000 in
theorem b_X7_in {g : Gx} {l : Launch} {V : VT} {Rt : Option Value → MH → Prop} (o : Ok g l RX7 cX7_in 3 0 0 0 V) (rr : ORz cX7_in V Rt) (h : MH) (x0 : Int32) (x1 : Int32) (x2 : Int32) : T (fun r => Rt (some (.int (b2i r))) h) (f_X7_in  x0 x1 x2) (V 0 [(0, .int x0), (1, .int x1), (2, .int x2)] [] h) := by
  unfold f_X7_in
  refine R_iload_n o 0 dX7_in_0 rfl rfl ?_
  refine R_iload_n o 1 dX7_in_1 rfl rfl ?_
  refine R_icmp_lt o 14 dX7_in_2 (by decide) ?_ ?_
  · refine R_iconst (v := 0) o dX7_in_14 (by decide) ?_
    exact T_some (fun p => rr _ _ false _ dX7_in_15 p)
  · refine R_iload_n o 0 dX7_in_5 rfl rfl ?_
    refine R_iload_n o 2 dX7_in_6 rfl rfl ?_
    refine R_icmp_gt o 14 dX7_in_7 (by decide) ?_ ?_
    · refine R_iconst (v := 0) o dX7_in_14 (by decide) ?_
      exact T_some (fun p => rr _ _ false _ dX7_in_15 p)
    · refine R_iconst (v := 1) o dX7_in_10 (by decide) ?_
      refine R_goto o 15 dX7_in_11 (by decide) ?_
      exact T_some (fun p => rr _ _ true _ dX7_in_15 p)
theorem c_X7_in (g : Gx) (l : Launch) (h : MH) (x0 : Int32) (x1 : Int32) (x2 : Int32) (r : Bool) (e : f_X7_in  x0 x1 x2 = some r) : Ctr g l yX7_in cX7_in 3 (some .boolean) 0 0 0 [.int x0, .int x1, .int x2] h (some (.int (b2i r))) h := mkCz (plainFor_of_name (by decide)) (Nat.le_of_ble_eq_true rfl) (fun V Rt o rr p => b_X7_in o rr h x0 x1 x2  r e p)
/-! X7_meets -/
noncomputable def f_X7_meets (h : MH) (x1 : Int32) : Option (Int32 × MH) :=
  nm (uI h 64 0 x1) (fun h2 => gd (ix x1 6) (gd (ix x1 6) (nm (uI h2 65 x1.toNatClampNeg ((h2.1 65 x1.toNatClampNeg) + 1)) (fun h14 => some ((-3), h14)))))
set_option maxRecDepth 100000 in
set_option maxHeartbeats 4000000 in
theorem b_X7_meets {g : Gx} {l : Launch} {V : VT} {Rt : Option Value → MH → Prop} (o : Ok g l RX7 cX7_meets 2 0 0 0 V) (rr : ORi cX7_meets V Rt) (h : MH) (x1 : Int32) : T (fun r => Rt (some (.int r.1)) r.2) (f_X7_meets h x1) (V 0 [(0, rA g 64), (1, .int x1)] [] h) := by
  unfold f_X7_meets
  refine R_aload_n o 0 dX7_meets_0 rfl rfl ?_
  refine R_iload_n o 1 dX7_meets_1 rfl rfl ?_
  refine R_putI o dX7_meets_2 fp_X7_82 sh_64 (by decide) rfl ?_
  refine R_nmH (fun h2 => ?_)
  refine R_aload_n o 0 dX7_meets_5 rfl rfl ?_
  refine R_getR (a2 := 65) o dX7_meets_6 fl_X7_7 sh_64 (by decide) rfl rf_64_1 ?_
  refine R_iload_n o 1 dX7_meets_9 rfl rfl ?_
  refine R_dup2 o dX7_meets_10 rfl rfl ?_
  refine R_iald o dX7_meets_11 sh_65 ?_
  refine R_iconst (v := 1) o dX7_meets_12 (by decide) ?_
  refine R_iadd o dX7_meets_13 ?_
  refine R_iast o dX7_meets_14 sh_65 ?_
  refine R_nmH (fun h14 => ?_)
  refine R_bipush (v := (-3)) o dX7_meets_15 (by decide) ?_
  exact T_some (fun p => rr _ _ _ _ dX7_meets_17 p)
theorem c_X7_meets (g : Gx) (l : Launch) (h : MH) (x1 : Int32) (r : (Int32 × MH)) (e : f_X7_meets h x1 = some r) : Ctr g l yX7_meets cX7_meets 2 (some .int) 0 0 0 [rA g 64, .int x1] h (some (.int r.1)) r.2 := mkCi (plainFor_of_name (by decide)) (Nat.le_of_ble_eq_true rfl) (fun V Rt o rr p => b_X7_meets o rr h x1  r e p)
/-! X7_ask -/
noncomputable def f_X7_ask (h : MH) (x1 : Int32) (x2 : Int32) : Option (Int32 × MH) :=
  nm (uI h 64 2 x1) (fun h2 => some (x2, h2))
set_option maxRecDepth 100000 in
set_option maxHeartbeats 4000000 in
theorem b_X7_ask {g : Gx} {l : Launch} {V : VT} {Rt : Option Value → MH → Prop} (o : Ok g l RX7 cX7_ask 3 0 0 0 V) (rr : ORi cX7_ask V Rt) (h : MH) (x1 : Int32) (x2 : Int32) : T (fun r => Rt (some (.int r.1)) r.2) (f_X7_ask h x1 x2) (V 0 [(0, rA g 64), (1, .int x1), (2, .int x2)] [] h) := by
  unfold f_X7_ask
  refine R_aload_n o 0 dX7_ask_0 rfl rfl ?_
  refine R_iload_n o 1 dX7_ask_1 rfl rfl ?_
  refine R_putI o dX7_ask_2 fp_X7_86 sh_64 (by decide) rfl ?_
  refine R_nmH (fun h2 => ?_)
  refine R_iload_n o 2 dX7_ask_5 rfl rfl ?_
  exact T_some (fun p => rr _ _ _ _ dX7_ask_6 p)
theorem c_X7_ask (g : Gx) (l : Launch) (h : MH) (x1 : Int32) (x2 : Int32) (r : (Int32 × MH)) (e : f_X7_ask h x1 x2 = some r) : Ctr g l yX7_ask cX7_ask 3 (some .int) 0 0 0 [rA g 64, .int x1, .int x2] h (some (.int r.1)) r.2 := mkCi (plainFor_of_name (by decide)) (Nat.le_of_ble_eq_true rfl) (fun V Rt o rr p => b_X7_ask o rr h x1 x2  r e p)
/-! X7_has -/
noncomputable def f_X7_has (x0 : Int32) (x1 : Int32) : Option Bool :=
  (if ((shr x0 x1) &&& 1) = 1 then some true else some false)
set_option maxRecDepth 100000 in
set_option maxHeartbeats 4000000 in
theorem b_X7_has {g : Gx} {l : Launch} {V : VT} {Rt : Option Value → MH → Prop} (o : Ok g l RX7 cX7_has 2 0 0 0 V) (rr : ORz cX7_has V Rt) (h : MH) (x0 : Int32) (x1 : Int32) : T (fun r => Rt (some (.int (b2i r))) h) (f_X7_has  x0 x1) (V 0 [(0, .int x0), (1, .int x1)] [] h) := by
  unfold f_X7_has
  refine R_iload_n o 0 dX7_has_0 rfl rfl ?_
  refine R_iload_n o 1 dX7_has_1 rfl rfl ?_
  refine R_ishr o dX7_has_2 ?_
  refine R_iconst (v := 1) o dX7_has_3 (by decide) ?_
  refine R_iand o dX7_has_4 ?_
  refine R_iconst (v := 1) o dX7_has_5 (by decide) ?_
  refine R_icmp_ne o 13 dX7_has_6 (by decide) ?_ ?_
  · refine R_iconst (v := 1) o dX7_has_9 (by decide) ?_
    refine R_goto o 14 dX7_has_10 (by decide) ?_
    exact T_some (fun p => rr _ _ true _ dX7_has_14 p)
  · refine R_iconst (v := 0) o dX7_has_13 (by decide) ?_
    exact T_some (fun p => rr _ _ false _ dX7_has_14 p)
theorem c_X7_has (g : Gx) (l : Launch) (h : MH) (x0 : Int32) (x1 : Int32) (r : Bool) (e : f_X7_has  x0 x1 = some r) : Ctr g l yX7_has cX7_has 2 (some .boolean) 0 0 0 [.int x0, .int x1] h (some (.int (b2i r))) h := mkCz (plainFor_of_name (by decide)) (Nat.le_of_ble_eq_true rfl) (fun V Rt o rr p => b_X7_has o rr h x0 x1  r e p)
/-! X7_bits -/
noncomputable def f_X7_bits_B4 (x0 : Int32) (x1 : Int32) (x2 : Int32) : Option ((Int32 × Int32) ⊕ (Int32)) :=
  (if x2 < 31 then nm (x1 + ((shr x0 x2) &&& 1)) (fun v17 => some (.inl (v17, (x2 + 1)))) else some (.inr x1))
set_option maxRecDepth 100000 in
set_option maxHeartbeats 4000000 in
theorem t_X7_bits_B4 {g : Gx} {l : Launch} {V : VT} {Rt : Option Value → MH → Prop} (o : Ok g l RX7 cX7_bits 3 0 0 0 V) (rr : ORi cX7_bits V Rt) (h : MH) (x0 : Int32) (x1 : Int32) (x2 : Int32) : T (Sum.elim (fun s => V 4 [(0, .int x0), (1, .int s.1), (2, .int s.2)] [] h) (fun b => V 24 [(1, .int b)] [] h)) (f_X7_bits_B4  x0 x1 x2) (V 4 [(0, .int x0), (1, .int x1), (2, .int x2)] [] h) := by
  unfold f_X7_bits_B4
  refine R_iload_n o 2 dX7_bits_4 rfl rfl ?_
  refine R_bipush (v := 31) o dX7_bits_5 (by decide) ?_
  refine R_icmp_ge o 24 dX7_bits_7 (by decide) ?_ ?_
  · refine R_iload_n o 1 dX7_bits_10 rfl rfl ?_
    refine R_iload_n o 0 dX7_bits_11 rfl rfl ?_
    refine R_iload_n o 2 dX7_bits_12 rfl rfl ?_
    refine R_ishr o dX7_bits_13 ?_
    refine R_iconst (v := 1) o dX7_bits_14 (by decide) ?_
    refine R_iand o dX7_bits_15 ?_
    refine R_iadd o dX7_bits_16 ?_
    refine R_nmI (fun v17 => ?_)
    refine R_istore_n (lv2 := [(0, .int x0), (1, .int v17), (2, .int x2)]) o dX7_bits_17 rfl (by decide) rfl ?_
    refine R_iinc (v := (x2 + 1)) (lv2 := [(0, .int x0), (1, .int v17), (2, .int (x2 + 1))]) o 2 dX7_bits_18 rfl rfl (by decide) rfl ?_
    refine R_goto o 4 dX7_bits_21 (by decide) ?_
    exact T_some (fun p => p)
  · refine R_drop (lv2 := [(1, .int x1)]) o [1] rfl ?_
    exact T_some (fun p => p)
noncomputable def f_X7_bits_L4 (x0 : Int32) (x1 : Int32) (x2 : Int32) : Option (Int32) :=
  lpo (fun s : Int32 × Int32 => f_X7_bits_B4  x0 s.1 s.2) (x1, x2)
theorem t_X7_bits_L4 {g : Gx} {l : Launch} {V : VT} {Rt : Option Value → MH → Prop} (o : Ok g l RX7 cX7_bits 3 0 0 0 V) (rr : ORi cX7_bits V Rt) (h : MH) (x0 : Int32) (x1 : Int32) (x2 : Int32) : T (fun b => V 24 [(1, .int b)] [] h) (f_X7_bits_L4 x0 x1 x2) (V 4 [(0, .int x0), (1, .int x1), (2, .int x2)] [] h) := T_loop (head := fun s : Int32 × Int32 => V 4 [(0, .int x0), (1, .int s.1), (2, .int s.2)] [] h) (fun s => t_X7_bits_B4 o rr h x0 s.1 s.2 ) (x1, x2)
noncomputable def f_X7_bits (x0 : Int32) : Option Int32 :=
  Option.bind (f_X7_bits_L4 x0 0 0) (fun b4 => some b4)
set_option maxRecDepth 100000 in
set_option maxHeartbeats 4000000 in
theorem b_X7_bits {g : Gx} {l : Launch} {V : VT} {Rt : Option Value → MH → Prop} (o : Ok g l RX7 cX7_bits 3 0 0 0 V) (rr : ORi cX7_bits V Rt) (h : MH) (x0 : Int32) : T (fun r => Rt (some (.int r)) h) (f_X7_bits  x0) (V 0 [(0, .int x0)] [] h) := by
  unfold f_X7_bits
  refine R_iconst (v := 0) o dX7_bits_0 (by decide) ?_
  refine R_istore_n (lv2 := [(0, .int x0), (1, .int 0)]) o dX7_bits_1 rfl (by decide) rfl ?_
  refine R_iconst (v := 0) o dX7_bits_2 (by decide) ?_
  refine R_istore_n (lv2 := [(0, .int x0), (1, .int 0), (2, .int 0)]) o dX7_bits_3 rfl (by decide) rfl ?_
  refine T_bind (t_X7_bits_L4 o rr h x0 0 0) (fun b4 => ?_)
  refine R_iload_n o 0 dX7_bits_24 rfl rfl ?_
  exact T_some (fun p => rr _ _ _ _ dX7_bits_25 p)
theorem c_X7_bits (g : Gx) (l : Launch) (h : MH) (x0 : Int32) (r : Int32) (e : f_X7_bits  x0 = some r) : Ctr g l yX7_bits cX7_bits 3 (some .int) 0 0 0 [.int x0] h (some (.int r)) h := mkCi (plainFor_of_name (by decide)) (Nat.le_of_ble_eq_true rfl) (fun V Rt o rr p => b_X7_bits o rr h x0  r e p)
/-! X7_abs -/
noncomputable def f_X7_abs (x0 : Int32) : Option Int32 :=
  (if x0 < 0 then some (-x0) else some x0)
set_option maxRecDepth 100000 in
set_option maxHeartbeats 4000000 in
theorem b_X7_abs {g : Gx} {l : Launch} {V : VT} {Rt : Option Value → MH → Prop} (o : Ok g l RX7 cX7_abs 1 0 0 0 V) (rr : ORi cX7_abs V Rt) (h : MH) (x0 : Int32) : T (fun r => Rt (some (.int r)) h) (f_X7_abs  x0) (V 0 [(0, .int x0)] [] h) := by
  unfold f_X7_abs
  refine R_iload_n o 0 dX7_abs_0 rfl rfl ?_
  refine R_if_ge o 9 dX7_abs_1 (by decide) ?_ ?_
  · refine R_iload_n o 0 dX7_abs_4 rfl rfl ?_
    refine R_ineg o dX7_abs_5 ?_
    refine R_goto o 10 dX7_abs_6 (by decide) ?_
    exact T_some (fun p => rr _ _ _ _ dX7_abs_10 p)
  · refine R_iload_n o 0 dX7_abs_9 rfl rfl ?_
    exact T_some (fun p => rr _ _ _ _ dX7_abs_10 p)
theorem c_X7_abs (g : Gx) (l : Launch) (h : MH) (x0 : Int32) (r : Int32) (e : f_X7_abs  x0 = some r) : Ctr g l yX7_abs cX7_abs 1 (some .int) 0 0 0 [.int x0] h (some (.int r)) h := mkCi (plainFor_of_name (by decide)) (Nat.le_of_ble_eq_true rfl) (fun V Rt o rr p => b_X7_abs o rr h x0  r e p)
/-! X7_tell -/
noncomputable def f_X7_tell_B6 (h : MH) (l1 : Int64) (l3 : Int64) (x5 : Int32) (l6 : Int64) (l8 : Int64) : Option ((Int64 × Int64) ⊕ (Int64)) :=
  (if l8 = 0 then some (.inr l6) else gd (nzL l8) (nm (lrm l6 l8) (fun v18 => some (.inl (l8, v18)))))
set_option maxRecDepth 100000 in
set_option maxHeartbeats 4000000 in
theorem t_X7_tell_B6 {g : Gx} {l : Launch} {V : VT} {Rt : Option Value → MH → Prop} (o : Ok g l RX7 cX7_tell 12 0 0 0 V) (rr : ORi cX7_tell V Rt) (h : MH) (l1 : Int64) (l3 : Int64) (x5 : Int32) (l6 : Int64) (l8 : Int64) : T (Sum.elim (fun s => V 6 [(0, rA g 64), (1, .long l1), (3, .long l3), (5, .int x5), (6, .long s.1), (8, .long s.2)] [] h) (fun b => V 31 [(0, rA g 64), (1, .long l1), (3, .long l3), (5, .int x5), (6, .long b)] [] h)) (f_X7_tell_B6  h l1 l3 x5 l6 l8) (V 6 [(0, rA g 64), (1, .long l1), (3, .long l3), (5, .int x5), (6, .long l6), (8, .long l8)] [] h) := by
  unfold f_X7_tell_B6
  refine R_lload o 5 dX7_tell_6 rfl ?_
  refine R_lconst (v := 0) o dX7_tell_8 (by decide) ?_
  refine R_lcmp_eq o 31 dX7_tell_9 dX7_tell_10 (by decide) ?_ ?_
  · refine R_drop (lv2 := [(0, rA g 64), (1, .long l1), (3, .long l3), (5, .int x5), (6, .long l6)]) o [0, 1, 2, 3, 4] rfl ?_
    exact T_some (fun p => p)
  · refine R_lload o 4 dX7_tell_13 rfl ?_
    refine R_lload o 5 dX7_tell_15 rfl ?_
    refine R_lrem o dX7_tell_17 ?_
    refine R_nmL (fun v18 => ?_)
    refine R_lstore (lv2 := [(0, rA g 64), (1, .long l1), (3, .long l3), (5, .int x5), (6, .long l6), (8, .long l8), (10, .long v18)]) o dX7_tell_18 (by decide) rfl ?_
    refine R_lload o 5 dX7_tell_20 rfl ?_
    refine R_lstore (lv2 := [(0, rA g 64), (1, .long l1), (3, .long l3), (5, .int x5), (6, .long l8), (8, .long l8), (10, .long v18)]) o dX7_tell_22 (by decide) rfl ?_
    refine R_lload o 6 dX7_tell_24 rfl ?_
    refine R_lstore (lv2 := [(0, rA g 64), (1, .long l1), (3, .long l3), (5, .int x5), (6, .long l8), (8, .long v18), (10, .long v18)]) o dX7_tell_26 (by decide) rfl ?_
    refine R_goto o 6 dX7_tell_28 (by decide) ?_
    refine R_drop (lv2 := [(0, rA g 64), (1, .long l1), (3, .long l3), (5, .int x5), (6, .long l8), (8, .long v18)]) o [0, 1, 2, 3, 4, 5] rfl ?_
    exact T_some (fun p => p)
noncomputable def f_X7_tell_L6 (h : MH) (l1 : Int64) (l3 : Int64) (x5 : Int32) (l6 : Int64) (l8 : Int64) : Option (Int64) :=
  lpo (fun s : Int64 × Int64 => f_X7_tell_B6 h l1 l3 x5 s.1 s.2) (l6, l8)
theorem t_X7_tell_L6 {g : Gx} {l : Launch} {V : VT} {Rt : Option Value → MH → Prop} (o : Ok g l RX7 cX7_tell 12 0 0 0 V) (rr : ORi cX7_tell V Rt) (h : MH) (l1 : Int64) (l3 : Int64) (x5 : Int32) (l6 : Int64) (l8 : Int64) : T (fun b => V 31 [(0, rA g 64), (1, .long l1), (3, .long l3), (5, .int x5), (6, .long b)] [] h) (f_X7_tell_L6 h l1 l3 x5 l6 l8) (V 6 [(0, rA g 64), (1, .long l1), (3, .long l3), (5, .int x5), (6, .long l6), (8, .long l8)] [] h) := T_loop (head := fun s : Int64 × Int64 => V 6 [(0, rA g 64), (1, .long l1), (3, .long l3), (5, .int x5), (6, .long s.1), (8, .long s.2)] [] h) (fun s => t_X7_tell_B6 o rr h l1 l3 x5 s.1 s.2 ) (l6, l8)
noncomputable def f_X7_tell (h : MH) (l1 : Int64) (l3 : Int64) (x5 : Int32) : Option (Int32 × MH) :=
  Option.bind (f_X7_tell_L6 h l1 l3 x5 l1 l3) (fun b6 => gd (nzL b6) (nm (uL h 64 3 (l1 / b6)) (fun h36 => gd (nzL b6) (nm (uL h36 64 4 (l3 / b6)) (fun h44 => some (x5, h44))))))
set_option maxRecDepth 100000 in
set_option maxHeartbeats 4000000 in
theorem b_X7_tell {g : Gx} {l : Launch} {V : VT} {Rt : Option Value → MH → Prop} (o : Ok g l RX7 cX7_tell 12 0 0 0 V) (rr : ORi cX7_tell V Rt) (h : MH) (l1 : Int64) (l3 : Int64) (x5 : Int32) : T (fun r => Rt (some (.int r.1)) r.2) (f_X7_tell h l1 l3 x5) (V 0 [(0, rA g 64), (1, .long l1), (3, .long l3), (5, .int x5)] [] h) := by
  unfold f_X7_tell
  refine R_lload_n o 1 dX7_tell_0 rfl rfl ?_
  refine R_lstore (lv2 := [(0, rA g 64), (1, .long l1), (3, .long l3), (5, .int x5), (6, .long l1)]) o dX7_tell_1 (by decide) rfl ?_
  refine R_lload_n o 2 dX7_tell_3 rfl rfl ?_
  refine R_lstore (lv2 := [(0, rA g 64), (1, .long l1), (3, .long l3), (5, .int x5), (6, .long l1), (8, .long l3)]) o dX7_tell_4 (by decide) rfl ?_
  refine T_bind (t_X7_tell_L6 o rr h l1 l3 x5 l1 l3) (fun b6 => ?_)
  refine R_aload_n o 0 dX7_tell_31 rfl rfl ?_
  refine R_lload_n o 1 dX7_tell_32 rfl rfl ?_
  refine R_lload o 4 dX7_tell_33 rfl ?_
  refine R_ldiv o dX7_tell_35 ?_
  refine R_putL o dX7_tell_36 fp_X7_89 sh_64 (by decide) rfl ?_
  refine R_nmH (fun h36 => ?_)
  refine R_aload_n o 0 dX7_tell_39 rfl rfl ?_
  refine R_lload_n o 2 dX7_tell_40 rfl rfl ?_
  refine R_lload o 4 dX7_tell_41 rfl ?_
  refine R_ldiv o dX7_tell_43 ?_
  refine R_putL o dX7_tell_44 fp_X7_13 sh_64 (by decide) rfl ?_
  refine R_nmH (fun h44 => ?_)
  refine R_iload o 3 dX7_tell_47 rfl ?_
  exact T_some (fun p => rr _ _ _ _ dX7_tell_49 p)
theorem c_X7_tell (g : Gx) (l : Launch) (h : MH) (l1 : Int64) (l3 : Int64) (x5 : Int32) (r : (Int32 × MH)) (e : f_X7_tell h l1 l3 x5 = some r) : Ctr g l yX7_tell cX7_tell 12 (some .int) 0 0 0 [rA g 64, .long l1, .long l3, .int x5] h (some (.int r.1)) r.2 := mkCi (plainFor_of_name (by decide)) (Nat.le_of_ble_eq_true rfl) (fun V Rt o rr p => b_X7_tell o rr h l1 l3 x5  r e p)
/-! X7_isRow -/
noncomputable def f_X7_isRow (x0 : Int32) : Option Bool :=
  Option.bind (f_X7_in x0 0 5) (fun r3 => some r3)
set_option maxRecDepth 100000 in
set_option maxHeartbeats 4000000 in
theorem b_X7_isRow {g : Gx} {l : Launch} {V : VT} {Rt : Option Value → MH → Prop} (o : Ok g l RX7 cX7_isRow 1 1 22 0 V) (rr : ORz cX7_isRow V Rt) (h : MH) (x0 : Int32) : T (fun r => Rt (some (.int (b2i r))) h) (f_X7_isRow  x0) (V 0 [(0, .int x0)] [] h) := by
  unfold f_X7_isRow
  refine R_iload_n o 0 dX7_isRow_0 rfl rfl ?_
  refine R_iconst (v := 0) o dX7_isRow_1 (by decide) ?_
  refine R_iconst (v := 5) o dX7_isRow_2 (by decide) ?_
  refine K_z (callS' (av := [.int x0, .int 0, .int 5]) (rest := []) o dX7_isRow_3 lk_X7_92 rfl rfl rfl (Nat.le_of_ble_eq_true rfl)) (c_X7_in g l h x0 0 5) (fun r3 => ?_)
  exact T_some (fun p => rr _ _ r3 _ dX7_isRow_6 p)
theorem c_X7_isRow (g : Gx) (l : Launch) (h : MH) (x0 : Int32) (r : Bool) (e : f_X7_isRow  x0 = some r) : Ctr g l yX7_isRow cX7_isRow 1 (some .boolean) 1 22 0 [.int x0] h (some (.int (b2i r))) h := mkCz (plainFor_of_name (by decide)) (Nat.le_of_ble_eq_true rfl) (fun V Rt o rr p => b_X7_isRow o rr h x0  r e p)
/-! X7_isText -/
noncomputable def f_X7_isText (x0 : Int32) : Option Bool :=
  Option.bind (f_X7_in x0 0 3) (fun r3 => some r3)
set_option maxRecDepth 100000 in
set_option maxHeartbeats 4000000 in
theorem b_X7_isText {g : Gx} {l : Launch} {V : VT} {Rt : Option Value → MH → Prop} (o : Ok g l RX7 cX7_isText 1 1 22 0 V) (rr : ORz cX7_isText V Rt) (h : MH) (x0 : Int32) : T (fun r => Rt (some (.int (b2i r))) h) (f_X7_isText  x0) (V 0 [(0, .int x0)] [] h) := by
  unfold f_X7_isText
  refine R_iload_n o 0 dX7_isText_0 rfl rfl ?_
  refine R_iconst (v := 0) o dX7_isText_1 (by decide) ?_
  refine R_iconst (v := 3) o dX7_isText_2 (by decide) ?_
  refine K_z (callS' (av := [.int x0, .int 0, .int 3]) (rest := []) o dX7_isText_3 lk_X7_92 rfl rfl rfl (Nat.le_of_ble_eq_true rfl)) (c_X7_in g l h x0 0 3) (fun r3 => ?_)
  exact T_some (fun p => rr _ _ r3 _ dX7_isText_6 p)
theorem c_X7_isText (g : Gx) (l : Launch) (h : MH) (x0 : Int32) (r : Bool) (e : f_X7_isText  x0 = some r) : Ctr g l yX7_isText cX7_isText 1 (some .boolean) 1 22 0 [.int x0] h (some (.int (b2i r))) h := mkCz (plainFor_of_name (by decide)) (Nat.le_of_ble_eq_true rfl) (fun V Rt o rr p => b_X7_isText o rr h x0  r e p)
/-! X7_askedRow -/
noncomputable def f_X7_askedRow (h : MH) (x1 : Int32) : Option (Int32 × MH) :=
  Option.bind (f_X7_isRow x1) (fun r1 => (if r1 = true then gd (ix x1 6) ((if (h.1 66 x1.toNatClampNeg) < 0 then bnd2 (f_X7_meets h 1) (fun r22 h22 => some (r22, h22)) else some (0, h))) else some ((-1), h)))
set_option maxRecDepth 100000 in
set_option maxHeartbeats 4000000 in
theorem b_X7_askedRow {g : Gx} {l : Launch} {V : VT} {Rt : Option Value → MH → Prop} (o : Ok g l RX7 cX7_askedRow 2 2 42 0 V) (rr : ORi cX7_askedRow V Rt) (h : MH) (x1 : Int32) : T (fun r => Rt (some (.int r.1)) r.2) (f_X7_askedRow h x1) (V 0 [(0, rA g 64), (1, .int x1)] [] h) := by
  unfold f_X7_askedRow
  refine R_iload_n o 1 dX7_askedRow_0 rfl rfl ?_
  refine K_z (callS' (av := [.int x1]) (rest := []) o dX7_askedRow_1 lk_X7_96 rfl rfl rfl (Nat.le_of_ble_eq_true rfl)) (c_X7_isRow g l h x1) (fun r1 => ?_)
  refine R_bif_ne o 11 dX7_askedRow_4 (by decide) ?_ ?_
  · refine R_aload_n o 0 dX7_askedRow_11 rfl rfl ?_
    refine R_getR (a2 := 66) o dX7_askedRow_12 fl_X7_17 sh_64 (by decide) rfl rf_64_5 ?_
    refine R_iload_n o 1 dX7_askedRow_15 rfl rfl ?_
    refine R_iald o dX7_askedRow_16 sh_66 ?_
    refine R_if_ge o 28 dX7_askedRow_17 (by decide) ?_ ?_
    · refine R_aload_n o 0 dX7_askedRow_20 rfl rfl ?_
      refine R_iconst (v := 1) o dX7_askedRow_21 (by decide) ?_
      refine K_ih (callV' (As := [.int 1]) (rest := []) o dX7_askedRow_22 lk_X7_100 rfl sh_64 rfl rfl rfl rfl (Nat.le_of_ble_eq_true rfl)) (c_X7_meets g l h 1) (fun r22 h22 => ?_)
      refine R_goto o 29 dX7_askedRow_25 (by decide) ?_
      exact T_some (fun p => rr _ _ _ _ dX7_askedRow_29 p)
    · refine R_iconst (v := 0) o dX7_askedRow_28 (by decide) ?_
      exact T_some (fun p => rr _ _ _ _ dX7_askedRow_29 p)
  · refine R_iconst (v := (-1)) o dX7_askedRow_7 (by decide) ?_
    refine R_goto o 29 dX7_askedRow_8 (by decide) ?_
    exact T_some (fun p => rr _ _ _ _ dX7_askedRow_29 p)
theorem c_X7_askedRow (g : Gx) (l : Launch) (h : MH) (x1 : Int32) (r : (Int32 × MH)) (e : f_X7_askedRow h x1 = some r) : Ctr g l yX7_askedRow cX7_askedRow 2 (some .int) 2 42 0 [rA g 64, .int x1] h (some (.int r.1)) r.2 := mkCi (plainFor_of_name (by decide)) (Nat.le_of_ble_eq_true rfl) (fun V Rt o rr p => b_X7_askedRow o rr h x1  r e p)
/-! X7_askedText -/
noncomputable def f_X7_askedText (h : MH) (x1 : Int32) : Option (Int32 × MH) :=
  Option.bind (f_X7_isText x1) (fun r1 => (if r1 = true then gd (ix x1 4) ((if (h.1 69 x1.toNatClampNeg) < 0 then bnd2 (f_X7_meets h 1) (fun r22 h22 => some (r22, h22)) else some (0, h))) else some ((-1), h)))
set_option maxRecDepth 100000 in
set_option maxHeartbeats 4000000 in
theorem b_X7_askedText {g : Gx} {l : Launch} {V : VT} {Rt : Option Value → MH → Prop} (o : Ok g l RX7 cX7_askedText 2 2 42 0 V) (rr : ORi cX7_askedText V Rt) (h : MH) (x1 : Int32) : T (fun r => Rt (some (.int r.1)) r.2) (f_X7_askedText h x1) (V 0 [(0, rA g 64), (1, .int x1)] [] h) := by
  unfold f_X7_askedText
  refine R_iload_n o 1 dX7_askedText_0 rfl rfl ?_
  refine K_z (callS' (av := [.int x1]) (rest := []) o dX7_askedText_1 lk_X7_104 rfl rfl rfl (Nat.le_of_ble_eq_true rfl)) (c_X7_isText g l h x1) (fun r1 => ?_)
  refine R_bif_ne o 11 dX7_askedText_4 (by decide) ?_ ?_
  · refine R_aload_n o 0 dX7_askedText_11 rfl rfl ?_
    refine R_getR (a2 := 69) o dX7_askedText_12 fl_X7_26 sh_64 (by decide) rfl rf_64_8 ?_
    refine R_iload_n o 1 dX7_askedText_15 rfl rfl ?_
    refine R_iald o dX7_askedText_16 sh_69 ?_
    refine R_if_ge o 28 dX7_askedText_17 (by decide) ?_ ?_
    · refine R_aload_n o 0 dX7_askedText_20 rfl rfl ?_
      refine R_iconst (v := 1) o dX7_askedText_21 (by decide) ?_
      refine K_ih (callV' (As := [.int 1]) (rest := []) o dX7_askedText_22 lk_X7_100 rfl sh_64 rfl rfl rfl rfl (Nat.le_of_ble_eq_true rfl)) (c_X7_meets g l h 1) (fun r22 h22 => ?_)
      refine R_goto o 29 dX7_askedText_25 (by decide) ?_
      exact T_some (fun p => rr _ _ _ _ dX7_askedText_29 p)
    · refine R_iconst (v := 0) o dX7_askedText_28 (by decide) ?_
      exact T_some (fun p => rr _ _ _ _ dX7_askedText_29 p)
  · refine R_iconst (v := (-1)) o dX7_askedText_7 (by decide) ?_
    refine R_goto o 29 dX7_askedText_8 (by decide) ?_
    exact T_some (fun p => rr _ _ _ _ dX7_askedText_29 p)
theorem c_X7_askedText (g : Gx) (l : Launch) (h : MH) (x1 : Int32) (r : (Int32 × MH)) (e : f_X7_askedText h x1 = some r) : Ctr g l yX7_askedText cX7_askedText 2 (some .int) 2 42 0 [rA g 64, .int x1] h (some (.int r.1)) r.2 := mkCi (plainFor_of_name (by decide)) (Nat.le_of_ble_eq_true rfl) (fun V Rt o rr p => b_X7_askedText o rr h x1  r e p)
/-! X7_rowAt -/
noncomputable def f_X7_rowAt (h : MH) (x1 : Int32) (x2 : Int32) : Option Int32 :=
  gd (ix ((40 * x1) + x2) 240) (some (h.1 67 ((40 * x1) + x2).toNatClampNeg))
set_option maxRecDepth 100000 in
set_option maxHeartbeats 4000000 in
theorem b_X7_rowAt {g : Gx} {l : Launch} {V : VT} {Rt : Option Value → MH → Prop} (o : Ok g l RX7 cX7_rowAt 3 0 0 0 V) (rr : ORi cX7_rowAt V Rt) (h : MH) (x1 : Int32) (x2 : Int32) : T (fun r => Rt (some (.int r)) h) (f_X7_rowAt h x1 x2) (V 0 [(0, rA g 64), (1, .int x1), (2, .int x2)] [] h) := by
  unfold f_X7_rowAt
  refine R_aload_n o 0 dX7_rowAt_0 rfl rfl ?_
  refine R_getR (a2 := 67) o dX7_rowAt_1 fl_X7_20 sh_64 (by decide) rfl rf_64_6 ?_
  refine R_bipush (v := 40) o dX7_rowAt_4 (by decide) ?_
  refine R_iload_n o 1 dX7_rowAt_6 rfl rfl ?_
  refine R_imul o dX7_rowAt_7 ?_
  refine R_iload_n o 2 dX7_rowAt_8 rfl rfl ?_
  refine R_iadd o dX7_rowAt_9 ?_
  refine R_iald o dX7_rowAt_10 sh_67 ?_
  exact T_some (fun p => rr _ _ _ _ dX7_rowAt_11 p)
theorem c_X7_rowAt (g : Gx) (l : Launch) (h : MH) (x1 : Int32) (x2 : Int32) (r : Int32) (e : f_X7_rowAt h x1 x2 = some r) : Ctr g l yX7_rowAt cX7_rowAt 3 (some .int) 0 0 0 [rA g 64, .int x1, .int x2] h (some (.int r)) h := mkCi (plainFor_of_name (by decide)) (Nat.le_of_ble_eq_true rfl) (fun V Rt o rr p => b_X7_rowAt o rr h x1 x2  r e p)
/-! X7_row -/
noncomputable def f_X7_row_B34 (h : MH) (x1 : Int32) (x2 : Int32) (x3 : Int32) : Option ((Int32 × MH) ⊕ (MH)) :=
  (if x3 < 40 then gd (ix ((40 * x1) + x3) 240) (nm (uI h 67 ((40 * x1) + x3).toNatClampNeg 0) (fun h51 => some (.inl ((x3 + 1), h51)))) else some (.inr h))
set_option maxRecDepth 100000 in
set_option maxHeartbeats 4000000 in
theorem t_X7_row_B34 {g : Gx} {l : Launch} {V : VT} {Rt : Option Value → MH → Prop} (o : Ok g l RX7 cX7_row 4 2 42 0 V) (rr : ORi cX7_row V Rt) (h : MH) (x1 : Int32) (x2 : Int32) (x3 : Int32) : T (Sum.elim (fun s => V 34 [(0, rA g 64), (1, .int x1), (2, .int x2), (3, .int s.1)] [] s.2) (fun b => V 58 [(2, .int x2)] [] b)) (f_X7_row_B34  h x1 x2 x3) (V 34 [(0, rA g 64), (1, .int x1), (2, .int x2), (3, .int x3)] [] h) := by
  unfold f_X7_row_B34
  refine R_iload_n o 3 dX7_row_34 rfl rfl ?_
  refine R_bipush (v := 40) o dX7_row_35 (by decide) ?_
  refine R_icmp_ge o 58 dX7_row_37 (by decide) ?_ ?_
  · refine R_aload_n o 0 dX7_row_40 rfl rfl ?_
    refine R_getR (a2 := 67) o dX7_row_41 fl_X7_20 sh_64 (by decide) rfl rf_64_6 ?_
    refine R_bipush (v := 40) o dX7_row_44 (by decide) ?_
    refine R_iload_n o 1 dX7_row_46 rfl rfl ?_
    refine R_imul o dX7_row_47 ?_
    refine R_iload_n o 3 dX7_row_48 rfl rfl ?_
    refine R_iadd o dX7_row_49 ?_
    refine R_iconst (v := 0) o dX7_row_50 (by decide) ?_
    refine R_iast o dX7_row_51 sh_67 ?_
    refine R_nmH (fun h51 => ?_)
    refine R_iinc (v := (x3 + 1)) (lv2 := [(0, rA g 64), (1, .int x1), (2, .int x2), (3, .int (x3 + 1))]) o 3 dX7_row_52 rfl rfl (by decide) rfl ?_
    refine R_goto o 34 dX7_row_55 (by decide) ?_
    exact T_some (fun p => p)
  · refine R_drop (lv2 := [(2, .int x2)]) o [2] rfl ?_
    exact T_some (fun p => p)
noncomputable def f_X7_row_L34 (h : MH) (x1 : Int32) (x2 : Int32) (x3 : Int32) : Option (MH) :=
  lpo (fun s : Int32 × MH => f_X7_row_B34 s.2 x1 x2 s.1) (x3, h)
theorem t_X7_row_L34 {g : Gx} {l : Launch} {V : VT} {Rt : Option Value → MH → Prop} (o : Ok g l RX7 cX7_row 4 2 42 0 V) (rr : ORi cX7_row V Rt) (h : MH) (x1 : Int32) (x2 : Int32) (x3 : Int32) : T (fun b => V 58 [(2, .int x2)] [] b) (f_X7_row_L34 h x1 x2 x3) (V 34 [(0, rA g 64), (1, .int x1), (2, .int x2), (3, .int x3)] [] h) := T_loop (head := fun s : Int32 × MH => V 34 [(0, rA g 64), (1, .int x1), (2, .int x2), (3, .int s.1)] [] s.2) (fun s => t_X7_row_B34 o rr s.2 x1 x2 s.1 ) (x3, h)
noncomputable def f_X7_row (h : MH) (x1 : Int32) (x2 : Int32) : Option (Int32 × MH) :=
  Option.bind (f_X7_isRow x1) (fun r1 => (if r1 = true then (if 40 < x2 then some ((-1), h) else (if x2 < 0 then bnd2 (f_X7_meets h 5) (fun r21 h21 => some (r21, h21)) else gd (ix x1 6) (nm (uI h 66 x1.toNatClampNeg x2) (fun h31 => Option.bind (f_X7_row_L34 h31 x1 x2 0) (fun b34 => some (x2, b34)))))) else some ((-1), h)))
set_option maxRecDepth 100000 in
set_option maxHeartbeats 4000000 in
theorem b_X7_row {g : Gx} {l : Launch} {V : VT} {Rt : Option Value → MH → Prop} (o : Ok g l RX7 cX7_row 4 2 42 0 V) (rr : ORi cX7_row V Rt) (h : MH) (x1 : Int32) (x2 : Int32) : T (fun r => Rt (some (.int r.1)) r.2) (f_X7_row h x1 x2) (V 0 [(0, rA g 64), (1, .int x1), (2, .int x2)] [] h) := by
  unfold f_X7_row
  refine R_iload_n o 1 dX7_row_0 rfl rfl ?_
  refine K_z (callS' (av := [.int x1]) (rest := []) o dX7_row_1 lk_X7_96 rfl rfl rfl (Nat.le_of_ble_eq_true rfl)) (c_X7_isRow g l h x1) (fun r1 => ?_)
  refine R_bif_eq o 13 dX7_row_4 (by decide) ?_ ?_
  · refine R_iload_n o 2 dX7_row_7 rfl rfl ?_
    refine R_bipush (v := 40) o dX7_row_8 (by decide) ?_
    refine R_icmp_le o 15 dX7_row_10 (by decide) ?_ ?_
    · refine R_iconst (v := (-1)) o dX7_row_13 (by decide) ?_
      exact T_some (fun p => rr _ _ _ _ dX7_row_14 p)
    · refine R_iload_n o 2 dX7_row_15 rfl rfl ?_
      refine R_if_ge o 25 dX7_row_16 (by decide) ?_ ?_
      · refine R_aload_n o 0 dX7_row_19 rfl rfl ?_
        refine R_iconst (v := 5) o dX7_row_20 (by decide) ?_
        refine K_ih (callV' (As := [.int 5]) (rest := []) o dX7_row_21 lk_X7_100 rfl sh_64 rfl rfl rfl rfl (Nat.le_of_ble_eq_true rfl)) (c_X7_meets g l h 5) (fun r21 h21 => ?_)
        exact T_some (fun p => rr _ _ _ _ dX7_row_24 p)
      · refine R_aload_n o 0 dX7_row_25 rfl rfl ?_
        refine R_getR (a2 := 66) o dX7_row_26 fl_X7_17 sh_64 (by decide) rfl rf_64_5 ?_
        refine R_iload_n o 1 dX7_row_29 rfl rfl ?_
        refine R_iload_n o 2 dX7_row_30 rfl rfl ?_
        refine R_iast o dX7_row_31 sh_66 ?_
        refine R_nmH (fun h31 => ?_)
        refine R_iconst (v := 0) o dX7_row_32 (by decide) ?_
        refine R_istore_n (lv2 := [(0, rA g 64), (1, .int x1), (2, .int x2), (3, .int 0)]) o dX7_row_33 rfl (by decide) rfl ?_
        refine T_bind (t_X7_row_L34 o rr h31 x1 x2 0) (fun b34 => ?_)
        refine R_iload_n o 0 dX7_row_58 rfl rfl ?_
        exact T_some (fun p => rr _ _ _ _ dX7_row_59 p)
  · refine R_iconst (v := (-1)) o dX7_row_13 (by decide) ?_
    exact T_some (fun p => rr _ _ _ _ dX7_row_14 p)
theorem c_X7_row (g : Gx) (l : Launch) (h : MH) (x1 : Int32) (x2 : Int32) (r : (Int32 × MH)) (e : f_X7_row h x1 x2 = some r) : Ctr g l yX7_row cX7_row 4 (some .int) 2 42 0 [rA g 64, .int x1, .int x2] h (some (.int r.1)) r.2 := mkCi (plainFor_of_name (by decide)) (Nat.le_of_ble_eq_true rfl) (fun V Rt o rr p => b_X7_row o rr h x1 x2  r e p)
/-! X7_at -/
noncomputable def f_X7_at (h : MH) (x1 : Int32) (x2 : Int32) : Option (Int32 × MH) :=
  bnd2 (f_X7_askedRow h x1) (fun r2 h2 => (if r2 < 0 then some (r2, h2) else gd (ix x1 6) (Option.bind (f_X7_in x2 0 ((h2.1 66 x1.toNatClampNeg) - 1)) (fun r22 => (if r22 = true then Option.bind (f_X7_rowAt h2 x1 x2) (fun r32 => bnd2 (f_X7_ask h2 r32 1) (fun r36 h36 => some (r36, h36))) else bnd2 (f_X7_meets h2 2) (fun r44 h44 => some (r44, h44)))))))
set_option maxRecDepth 100000 in
set_option maxHeartbeats 4000000 in
theorem b_X7_at {g : Gx} {l : Launch} {V : VT} {Rt : Option Value → MH → Prop} (o : Ok g l RX7 cX7_at 4 3 63 0 V) (rr : ORi cX7_at V Rt) (h : MH) (x1 : Int32) (x2 : Int32) : T (fun r => Rt (some (.int r.1)) r.2) (f_X7_at h x1 x2) (V 0 [(0, rA g 64), (1, .int x1), (2, .int x2)] [] h) := by
  unfold f_X7_at
  refine R_aload_n o 0 dX7_at_0 rfl rfl ?_
  refine R_iload_n o 1 dX7_at_1 rfl rfl ?_
  refine K_ih (callV' (As := [.int x1]) (rest := []) o dX7_at_2 lk_X7_107 rfl sh_64 rfl rfl rfl rfl (Nat.le_of_ble_eq_true rfl)) (c_X7_askedRow g l h x1) (fun r2 h2 => ?_)
  refine R_istore_n (lv2 := [(0, rA g 64), (1, .int x1), (2, .int x2), (3, .int r2)]) o dX7_at_5 rfl (by decide) rfl ?_
  refine R_iload_n o 3 dX7_at_6 rfl rfl ?_
  refine R_if_ge o 12 dX7_at_7 (by decide) ?_ ?_
  · refine R_iload_n o 3 dX7_at_10 rfl rfl ?_
    exact T_some (fun p => rr _ _ _ _ dX7_at_11 p)
  · refine R_iload_n o 2 dX7_at_12 rfl rfl ?_
    refine R_iconst (v := 0) o dX7_at_13 (by decide) ?_
    refine R_aload_n o 0 dX7_at_14 rfl rfl ?_
    refine R_getR (a2 := 66) o dX7_at_15 fl_X7_17 sh_64 (by decide) rfl rf_64_5 ?_
    refine R_iload_n o 1 dX7_at_18 rfl rfl ?_
    refine R_iald o dX7_at_19 sh_66 ?_
    refine R_iconst (v := 1) o dX7_at_20 (by decide) ?_
    refine R_isub o dX7_at_21 ?_
    refine K_z (callS' (av := [.int x2, .int 0, .int ((h2.1 66 x1.toNatClampNeg) - 1)]) (rest := []) o dX7_at_22 lk_X7_92 rfl rfl rfl (Nat.le_of_ble_eq_true rfl)) (c_X7_in g l h2 x2 0 ((h2.1 66 x1.toNatClampNeg) - 1)) (fun r22 => ?_)
    refine R_bif_eq o 42 dX7_at_25 (by decide) ?_ ?_
    · refine R_aload_n o 0 dX7_at_28 rfl rfl ?_
      refine R_aload_n o 0 dX7_at_29 rfl rfl ?_
      refine R_iload_n o 1 dX7_at_30 rfl rfl ?_
      refine R_iload_n o 2 dX7_at_31 rfl rfl ?_
      refine K_i (callV' (As := [.int x1, .int x2]) (rest := [rA g 64]) o dX7_at_32 lk_X7_110 rfl sh_64 rfl rfl rfl rfl (Nat.le_of_ble_eq_true rfl)) (c_X7_rowAt g l h2 x1 x2) (fun r32 => ?_)
      refine R_iconst (v := 1) o dX7_at_35 (by decide) ?_
      refine K_ih (callV' (As := [.int r32, .int 1]) (rest := []) o dX7_at_36 lk_X7_114 rfl sh_64 rfl rfl rfl rfl (Nat.le_of_ble_eq_true rfl)) (c_X7_ask g l h2 r32 1) (fun r36 h36 => ?_)
      refine R_goto o 47 dX7_at_39 (by decide) ?_
      exact T_some (fun p => rr _ _ _ _ dX7_at_47 p)
    · refine R_aload_n o 0 dX7_at_42 rfl rfl ?_
      refine R_iconst (v := 2) o dX7_at_43 (by decide) ?_
      refine K_ih (callV' (As := [.int 2]) (rest := []) o dX7_at_44 lk_X7_100 rfl sh_64 rfl rfl rfl rfl (Nat.le_of_ble_eq_true rfl)) (c_X7_meets g l h2 2) (fun r44 h44 => ?_)
      exact T_some (fun p => rr _ _ _ _ dX7_at_47 p)
theorem c_X7_at (g : Gx) (l : Launch) (h : MH) (x1 : Int32) (x2 : Int32) (r : (Int32 × MH)) (e : f_X7_at h x1 x2 = some r) : Ctr g l yX7_at cX7_at 4 (some .int) 3 63 0 [rA g 64, .int x1, .int x2] h (some (.int r.1)) r.2 := mkCi (plainFor_of_name (by decide)) (Nat.le_of_ble_eq_true rfl) (fun V Rt o rr p => b_X7_at o rr h x1 x2  r e p)
/-! X7_lay -/
noncomputable def f_X7_lay (h : MH) (x1 : Int32) (x2 : Int32) (x3 : Int32) : Option (Int32 × MH) :=
  bnd2 (f_X7_at h x1 x2) (fun r3 h3 => (if r3 < 0 then some (r3, h3) else gd (ix ((40 * x1) + x2) 240) (nm (uI h3 67 ((40 * x1) + x2).toNatClampNeg x3) (fun h27 => some (1, h27)))))
set_option maxRecDepth 100000 in
set_option maxHeartbeats 4000000 in
theorem b_X7_lay {g : Gx} {l : Launch} {V : VT} {Rt : Option Value → MH → Prop} (o : Ok g l RX7 cX7_lay 5 4 86 0 V) (rr : ORi cX7_lay V Rt) (h : MH) (x1 : Int32) (x2 : Int32) (x3 : Int32) : T (fun r => Rt (some (.int r.1)) r.2) (f_X7_lay h x1 x2 x3) (V 0 [(0, rA g 64), (1, .int x1), (2, .int x2), (3, .int x3)] [] h) := by
  unfold f_X7_lay
  refine R_aload_n o 0 dX7_lay_0 rfl rfl ?_
  refine R_iload_n o 1 dX7_lay_1 rfl rfl ?_
  refine R_iload_n o 2 dX7_lay_2 rfl rfl ?_
  refine K_ih (callV' (As := [.int x1, .int x2]) (rest := []) o dX7_lay_3 lk_X7_117 rfl sh_64 rfl rfl rfl rfl (Nat.le_of_ble_eq_true rfl)) (c_X7_at g l h x1 x2) (fun r3 h3 => ?_)
  refine R_istore (lv2 := [(0, rA g 64), (1, .int x1), (2, .int x2), (3, .int x3), (4, .int r3)]) o dX7_lay_6 (by decide) rfl ?_
  refine R_iload o 4 dX7_lay_8 rfl ?_
  refine R_if_ge o 16 dX7_lay_10 (by decide) ?_ ?_
  · refine R_iload o 4 dX7_lay_13 rfl ?_
    exact T_some (fun p => rr _ _ _ _ dX7_lay_15 p)
  · refine R_aload_n o 0 dX7_lay_16 rfl rfl ?_
    refine R_getR (a2 := 67) o dX7_lay_17 fl_X7_20 sh_64 (by decide) rfl rf_64_6 ?_
    refine R_bipush (v := 40) o dX7_lay_20 (by decide) ?_
    refine R_iload_n o 1 dX7_lay_22 rfl rfl ?_
    refine R_imul o dX7_lay_23 ?_
    refine R_iload_n o 2 dX7_lay_24 rfl rfl ?_
    refine R_iadd o dX7_lay_25 ?_
    refine R_iload_n o 3 dX7_lay_26 rfl rfl ?_
    refine R_iast o dX7_lay_27 sh_67 ?_
    refine R_nmH (fun h27 => ?_)
    refine R_iconst (v := 1) o dX7_lay_28 (by decide) ?_
    exact T_some (fun p => rr _ _ _ _ dX7_lay_29 p)
theorem c_X7_lay (g : Gx) (l : Launch) (h : MH) (x1 : Int32) (x2 : Int32) (x3 : Int32) (r : (Int32 × MH)) (e : f_X7_lay h x1 x2 x3 = some r) : Ctr g l yX7_lay cX7_lay 5 (some .int) 4 86 0 [rA g 64, .int x1, .int x2, .int x3] h (some (.int r.1)) r.2 := mkCi (plainFor_of_name (by decide)) (Nat.le_of_ble_eq_true rfl) (fun V Rt o rr p => b_X7_lay o rr h x1 x2 x3  r e p)
/-! X7_tear -/
noncomputable def f_X7_tear (h : MH) (x1 : Int32) : Option (Int32 × MH) :=
  bnd2 (f_X7_askedRow h x1) (fun r2 h2 => (if r2 < 0 then some (r2, h2) else gd (ix x1 6) (nm (uI h2 66 x1.toNatClampNeg (-9)) (fun h19 => some (1, h19)))))
set_option maxRecDepth 100000 in
set_option maxHeartbeats 4000000 in
theorem b_X7_tear {g : Gx} {l : Launch} {V : VT} {Rt : Option Value → MH → Prop} (o : Ok g l RX7 cX7_tear 3 3 63 0 V) (rr : ORi cX7_tear V Rt) (h : MH) (x1 : Int32) : T (fun r => Rt (some (.int r.1)) r.2) (f_X7_tear h x1) (V 0 [(0, rA g 64), (1, .int x1)] [] h) := by
  unfold f_X7_tear
  refine R_aload_n o 0 dX7_tear_0 rfl rfl ?_
  refine R_iload_n o 1 dX7_tear_1 rfl rfl ?_
  refine K_ih (callV' (As := [.int x1]) (rest := []) o dX7_tear_2 lk_X7_107 rfl sh_64 rfl rfl rfl rfl (Nat.le_of_ble_eq_true rfl)) (c_X7_askedRow g l h x1) (fun r2 h2 => ?_)
  refine R_istore_n (lv2 := [(0, rA g 64), (1, .int x1), (2, .int r2)]) o dX7_tear_5 rfl (by decide) rfl ?_
  refine R_iload_n o 2 dX7_tear_6 rfl rfl ?_
  refine R_if_ge o 12 dX7_tear_7 (by decide) ?_ ?_
  · refine R_iload_n o 2 dX7_tear_10 rfl rfl ?_
    exact T_some (fun p => rr _ _ _ _ dX7_tear_11 p)
  · refine R_aload_n o 0 dX7_tear_12 rfl rfl ?_
    refine R_getR (a2 := 66) o dX7_tear_13 fl_X7_17 sh_64 (by decide) rfl rf_64_5 ?_
    refine R_iload_n o 1 dX7_tear_16 rfl rfl ?_
    refine R_bipush (v := (-9)) o dX7_tear_17 (by decide) ?_
    refine R_iast o dX7_tear_19 sh_66 ?_
    refine R_nmH (fun h19 => ?_)
    refine R_iconst (v := 1) o dX7_tear_20 (by decide) ?_
    exact T_some (fun p => rr _ _ _ _ dX7_tear_21 p)
theorem c_X7_tear (g : Gx) (l : Launch) (h : MH) (x1 : Int32) (r : (Int32 × MH)) (e : f_X7_tear h x1 = some r) : Ctr g l yX7_tear cX7_tear 3 (some .int) 3 63 0 [rA g 64, .int x1] h (some (.int r.1)) r.2 := mkCi (plainFor_of_name (by decide)) (Nat.le_of_ble_eq_true rfl) (fun V Rt o rr p => b_X7_tear o rr h x1  r e p)
/-! X7_copy -/
noncomputable def f_X7_copy_B104 (h : MH) (x1 : Int32) (x2 : Int32) (x3 : Int32) (x4 : Int32) (x5 : Int32) (x6 : Int32) : Option ((Int32 × MH) ⊕ (MH)) :=
  (if x6 < x5 then Option.bind (f_X7_rowAt h x1 (x2 + x6)) (fun r123 => gd (ix x6 40) (nm (uI h 68 x6.toNatClampNeg r123) (fun h126 => some (.inl ((x6 + 1), h126))))) else some (.inr h))
set_option maxRecDepth 100000 in
set_option maxHeartbeats 4000000 in
theorem t_X7_copy_B104 {g : Gx} {l : Launch} {V : VT} {Rt : Option Value → MH → Prop} (o : Ok g l RX7 cX7_copy 7 2 42 0 V) (rr : ORi cX7_copy V Rt) (h : MH) (x1 : Int32) (x2 : Int32) (x3 : Int32) (x4 : Int32) (x5 : Int32) (x6 : Int32) : T (Sum.elim (fun s => V 104 [(0, rA g 64), (1, .int x1), (2, .int x2), (3, .int x3), (4, .int x4), (5, .int x5), (6, .int s.1)] [] s.2) (fun b => V 133 [(0, rA g 64), (3, .int x3), (4, .int x4), (5, .int x5)] [] b)) (f_X7_copy_B104  h x1 x2 x3 x4 x5 x6) (V 104 [(0, rA g 64), (1, .int x1), (2, .int x2), (3, .int x3), (4, .int x4), (5, .int x5), (6, .int x6)] [] h) := by
  unfold f_X7_copy_B104
  refine R_iload o 6 dX7_copy_104 rfl ?_
  refine R_iload o 5 dX7_copy_106 rfl ?_
  refine R_icmp_ge o 133 dX7_copy_108 (by decide) ?_ ?_
  · refine R_aload_n o 0 dX7_copy_111 rfl rfl ?_
    refine R_getR (a2 := 68) o dX7_copy_112 fl_X7_23 sh_64 (by decide) rfl rf_64_7 ?_
    refine R_iload o 6 dX7_copy_115 rfl ?_
    refine R_aload_n o 0 dX7_copy_117 rfl rfl ?_
    refine R_iload_n o 1 dX7_copy_118 rfl rfl ?_
    refine R_iload_n o 2 dX7_copy_119 rfl rfl ?_
    refine R_iload o 6 dX7_copy_120 rfl ?_
    refine R_iadd o dX7_copy_122 ?_
    refine K_i (callV' (As := [.int x1, .int (x2 + x6)]) (rest := [.int x6, rA g 68]) o dX7_copy_123 lk_X7_110 rfl sh_64 rfl rfl rfl rfl (Nat.le_of_ble_eq_true rfl)) (c_X7_rowAt g l h x1 (x2 + x6)) (fun r123 => ?_)
    refine R_iast o dX7_copy_126 sh_68 ?_
    refine R_nmH (fun h126 => ?_)
    refine R_iinc (v := (x6 + 1)) (lv2 := [(0, rA g 64), (1, .int x1), (2, .int x2), (3, .int x3), (4, .int x4), (5, .int x5), (6, .int (x6 + 1))]) o 6 dX7_copy_127 rfl rfl (by decide) rfl ?_
    refine R_goto o 104 dX7_copy_130 (by decide) ?_
    exact T_some (fun p => p)
  · refine R_drop (lv2 := [(0, rA g 64), (3, .int x3), (4, .int x4), (5, .int x5)]) o [0, 3, 4, 5] rfl ?_
    exact T_some (fun p => p)
noncomputable def f_X7_copy_L104 (h : MH) (x1 : Int32) (x2 : Int32) (x3 : Int32) (x4 : Int32) (x5 : Int32) (x6 : Int32) : Option (MH) :=
  lpo (fun s : Int32 × MH => f_X7_copy_B104 s.2 x1 x2 x3 x4 x5 s.1) (x6, h)
theorem t_X7_copy_L104 {g : Gx} {l : Launch} {V : VT} {Rt : Option Value → MH → Prop} (o : Ok g l RX7 cX7_copy 7 2 42 0 V) (rr : ORi cX7_copy V Rt) (h : MH) (x1 : Int32) (x2 : Int32) (x3 : Int32) (x4 : Int32) (x5 : Int32) (x6 : Int32) : T (fun b => V 133 [(0, rA g 64), (3, .int x3), (4, .int x4), (5, .int x5)] [] b) (f_X7_copy_L104 h x1 x2 x3 x4 x5 x6) (V 104 [(0, rA g 64), (1, .int x1), (2, .int x2), (3, .int x3), (4, .int x4), (5, .int x5), (6, .int x6)] [] h) := T_loop (head := fun s : Int32 × MH => V 104 [(0, rA g 64), (1, .int x1), (2, .int x2), (3, .int x3), (4, .int x4), (5, .int x5), (6, .int s.1)] [] s.2) (fun s => t_X7_copy_B104 o rr s.2 x1 x2 x3 x4 x5 s.1 ) (x6, h)
noncomputable def f_X7_copy_B136 (h : MH) (x3 : Int32) (x4 : Int32) (x5 : Int32) (x6 : Int32) : Option ((Int32 × MH) ⊕ (MH)) :=
  (if x6 < x5 then gd (ix x6 40) (gd (ix (((40 * x3) + x4) + x6) 240) (nm (uI h 67 (((40 * x3) + x4) + x6).toNatClampNeg (h.1 68 x6.toNatClampNeg)) (fun h164 => some (.inl ((x6 + 1), h164))))) else some (.inr h))
set_option maxRecDepth 100000 in
set_option maxHeartbeats 4000000 in
theorem t_X7_copy_B136 {g : Gx} {l : Launch} {V : VT} {Rt : Option Value → MH → Prop} (o : Ok g l RX7 cX7_copy 7 2 42 0 V) (rr : ORi cX7_copy V Rt) (h : MH) (x3 : Int32) (x4 : Int32) (x5 : Int32) (x6 : Int32) : T (Sum.elim (fun s => V 136 [(0, rA g 64), (3, .int x3), (4, .int x4), (5, .int x5), (6, .int s.1)] [] s.2) (fun b => V 171 [] [] b)) (f_X7_copy_B136  h x3 x4 x5 x6) (V 136 [(0, rA g 64), (3, .int x3), (4, .int x4), (5, .int x5), (6, .int x6)] [] h) := by
  unfold f_X7_copy_B136
  refine R_iload o 4 dX7_copy_136 rfl ?_
  refine R_iload o 3 dX7_copy_138 rfl ?_
  refine R_icmp_ge o 171 dX7_copy_140 (by decide) ?_ ?_
  · refine R_aload_n o 0 dX7_copy_143 rfl rfl ?_
    refine R_getR (a2 := 67) o dX7_copy_144 fl_X7_20 sh_64 (by decide) rfl rf_64_6 ?_
    refine R_bipush (v := 40) o dX7_copy_147 (by decide) ?_
    refine R_iload_n o 1 dX7_copy_149 rfl rfl ?_
    refine R_imul o dX7_copy_150 ?_
    refine R_iload o 2 dX7_copy_151 rfl ?_
    refine R_iadd o dX7_copy_153 ?_
    refine R_iload o 4 dX7_copy_154 rfl ?_
    refine R_iadd o dX7_copy_156 ?_
    refine R_aload_n o 0 dX7_copy_157 rfl rfl ?_
    refine R_getR (a2 := 68) o dX7_copy_158 fl_X7_23 sh_64 (by decide) rfl rf_64_7 ?_
    refine R_iload o 4 dX7_copy_161 rfl ?_
    refine R_iald o dX7_copy_163 sh_68 ?_
    refine R_iast o dX7_copy_164 sh_67 ?_
    refine R_nmH (fun h164 => ?_)
    refine R_iinc (v := (x6 + 1)) (lv2 := [(0, rA g 64), (3, .int x3), (4, .int x4), (5, .int x5), (6, .int (x6 + 1))]) o 4 dX7_copy_165 rfl rfl (by decide) rfl ?_
    refine R_goto o 136 dX7_copy_168 (by decide) ?_
    exact T_some (fun p => p)
  · refine R_drop (lv2 := []) o [] rfl ?_
    exact T_some (fun p => p)
noncomputable def f_X7_copy_L136 (h : MH) (x3 : Int32) (x4 : Int32) (x5 : Int32) (x6 : Int32) : Option (MH) :=
  lpo (fun s : Int32 × MH => f_X7_copy_B136 s.2 x3 x4 x5 s.1) (x6, h)
theorem t_X7_copy_L136 {g : Gx} {l : Launch} {V : VT} {Rt : Option Value → MH → Prop} (o : Ok g l RX7 cX7_copy 7 2 42 0 V) (rr : ORi cX7_copy V Rt) (h : MH) (x3 : Int32) (x4 : Int32) (x5 : Int32) (x6 : Int32) : T (fun b => V 171 [] [] b) (f_X7_copy_L136 h x3 x4 x5 x6) (V 136 [(0, rA g 64), (3, .int x3), (4, .int x4), (5, .int x5), (6, .int x6)] [] h) := T_loop (head := fun s : Int32 × MH => V 136 [(0, rA g 64), (3, .int x3), (4, .int x4), (5, .int x5), (6, .int s.1)] [] s.2) (fun s => t_X7_copy_B136 o rr s.2 x3 x4 x5 s.1 ) (x6, h)
noncomputable def f_X7_copy (h : MH) (x1 : Int32) (x2 : Int32) (x3 : Int32) (x4 : Int32) (x5 : Int32) : Option (Int32 × MH) :=
  Option.bind (f_X7_isRow x1) (fun r1 => (if r1 = true then Option.bind (f_X7_isRow x3) (fun r8 => (if r8 = true then (if x5 < 0 then bnd2 (f_X7_meets h 5) (fun r23 h23 => some (r23, h23)) else gd (ix x1 6) ((if (h.1 66 x1.toNatClampNeg) < 0 then bnd2 (f_X7_meets h 1) (fun r47 h47 => some (r47, h47)) else gd (ix x3 6) ((if (h.1 66 x3.toNatClampNeg) < 0 then bnd2 (f_X7_meets h 1) (fun r47 h47 => some (r47, h47)) else (if x2 < 0 then bnd2 (f_X7_meets h 2) (fun r97 h97 => some (r97, h97)) else (if x4 < 0 then bnd2 (f_X7_meets h 2) (fun r97 h97 => some (r97, h97)) else gd (ix x1 6) ((if (Int32.toInt64 (h.1 66 x1.toNatClampNeg)) < ((Int32.toInt64 x2) + (Int32.toInt64 x5)) then bnd2 (f_X7_meets h 2) (fun r97 h97 => some (r97, h97)) else gd (ix x3 6) ((if (Int32.toInt64 (h.1 66 x3.toNatClampNeg)) < ((Int32.toInt64 x4) + (Int32.toInt64 x5)) then bnd2 (f_X7_meets h 2) (fun r97 h97 => some (r97, h97)) else Option.bind (f_X7_copy_L104 h x1 x2 x3 x4 x5 0) (fun b104 => Option.bind (f_X7_copy_L136 b104 x3 x4 x5 0) (fun b136 => some (1, b136)))))))))))))) else some ((-1), h))) else some ((-1), h)))
set_option maxRecDepth 100000 in
set_option maxHeartbeats 4000000 in
theorem b_X7_copy {g : Gx} {l : Launch} {V : VT} {Rt : Option Value → MH → Prop} (o : Ok g l RX7 cX7_copy 7 2 42 0 V) (rr : ORi cX7_copy V Rt) (h : MH) (x1 : Int32) (x2 : Int32) (x3 : Int32) (x4 : Int32) (x5 : Int32) : T (fun r => Rt (some (.int r.1)) r.2) (f_X7_copy h x1 x2 x3 x4 x5) (V 0 [(0, rA g 64), (1, .int x1), (2, .int x2), (3, .int x3), (4, .int x4), (5, .int x5)] [] h) := by
  unfold f_X7_copy
  refine R_iload_n o 1 dX7_copy_0 rfl rfl ?_
  refine K_z (callS' (av := [.int x1]) (rest := []) o dX7_copy_1 lk_X7_96 rfl rfl rfl (Nat.le_of_ble_eq_true rfl)) (c_X7_isRow g l h x1) (fun r1 => ?_)
  refine R_bif_eq o 14 dX7_copy_4 (by decide) ?_ ?_
  · refine R_iload_n o 3 dX7_copy_7 rfl rfl ?_
    refine K_z (callS' (av := [.int x3]) (rest := []) o dX7_copy_8 lk_X7_96 rfl rfl rfl (Nat.le_of_ble_eq_true rfl)) (c_X7_isRow g l h x3) (fun r8 => ?_)
    refine R_bif_ne o 16 dX7_copy_11 (by decide) ?_ ?_
    · refine R_iload o 5 dX7_copy_16 rfl ?_
      refine R_if_ge o 27 dX7_copy_18 (by decide) ?_ ?_
      · refine R_aload_n o 0 dX7_copy_21 rfl rfl ?_
        refine R_iconst (v := 5) o dX7_copy_22 (by decide) ?_
        refine K_ih (callV' (As := [.int 5]) (rest := []) o dX7_copy_23 lk_X7_100 rfl sh_64 rfl rfl rfl rfl (Nat.le_of_ble_eq_true rfl)) (c_X7_meets g l h 5) (fun r23 h23 => ?_)
        exact T_some (fun p => rr _ _ _ _ dX7_copy_26 p)
      · refine R_aload_n o 0 dX7_copy_27 rfl rfl ?_
        refine R_getR (a2 := 66) o dX7_copy_28 fl_X7_17 sh_64 (by decide) rfl rf_64_5 ?_
        refine R_iload_n o 1 dX7_copy_31 rfl rfl ?_
        refine R_iald o dX7_copy_32 sh_66 ?_
        refine R_if_lt o 45 dX7_copy_33 (by decide) ?_ ?_
        · refine R_aload_n o 0 dX7_copy_45 rfl rfl ?_
          refine R_iconst (v := 1) o dX7_copy_46 (by decide) ?_
          refine K_ih (callV' (As := [.int 1]) (rest := []) o dX7_copy_47 lk_X7_100 rfl sh_64 rfl rfl rfl rfl (Nat.le_of_ble_eq_true rfl)) (c_X7_meets g l h 1) (fun r47 h47 => ?_)
          exact T_some (fun p => rr _ _ _ _ dX7_copy_50 p)
        · refine R_aload_n o 0 dX7_copy_36 rfl rfl ?_
          refine R_getR (a2 := 66) o dX7_copy_37 fl_X7_17 sh_64 (by decide) rfl rf_64_5 ?_
          refine R_iload_n o 3 dX7_copy_40 rfl rfl ?_
          refine R_iald o dX7_copy_41 sh_66 ?_
          refine R_if_ge o 51 dX7_copy_42 (by decide) ?_ ?_
          · refine R_aload_n o 0 dX7_copy_45 rfl rfl ?_
            refine R_iconst (v := 1) o dX7_copy_46 (by decide) ?_
            refine K_ih (callV' (As := [.int 1]) (rest := []) o dX7_copy_47 lk_X7_100 rfl sh_64 rfl rfl rfl rfl (Nat.le_of_ble_eq_true rfl)) (c_X7_meets g l h 1) (fun r47 h47 => ?_)
            exact T_some (fun p => rr _ _ _ _ dX7_copy_50 p)
          · refine R_iload_n o 2 dX7_copy_51 rfl rfl ?_
            refine R_if_lt o 95 dX7_copy_52 (by decide) ?_ ?_
            · refine R_aload_n o 0 dX7_copy_95 rfl rfl ?_
              refine R_iconst (v := 2) o dX7_copy_96 (by decide) ?_
              refine K_ih (callV' (As := [.int 2]) (rest := []) o dX7_copy_97 lk_X7_100 rfl sh_64 rfl rfl rfl rfl (Nat.le_of_ble_eq_true rfl)) (c_X7_meets g l h 2) (fun r97 h97 => ?_)
              exact T_some (fun p => rr _ _ _ _ dX7_copy_100 p)
            · refine R_iload o 4 dX7_copy_55 rfl ?_
              refine R_if_lt o 95 dX7_copy_57 (by decide) ?_ ?_
              · refine R_aload_n o 0 dX7_copy_95 rfl rfl ?_
                refine R_iconst (v := 2) o dX7_copy_96 (by decide) ?_
                refine K_ih (callV' (As := [.int 2]) (rest := []) o dX7_copy_97 lk_X7_100 rfl sh_64 rfl rfl rfl rfl (Nat.le_of_ble_eq_true rfl)) (c_X7_meets g l h 2) (fun r97 h97 => ?_)
                exact T_some (fun p => rr _ _ _ _ dX7_copy_100 p)
              · refine R_iload_n o 2 dX7_copy_60 rfl rfl ?_
                refine R_i2l o dX7_copy_61 ?_
                refine R_iload o 5 dX7_copy_62 rfl ?_
                refine R_i2l o dX7_copy_64 ?_
                refine R_ladd o dX7_copy_65 ?_
                refine R_aload_n o 0 dX7_copy_66 rfl rfl ?_
                refine R_getR (a2 := 66) o dX7_copy_67 fl_X7_17 sh_64 (by decide) rfl rf_64_5 ?_
                refine R_iload_n o 1 dX7_copy_70 rfl rfl ?_
                refine R_iald o dX7_copy_71 sh_66 ?_
                refine R_i2l o dX7_copy_72 ?_
                refine R_lcmp_gt o 95 dX7_copy_73 dX7_copy_74 (by decide) ?_ ?_
                · refine R_aload_n o 0 dX7_copy_95 rfl rfl ?_
                  refine R_iconst (v := 2) o dX7_copy_96 (by decide) ?_
                  refine K_ih (callV' (As := [.int 2]) (rest := []) o dX7_copy_97 lk_X7_100 rfl sh_64 rfl rfl rfl rfl (Nat.le_of_ble_eq_true rfl)) (c_X7_meets g l h 2) (fun r97 h97 => ?_)
                  exact T_some (fun p => rr _ _ _ _ dX7_copy_100 p)
                · refine R_iload o 4 dX7_copy_77 rfl ?_
                  refine R_i2l o dX7_copy_79 ?_
                  refine R_iload o 5 dX7_copy_80 rfl ?_
                  refine R_i2l o dX7_copy_82 ?_
                  refine R_ladd o dX7_copy_83 ?_
                  refine R_aload_n o 0 dX7_copy_84 rfl rfl ?_
                  refine R_getR (a2 := 66) o dX7_copy_85 fl_X7_17 sh_64 (by decide) rfl rf_64_5 ?_
                  refine R_iload_n o 3 dX7_copy_88 rfl rfl ?_
                  refine R_iald o dX7_copy_89 sh_66 ?_
                  refine R_i2l o dX7_copy_90 ?_
                  refine R_lcmp_le o 101 dX7_copy_91 dX7_copy_92 (by decide) ?_ ?_
                  · refine R_aload_n o 0 dX7_copy_95 rfl rfl ?_
                    refine R_iconst (v := 2) o dX7_copy_96 (by decide) ?_
                    refine K_ih (callV' (As := [.int 2]) (rest := []) o dX7_copy_97 lk_X7_100 rfl sh_64 rfl rfl rfl rfl (Nat.le_of_ble_eq_true rfl)) (c_X7_meets g l h 2) (fun r97 h97 => ?_)
                    exact T_some (fun p => rr _ _ _ _ dX7_copy_100 p)
                  · refine R_iconst (v := 0) o dX7_copy_101 (by decide) ?_
                    refine R_istore (lv2 := [(0, rA g 64), (1, .int x1), (2, .int x2), (3, .int x3), (4, .int x4), (5, .int x5), (6, .int 0)]) o dX7_copy_102 (by decide) rfl ?_
                    refine T_bind (t_X7_copy_L104 o rr h x1 x2 x3 x4 x5 0) (fun b104 => ?_)
                    refine R_iconst (v := 0) o dX7_copy_133 (by decide) ?_
                    refine R_istore (lv2 := [(0, rA g 64), (3, .int x3), (4, .int x4), (5, .int x5), (6, .int 0)]) o dX7_copy_134 (by decide) rfl ?_
                    refine T_bind (t_X7_copy_L136 o rr b104 x3 x4 x5 0) (fun b136 => ?_)
                    refine R_iconst (v := 1) o dX7_copy_171 (by decide) ?_
                    exact T_some (fun p => rr _ _ _ _ dX7_copy_172 p)
    · refine R_iconst (v := (-1)) o dX7_copy_14 (by decide) ?_
      exact T_some (fun p => rr _ _ _ _ dX7_copy_15 p)
  · refine R_iconst (v := (-1)) o dX7_copy_14 (by decide) ?_
    exact T_some (fun p => rr _ _ _ _ dX7_copy_15 p)
theorem c_X7_copy (g : Gx) (l : Launch) (h : MH) (x1 : Int32) (x2 : Int32) (x3 : Int32) (x4 : Int32) (x5 : Int32) (r : (Int32 × MH)) (e : f_X7_copy h x1 x2 x3 x4 x5 = some r) : Ctr g l yX7_copy cX7_copy 7 (some .int) 2 42 0 [rA g 64, .int x1, .int x2, .int x3, .int x4, .int x5] h (some (.int r.1)) r.2 := mkCi (plainFor_of_name (by decide)) (Nat.le_of_ble_eq_true rfl) (fun V Rt o rr p => b_X7_copy o rr h x1 x2 x3 x4 x5  r e p)
