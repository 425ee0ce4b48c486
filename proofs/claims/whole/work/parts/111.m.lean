/-! X7_setSigns -/
noncomputable def f_X7_setSigns_B7 (h : MH) (x1 : Int32) (x3 : Int32) : Option ((Int32 × MH) ⊕ (MH)) :=
  (if x3 < x1 then bnd2 (f_X7_draw h 2) (fun r19 h19 => (if r19 = 1 then gd (ix x3 40) (nm (uI h19 84 x3.toNatClampNeg 1) (fun h31 => some (.inl ((x3 + 1), h31)))) else gd (ix x3 40) (nm (uI h19 84 x3.toNatClampNeg (-1)) (fun h31 => some (.inl ((x3 + 1), h31)))))) else some (.inr h))
set_option maxRecDepth 100000 in
set_option maxHeartbeats 4000000 in
theorem t_X7_setSigns_B7 {g : Gx} {l : Launch} {V : VT} {Rt : Option Value → MH → Prop} (o : Ok g l RX7 cX7_setSigns 4 1 21 0 V) (rr : ORv cX7_setSigns V Rt) (h : MH) (x1 : Int32) (x3 : Int32) : T (Sum.elim (fun s => V 7 [(0, rA g 64), (1, .int x1), (3, .int s.1)] [] s.2) (fun b => V 38 [] [] b)) (f_X7_setSigns_B7  h x1 x3) (V 7 [(0, rA g 64), (1, .int x1), (3, .int x3)] [] h) := by
  unfold f_X7_setSigns_B7
  refine R_iload_n o 2 dX7_setSigns_7 rfl rfl ?_
  refine R_iload_n o 1 dX7_setSigns_8 rfl rfl ?_
  refine R_icmp_ge o 38 dX7_setSigns_9 (by decide) ?_ ?_
  · refine R_aload_n o 0 dX7_setSigns_12 rfl rfl ?_
    refine R_getR (a2 := 84) o dX7_setSigns_13 fl_X7_72 sh_64 (by decide) rfl rf_64_28 ?_
    refine R_iload_n o 2 dX7_setSigns_16 rfl rfl ?_
    refine R_aload_n o 0 dX7_setSigns_17 rfl rfl ?_
    refine R_iconst (v := 2) o dX7_setSigns_18 (by decide) ?_
    refine K_ih (callV' (As := [.int 2]) (rest := [.int x3, rA g 84]) o dX7_setSigns_19 lk_X7_169 rfl sh_64 rfl rfl rfl rfl (Nat.le_of_ble_eq_true rfl)) (c_X7_draw g l h 2) (fun r19 h19 => ?_)
    refine R_iconst (v := 1) o dX7_setSigns_22 (by decide) ?_
    refine R_icmp_ne o 30 dX7_setSigns_23 (by decide) ?_ ?_
    · refine R_iconst (v := 1) o dX7_setSigns_26 (by decide) ?_
      refine R_goto o 31 dX7_setSigns_27 (by decide) ?_
      refine R_iast o dX7_setSigns_31 sh_84 ?_
      refine R_nmH (fun h31 => ?_)
      refine R_iinc (v := (x3 + 1)) (lv2 := [(0, rA g 64), (1, .int x1), (3, .int (x3 + 1))]) o 2 dX7_setSigns_32 rfl rfl (by decide) rfl ?_
      refine R_goto o 7 dX7_setSigns_35 (by decide) ?_
      exact T_some (fun p => p)
    · refine R_iconst (v := (-1)) o dX7_setSigns_30 (by decide) ?_
      refine R_iast o dX7_setSigns_31 sh_84 ?_
      refine R_nmH (fun h31 => ?_)
      refine R_iinc (v := (x3 + 1)) (lv2 := [(0, rA g 64), (1, .int x1), (3, .int (x3 + 1))]) o 2 dX7_setSigns_32 rfl rfl (by decide) rfl ?_
      refine R_goto o 7 dX7_setSigns_35 (by decide) ?_
      exact T_some (fun p => p)
  · refine R_drop (lv2 := []) o [] rfl ?_
    exact T_some (fun p => p)
noncomputable def f_X7_setSigns_L7 (h : MH) (x1 : Int32) (x3 : Int32) : Option (MH) :=
  lpo (fun s : Int32 × MH => f_X7_setSigns_B7 s.2 x1 s.1) (x3, h)
theorem t_X7_setSigns_L7 {g : Gx} {l : Launch} {V : VT} {Rt : Option Value → MH → Prop} (o : Ok g l RX7 cX7_setSigns 4 1 21 0 V) (rr : ORv cX7_setSigns V Rt) (h : MH) (x1 : Int32) (x3 : Int32) : T (fun b => V 38 [] [] b) (f_X7_setSigns_L7 h x1 x3) (V 7 [(0, rA g 64), (1, .int x1), (3, .int x3)] [] h) := T_loop (head := fun s : Int32 × MH => V 7 [(0, rA g 64), (1, .int x1), (3, .int s.1)] [] s.2) (fun s => t_X7_setSigns_B7 o rr s.2 x1 s.1 ) (x3, h)
noncomputable def f_X7_setSigns (h : MH) (x1 : Int32) (x2 : Int32) : Option MH :=
  nm (uI h 64 16 x2) (fun h2 => Option.bind (f_X7_setSigns_L7 h2 x1 0) (fun b7 => some b7))
set_option maxRecDepth 100000 in
set_option maxHeartbeats 4000000 in
theorem b_X7_setSigns {g : Gx} {l : Launch} {V : VT} {Rt : Option Value → MH → Prop} (o : Ok g l RX7 cX7_setSigns 4 1 21 0 V) (rr : ORv cX7_setSigns V Rt) (h : MH) (x1 : Int32) (x2 : Int32) : T (fun r => Rt none r) (f_X7_setSigns h x1 x2) (V 0 [(0, rA g 64), (1, .int x1), (2, .int x2)] [] h) := by
  unfold f_X7_setSigns
  refine R_aload_n o 0 dX7_setSigns_0 rfl rfl ?_
  refine R_iload_n o 2 dX7_setSigns_1 rfl rfl ?_
  refine R_putI o dX7_setSigns_2 fp_X7_165 sh_64 (by decide) rfl ?_
  refine R_nmH (fun h2 => ?_)
  refine R_iconst (v := 0) o dX7_setSigns_5 (by decide) ?_
  refine R_istore_n (lv2 := [(0, rA g 64), (1, .int x1), (2, .int x2), (3, .int 0)]) o dX7_setSigns_6 rfl (by decide) rfl ?_
  refine R_drop (lv2 := [(0, rA g 64), (1, .int x1), (3, .int 0)]) o [0, 1, 3] rfl ?_
  refine T_bind (t_X7_setSigns_L7 o rr h2 x1 0) (fun b7 => ?_)
  exact T_some (fun p => rr _ _ _ dX7_setSigns_38 p)
theorem c_X7_setSigns (g : Gx) (l : Launch) (h : MH) (x1 : Int32) (x2 : Int32) (r : MH) (e : f_X7_setSigns h x1 x2 = some r) : Ctr g l yX7_setSigns cX7_setSigns 4 none 1 21 0 [rA g 64, .int x1, .int x2] h none r := mkCv (plainFor_of_name (by decide)) (Nat.le_of_ble_eq_true rfl) (fun V Rt o rr p => b_X7_setSigns o rr h x1 x2  r e p)
/-! X7_spread -/
noncomputable def f_X7_spread_J109_60 (h : MH) (x1 : Int32) (x3 : Int32) (x6 : Int32) (x7 : Int32) (s0 : Int32) (s1 : Int32) : Option ((Int32 × Int32 × MH) ⊕ (Int32 × MH)) :=
  nm (s0 + s1) (fun v110 => (if x7 < 0 then gd (ix ((40 * x1) + x6) 240) (nm (uI h 73 ((40 * x1) + x6).toNatClampNeg 0) (fun h148 => some (.inl (v110, (x6 + 1), h148)))) else (if 255 < x7 then gd (ix ((40 * x1) + x6) 240) (nm (uI h 73 ((40 * x1) + x6).toNatClampNeg 255) (fun h148 => some (.inl (v110, (x6 + 1), h148)))) else gd (ix ((40 * x1) + x6) 240) (nm (uI h 73 ((40 * x1) + x6).toNatClampNeg x7) (fun h148 => some (.inl (v110, (x6 + 1), h148)))))))
set_option maxRecDepth 100000 in
set_option maxHeartbeats 4000000 in
theorem t_X7_spread_J109_60 {g : Gx} {l : Launch} {V : VT} {Rt : Option Value → MH → Prop} (o : Ok g l RX7 cX7_spread 8 3 63 0 V) (rr : ORi cX7_spread V Rt) (h : MH) (x1 : Int32) (x3 : Int32) (x6 : Int32) (x7 : Int32) (s0 : Int32) (s1 : Int32) : T (Sum.elim (fun s => V 60 [(0, rA g 64), (1, .int x1), (3, .int x3), (5, .int s.1), (6, .int s.2.1)] [] s.2.2) (fun b => V 155 [(5, .int b.1)] [] b.2)) (f_X7_spread_J109_60  h x1 x3 x6 x7 s0 s1) (V 109 [(0, rA g 64), (1, .int x1), (3, .int x3), (6, .int x6), (7, .int x7)] [.int s1, .int s0] h) := by
  unfold f_X7_spread_J109_60
  refine R_iadd o dX7_spread_109 ?_
  refine R_nmI (fun v110 => ?_)
  refine R_istore (lv2 := [(0, rA g 64), (1, .int x1), (3, .int x3), (5, .int v110), (6, .int x6), (7, .int x7)]) o dX7_spread_110 (by decide) rfl ?_
  refine R_aload_n o 0 dX7_spread_112 rfl rfl ?_
  refine R_getR (a2 := 73) o dX7_spread_113 fl_X7_38 sh_64 (by decide) rfl rf_64_12 ?_
  refine R_bipush (v := 40) o dX7_spread_116 (by decide) ?_
  refine R_iload_n o 1 dX7_spread_118 rfl rfl ?_
  refine R_imul o dX7_spread_119 ?_
  refine R_iload o 4 dX7_spread_120 rfl ?_
  refine R_iadd o dX7_spread_122 ?_
  refine R_iload o 5 dX7_spread_123 rfl ?_
  refine R_if_ge o 132 dX7_spread_125 (by decide) ?_ ?_
  · refine R_iconst (v := 0) o dX7_spread_128 (by decide) ?_
    refine R_goto o 148 dX7_spread_129 (by decide) ?_
    refine R_iast o dX7_spread_148 sh_73 ?_
    refine R_nmH (fun h148 => ?_)
    refine R_iinc (v := (x6 + 1)) (lv2 := [(0, rA g 64), (1, .int x1), (3, .int x3), (5, .int v110), (6, .int (x6 + 1)), (7, .int x7)]) o 4 dX7_spread_149 rfl rfl (by decide) rfl ?_
    refine R_goto o 60 dX7_spread_152 (by decide) ?_
    refine R_drop (lv2 := [(0, rA g 64), (1, .int x1), (3, .int x3), (5, .int v110), (6, .int (x6 + 1))]) o [0, 1, 2, 3, 4] rfl ?_
    exact T_some (fun p => p)
  · refine R_iload o 5 dX7_spread_132 rfl ?_
    refine R_sipush (v := 255) o dX7_spread_134 (by decide) ?_
    refine R_icmp_le o 146 dX7_spread_137 (by decide) ?_ ?_
    · refine R_sipush (v := 255) o dX7_spread_140 (by decide) ?_
      refine R_goto o 148 dX7_spread_143 (by decide) ?_
      refine R_iast o dX7_spread_148 sh_73 ?_
      refine R_nmH (fun h148 => ?_)
      refine R_iinc (v := (x6 + 1)) (lv2 := [(0, rA g 64), (1, .int x1), (3, .int x3), (5, .int v110), (6, .int (x6 + 1)), (7, .int x7)]) o 4 dX7_spread_149 rfl rfl (by decide) rfl ?_
      refine R_goto o 60 dX7_spread_152 (by decide) ?_
      refine R_drop (lv2 := [(0, rA g 64), (1, .int x1), (3, .int x3), (5, .int v110), (6, .int (x6 + 1))]) o [0, 1, 2, 3, 4] rfl ?_
      exact T_some (fun p => p)
    · refine R_iload o 5 dX7_spread_146 rfl ?_
      refine R_iast o dX7_spread_148 sh_73 ?_
      refine R_nmH (fun h148 => ?_)
      refine R_iinc (v := (x6 + 1)) (lv2 := [(0, rA g 64), (1, .int x1), (3, .int x3), (5, .int v110), (6, .int (x6 + 1)), (7, .int x7)]) o 4 dX7_spread_149 rfl rfl (by decide) rfl ?_
      refine R_goto o 60 dX7_spread_152 (by decide) ?_
      refine R_drop (lv2 := [(0, rA g 64), (1, .int x1), (3, .int x3), (5, .int v110), (6, .int (x6 + 1))]) o [0, 1, 2, 3, 4] rfl ?_
      exact T_some (fun p => p)
noncomputable def f_X7_spread_B60 (h : MH) (x1 : Int32) (x3 : Int32) (x5 : Int32) (x6 : Int32) : Option ((Int32 × Int32 × MH) ⊕ (Int32 × MH)) :=
  gd (ix x1 6) ((if x6 < (h.1 71 x1.toNatClampNeg) then Option.bind (f_X7_dotAt h x1 x6) (fun r75 => gd (ix x6 40) (nm (r75 + ((h.1 84 x6.toNatClampNeg) * x3)) (fun v88 => Option.bind (f_X7_in v88 0 255) (fun r98 => (if r98 = true then f_X7_spread_J109_60 h x1 x3 x6 v88 x5 0 else f_X7_spread_J109_60 h x1 x3 x6 v88 x5 1))))) else some (.inr (x5, h))))
set_option maxRecDepth 100000 in
set_option maxHeartbeats 4000000 in
theorem t_X7_spread_B60 {g : Gx} {l : Launch} {V : VT} {Rt : Option Value → MH → Prop} (o : Ok g l RX7 cX7_spread 8 3 63 0 V) (rr : ORi cX7_spread V Rt) (h : MH) (x1 : Int32) (x3 : Int32) (x5 : Int32) (x6 : Int32) : T (Sum.elim (fun s => V 60 [(0, rA g 64), (1, .int x1), (3, .int x3), (5, .int s.1), (6, .int s.2.1)] [] s.2.2) (fun b => V 155 [(5, .int b.1)] [] b.2)) (f_X7_spread_B60  h x1 x3 x5 x6) (V 60 [(0, rA g 64), (1, .int x1), (3, .int x3), (5, .int x5), (6, .int x6)] [] h) := by
  unfold f_X7_spread_B60
  refine R_iload o 4 dX7_spread_60 rfl ?_
  refine R_aload_n o 0 dX7_spread_62 rfl rfl ?_
  refine R_getR (a2 := 71) o dX7_spread_63 fl_X7_32 sh_64 (by decide) rfl rf_64_10 ?_
  refine R_iload_n o 1 dX7_spread_66 rfl rfl ?_
  refine R_iald o dX7_spread_67 sh_71 ?_
  refine R_icmp_ge o 155 dX7_spread_68 (by decide) ?_ ?_
  · refine R_aload_n o 0 dX7_spread_71 rfl rfl ?_
    refine R_iload_n o 1 dX7_spread_72 rfl rfl ?_
    refine R_iload o 4 dX7_spread_73 rfl ?_
    refine K_i (callV' (As := [.int x1, .int x6]) (rest := []) o dX7_spread_75 lk_X7_147 rfl sh_64 rfl rfl rfl rfl (Nat.le_of_ble_eq_true rfl)) (c_X7_dotAt g l h x1 x6) (fun r75 => ?_)
    refine R_aload_n o 0 dX7_spread_78 rfl rfl ?_
    refine R_getR (a2 := 84) o dX7_spread_79 fl_X7_72 sh_64 (by decide) rfl rf_64_28 ?_
    refine R_iload o 4 dX7_spread_82 rfl ?_
    refine R_iald o dX7_spread_84 sh_84 ?_
    refine R_iload_n o 2 dX7_spread_85 rfl rfl ?_
    refine R_imul o dX7_spread_86 ?_
    refine R_iadd o dX7_spread_87 ?_
    refine R_nmI (fun v88 => ?_)
    refine R_istore (lv2 := [(0, rA g 64), (1, .int x1), (3, .int x3), (5, .int x5), (6, .int x6), (7, .int v88)]) o dX7_spread_88 (by decide) rfl ?_
    refine R_iload o 3 dX7_spread_90 rfl ?_
    refine R_iload o 5 dX7_spread_92 rfl ?_
    refine R_iconst (v := 0) o dX7_spread_94 (by decide) ?_
    refine R_sipush (v := 255) o dX7_spread_95 (by decide) ?_
    refine K_z (callS' (av := [.int v88, .int 0, .int 255]) (rest := [.int x5]) o dX7_spread_98 lk_X7_92 rfl rfl rfl (Nat.le_of_ble_eq_true rfl)) (c_X7_in g l h v88 0 255) (fun r98 => ?_)
    refine R_bif_eq o 108 dX7_spread_101 (by decide) ?_ ?_
    · refine R_iconst (v := 0) o dX7_spread_104 (by decide) ?_
      refine R_goto o 109 dX7_spread_105 (by decide) ?_
      refine R_drop (lv2 := [(0, rA g 64), (1, .int x1), (3, .int x3), (6, .int x6), (7, .int v88)]) o [0, 1, 2, 4, 5] rfl ?_
      exact t_X7_spread_J109_60 o rr h x1 x3 x6 v88 x5 0
    · refine R_iconst (v := 1) o dX7_spread_108 (by decide) ?_
      refine R_drop (lv2 := [(0, rA g 64), (1, .int x1), (3, .int x3), (6, .int x6), (7, .int v88)]) o [0, 1, 2, 4, 5] rfl ?_
      exact t_X7_spread_J109_60 o rr h x1 x3 x6 v88 x5 1
  · refine R_drop (lv2 := [(5, .int x5)]) o [3] rfl ?_
    exact T_some (fun p => p)
noncomputable def f_X7_spread_L60 (h : MH) (x1 : Int32) (x3 : Int32) (x5 : Int32) (x6 : Int32) : Option (Int32 × MH) :=
  lpo (fun s : Int32 × Int32 × MH => f_X7_spread_B60 s.2.2 x1 x3 s.1 s.2.1) (x5, x6, h)
theorem t_X7_spread_L60 {g : Gx} {l : Launch} {V : VT} {Rt : Option Value → MH → Prop} (o : Ok g l RX7 cX7_spread 8 3 63 0 V) (rr : ORi cX7_spread V Rt) (h : MH) (x1 : Int32) (x3 : Int32) (x5 : Int32) (x6 : Int32) : T (fun b => V 155 [(5, .int b.1)] [] b.2) (f_X7_spread_L60 h x1 x3 x5 x6) (V 60 [(0, rA g 64), (1, .int x1), (3, .int x3), (5, .int x5), (6, .int x6)] [] h) := T_loop (head := fun s : Int32 × Int32 × MH => V 60 [(0, rA g 64), (1, .int x1), (3, .int x3), (5, .int s.1), (6, .int s.2.1)] [] s.2.2) (fun s => t_X7_spread_B60 o rr s.2.2 x1 x3 s.1 s.2.1 ) (x5, x6, h)
noncomputable def f_X7_spread (h : MH) (x1 : Int32) (x2 : Int32) (x3 : Int32) : Option (Int32 × MH) :=
  Option.bind (f_X7_in x3 1 20) (fun r4 => (if r4 = true then bnd2 (f_X7_askedCover h x1) (fun r14 h14 => (if r14 < 0 then some (r14, h14) else gd (ix x1 6) ((if 2 < (h14.1 72 x1.toNatClampNeg) then bnd2 (f_X7_meets h14 3) (fun r39 h39 => some (r39, h39)) else gd (ix x1 6) (Option.bind (f_X7_setSigns h14 (h14.1 71 x1.toNatClampNeg) x2) (fun h51 => Option.bind (f_X7_spread_L60 h51 x1 x3 0 0) (fun b60 => some (b60.1, b60.2)))))))) else some ((-1), h)))
set_option maxRecDepth 100000 in
set_option maxHeartbeats 4000000 in
theorem b_X7_spread {g : Gx} {l : Launch} {V : VT} {Rt : Option Value → MH → Prop} (o : Ok g l RX7 cX7_spread 8 3 63 0 V) (rr : ORi cX7_spread V Rt) (h : MH) (x1 : Int32) (x2 : Int32) (x3 : Int32) : T (fun r => Rt (some (.int r.1)) r.2) (f_X7_spread h x1 x2 x3) (V 0 [(0, rA g 64), (1, .int x1), (2, .int x2), (3, .int x3)] [] h) := by
  unfold f_X7_spread
  refine R_iload_n o 3 dX7_spread_0 rfl rfl ?_
  refine R_iconst (v := 1) o dX7_spread_1 (by decide) ?_
  refine R_bipush (v := 20) o dX7_spread_2 (by decide) ?_
  refine K_z (callS' (av := [.int x3, .int 1, .int 20]) (rest := []) o dX7_spread_4 lk_X7_92 rfl rfl rfl (Nat.le_of_ble_eq_true rfl)) (c_X7_in g l h x3 1 20) (fun r4 => ?_)
  refine R_bif_ne o 12 dX7_spread_7 (by decide) ?_ ?_
  · refine R_aload_n o 0 dX7_spread_12 rfl rfl ?_
    refine R_iload_n o 1 dX7_spread_13 rfl rfl ?_
    refine K_ih (callV' (As := [.int x1]) (rest := []) o dX7_spread_14 lk_X7_138 rfl sh_64 rfl rfl rfl rfl (Nat.le_of_ble_eq_true rfl)) (c_X7_askedCover g l h x1) (fun r14 h14 => ?_)
    refine R_istore (lv2 := [(0, rA g 64), (1, .int x1), (2, .int x2), (3, .int x3), (4, .int r14)]) o dX7_spread_17 (by decide) rfl ?_
    refine R_iload o 4 dX7_spread_19 rfl ?_
    refine R_if_ge o 27 dX7_spread_21 (by decide) ?_ ?_
    · refine R_iload o 4 dX7_spread_24 rfl ?_
      exact T_some (fun p => rr _ _ _ _ dX7_spread_26 p)
    · refine R_aload_n o 0 dX7_spread_27 rfl rfl ?_
      refine R_getR (a2 := 72) o dX7_spread_28 fl_X7_35 sh_64 (by decide) rfl rf_64_11 ?_
      refine R_iload_n o 1 dX7_spread_31 rfl rfl ?_
      refine R_iald o dX7_spread_32 sh_72 ?_
      refine R_iconst (v := 2) o dX7_spread_33 (by decide) ?_
      refine R_icmp_le o 43 dX7_spread_34 (by decide) ?_ ?_
      · refine R_aload_n o 0 dX7_spread_37 rfl rfl ?_
        refine R_iconst (v := 3) o dX7_spread_38 (by decide) ?_
        refine K_ih (callV' (As := [.int 3]) (rest := []) o dX7_spread_39 lk_X7_100 rfl sh_64 rfl rfl rfl rfl (Nat.le_of_ble_eq_true rfl)) (c_X7_meets g l h14 3) (fun r39 h39 => ?_)
        exact T_some (fun p => rr _ _ _ _ dX7_spread_42 p)
      · refine R_aload_n o 0 dX7_spread_43 rfl rfl ?_
        refine R_aload_n o 0 dX7_spread_44 rfl rfl ?_
        refine R_getR (a2 := 71) o dX7_spread_45 fl_X7_32 sh_64 (by decide) rfl rf_64_10 ?_
        refine R_iload_n o 1 dX7_spread_48 rfl rfl ?_
        refine R_iald o dX7_spread_49 sh_71 ?_
        refine R_iload_n o 2 dX7_spread_50 rfl rfl ?_
        refine K_vh (callV' (As := [.int (h14.1 71 x1.toNatClampNeg), .int x2]) (rest := []) o dX7_spread_51 lk_X7_236 rfl sh_64 rfl rfl rfl rfl (Nat.le_of_ble_eq_true rfl)) (c_X7_setSigns g l h14 (h14.1 71 x1.toNatClampNeg) x2) (fun h51 => ?_)
        refine R_iconst (v := 0) o dX7_spread_54 (by decide) ?_
        refine R_istore (lv2 := [(0, rA g 64), (1, .int x1), (2, .int x2), (3, .int x3), (4, .int r14), (5, .int 0)]) o dX7_spread_55 (by decide) rfl ?_
        refine R_iconst (v := 0) o dX7_spread_57 (by decide) ?_
        refine R_istore (lv2 := [(0, rA g 64), (1, .int x1), (2, .int x2), (3, .int x3), (4, .int r14), (5, .int 0), (6, .int 0)]) o dX7_spread_58 (by decide) rfl ?_
        refine R_drop (lv2 := [(0, rA g 64), (1, .int x1), (3, .int x3), (5, .int 0), (6, .int 0)]) o [0, 1, 3, 5, 6] rfl ?_
        refine T_bind (t_X7_spread_L60 o rr h51 x1 x3 0 0) (fun b60 => ?_)
        refine R_iload o 0 dX7_spread_155 rfl ?_
        exact T_some (fun p => rr _ _ _ _ dX7_spread_157 p)
  · refine R_iconst (v := (-1)) o dX7_spread_10 (by decide) ?_
    exact T_some (fun p => rr _ _ _ _ dX7_spread_11 p)
theorem c_X7_spread (g : Gx) (l : Launch) (h : MH) (x1 : Int32) (x2 : Int32) (x3 : Int32) (r : (Int32 × MH)) (e : f_X7_spread h x1 x2 x3 = some r) : Ctr g l yX7_spread cX7_spread 8 (some .int) 3 63 0 [rA g 64, .int x1, .int x2, .int x3] h (some (.int r.1)) r.2 := mkCi (plainFor_of_name (by decide)) (Nat.le_of_ble_eq_true rfl) (fun V Rt o rr p => b_X7_spread o rr h x1 x2 x3  r e p)
/-! X7_sumBy -/
noncomputable def f_X7_sumBy_B5 (h : MH) (x1 : Int32) (x2 : Int32) (x3 : Int32) (x4 : Int32) : Option ((Int32 × Int32) ⊕ (Int32)) :=
  gd (ix x1 6) ((if x4 < (h.1 71 x1.toNatClampNeg) then Option.bind (f_X7_dotAt h x1 x4) (fun r21 => gd (ix x1 6) (gd (nz (h.1 71 x1.toNatClampNeg)) (gd (ix (irm (x4 + x2) (h.1 71 x1.toNatClampNeg)) 40) (nm (x3 + (r21 * (h.1 84 (irm (x4 + x2) (h.1 71 x1.toNatClampNeg)).toNatClampNeg))) (fun v42 => some (.inl (v42, (x4 + 1)))))))) else some (.inr x3)))
set_option maxRecDepth 100000 in
set_option maxHeartbeats 4000000 in
theorem t_X7_sumBy_B5 {g : Gx} {l : Launch} {V : VT} {Rt : Option Value → MH → Prop} (o : Ok g l RX7 cX7_sumBy 5 1 22 0 V) (rr : ORi cX7_sumBy V Rt) (h : MH) (x1 : Int32) (x2 : Int32) (x3 : Int32) (x4 : Int32) : T (Sum.elim (fun s => V 5 [(0, rA g 64), (1, .int x1), (2, .int x2), (3, .int s.1), (4, .int s.2)] [] h) (fun b => V 49 [(3, .int b)] [] h)) (f_X7_sumBy_B5  h x1 x2 x3 x4) (V 5 [(0, rA g 64), (1, .int x1), (2, .int x2), (3, .int x3), (4, .int x4)] [] h) := by
  unfold f_X7_sumBy_B5
  refine R_iload o 4 dX7_sumBy_5 rfl ?_
  refine R_aload_n o 0 dX7_sumBy_7 rfl rfl ?_
  refine R_getR (a2 := 71) o dX7_sumBy_8 fl_X7_32 sh_64 (by decide) rfl rf_64_10 ?_
  refine R_iload_n o 1 dX7_sumBy_11 rfl rfl ?_
  refine R_iald o dX7_sumBy_12 sh_71 ?_
  refine R_icmp_ge o 49 dX7_sumBy_13 (by decide) ?_ ?_
  · refine R_iload_n o 3 dX7_sumBy_16 rfl rfl ?_
    refine R_aload_n o 0 dX7_sumBy_17 rfl rfl ?_
    refine R_iload_n o 1 dX7_sumBy_18 rfl rfl ?_
    refine R_iload o 4 dX7_sumBy_19 rfl ?_
    refine K_i (callV' (As := [.int x1, .int x4]) (rest := [.int x3]) o dX7_sumBy_21 lk_X7_147 rfl sh_64 rfl rfl rfl rfl (Nat.le_of_ble_eq_true rfl)) (c_X7_dotAt g l h x1 x4) (fun r21 => ?_)
    refine R_aload_n o 0 dX7_sumBy_24 rfl rfl ?_
    refine R_getR (a2 := 84) o dX7_sumBy_25 fl_X7_72 sh_64 (by decide) rfl rf_64_28 ?_
    refine R_iload o 4 dX7_sumBy_28 rfl ?_
    refine R_iload_n o 2 dX7_sumBy_30 rfl rfl ?_
    refine R_iadd o dX7_sumBy_31 ?_
    refine R_aload_n o 0 dX7_sumBy_32 rfl rfl ?_
    refine R_getR (a2 := 71) o dX7_sumBy_33 fl_X7_32 sh_64 (by decide) rfl rf_64_10 ?_
    refine R_iload_n o 1 dX7_sumBy_36 rfl rfl ?_
    refine R_iald o dX7_sumBy_37 sh_71 ?_
    refine R_irem o dX7_sumBy_38 ?_
    refine R_iald o dX7_sumBy_39 sh_84 ?_
    refine R_imul o dX7_sumBy_40 ?_
    refine R_iadd o dX7_sumBy_41 ?_
    refine R_nmI (fun v42 => ?_)
    refine R_istore_n (lv2 := [(0, rA g 64), (1, .int x1), (2, .int x2), (3, .int v42), (4, .int x4)]) o dX7_sumBy_42 rfl (by decide) rfl ?_
    refine R_iinc (v := (x4 + 1)) (lv2 := [(0, rA g 64), (1, .int x1), (2, .int x2), (3, .int v42), (4, .int (x4 + 1))]) o 4 dX7_sumBy_43 rfl rfl (by decide) rfl ?_
    refine R_goto o 5 dX7_sumBy_46 (by decide) ?_
    exact T_some (fun p => p)
  · refine R_drop (lv2 := [(3, .int x3)]) o [3] rfl ?_
    exact T_some (fun p => p)
noncomputable def f_X7_sumBy_L5 (h : MH) (x1 : Int32) (x2 : Int32) (x3 : Int32) (x4 : Int32) : Option (Int32) :=
  lpo (fun s : Int32 × Int32 => f_X7_sumBy_B5 h x1 x2 s.1 s.2) (x3, x4)
theorem t_X7_sumBy_L5 {g : Gx} {l : Launch} {V : VT} {Rt : Option Value → MH → Prop} (o : Ok g l RX7 cX7_sumBy 5 1 22 0 V) (rr : ORi cX7_sumBy V Rt) (h : MH) (x1 : Int32) (x2 : Int32) (x3 : Int32) (x4 : Int32) : T (fun b => V 49 [(3, .int b)] [] h) (f_X7_sumBy_L5 h x1 x2 x3 x4) (V 5 [(0, rA g 64), (1, .int x1), (2, .int x2), (3, .int x3), (4, .int x4)] [] h) := T_loop (head := fun s : Int32 × Int32 => V 5 [(0, rA g 64), (1, .int x1), (2, .int x2), (3, .int s.1), (4, .int s.2)] [] h) (fun s => t_X7_sumBy_B5 o rr h x1 x2 s.1 s.2 ) (x3, x4)
noncomputable def f_X7_sumBy (h : MH) (x1 : Int32) (x2 : Int32) : Option Int32 :=
  Option.bind (f_X7_sumBy_L5 h x1 x2 0 0) (fun b5 => some b5)
set_option maxRecDepth 100000 in
set_option maxHeartbeats 4000000 in
theorem b_X7_sumBy {g : Gx} {l : Launch} {V : VT} {Rt : Option Value → MH → Prop} (o : Ok g l RX7 cX7_sumBy 5 1 22 0 V) (rr : ORi cX7_sumBy V Rt) (h : MH) (x1 : Int32) (x2 : Int32) : T (fun r => Rt (some (.int r)) h) (f_X7_sumBy h x1 x2) (V 0 [(0, rA g 64), (1, .int x1), (2, .int x2)] [] h) := by
  unfold f_X7_sumBy
  refine R_iconst (v := 0) o dX7_sumBy_0 (by decide) ?_
  refine R_istore_n (lv2 := [(0, rA g 64), (1, .int x1), (2, .int x2), (3, .int 0)]) o dX7_sumBy_1 rfl (by decide) rfl ?_
  refine R_iconst (v := 0) o dX7_sumBy_2 (by decide) ?_
  refine R_istore (lv2 := [(0, rA g 64), (1, .int x1), (2, .int x2), (3, .int 0), (4, .int 0)]) o dX7_sumBy_3 (by decide) rfl ?_
  refine T_bind (t_X7_sumBy_L5 o rr h x1 x2 0 0) (fun b5 => ?_)
  refine R_iload_n o 0 dX7_sumBy_49 rfl rfl ?_
  exact T_some (fun p => rr _ _ _ _ dX7_sumBy_50 p)
theorem c_X7_sumBy (g : Gx) (l : Launch) (h : MH) (x1 : Int32) (x2 : Int32) (r : Int32) (e : f_X7_sumBy h x1 x2 = some r) : Ctr g l yX7_sumBy cX7_sumBy 5 (some .int) 1 22 0 [rA g 64, .int x1, .int x2] h (some (.int r)) h := mkCi (plainFor_of_name (by decide)) (Nat.le_of_ble_eq_true rfl) (fun V Rt o rr p => b_X7_sumBy o rr h x1 x2  r e p)
/-! X7_sum -/
noncomputable def f_X7_sum (h : MH) (x1 : Int32) (x2 : Int32) (x3 : Int32) : Option (Int32 × MH) :=
  Option.bind (f_X7_in x3 0 39) (fun r4 => (if r4 = true then bnd2 (f_X7_askedCover h x1) (fun r14 h14 => (if r14 < 0 then some (r14, h14) else gd (ix x1 6) (Option.bind (f_X7_setSigns h14 (h14.1 71 x1.toNatClampNeg) x2) (fun h35 => Option.bind (f_X7_sumBy h35 x1 x3) (fun r42 => bnd2 (f_X7_ask h35 r42 1) (fun r46 h46 => some (r46, h46))))))) else some ((-1), h)))
set_option maxRecDepth 100000 in
set_option maxHeartbeats 4000000 in
theorem b_X7_sum {g : Gx} {l : Launch} {V : VT} {Rt : Option Value → MH → Prop} (o : Ok g l RX7 cX7_sum 5 3 63 0 V) (rr : ORi cX7_sum V Rt) (h : MH) (x1 : Int32) (x2 : Int32) (x3 : Int32) : T (fun r => Rt (some (.int r.1)) r.2) (f_X7_sum h x1 x2 x3) (V 0 [(0, rA g 64), (1, .int x1), (2, .int x2), (3, .int x3)] [] h) := by
  unfold f_X7_sum
  refine R_iload_n o 3 dX7_sum_0 rfl rfl ?_
  refine R_iconst (v := 0) o dX7_sum_1 (by decide) ?_
  refine R_bipush (v := 39) o dX7_sum_2 (by decide) ?_
  refine K_z (callS' (av := [.int x3, .int 0, .int 39]) (rest := []) o dX7_sum_4 lk_X7_92 rfl rfl rfl (Nat.le_of_ble_eq_true rfl)) (c_X7_in g l h x3 0 39) (fun r4 => ?_)
  refine R_bif_ne o 12 dX7_sum_7 (by decide) ?_ ?_
  · refine R_aload_n o 0 dX7_sum_12 rfl rfl ?_
    refine R_iload_n o 1 dX7_sum_13 rfl rfl ?_
    refine K_ih (callV' (As := [.int x1]) (rest := []) o dX7_sum_14 lk_X7_138 rfl sh_64 rfl rfl rfl rfl (Nat.le_of_ble_eq_true rfl)) (c_X7_askedCover g l h x1) (fun r14 h14 => ?_)
    refine R_istore (lv2 := [(0, rA g 64), (1, .int x1), (2, .int x2), (3, .int x3), (4, .int r14)]) o dX7_sum_17 (by decide) rfl ?_
    refine R_iload o 4 dX7_sum_19 rfl ?_
    refine R_if_ge o 27 dX7_sum_21 (by decide) ?_ ?_
    · refine R_iload o 4 dX7_sum_24 rfl ?_
      exact T_some (fun p => rr _ _ _ _ dX7_sum_26 p)
    · refine R_aload_n o 0 dX7_sum_27 rfl rfl ?_
      refine R_aload_n o 0 dX7_sum_28 rfl rfl ?_
      refine R_getR (a2 := 71) o dX7_sum_29 fl_X7_32 sh_64 (by decide) rfl rf_64_10 ?_
      refine R_iload_n o 1 dX7_sum_32 rfl rfl ?_
      refine R_iald o dX7_sum_33 sh_71 ?_
      refine R_iload_n o 2 dX7_sum_34 rfl rfl ?_
      refine K_vh (callV' (As := [.int (h14.1 71 x1.toNatClampNeg), .int x2]) (rest := []) o dX7_sum_35 lk_X7_236 rfl sh_64 rfl rfl rfl rfl (Nat.le_of_ble_eq_true rfl)) (c_X7_setSigns g l h14 (h14.1 71 x1.toNatClampNeg) x2) (fun h35 => ?_)
      refine R_aload_n o 0 dX7_sum_38 rfl rfl ?_
      refine R_aload_n o 0 dX7_sum_39 rfl rfl ?_
      refine R_iload_n o 1 dX7_sum_40 rfl rfl ?_
      refine R_iload_n o 3 dX7_sum_41 rfl rfl ?_
      refine K_i (callV' (As := [.int x1, .int x3]) (rest := [rA g 64]) o dX7_sum_42 lk_X7_239 rfl sh_64 rfl rfl rfl rfl (Nat.le_of_ble_eq_true rfl)) (c_X7_sumBy g l h35 x1 x3) (fun r42 => ?_)
      refine R_iconst (v := 1) o dX7_sum_45 (by decide) ?_
      refine K_ih (callV' (As := [.int r42, .int 1]) (rest := []) o dX7_sum_46 lk_X7_114 rfl sh_64 rfl rfl rfl rfl (Nat.le_of_ble_eq_true rfl)) (c_X7_ask g l h35 r42 1) (fun r46 h46 => ?_)
      exact T_some (fun p => rr _ _ _ _ dX7_sum_49 p)
  · refine R_iconst (v := (-1)) o dX7_sum_10 (by decide) ?_
    exact T_some (fun p => rr _ _ _ _ dX7_sum_11 p)
theorem c_X7_sum (g : Gx) (l : Launch) (h : MH) (x1 : Int32) (x2 : Int32) (x3 : Int32) (r : (Int32 × MH)) (e : f_X7_sum h x1 x2 x3 = some r) : Ctr g l yX7_sum cX7_sum 5 (some .int) 3 63 0 [rA g 64, .int x1, .int x2, .int x3] h (some (.int r.1)) r.2 := mkCi (plainFor_of_name (by decide)) (Nat.le_of_ble_eq_true rfl) (fun V Rt o rr p => b_X7_sum o rr h x1 x2 x3  r e p)
/-! X7_lineUp -/
noncomputable def f_X7_lineUp_B29 (h : MH) (x1 : Int32) (x4 : Int32) (x5 : Int32) : Option ((Int32 × Int32) ⊕ (Int32)) :=
  gd (ix x1 6) ((if x5 < (h.1 71 x1.toNatClampNeg) then Option.bind (f_X7_sumBy h x1 x5) (fun r44 => Option.bind (f_X7_sumBy h x1 x4) (fun r51 => (if r51 < r44 then some (.inl (x5, (x5 + 1))) else some (.inl (x4, (x5 + 1)))))) else some (.inr x4)))
set_option maxRecDepth 100000 in
set_option maxHeartbeats 4000000 in
theorem t_X7_lineUp_B29 {g : Gx} {l : Launch} {V : VT} {Rt : Option Value → MH → Prop} (o : Ok g l RX7 cX7_lineUp 6 3 63 0 V) (rr : ORi cX7_lineUp V Rt) (h : MH) (x1 : Int32) (x4 : Int32) (x5 : Int32) : T (Sum.elim (fun s => V 29 [(0, rA g 64), (1, .int x1), (4, .int s.1), (5, .int s.2)] [] h) (fun b => V 72 [(0, rA g 64), (1, .int x1), (4, .int b)] [] h)) (f_X7_lineUp_B29  h x1 x4 x5) (V 29 [(0, rA g 64), (1, .int x1), (4, .int x4), (5, .int x5)] [] h) := by
  unfold f_X7_lineUp_B29
  refine R_iload o 3 dX7_lineUp_29 rfl ?_
  refine R_aload_n o 0 dX7_lineUp_31 rfl rfl ?_
  refine R_getR (a2 := 71) o dX7_lineUp_32 fl_X7_32 sh_64 (by decide) rfl rf_64_10 ?_
  refine R_iload_n o 1 dX7_lineUp_35 rfl rfl ?_
  refine R_iald o dX7_lineUp_36 sh_71 ?_
  refine R_icmp_ge o 72 dX7_lineUp_37 (by decide) ?_ ?_
  · refine R_aload_n o 0 dX7_lineUp_40 rfl rfl ?_
    refine R_iload_n o 1 dX7_lineUp_41 rfl rfl ?_
    refine R_iload o 3 dX7_lineUp_42 rfl ?_
    refine K_i (callV' (As := [.int x1, .int x5]) (rest := []) o dX7_lineUp_44 lk_X7_239 rfl sh_64 rfl rfl rfl rfl (Nat.le_of_ble_eq_true rfl)) (c_X7_sumBy g l h x1 x5) (fun r44 => ?_)
    refine R_aload_n o 0 dX7_lineUp_47 rfl rfl ?_
    refine R_iload_n o 1 dX7_lineUp_48 rfl rfl ?_
    refine R_iload o 2 dX7_lineUp_49 rfl ?_
    refine K_i (callV' (As := [.int x1, .int x4]) (rest := [.int r44]) o dX7_lineUp_51 lk_X7_239 rfl sh_64 rfl rfl rfl rfl (Nat.le_of_ble_eq_true rfl)) (c_X7_sumBy g l h x1 x4) (fun r51 => ?_)
    refine R_icmp_le o 62 dX7_lineUp_54 (by decide) ?_ ?_
    · refine R_iload o 3 dX7_lineUp_57 rfl ?_
      refine R_goto o 64 dX7_lineUp_59 (by decide) ?_
      refine R_istore (lv2 := [(0, rA g 64), (1, .int x1), (4, .int x5), (5, .int x5)]) o dX7_lineUp_64 (by decide) rfl ?_
      refine R_iinc (v := (x5 + 1)) (lv2 := [(0, rA g 64), (1, .int x1), (4, .int x5), (5, .int (x5 + 1))]) o 3 dX7_lineUp_66 rfl rfl (by decide) rfl ?_
      refine R_goto o 29 dX7_lineUp_69 (by decide) ?_
      exact T_some (fun p => p)
    · refine R_iload o 2 dX7_lineUp_62 rfl ?_
      refine R_istore (lv2 := [(0, rA g 64), (1, .int x1), (4, .int x4), (5, .int x5)]) o dX7_lineUp_64 (by decide) rfl ?_
      refine R_iinc (v := (x5 + 1)) (lv2 := [(0, rA g 64), (1, .int x1), (4, .int x4), (5, .int (x5 + 1))]) o 3 dX7_lineUp_66 rfl rfl (by decide) rfl ?_
      refine R_goto o 29 dX7_lineUp_69 (by decide) ?_
      exact T_some (fun p => p)
  · refine R_drop (lv2 := [(0, rA g 64), (1, .int x1), (4, .int x4)]) o [0, 1, 2] rfl ?_
    exact T_some (fun p => p)
noncomputable def f_X7_lineUp_L29 (h : MH) (x1 : Int32) (x4 : Int32) (x5 : Int32) : Option (Int32) :=
  lpo (fun s : Int32 × Int32 => f_X7_lineUp_B29 h x1 s.1 s.2) (x4, x5)
theorem t_X7_lineUp_L29 {g : Gx} {l : Launch} {V : VT} {Rt : Option Value → MH → Prop} (o : Ok g l RX7 cX7_lineUp 6 3 63 0 V) (rr : ORi cX7_lineUp V Rt) (h : MH) (x1 : Int32) (x4 : Int32) (x5 : Int32) : T (fun b => V 72 [(0, rA g 64), (1, .int x1), (4, .int b)] [] h) (f_X7_lineUp_L29 h x1 x4 x5) (V 29 [(0, rA g 64), (1, .int x1), (4, .int x4), (5, .int x5)] [] h) := T_loop (head := fun s : Int32 × Int32 => V 29 [(0, rA g 64), (1, .int x1), (4, .int s.1), (5, .int s.2)] [] h) (fun s => t_X7_lineUp_B29 o rr h x1 s.1 s.2 ) (x4, x5)
noncomputable def f_X7_lineUp (h : MH) (x1 : Int32) (x2 : Int32) : Option (Int32 × MH) :=
  bnd2 (f_X7_askedCover h x1) (fun r2 h2 => (if r2 < 0 then some (r2, h2) else gd (ix x1 6) (Option.bind (f_X7_setSigns h2 (h2.1 71 x1.toNatClampNeg) x2) (fun h20 => Option.bind (f_X7_lineUp_L29 h20 x1 0 1) (fun b29 => Option.bind (f_X7_sumBy h20 x1 b29) (fun r77 => bnd2 (f_X7_ask h20 r77 b29) (fun r82 h82 => some (r82, h82))))))))
set_option maxRecDepth 100000 in
set_option maxHeartbeats 4000000 in
theorem b_X7_lineUp {g : Gx} {l : Launch} {V : VT} {Rt : Option Value → MH → Prop} (o : Ok g l RX7 cX7_lineUp 6 3 63 0 V) (rr : ORi cX7_lineUp V Rt) (h : MH) (x1 : Int32) (x2 : Int32) : T (fun r => Rt (some (.int r.1)) r.2) (f_X7_lineUp h x1 x2) (V 0 [(0, rA g 64), (1, .int x1), (2, .int x2)] [] h) := by
  unfold f_X7_lineUp
  refine R_aload_n o 0 dX7_lineUp_0 rfl rfl ?_
  refine R_iload_n o 1 dX7_lineUp_1 rfl rfl ?_
  refine K_ih (callV' (As := [.int x1]) (rest := []) o dX7_lineUp_2 lk_X7_138 rfl sh_64 rfl rfl rfl rfl (Nat.le_of_ble_eq_true rfl)) (c_X7_askedCover g l h x1) (fun r2 h2 => ?_)
  refine R_istore_n (lv2 := [(0, rA g 64), (1, .int x1), (2, .int x2), (3, .int r2)]) o dX7_lineUp_5 rfl (by decide) rfl ?_
  refine R_iload_n o 3 dX7_lineUp_6 rfl rfl ?_
  refine R_if_ge o 12 dX7_lineUp_7 (by decide) ?_ ?_
  · refine R_iload_n o 3 dX7_lineUp_10 rfl rfl ?_
    exact T_some (fun p => rr _ _ _ _ dX7_lineUp_11 p)
  · refine R_aload_n o 0 dX7_lineUp_12 rfl rfl ?_
    refine R_aload_n o 0 dX7_lineUp_13 rfl rfl ?_
    refine R_getR (a2 := 71) o dX7_lineUp_14 fl_X7_32 sh_64 (by decide) rfl rf_64_10 ?_
    refine R_iload_n o 1 dX7_lineUp_17 rfl rfl ?_
    refine R_iald o dX7_lineUp_18 sh_71 ?_
    refine R_iload_n o 2 dX7_lineUp_19 rfl rfl ?_
    refine K_vh (callV' (As := [.int (h2.1 71 x1.toNatClampNeg), .int x2]) (rest := []) o dX7_lineUp_20 lk_X7_236 rfl sh_64 rfl rfl rfl rfl (Nat.le_of_ble_eq_true rfl)) (c_X7_setSigns g l h2 (h2.1 71 x1.toNatClampNeg) x2) (fun h20 => ?_)
    refine R_iconst (v := 0) o dX7_lineUp_23 (by decide) ?_
    refine R_istore (lv2 := [(0, rA g 64), (1, .int x1), (2, .int x2), (3, .int r2), (4, .int 0)]) o dX7_lineUp_24 (by decide) rfl ?_
    refine R_iconst (v := 1) o dX7_lineUp_26 (by decide) ?_
    refine R_istore (lv2 := [(0, rA g 64), (1, .int x1), (2, .int x2), (3, .int r2), (4, .int 0), (5, .int 1)]) o dX7_lineUp_27 (by decide) rfl ?_
    refine R_drop (lv2 := [(0, rA g 64), (1, .int x1), (4, .int 0), (5, .int 1)]) o [0, 1, 4, 5] rfl ?_
    refine T_bind (t_X7_lineUp_L29 o rr h20 x1 0 1) (fun b29 => ?_)
    refine R_aload_n o 0 dX7_lineUp_72 rfl rfl ?_
    refine R_aload_n o 0 dX7_lineUp_73 rfl rfl ?_
    refine R_iload_n o 1 dX7_lineUp_74 rfl rfl ?_
    refine R_iload o 2 dX7_lineUp_75 rfl ?_
    refine K_i (callV' (As := [.int x1, .int b29]) (rest := [rA g 64]) o dX7_lineUp_77 lk_X7_239 rfl sh_64 rfl rfl rfl rfl (Nat.le_of_ble_eq_true rfl)) (c_X7_sumBy g l h20 x1 b29) (fun r77 => ?_)
    refine R_iload o 2 dX7_lineUp_80 rfl ?_
    refine K_ih (callV' (As := [.int r77, .int b29]) (rest := []) o dX7_lineUp_82 lk_X7_114 rfl sh_64 rfl rfl rfl rfl (Nat.le_of_ble_eq_true rfl)) (c_X7_ask g l h20 r77 b29) (fun r82 h82 => ?_)
    exact T_some (fun p => rr _ _ _ _ dX7_lineUp_85 p)
theorem c_X7_lineUp (g : Gx) (l : Launch) (h : MH) (x1 : Int32) (x2 : Int32) (r : (Int32 × MH)) (e : f_X7_lineUp h x1 x2 = some r) : Ctr g l yX7_lineUp cX7_lineUp 6 (some .int) 3 63 0 [rA g 64, .int x1, .int x2] h (some (.int r.1)) r.2 := mkCi (plainFor_of_name (by decide)) (Nat.le_of_ble_eq_true rfl) (fun V Rt o rr p => b_X7_lineUp o rr h x1 x2  r e p)
/-! X7_falseShare -/
noncomputable def f_X7_falseShare_B30 (h : MH) (x1 : Int32) (x2 : Int32) (x4 : Int32) : Option ((Int32 × MH) ⊕ (MH)) :=
  (if 10200 < x4 then some (.inr h) else (if x4 = 0 then gd (ix x4 10201) (nm (uL h 85 x4.toNatClampNeg 1) (fun h54 => some (.inl ((x4 + 1), h54)))) else gd (ix x4 10201) (nm (uL h 85 x4.toNatClampNeg 0) (fun h54 => some (.inl ((x4 + 1), h54))))))
set_option maxRecDepth 100000 in
set_option maxHeartbeats 4000000 in
theorem t_X7_falseShare_B30 {g : Gx} {l : Launch} {V : VT} {Rt : Option Value → MH → Prop} (o : Ok g l RX7 cX7_falseShare 10 3 63 0 V) (rr : ORi cX7_falseShare V Rt) (h : MH) (x1 : Int32) (x2 : Int32) (x4 : Int32) : T (Sum.elim (fun s => V 30 [(0, rA g 64), (1, .int x1), (2, .int x2), (4, .int s.1)] [] s.2) (fun b => V 61 [(0, rA g 64), (1, .int x1), (2, .int x2)] [] b)) (f_X7_falseShare_B30  h x1 x2 x4) (V 30 [(0, rA g 64), (1, .int x1), (2, .int x2), (4, .int x4)] [] h) := by
  unfold f_X7_falseShare_B30
  refine R_iload o 3 dX7_falseShare_30 rfl ?_
  refine R_sipush (v := 10200) o dX7_falseShare_32 (by decide) ?_
  refine R_icmp_gt o 61 dX7_falseShare_35 (by decide) ?_ ?_
  · refine R_drop (lv2 := [(0, rA g 64), (1, .int x1), (2, .int x2)]) o [0, 1, 2] rfl ?_
    exact T_some (fun p => p)
  · refine R_aload_n o 0 dX7_falseShare_38 rfl rfl ?_
    refine R_getR (a2 := 85) o dX7_falseShare_39 fl_X7_75 sh_64 (by decide) rfl rf_64_29 ?_
    refine R_iload o 3 dX7_falseShare_42 rfl ?_
    refine R_iload o 3 dX7_falseShare_44 rfl ?_
    refine R_if_ne o 53 dX7_falseShare_46 (by decide) ?_ ?_
    · refine R_lconst (v := 1) o dX7_falseShare_49 (by decide) ?_
      refine R_goto o 54 dX7_falseShare_50 (by decide) ?_
      refine R_last o dX7_falseShare_54 (Or.inl sh_85) ?_
      refine R_nmH (fun h54 => ?_)
      refine R_iinc (v := (x4 + 1)) (lv2 := [(0, rA g 64), (1, .int x1), (2, .int x2), (4, .int (x4 + 1))]) o 3 dX7_falseShare_55 rfl rfl (by decide) rfl ?_
      refine R_goto o 30 dX7_falseShare_58 (by decide) ?_
      exact T_some (fun p => p)
    · refine R_lconst (v := 0) o dX7_falseShare_53 (by decide) ?_
      refine R_last o dX7_falseShare_54 (Or.inl sh_85) ?_
      refine R_nmH (fun h54 => ?_)
      refine R_iinc (v := (x4 + 1)) (lv2 := [(0, rA g 64), (1, .int x1), (2, .int x2), (4, .int (x4 + 1))]) o 3 dX7_falseShare_55 rfl rfl (by decide) rfl ?_
      refine R_goto o 30 dX7_falseShare_58 (by decide) ?_
      exact T_some (fun p => p)
noncomputable def f_X7_falseShare_L30 (h : MH) (x1 : Int32) (x2 : Int32) (x4 : Int32) : Option (MH) :=
  lpo (fun s : Int32 × MH => f_X7_falseShare_B30 s.2 x1 x2 s.1) (x4, h)
theorem t_X7_falseShare_L30 {g : Gx} {l : Launch} {V : VT} {Rt : Option Value → MH → Prop} (o : Ok g l RX7 cX7_falseShare 10 3 63 0 V) (rr : ORi cX7_falseShare V Rt) (h : MH) (x1 : Int32) (x2 : Int32) (x4 : Int32) : T (fun b => V 61 [(0, rA g 64), (1, .int x1), (2, .int x2)] [] b) (f_X7_falseShare_L30 h x1 x2 x4) (V 30 [(0, rA g 64), (1, .int x1), (2, .int x2), (4, .int x4)] [] h) := T_loop (head := fun s : Int32 × MH => V 30 [(0, rA g 64), (1, .int x1), (2, .int x2), (4, .int s.1)] [] s.2) (fun s => t_X7_falseShare_B30 o rr s.2 x1 x2 s.1 ) (x4, h)
noncomputable def f_X7_falseShare_J134_105 (h : MH) (x1 : Int32) (x2 : Int32) (x4 : Int32) (l5 : Int64) (x7 : Int32) (x8 : Int32) (x9 : Int32) (s1 : Int32) (s2 : Int64) : Option ((Int32 × MH) ⊕ (MH)) :=
  (if x9 < x8 then gd (ix s1 10201) (nm (uL h 85 s1.toNatClampNeg (s2 + 0)) (fun h156 => some (.inl ((x9 + (-1)), h156)))) else gd (ix (x9 - x8) 10201) (gd (ix s1 10201) (nm (uL h 85 s1.toNatClampNeg (s2 + (h.2.1 85 (x9 - x8).toNatClampNeg))) (fun h156 => some (.inl ((x9 + (-1)), h156))))))
set_option maxRecDepth 100000 in
set_option maxHeartbeats 4000000 in
theorem t_X7_falseShare_J134_105 {g : Gx} {l : Launch} {V : VT} {Rt : Option Value → MH → Prop} (o : Ok g l RX7 cX7_falseShare 10 3 63 0 V) (rr : ORi cX7_falseShare V Rt) (h : MH) (x1 : Int32) (x2 : Int32) (x4 : Int32) (l5 : Int64) (x7 : Int32) (x8 : Int32) (x9 : Int32) (s1 : Int32) (s2 : Int64) : T (Sum.elim (fun s => V 105 [(0, rA g 64), (1, .int x1), (2, .int x2), (4, .int x4), (5, .long l5), (7, .int x7), (8, .int x8), (9, .int s.1)] [] s.2) (fun b => V 163 [(0, rA g 64), (1, .int x1), (2, .int x2), (4, .int x4), (5, .long l5), (7, .int x7), (8, .int x8)] [] b)) (f_X7_falseShare_J134_105  h x1 x2 x4 l5 x7 x8 x9 s1 s2) (V 134 [(0, rA g 64), (1, .int x1), (2, .int x2), (4, .int x4), (5, .long l5), (7, .int x7), (8, .int x8), (9, .int x9)] [.long s2, .int s1, rA g 85] h) := by
  unfold f_X7_falseShare_J134_105
  refine R_iload o 7 dX7_falseShare_134 rfl ?_
  refine R_iload o 6 dX7_falseShare_136 rfl ?_
  refine R_icmp_lt o 154 dX7_falseShare_138 (by decide) ?_ ?_
  · refine R_lconst (v := 0) o dX7_falseShare_154 (by decide) ?_
    refine R_ladd o dX7_falseShare_155 ?_
    refine R_last o dX7_falseShare_156 (Or.inl sh_85) ?_
    refine R_nmH (fun h156 => ?_)
    refine R_iinc (v := (x9 + (-1))) (lv2 := [(0, rA g 64), (1, .int x1), (2, .int x2), (4, .int x4), (5, .long l5), (7, .int x7), (8, .int x8), (9, .int (x9 + (-1)))]) o 7 dX7_falseShare_157 rfl rfl (by decide) rfl ?_
    refine R_goto o 105 dX7_falseShare_160 (by decide) ?_
    exact T_some (fun p => p)
  · refine R_aload_n o 0 dX7_falseShare_141 rfl rfl ?_
    refine R_getR (a2 := 85) o dX7_falseShare_142 fl_X7_75 sh_64 (by decide) rfl rf_64_29 ?_
    refine R_iload o 7 dX7_falseShare_145 rfl ?_
    refine R_iload o 6 dX7_falseShare_147 rfl ?_
    refine R_isub o dX7_falseShare_149 ?_
    refine R_lald o dX7_falseShare_150 (Or.inl sh_85) ?_
    refine R_goto o 155 dX7_falseShare_151 (by decide) ?_
    refine R_ladd o dX7_falseShare_155 ?_
    refine R_last o dX7_falseShare_156 (Or.inl sh_85) ?_
    refine R_nmH (fun h156 => ?_)
    refine R_iinc (v := (x9 + (-1))) (lv2 := [(0, rA g 64), (1, .int x1), (2, .int x2), (4, .int x4), (5, .long l5), (7, .int x7), (8, .int x8), (9, .int (x9 + (-1)))]) o 7 dX7_falseShare_157 rfl rfl (by decide) rfl ?_
    refine R_goto o 105 dX7_falseShare_160 (by decide) ?_
    exact T_some (fun p => p)
noncomputable def f_X7_falseShare_B105 (h : MH) (x1 : Int32) (x2 : Int32) (x4 : Int32) (l5 : Int64) (x7 : Int32) (x8 : Int32) (x9 : Int32) : Option ((Int32 × MH) ⊕ (MH)) :=
  (if x9 < 0 then some (.inr h) else (if x4 < x9 then f_X7_falseShare_J134_105 h x1 x2 x4 l5 x7 x8 x9 x9 0 else gd (ix x9 10201) (f_X7_falseShare_J134_105 h x1 x2 x4 l5 x7 x8 x9 x9 (h.2.1 85 x9.toNatClampNeg))))
set_option maxRecDepth 100000 in
set_option maxHeartbeats 4000000 in
theorem t_X7_falseShare_B105 {g : Gx} {l : Launch} {V : VT} {Rt : Option Value → MH → Prop} (o : Ok g l RX7 cX7_falseShare 10 3 63 0 V) (rr : ORi cX7_falseShare V Rt) (h : MH) (x1 : Int32) (x2 : Int32) (x4 : Int32) (l5 : Int64) (x7 : Int32) (x8 : Int32) (x9 : Int32) : T (Sum.elim (fun s => V 105 [(0, rA g 64), (1, .int x1), (2, .int x2), (4, .int x4), (5, .long l5), (7, .int x7), (8, .int x8), (9, .int s.1)] [] s.2) (fun b => V 163 [(0, rA g 64), (1, .int x1), (2, .int x2), (4, .int x4), (5, .long l5), (7, .int x7), (8, .int x8)] [] b)) (f_X7_falseShare_B105  h x1 x2 x4 l5 x7 x8 x9) (V 105 [(0, rA g 64), (1, .int x1), (2, .int x2), (4, .int x4), (5, .long l5), (7, .int x7), (8, .int x8), (9, .int x9)] [] h) := by
  unfold f_X7_falseShare_B105
  refine R_iload o 7 dX7_falseShare_105 rfl ?_
  refine R_if_lt o 163 dX7_falseShare_107 (by decide) ?_ ?_
  · refine R_drop (lv2 := [(0, rA g 64), (1, .int x1), (2, .int x2), (4, .int x4), (5, .long l5), (7, .int x7), (8, .int x8)]) o [0, 1, 2, 3, 4, 5, 6] rfl ?_
    exact T_some (fun p => p)
  · refine R_aload_n o 0 dX7_falseShare_110 rfl rfl ?_
    refine R_getR (a2 := 85) o dX7_falseShare_111 fl_X7_75 sh_64 (by decide) rfl rf_64_29 ?_
    refine R_iload o 7 dX7_falseShare_114 rfl ?_
    refine R_iload o 7 dX7_falseShare_116 rfl ?_
    refine R_iload o 3 dX7_falseShare_118 rfl ?_
    refine R_icmp_gt o 133 dX7_falseShare_120 (by decide) ?_ ?_
    · refine R_lconst (v := 0) o dX7_falseShare_133 (by decide) ?_
      exact t_X7_falseShare_J134_105 o rr h x1 x2 x4 l5 x7 x8 x9 x9 0
    · refine R_aload_n o 0 dX7_falseShare_123 rfl rfl ?_
      refine R_getR (a2 := 85) o dX7_falseShare_124 fl_X7_75 sh_64 (by decide) rfl rf_64_29 ?_
      refine R_iload o 7 dX7_falseShare_127 rfl ?_
      refine R_lald o dX7_falseShare_129 (Or.inl sh_85) ?_
      refine R_goto o 134 dX7_falseShare_130 (by decide) ?_
      exact t_X7_falseShare_J134_105 o rr h x1 x2 x4 l5 x7 x8 x9 x9 (h.2.1 85 x9.toNatClampNeg)
noncomputable def f_X7_falseShare_L105 (h : MH) (x1 : Int32) (x2 : Int32) (x4 : Int32) (l5 : Int64) (x7 : Int32) (x8 : Int32) (x9 : Int32) : Option (MH) :=
  lpo (fun s : Int32 × MH => f_X7_falseShare_B105 s.2 x1 x2 x4 l5 x7 x8 s.1) (x9, h)
theorem t_X7_falseShare_L105 {g : Gx} {l : Launch} {V : VT} {Rt : Option Value → MH → Prop} (o : Ok g l RX7 cX7_falseShare 10 3 63 0 V) (rr : ORi cX7_falseShare V Rt) (h : MH) (x1 : Int32) (x2 : Int32) (x4 : Int32) (l5 : Int64) (x7 : Int32) (x8 : Int32) (x9 : Int32) : T (fun b => V 163 [(0, rA g 64), (1, .int x1), (2, .int x2), (4, .int x4), (5, .long l5), (7, .int x7), (8, .int x8)] [] b) (f_X7_falseShare_L105 h x1 x2 x4 l5 x7 x8 x9) (V 105 [(0, rA g 64), (1, .int x1), (2, .int x2), (4, .int x4), (5, .long l5), (7, .int x7), (8, .int x8), (9, .int x9)] [] h) := T_loop (head := fun s : Int32 × MH => V 105 [(0, rA g 64), (1, .int x1), (2, .int x2), (4, .int x4), (5, .long l5), (7, .int x7), (8, .int x8), (9, .int s.1)] [] s.2) (fun s => t_X7_falseShare_B105 o rr s.2 x1 x2 x4 l5 x7 x8 s.1 ) (x9, h)
noncomputable def f_X7_falseShare_B70 (h : MH) (x1 : Int32) (x2 : Int32) (x4 : Int32) (l5 : Int64) (x7 : Int32) : Option ((Int32 × Int64 × Int32 × MH) ⊕ (Int32 × Int64 × MH)) :=
  gd (ix x1 6) ((if x7 < (h.1 71 x1.toNatClampNeg) then Option.bind (f_X7_dotAt h x1 x7) (fun r85 => nm (l5 * 2) (fun v96 => nm (x4 + r85) (fun v103 => Option.bind (f_X7_falseShare_L105 h x1 x2 x4 v96 x7 r85 v103) (fun b105 => nm (x4 + r85) (fun v168 => some (.inl (v168, v96, (x7 + 1), b105))))))) else some (.inr (x4, l5, h))))
set_option maxRecDepth 100000 in
set_option maxHeartbeats 4000000 in
theorem t_X7_falseShare_B70 {g : Gx} {l : Launch} {V : VT} {Rt : Option Value → MH → Prop} (o : Ok g l RX7 cX7_falseShare 10 3 63 0 V) (rr : ORi cX7_falseShare V Rt) (h : MH) (x1 : Int32) (x2 : Int32) (x4 : Int32) (l5 : Int64) (x7 : Int32) : T (Sum.elim (fun s => V 70 [(0, rA g 64), (1, .int x1), (2, .int x2), (4, .int s.1), (5, .long s.2.1), (7, .int s.2.2.1)] [] s.2.2.2) (fun b => V 176 [(0, rA g 64), (2, .int x2), (4, .int b.1), (5, .long b.2.1)] [] b.2.2)) (f_X7_falseShare_B70  h x1 x2 x4 l5 x7) (V 70 [(0, rA g 64), (1, .int x1), (2, .int x2), (4, .int x4), (5, .long l5), (7, .int x7)] [] h) := by
  unfold f_X7_falseShare_B70
  refine R_iload o 5 dX7_falseShare_70 rfl ?_
  refine R_aload_n o 0 dX7_falseShare_72 rfl rfl ?_
  refine R_getR (a2 := 71) o dX7_falseShare_73 fl_X7_32 sh_64 (by decide) rfl rf_64_10 ?_
  refine R_iload_n o 1 dX7_falseShare_76 rfl rfl ?_
  refine R_iald o dX7_falseShare_77 sh_71 ?_
  refine R_icmp_ge o 176 dX7_falseShare_78 (by decide) ?_ ?_
  · refine R_aload_n o 0 dX7_falseShare_81 rfl rfl ?_
    refine R_iload_n o 1 dX7_falseShare_82 rfl rfl ?_
    refine R_iload o 5 dX7_falseShare_83 rfl ?_
    refine K_i (callV' (As := [.int x1, .int x7]) (rest := []) o dX7_falseShare_85 lk_X7_147 rfl sh_64 rfl rfl rfl rfl (Nat.le_of_ble_eq_true rfl)) (c_X7_dotAt g l h x1 x7) (fun r85 => ?_)
    refine R_istore (lv2 := [(0, rA g 64), (1, .int x1), (2, .int x2), (4, .int x4), (5, .long l5), (7, .int x7), (8, .int r85)]) o dX7_falseShare_88 (by decide) rfl ?_
    refine R_lload o 4 dX7_falseShare_90 rfl ?_
    refine R_ldc2 (v := 2) o dX7_falseShare_92 kc_X7_242 ?_
    refine R_lmul o dX7_falseShare_95 ?_
    refine R_nmL (fun v96 => ?_)
    refine R_lstore (lv2 := [(0, rA g 64), (1, .int x1), (2, .int x2), (4, .int x4), (5, .long v96), (7, .int x7), (8, .int r85)]) o dX7_falseShare_96 (by decide) rfl ?_
    refine R_iload o 3 dX7_falseShare_98 rfl ?_
    refine R_iload o 6 dX7_falseShare_100 rfl ?_
    refine R_iadd o dX7_falseShare_102 ?_
    refine R_nmI (fun v103 => ?_)
    refine R_istore (lv2 := [(0, rA g 64), (1, .int x1), (2, .int x2), (4, .int x4), (5, .long v96), (7, .int x7), (8, .int r85), (9, .int v103)]) o dX7_falseShare_103 (by decide) rfl ?_
    refine T_bind (t_X7_falseShare_L105 o rr h x1 x2 x4 v96 x7 r85 v103) (fun b105 => ?_)
    refine R_iload o 3 dX7_falseShare_163 rfl ?_
    refine R_iload o 6 dX7_falseShare_165 rfl ?_
    refine R_iadd o dX7_falseShare_167 ?_
    refine R_nmI (fun v168 => ?_)
    refine R_istore (lv2 := [(0, rA g 64), (1, .int x1), (2, .int x2), (4, .int v168), (5, .long v96), (7, .int x7), (8, .int r85)]) o dX7_falseShare_168 (by decide) rfl ?_
    refine R_iinc (v := (x7 + 1)) (lv2 := [(0, rA g 64), (1, .int x1), (2, .int x2), (4, .int v168), (5, .long v96), (7, .int (x7 + 1)), (8, .int r85)]) o 5 dX7_falseShare_170 rfl rfl (by decide) rfl ?_
    refine R_goto o 70 dX7_falseShare_173 (by decide) ?_
    refine R_drop (lv2 := [(0, rA g 64), (1, .int x1), (2, .int x2), (4, .int v168), (5, .long v96), (7, .int (x7 + 1))]) o [0, 1, 2, 3, 4, 5] rfl ?_
    exact T_some (fun p => p)
  · refine R_drop (lv2 := [(0, rA g 64), (2, .int x2), (4, .int x4), (5, .long l5)]) o [0, 2, 3, 4] rfl ?_
    exact T_some (fun p => p)
noncomputable def f_X7_falseShare_L70 (h : MH) (x1 : Int32) (x2 : Int32) (x4 : Int32) (l5 : Int64) (x7 : Int32) : Option (Int32 × Int64 × MH) :=
  lpo (fun s : Int32 × Int64 × Int32 × MH => f_X7_falseShare_B70 s.2.2.2 x1 x2 s.1 s.2.1 s.2.2.1) (x4, l5, x7, h)
theorem t_X7_falseShare_L70 {g : Gx} {l : Launch} {V : VT} {Rt : Option Value → MH → Prop} (o : Ok g l RX7 cX7_falseShare 10 3 63 0 V) (rr : ORi cX7_falseShare V Rt) (h : MH) (x1 : Int32) (x2 : Int32) (x4 : Int32) (l5 : Int64) (x7 : Int32) : T (fun b => V 176 [(0, rA g 64), (2, .int x2), (4, .int b.1), (5, .long b.2.1)] [] b.2.2) (f_X7_falseShare_L70 h x1 x2 x4 l5 x7) (V 70 [(0, rA g 64), (1, .int x1), (2, .int x2), (4, .int x4), (5, .long l5), (7, .int x7)] [] h) := T_loop (head := fun s : Int32 × Int64 × Int32 × MH => V 70 [(0, rA g 64), (1, .int x1), (2, .int x2), (4, .int s.1), (5, .long s.2.1), (7, .int s.2.2.1)] [] s.2.2.2) (fun s => t_X7_falseShare_B70 o rr s.2.2.2 x1 x2 s.1 s.2.1 s.2.2.1 ) (x4, l5, x7, h)
noncomputable def f_X7_falseShare_B182 (h : MH) (x2 : Int32) (x4 : Int32) (l5 : Int64) (l7 : Int64) (x9 : Int32) : Option ((Int64 × Int32) ⊕ (Int64)) :=
  (if x4 < x9 then some (.inr l7) else (if ((2 * x9) - x4) < x2 then nm (l7 + 0) (fun v214 => some (.inl (v214, (x9 + 1)))) else gd (ix x9 10201) (nm (l7 + (h.2.1 85 x9.toNatClampNeg)) (fun v214 => some (.inl (v214, (x9 + 1)))))))
set_option maxRecDepth 100000 in
set_option maxHeartbeats 4000000 in
theorem t_X7_falseShare_B182 {g : Gx} {l : Launch} {V : VT} {Rt : Option Value → MH → Prop} (o : Ok g l RX7 cX7_falseShare 10 3 63 0 V) (rr : ORi cX7_falseShare V Rt) (h : MH) (x2 : Int32) (x4 : Int32) (l5 : Int64) (l7 : Int64) (x9 : Int32) : T (Sum.elim (fun s => V 182 [(0, rA g 64), (2, .int x2), (4, .int x4), (5, .long l5), (7, .long s.1), (9, .int s.2)] [] h) (fun b => V 222 [(0, rA g 64), (5, .long l5), (7, .long b)] [] h)) (f_X7_falseShare_B182  h x2 x4 l5 l7 x9) (V 182 [(0, rA g 64), (2, .int x2), (4, .int x4), (5, .long l5), (7, .long l7), (9, .int x9)] [] h) := by
  unfold f_X7_falseShare_B182
  refine R_iload o 5 dX7_falseShare_182 rfl ?_
  refine R_iload o 2 dX7_falseShare_184 rfl ?_
  refine R_icmp_gt o 222 dX7_falseShare_186 (by decide) ?_ ?_
  · refine R_drop (lv2 := [(0, rA g 64), (5, .long l5), (7, .long l7)]) o [0, 3, 4] rfl ?_
    exact T_some (fun p => p)
  · refine R_lload o 4 dX7_falseShare_189 rfl ?_
    refine R_iconst (v := 2) o dX7_falseShare_191 (by decide) ?_
    refine R_iload o 5 dX7_falseShare_192 rfl ?_
    refine R_imul o dX7_falseShare_194 ?_
    refine R_iload o 2 dX7_falseShare_195 rfl ?_
    refine R_isub o dX7_falseShare_197 ?_
    refine R_iload_n o 1 dX7_falseShare_198 rfl rfl ?_
    refine R_icmp_lt o 212 dX7_falseShare_199 (by decide) ?_ ?_
    · refine R_lconst (v := 0) o dX7_falseShare_212 (by decide) ?_
      refine R_ladd o dX7_falseShare_213 ?_
      refine R_nmL (fun v214 => ?_)
      refine R_lstore (lv2 := [(0, rA g 64), (2, .int x2), (4, .int x4), (5, .long l5), (7, .long v214), (9, .int x9)]) o dX7_falseShare_214 (by decide) rfl ?_
      refine R_iinc (v := (x9 + 1)) (lv2 := [(0, rA g 64), (2, .int x2), (4, .int x4), (5, .long l5), (7, .long v214), (9, .int (x9 + 1))]) o 5 dX7_falseShare_216 rfl rfl (by decide) rfl ?_
      refine R_goto o 182 dX7_falseShare_219 (by decide) ?_
      exact T_some (fun p => p)
    · refine R_aload_n o 0 dX7_falseShare_202 rfl rfl ?_
      refine R_getR (a2 := 85) o dX7_falseShare_203 fl_X7_75 sh_64 (by decide) rfl rf_64_29 ?_
      refine R_iload o 5 dX7_falseShare_206 rfl ?_
      refine R_lald o dX7_falseShare_208 (Or.inl sh_85) ?_
      refine R_goto o 213 dX7_falseShare_209 (by decide) ?_
      refine R_ladd o dX7_falseShare_213 ?_
      refine R_nmL (fun v214 => ?_)
      refine R_lstore (lv2 := [(0, rA g 64), (2, .int x2), (4, .int x4), (5, .long l5), (7, .long v214), (9, .int x9)]) o dX7_falseShare_214 (by decide) rfl ?_
      refine R_iinc (v := (x9 + 1)) (lv2 := [(0, rA g 64), (2, .int x2), (4, .int x4), (5, .long l5), (7, .long v214), (9, .int (x9 + 1))]) o 5 dX7_falseShare_216 rfl rfl (by decide) rfl ?_
      refine R_goto o 182 dX7_falseShare_219 (by decide) ?_
      exact T_some (fun p => p)
noncomputable def f_X7_falseShare_L182 (h : MH) (x2 : Int32) (x4 : Int32) (l5 : Int64) (l7 : Int64) (x9 : Int32) : Option (Int64) :=
  lpo (fun s : Int64 × Int32 => f_X7_falseShare_B182 h x2 x4 l5 s.1 s.2) (l7, x9)
theorem t_X7_falseShare_L182 {g : Gx} {l : Launch} {V : VT} {Rt : Option Value → MH → Prop} (o : Ok g l RX7 cX7_falseShare 10 3 63 0 V) (rr : ORi cX7_falseShare V Rt) (h : MH) (x2 : Int32) (x4 : Int32) (l5 : Int64) (l7 : Int64) (x9 : Int32) : T (fun b => V 222 [(0, rA g 64), (5, .long l5), (7, .long b)] [] h) (f_X7_falseShare_L182 h x2 x4 l5 l7 x9) (V 182 [(0, rA g 64), (2, .int x2), (4, .int x4), (5, .long l5), (7, .long l7), (9, .int x9)] [] h) := T_loop (head := fun s : Int64 × Int32 => V 182 [(0, rA g 64), (2, .int x2), (4, .int x4), (5, .long l5), (7, .long s.1), (9, .int s.2)] [] h) (fun s => t_X7_falseShare_B182 o rr h x2 x4 l5 s.1 s.2 ) (l7, x9)
noncomputable def f_X7_falseShare (h : MH) (x1 : Int32) (x2 : Int32) : Option (Int32 × MH) :=
  Option.bind (f_X7_in x2 (-10200) 10200) (fun r7 => (if r7 = true then bnd2 (f_X7_askedCover h x1) (fun r17 h17 => (if r17 < 0 then some (r17, h17) else Option.bind (f_X7_falseShare_L30 h17 x1 x2 0) (fun b30 => Option.bind (f_X7_falseShare_L70 b30 x1 x2 0 1 0) (fun b70 => Option.bind (f_X7_falseShare_L182 b70.2.2 x2 b70.1 b70.2.1 0 0) (fun b182 => bnd2 (f_X7_tell b70.2.2 b182 b70.2.1 1) (fun r228 h228 => some (r228, h228))))))) else some ((-1), h)))
set_option maxRecDepth 100000 in
set_option maxHeartbeats 4000000 in
theorem b_X7_falseShare {g : Gx} {l : Launch} {V : VT} {Rt : Option Value → MH → Prop} (o : Ok g l RX7 cX7_falseShare 10 3 63 0 V) (rr : ORi cX7_falseShare V Rt) (h : MH) (x1 : Int32) (x2 : Int32) : T (fun r => Rt (some (.int r.1)) r.2) (f_X7_falseShare h x1 x2) (V 0 [(0, rA g 64), (1, .int x1), (2, .int x2)] [] h) := by
  unfold f_X7_falseShare
  refine R_iload_n o 2 dX7_falseShare_0 rfl rfl ?_
  refine R_sipush (v := (-10200)) o dX7_falseShare_1 (by decide) ?_
  refine R_sipush (v := 10200) o dX7_falseShare_4 (by decide) ?_
  refine K_z (callS' (av := [.int x2, .int (-10200), .int 10200]) (rest := []) o dX7_falseShare_7 lk_X7_92 rfl rfl rfl (Nat.le_of_ble_eq_true rfl)) (c_X7_in g l h x2 (-10200) 10200) (fun r7 => ?_)
  refine R_bif_ne o 15 dX7_falseShare_10 (by decide) ?_ ?_
  · refine R_aload_n o 0 dX7_falseShare_15 rfl rfl ?_
    refine R_iload_n o 1 dX7_falseShare_16 rfl rfl ?_
    refine K_ih (callV' (As := [.int x1]) (rest := []) o dX7_falseShare_17 lk_X7_138 rfl sh_64 rfl rfl rfl rfl (Nat.le_of_ble_eq_true rfl)) (c_X7_askedCover g l h x1) (fun r17 h17 => ?_)
    refine R_istore_n (lv2 := [(0, rA g 64), (1, .int x1), (2, .int x2), (3, .int r17)]) o dX7_falseShare_20 rfl (by decide) rfl ?_
    refine R_iload_n o 3 dX7_falseShare_21 rfl rfl ?_
    refine R_if_ge o 27 dX7_falseShare_22 (by decide) ?_ ?_
    · refine R_iload_n o 3 dX7_falseShare_25 rfl rfl ?_
      exact T_some (fun p => rr _ _ _ _ dX7_falseShare_26 p)
    · refine R_iconst (v := 0) o dX7_falseShare_27 (by decide) ?_
      refine R_istore (lv2 := [(0, rA g 64), (1, .int x1), (2, .int x2), (3, .int r17), (4, .int 0)]) o dX7_falseShare_28 (by decide) rfl ?_
      refine R_drop (lv2 := [(0, rA g 64), (1, .int x1), (2, .int x2), (4, .int 0)]) o [0, 1, 2, 4] rfl ?_
      refine T_bind (t_X7_falseShare_L30 o rr h17 x1 x2 0) (fun b30 => ?_)
      refine R_iconst (v := 0) o dX7_falseShare_61 (by decide) ?_
      refine R_istore (lv2 := [(0, rA g 64), (1, .int x1), (2, .int x2), (4, .int 0)]) o dX7_falseShare_62 (by decide) rfl ?_
      refine R_lconst (v := 1) o dX7_falseShare_64 (by decide) ?_
      refine R_lstore (lv2 := [(0, rA g 64), (1, .int x1), (2, .int x2), (4, .int 0), (5, .long 1)]) o dX7_falseShare_65 (by decide) rfl ?_
      refine R_iconst (v := 0) o dX7_falseShare_67 (by decide) ?_
      refine R_istore (lv2 := [(0, rA g 64), (1, .int x1), (2, .int x2), (4, .int 0), (5, .long 1), (7, .int 0)]) o dX7_falseShare_68 (by decide) rfl ?_
      refine T_bind (t_X7_falseShare_L70 o rr b30 x1 x2 0 1 0) (fun b70 => ?_)
      refine R_lconst (v := 0) o dX7_falseShare_176 (by decide) ?_
      refine R_lstore (lv2 := [(0, rA g 64), (2, .int x2), (4, .int b70.1), (5, .long b70.2.1), (7, .long 0)]) o dX7_falseShare_177 (by decide) rfl ?_
      refine R_iconst (v := 0) o dX7_falseShare_179 (by decide) ?_
      refine R_istore (lv2 := [(0, rA g 64), (2, .int x2), (4, .int b70.1), (5, .long b70.2.1), (7, .long 0), (9, .int 0)]) o dX7_falseShare_180 (by decide) rfl ?_
      refine T_bind (t_X7_falseShare_L182 o rr b70.2.2 x2 b70.1 b70.2.1 0 0) (fun b182 => ?_)
      refine R_aload_n o 0 dX7_falseShare_222 rfl rfl ?_
      refine R_lload o 2 dX7_falseShare_223 rfl ?_
      refine R_lload o 1 dX7_falseShare_225 rfl ?_
      refine R_iconst (v := 1) o dX7_falseShare_227 (by decide) ?_
      refine K_ih (callV' (As := [.long b182, .long b70.2.1, .int 1]) (rest := []) o dX7_falseShare_228 lk_X7_229 rfl sh_64 rfl rfl rfl rfl (Nat.le_of_ble_eq_true rfl)) (c_X7_tell g l b70.2.2 b182 b70.2.1 1) (fun r228 h228 => ?_)
      exact T_some (fun p => rr _ _ _ _ dX7_falseShare_231 p)
  · refine R_iconst (v := (-1)) o dX7_falseShare_13 (by decide) ?_
    exact T_some (fun p => rr _ _ _ _ dX7_falseShare_14 p)
theorem c_X7_falseShare (g : Gx) (l : Launch) (h : MH) (x1 : Int32) (x2 : Int32) (r : (Int32 × MH)) (e : f_X7_falseShare h x1 x2 = some r) : Ctr g l yX7_falseShare cX7_falseShare 10 (some .int) 3 63 0 [rA g 64, .int x1, .int x2] h (some (.int r.1)) r.2 := mkCi (plainFor_of_name (by decide)) (Nat.le_of_ble_eq_true rfl) (fun V Rt o rr p => b_X7_falseShare o rr h x1 x2  r e p)
/-! X7_cut -/
noncomputable def f_X7_cut_B59 (h : MH) (x1 : Int32) (x2 : Int32) (x3 : Int32) (x4 : Int32) (x6 : Int32) : Option ((Int32 × MH) ⊕ (MH)) :=
  (if x6 < x3 then Option.bind (f_X7_dotAt h x1 (x2 + x6)) (fun r77 => gd (ix x6 40) (nm (uI h 68 x6.toNatClampNeg r77) (fun h80 => some (.inl ((x6 + 1), h80))))) else some (.inr h))
set_option maxRecDepth 100000 in
set_option maxHeartbeats 4000000 in
theorem t_X7_cut_B59 {g : Gx} {l : Launch} {V : VT} {Rt : Option Value → MH → Prop} (o : Ok g l RX7 cX7_cut 7 3 63 0 V) (rr : ORi cX7_cut V Rt) (h : MH) (x1 : Int32) (x2 : Int32) (x3 : Int32) (x4 : Int32) (x6 : Int32) : T (Sum.elim (fun s => V 59 [(0, rA g 64), (1, .int x1), (2, .int x2), (3, .int x3), (4, .int x4), (6, .int s.1)] [] s.2) (fun b => V 87 [(0, rA g 64), (3, .int x3), (4, .int x4)] [] b)) (f_X7_cut_B59  h x1 x2 x3 x4 x6) (V 59 [(0, rA g 64), (1, .int x1), (2, .int x2), (3, .int x3), (4, .int x4), (6, .int x6)] [] h) := by
  unfold f_X7_cut_B59
  refine R_iload o 5 dX7_cut_59 rfl ?_
  refine R_iload_n o 3 dX7_cut_61 rfl rfl ?_
  refine R_icmp_ge o 87 dX7_cut_62 (by decide) ?_ ?_
  · refine R_aload_n o 0 dX7_cut_65 rfl rfl ?_
    refine R_getR (a2 := 68) o dX7_cut_66 fl_X7_23 sh_64 (by decide) rfl rf_64_7 ?_
    refine R_iload o 5 dX7_cut_69 rfl ?_
    refine R_aload_n o 0 dX7_cut_71 rfl rfl ?_
    refine R_iload_n o 1 dX7_cut_72 rfl rfl ?_
    refine R_iload_n o 2 dX7_cut_73 rfl rfl ?_
    refine R_iload o 5 dX7_cut_74 rfl ?_
    refine R_iadd o dX7_cut_76 ?_
    refine K_i (callV' (As := [.int x1, .int (x2 + x6)]) (rest := [.int x6, rA g 68]) o dX7_cut_77 lk_X7_147 rfl sh_64 rfl rfl rfl rfl (Nat.le_of_ble_eq_true rfl)) (c_X7_dotAt g l h x1 (x2 + x6)) (fun r77 => ?_)
    refine R_iast o dX7_cut_80 sh_68 ?_
    refine R_nmH (fun h80 => ?_)
    refine R_iinc (v := (x6 + 1)) (lv2 := [(0, rA g 64), (1, .int x1), (2, .int x2), (3, .int x3), (4, .int x4), (6, .int (x6 + 1))]) o 5 dX7_cut_81 rfl rfl (by decide) rfl ?_
    refine R_goto o 59 dX7_cut_84 (by decide) ?_
    exact T_some (fun p => p)
  · refine R_drop (lv2 := [(0, rA g 64), (3, .int x3), (4, .int x4)]) o [0, 3, 4] rfl ?_
    exact T_some (fun p => p)
noncomputable def f_X7_cut_L59 (h : MH) (x1 : Int32) (x2 : Int32) (x3 : Int32) (x4 : Int32) (x6 : Int32) : Option (MH) :=
  lpo (fun s : Int32 × MH => f_X7_cut_B59 s.2 x1 x2 x3 x4 s.1) (x6, h)
theorem t_X7_cut_L59 {g : Gx} {l : Launch} {V : VT} {Rt : Option Value → MH → Prop} (o : Ok g l RX7 cX7_cut 7 3 63 0 V) (rr : ORi cX7_cut V Rt) (h : MH) (x1 : Int32) (x2 : Int32) (x3 : Int32) (x4 : Int32) (x6 : Int32) : T (fun b => V 87 [(0, rA g 64), (3, .int x3), (4, .int x4)] [] b) (f_X7_cut_L59 h x1 x2 x3 x4 x6) (V 59 [(0, rA g 64), (1, .int x1), (2, .int x2), (3, .int x3), (4, .int x4), (6, .int x6)] [] h) := T_loop (head := fun s : Int32 × MH => V 59 [(0, rA g 64), (1, .int x1), (2, .int x2), (3, .int x3), (4, .int x4), (6, .int s.1)] [] s.2) (fun s => t_X7_cut_B59 o rr s.2 x1 x2 x3 x4 s.1 ) (x6, h)
noncomputable def f_X7_cut_B114 (h : MH) (x3 : Int32) (x4 : Int32) (x6 : Int32) : Option ((Int32 × MH) ⊕ (MH)) :=
  (if x6 < x3 then gd (ix x6 40) (gd (ix ((40 * x4) + x6) 240) (nm (uI h 73 ((40 * x4) + x6).toNatClampNeg (h.1 68 x6.toNatClampNeg)) (fun h139 => some (.inl ((x6 + 1), h139))))) else some (.inr h))
set_option maxRecDepth 100000 in
set_option maxHeartbeats 4000000 in
theorem t_X7_cut_B114 {g : Gx} {l : Launch} {V : VT} {Rt : Option Value → MH → Prop} (o : Ok g l RX7 cX7_cut 7 3 63 0 V) (rr : ORi cX7_cut V Rt) (h : MH) (x3 : Int32) (x4 : Int32) (x6 : Int32) : T (Sum.elim (fun s => V 114 [(0, rA g 64), (3, .int x3), (4, .int x4), (6, .int s.1)] [] s.2) (fun b => V 146 [(3, .int x3)] [] b)) (f_X7_cut_B114  h x3 x4 x6) (V 114 [(0, rA g 64), (3, .int x3), (4, .int x4), (6, .int x6)] [] h) := by
  unfold f_X7_cut_B114
  refine R_iload o 3 dX7_cut_114 rfl ?_
  refine R_iload_n o 1 dX7_cut_116 rfl rfl ?_
  refine R_icmp_ge o 146 dX7_cut_117 (by decide) ?_ ?_
  · refine R_aload_n o 0 dX7_cut_120 rfl rfl ?_
    refine R_getR (a2 := 73) o dX7_cut_121 fl_X7_38 sh_64 (by decide) rfl rf_64_12 ?_
    refine R_bipush (v := 40) o dX7_cut_124 (by decide) ?_
    refine R_iload o 2 dX7_cut_126 rfl ?_
    refine R_imul o dX7_cut_128 ?_
    refine R_iload o 3 dX7_cut_129 rfl ?_
    refine R_iadd o dX7_cut_131 ?_
    refine R_aload_n o 0 dX7_cut_132 rfl rfl ?_
    refine R_getR (a2 := 68) o dX7_cut_133 fl_X7_23 sh_64 (by decide) rfl rf_64_7 ?_
    refine R_iload o 3 dX7_cut_136 rfl ?_
    refine R_iald o dX7_cut_138 sh_68 ?_
    refine R_iast o dX7_cut_139 sh_73 ?_
    refine R_nmH (fun h139 => ?_)
    refine R_iinc (v := (x6 + 1)) (lv2 := [(0, rA g 64), (3, .int x3), (4, .int x4), (6, .int (x6 + 1))]) o 3 dX7_cut_140 rfl rfl (by decide) rfl ?_
    refine R_goto o 114 dX7_cut_143 (by decide) ?_
    exact T_some (fun p => p)
  · refine R_drop (lv2 := [(3, .int x3)]) o [1] rfl ?_
    exact T_some (fun p => p)
noncomputable def f_X7_cut_L114 (h : MH) (x3 : Int32) (x4 : Int32) (x6 : Int32) : Option (MH) :=
  lpo (fun s : Int32 × MH => f_X7_cut_B114 s.2 x3 x4 s.1) (x6, h)
theorem t_X7_cut_L114 {g : Gx} {l : Launch} {V : VT} {Rt : Option Value → MH → Prop} (o : Ok g l RX7 cX7_cut 7 3 63 0 V) (rr : ORi cX7_cut V Rt) (h : MH) (x3 : Int32) (x4 : Int32) (x6 : Int32) : T (fun b => V 146 [(3, .int x3)] [] b) (f_X7_cut_L114 h x3 x4 x6) (V 114 [(0, rA g 64), (3, .int x3), (4, .int x4), (6, .int x6)] [] h) := T_loop (head := fun s : Int32 × MH => V 114 [(0, rA g 64), (3, .int x3), (4, .int x4), (6, .int s.1)] [] s.2) (fun s => t_X7_cut_B114 o rr s.2 x3 x4 s.1 ) (x6, h)
noncomputable def f_X7_cut (h : MH) (x1 : Int32) (x2 : Int32) (x3 : Int32) (x4 : Int32) : Option (Int32 × MH) :=
  Option.bind (f_X7_isCover x4) (fun r2 => (if r2 = true then (if x3 < 1 then some ((-1), h) else bnd2 (f_X7_askedCover h x1) (fun r17 h17 => (if r17 < 0 then some (r17, h17) else (if x2 < 0 then bnd2 (f_X7_meets h17 2) (fun r52 h52 => some (r52, h52)) else gd (ix x1 6) ((if (Int32.toInt64 (h17.1 71 x1.toNatClampNeg)) < ((Int32.toInt64 x2) + (Int32.toInt64 x3)) then bnd2 (f_X7_meets h17 2) (fun r52 h52 => some (r52, h52)) else Option.bind (f_X7_cut_L59 h17 x1 x2 x3 x4 0) (fun b59 => gd (ix x4 6) (nm (uI b59 72 x4.toNatClampNeg 0) (fun h94 => gd (ix x4 6) (nm (uI h94 71 x4.toNatClampNeg x3) (fun h102 => gd (ix x4 6) (nm (uI h102 76 x4.toNatClampNeg 0) (fun h110 => Option.bind (f_X7_cut_L114 h110 x3 x4 0) (fun b114 => some (x3, b114))))))))))))))) else some ((-1), h)))
set_option maxRecDepth 100000 in
set_option maxHeartbeats 4000000 in
theorem b_X7_cut {g : Gx} {l : Launch} {V : VT} {Rt : Option Value → MH → Prop} (o : Ok g l RX7 cX7_cut 7 3 63 0 V) (rr : ORi cX7_cut V Rt) (h : MH) (x1 : Int32) (x2 : Int32) (x3 : Int32) (x4 : Int32) : T (fun r => Rt (some (.int r.1)) r.2) (f_X7_cut h x1 x2 x3 x4) (V 0 [(0, rA g 64), (1, .int x1), (2, .int x2), (3, .int x3), (4, .int x4)] [] h) := by
  unfold f_X7_cut
  refine R_iload o 4 dX7_cut_0 rfl ?_
  refine K_z (callS' (av := [.int x4]) (rest := []) o dX7_cut_2 lk_X7_123 rfl rfl rfl (Nat.le_of_ble_eq_true rfl)) (c_X7_isCover g l h x4) (fun r2 => ?_)
  refine R_bif_eq o 13 dX7_cut_5 (by decide) ?_ ?_
  · refine R_iload_n o 3 dX7_cut_8 rfl rfl ?_
    refine R_iconst (v := 1) o dX7_cut_9 (by decide) ?_
    refine R_icmp_ge o 15 dX7_cut_10 (by decide) ?_ ?_
    · refine R_iconst (v := (-1)) o dX7_cut_13 (by decide) ?_
      exact T_some (fun p => rr _ _ _ _ dX7_cut_14 p)
    · refine R_aload_n o 0 dX7_cut_15 rfl rfl ?_
      refine R_iload_n o 1 dX7_cut_16 rfl rfl ?_
      refine K_ih (callV' (As := [.int x1]) (rest := []) o dX7_cut_17 lk_X7_138 rfl sh_64 rfl rfl rfl rfl (Nat.le_of_ble_eq_true rfl)) (c_X7_askedCover g l h x1) (fun r17 h17 => ?_)
      refine R_istore (lv2 := [(0, rA g 64), (1, .int x1), (2, .int x2), (3, .int x3), (4, .int x4), (5, .int r17)]) o dX7_cut_20 (by decide) rfl ?_
      refine R_iload o 5 dX7_cut_22 rfl ?_
      refine R_if_ge o 30 dX7_cut_24 (by decide) ?_ ?_
      · refine R_iload o 5 dX7_cut_27 rfl ?_
        exact T_some (fun p => rr _ _ _ _ dX7_cut_29 p)
      · refine R_iload_n o 2 dX7_cut_30 rfl rfl ?_
        refine R_if_lt o 50 dX7_cut_31 (by decide) ?_ ?_
        · refine R_aload_n o 0 dX7_cut_50 rfl rfl ?_
          refine R_iconst (v := 2) o dX7_cut_51 (by decide) ?_
          refine K_ih (callV' (As := [.int 2]) (rest := []) o dX7_cut_52 lk_X7_100 rfl sh_64 rfl rfl rfl rfl (Nat.le_of_ble_eq_true rfl)) (c_X7_meets g l h17 2) (fun r52 h52 => ?_)
          exact T_some (fun p => rr _ _ _ _ dX7_cut_55 p)
        · refine R_iload_n o 2 dX7_cut_34 rfl rfl ?_
          refine R_i2l o dX7_cut_35 ?_
          refine R_iload_n o 3 dX7_cut_36 rfl rfl ?_
          refine R_i2l o dX7_cut_37 ?_
          refine R_ladd o dX7_cut_38 ?_
          refine R_aload_n o 0 dX7_cut_39 rfl rfl ?_
          refine R_getR (a2 := 71) o dX7_cut_40 fl_X7_32 sh_64 (by decide) rfl rf_64_10 ?_
          refine R_iload_n o 1 dX7_cut_43 rfl rfl ?_
          refine R_iald o dX7_cut_44 sh_71 ?_
          refine R_i2l o dX7_cut_45 ?_
          refine R_lcmp_le o 56 dX7_cut_46 dX7_cut_47 (by decide) ?_ ?_
          · refine R_aload_n o 0 dX7_cut_50 rfl rfl ?_
            refine R_iconst (v := 2) o dX7_cut_51 (by decide) ?_
            refine K_ih (callV' (As := [.int 2]) (rest := []) o dX7_cut_52 lk_X7_100 rfl sh_64 rfl rfl rfl rfl (Nat.le_of_ble_eq_true rfl)) (c_X7_meets g l h17 2) (fun r52 h52 => ?_)
            exact T_some (fun p => rr _ _ _ _ dX7_cut_55 p)
          · refine R_iconst (v := 0) o dX7_cut_56 (by decide) ?_
            refine R_istore (lv2 := [(0, rA g 64), (1, .int x1), (2, .int x2), (3, .int x3), (4, .int x4), (5, .int r17), (6, .int 0)]) o dX7_cut_57 (by decide) rfl ?_
            refine R_drop (lv2 := [(0, rA g 64), (1, .int x1), (2, .int x2), (3, .int x3), (4, .int x4), (6, .int 0)]) o [0, 1, 2, 3, 4, 6] rfl ?_
            refine T_bind (t_X7_cut_L59 o rr h17 x1 x2 x3 x4 0) (fun b59 => ?_)
            refine R_aload_n o 0 dX7_cut_87 rfl rfl ?_
            refine R_getR (a2 := 72) o dX7_cut_88 fl_X7_35 sh_64 (by decide) rfl rf_64_11 ?_
            refine R_iload o 2 dX7_cut_91 rfl ?_
            refine R_iconst (v := 0) o dX7_cut_93 (by decide) ?_
            refine R_iast o dX7_cut_94 sh_72 ?_
            refine R_nmH (fun h94 => ?_)
            refine R_aload_n o 0 dX7_cut_95 rfl rfl ?_
            refine R_getR (a2 := 71) o dX7_cut_96 fl_X7_32 sh_64 (by decide) rfl rf_64_10 ?_
            refine R_iload o 2 dX7_cut_99 rfl ?_
            refine R_iload_n o 1 dX7_cut_101 rfl rfl ?_
            refine R_iast o dX7_cut_102 sh_71 ?_
            refine R_nmH (fun h102 => ?_)
            refine R_aload_n o 0 dX7_cut_103 rfl rfl ?_
            refine R_getR (a2 := 76) o dX7_cut_104 fl_X7_47 sh_64 (by decide) rfl rf_64_15 ?_
            refine R_iload o 2 dX7_cut_107 rfl ?_
            refine R_iconst (v := 0) o dX7_cut_109 (by decide) ?_
            refine R_iast o dX7_cut_110 sh_76 ?_
            refine R_nmH (fun h110 => ?_)
            refine R_iconst (v := 0) o dX7_cut_111 (by decide) ?_
            refine R_istore (lv2 := [(0, rA g 64), (3, .int x3), (4, .int x4), (6, .int 0)]) o dX7_cut_112 (by decide) rfl ?_
            refine T_bind (t_X7_cut_L114 o rr h110 x3 x4 0) (fun b114 => ?_)
            refine R_iload_n o 0 dX7_cut_146 rfl rfl ?_
            exact T_some (fun p => rr _ _ _ _ dX7_cut_147 p)
  · refine R_iconst (v := (-1)) o dX7_cut_13 (by decide) ?_
    exact T_some (fun p => rr _ _ _ _ dX7_cut_14 p)
theorem c_X7_cut (g : Gx) (l : Launch) (h : MH) (x1 : Int32) (x2 : Int32) (x3 : Int32) (x4 : Int32) (r : (Int32 × MH)) (e : f_X7_cut h x1 x2 x3 x4 = some r) : Ctr g l yX7_cut cX7_cut 7 (some .int) 3 63 0 [rA g 64, .int x1, .int x2, .int x3, .int x4] h (some (.int r.1)) r.2 := mkCi (plainFor_of_name (by decide)) (Nat.le_of_ble_eq_true rfl) (fun V Rt o rr p => b_X7_cut o rr h x1 x2 x3 x4  r e p)
/-! X7_isName -/
noncomputable def f_X7_isName (x0 : Int32) : Option Bool :=
  Option.bind (f_X7_in x0 0 4095) (fun r5 => some r5)
set_option maxRecDepth 100000 in
set_option maxHeartbeats 4000000 in
theorem b_X7_isName {g : Gx} {l : Launch} {V : VT} {Rt : Option Value → MH → Prop} (o : Ok g l RX7 cX7_isName 1 1 22 0 V) (rr : ORz cX7_isName V Rt) (h : MH) (x0 : Int32) : T (fun r => Rt (some (.int (b2i r))) h) (f_X7_isName  x0) (V 0 [(0, .int x0)] [] h) := by
  unfold f_X7_isName
  refine R_iload_n o 0 dX7_isName_0 rfl rfl ?_
  refine R_iconst (v := 0) o dX7_isName_1 (by decide) ?_
  refine R_sipush (v := 4095) o dX7_isName_2 (by decide) ?_
  refine K_z (callS' (av := [.int x0, .int 0, .int 4095]) (rest := []) o dX7_isName_5 lk_X7_92 rfl rfl rfl (Nat.le_of_ble_eq_true rfl)) (c_X7_in g l h x0 0 4095) (fun r5 => ?_)
  exact T_some (fun p => rr _ _ r5 _ dX7_isName_8 p)
theorem c_X7_isName (g : Gx) (l : Launch) (h : MH) (x0 : Int32) (r : Bool) (e : f_X7_isName  x0 = some r) : Ctr g l yX7_isName cX7_isName 1 (some .boolean) 1 22 0 [.int x0] h (some (.int (b2i r))) h := mkCz (plainFor_of_name (by decide)) (Nat.le_of_ble_eq_true rfl) (fun V Rt o rr p => b_X7_isName o rr h x0  r e p)
/-! X7_askedNames -/
noncomputable def f_X7_askedNames_B38 (h : MH) (x1 : Int32) (x3 : Int32) (x4 : Int32) : Option ((Int32 × Int32) ⊕ (Int32)) :=
  gd (ix x1 6) ((if x4 < (h.1 66 x1.toNatClampNeg) then (if x3 = 0 then some (.inl (0, (x4 + 1))) else Option.bind (f_X7_rowAt h x1 x4) (fun r57 => Option.bind (f_X7_isName r57) (fun r60 => (if r60 = true then some (.inl (1, (x4 + 1))) else some (.inl (0, (x4 + 1))))))) else some (.inr x3)))
set_option maxRecDepth 100000 in
set_option maxHeartbeats 4000000 in
theorem t_X7_askedNames_B38 {g : Gx} {l : Launch} {V : VT} {Rt : Option Value → MH → Prop} (o : Ok g l RX7 cX7_askedNames 5 3 63 0 V) (rr : ORi cX7_askedNames V Rt) (h : MH) (x1 : Int32) (x3 : Int32) (x4 : Int32) : T (Sum.elim (fun s => V 38 [(0, rA g 64), (1, .int x1), (3, .int s.1), (4, .int s.2)] [] h) (fun b => V 78 [(0, rA g 64), (3, .int b)] [] h)) (f_X7_askedNames_B38  h x1 x3 x4) (V 38 [(0, rA g 64), (1, .int x1), (3, .int x3), (4, .int x4)] [] h) := by
  unfold f_X7_askedNames_B38
  refine R_iload o 3 dX7_askedNames_38 rfl ?_
  refine R_aload_n o 0 dX7_askedNames_40 rfl rfl ?_
  refine R_getR (a2 := 66) o dX7_askedNames_41 fl_X7_17 sh_64 (by decide) rfl rf_64_5 ?_
  refine R_iload_n o 1 dX7_askedNames_44 rfl rfl ?_
  refine R_iald o dX7_askedNames_45 sh_66 ?_
  refine R_icmp_ge o 78 dX7_askedNames_46 (by decide) ?_ ?_
  · refine R_iload_n o 2 dX7_askedNames_49 rfl rfl ?_
    refine R_if_eq o 70 dX7_askedNames_50 (by decide) ?_ ?_
    · refine R_iconst (v := 0) o dX7_askedNames_70 (by decide) ?_
      refine R_istore_n (lv2 := [(0, rA g 64), (1, .int x1), (3, .int 0), (4, .int x4)]) o dX7_askedNames_71 rfl (by decide) rfl ?_
      refine R_iinc (v := (x4 + 1)) (lv2 := [(0, rA g 64), (1, .int x1), (3, .int 0), (4, .int (x4 + 1))]) o 3 dX7_askedNames_72 rfl rfl (by decide) rfl ?_
      refine R_goto o 38 dX7_askedNames_75 (by decide) ?_
      exact T_some (fun p => p)
    · refine R_aload_n o 0 dX7_askedNames_53 rfl rfl ?_
      refine R_iload_n o 1 dX7_askedNames_54 rfl rfl ?_
      refine R_iload o 3 dX7_askedNames_55 rfl ?_
      refine K_i (callV' (As := [.int x1, .int x4]) (rest := []) o dX7_askedNames_57 lk_X7_110 rfl sh_64 rfl rfl rfl rfl (Nat.le_of_ble_eq_true rfl)) (c_X7_rowAt g l h x1 x4) (fun r57 => ?_)
      refine K_z (callS' (av := [.int r57]) (rest := []) o dX7_askedNames_60 lk_X7_244 rfl rfl rfl (Nat.le_of_ble_eq_true rfl)) (c_X7_isName g l h r57) (fun r60 => ?_)
      refine R_bif_eq o 70 dX7_askedNames_63 (by decide) ?_ ?_
      · refine R_iconst (v := 1) o dX7_askedNames_66 (by decide) ?_
        refine R_goto o 71 dX7_askedNames_67 (by decide) ?_
        refine R_istore_n (lv2 := [(0, rA g 64), (1, .int x1), (3, .int 1), (4, .int x4)]) o dX7_askedNames_71 rfl (by decide) rfl ?_
        refine R_iinc (v := (x4 + 1)) (lv2 := [(0, rA g 64), (1, .int x1), (3, .int 1), (4, .int (x4 + 1))]) o 3 dX7_askedNames_72 rfl rfl (by decide) rfl ?_
        refine R_goto o 38 dX7_askedNames_75 (by decide) ?_
        exact T_some (fun p => p)
      · refine R_iconst (v := 0) o dX7_askedNames_70 (by decide) ?_
        refine R_istore_n (lv2 := [(0, rA g 64), (1, .int x1), (3, .int 0), (4, .int x4)]) o dX7_askedNames_71 rfl (by decide) rfl ?_
        refine R_iinc (v := (x4 + 1)) (lv2 := [(0, rA g 64), (1, .int x1), (3, .int 0), (4, .int (x4 + 1))]) o 3 dX7_askedNames_72 rfl rfl (by decide) rfl ?_
        refine R_goto o 38 dX7_askedNames_75 (by decide) ?_
        exact T_some (fun p => p)
  · refine R_drop (lv2 := [(0, rA g 64), (3, .int x3)]) o [0, 2] rfl ?_
    exact T_some (fun p => p)
noncomputable def f_X7_askedNames_L38 (h : MH) (x1 : Int32) (x3 : Int32) (x4 : Int32) : Option (Int32) :=
  lpo (fun s : Int32 × Int32 => f_X7_askedNames_B38 h x1 s.1 s.2) (x3, x4)
theorem t_X7_askedNames_L38 {g : Gx} {l : Launch} {V : VT} {Rt : Option Value → MH → Prop} (o : Ok g l RX7 cX7_askedNames 5 3 63 0 V) (rr : ORi cX7_askedNames V Rt) (h : MH) (x1 : Int32) (x3 : Int32) (x4 : Int32) : T (fun b => V 78 [(0, rA g 64), (3, .int b)] [] h) (f_X7_askedNames_L38 h x1 x3 x4) (V 38 [(0, rA g 64), (1, .int x1), (3, .int x3), (4, .int x4)] [] h) := T_loop (head := fun s : Int32 × Int32 => V 38 [(0, rA g 64), (1, .int x1), (3, .int s.1), (4, .int s.2)] [] h) (fun s => t_X7_askedNames_B38 o rr h x1 s.1 s.2 ) (x3, x4)
noncomputable def f_X7_askedNames (h : MH) (x1 : Int32) : Option (Int32 × MH) :=
  bnd2 (f_X7_askedRow h x1) (fun r2 h2 => (if r2 < 0 then some (r2, h2) else gd (ix x1 6) (Option.bind (f_X7_in (h2.1 66 x1.toNatClampNeg) 1 10) (fun r21 => (if r21 = true then Option.bind (f_X7_askedNames_L38 h2 x1 1 0) (fun b38 => (if b38 = 0 then bnd2 (f_X7_meets h2 3) (fun r88 h88 => some (r88, h88)) else some (0, h2))) else bnd2 (f_X7_meets h2 5) (fun r29 h29 => some (r29, h29)))))))
set_option maxRecDepth 100000 in
set_option maxHeartbeats 4000000 in
theorem b_X7_askedNames {g : Gx} {l : Launch} {V : VT} {Rt : Option Value → MH → Prop} (o : Ok g l RX7 cX7_askedNames 5 3 63 0 V) (rr : ORi cX7_askedNames V Rt) (h : MH) (x1 : Int32) : T (fun r => Rt (some (.int r.1)) r.2) (f_X7_askedNames h x1) (V 0 [(0, rA g 64), (1, .int x1)] [] h) := by
  unfold f_X7_askedNames
  refine R_aload_n o 0 dX7_askedNames_0 rfl rfl ?_
  refine R_iload_n o 1 dX7_askedNames_1 rfl rfl ?_
  refine K_ih (callV' (As := [.int x1]) (rest := []) o dX7_askedNames_2 lk_X7_107 rfl sh_64 rfl rfl rfl rfl (Nat.le_of_ble_eq_true rfl)) (c_X7_askedRow g l h x1) (fun r2 h2 => ?_)
  refine R_istore_n (lv2 := [(0, rA g 64), (1, .int x1), (2, .int r2)]) o dX7_askedNames_5 rfl (by decide) rfl ?_
  refine R_iload_n o 2 dX7_askedNames_6 rfl rfl ?_
  refine R_if_ge o 12 dX7_askedNames_7 (by decide) ?_ ?_
  · refine R_iload_n o 2 dX7_askedNames_10 rfl rfl ?_
    exact T_some (fun p => rr _ _ _ _ dX7_askedNames_11 p)
  · refine R_aload_n o 0 dX7_askedNames_12 rfl rfl ?_
    refine R_getR (a2 := 66) o dX7_askedNames_13 fl_X7_17 sh_64 (by decide) rfl rf_64_5 ?_
    refine R_iload_n o 1 dX7_askedNames_16 rfl rfl ?_
    refine R_iald o dX7_askedNames_17 sh_66 ?_
    refine R_iconst (v := 1) o dX7_askedNames_18 (by decide) ?_
    refine R_bipush (v := 10) o dX7_askedNames_19 (by decide) ?_
    refine K_z (callS' (av := [.int (h2.1 66 x1.toNatClampNeg), .int 1, .int 10]) (rest := []) o dX7_askedNames_21 lk_X7_92 rfl rfl rfl (Nat.le_of_ble_eq_true rfl)) (c_X7_in g l h2 (h2.1 66 x1.toNatClampNeg) 1 10) (fun r21 => ?_)
    refine R_bif_ne o 33 dX7_askedNames_24 (by decide) ?_ ?_
    · refine R_iconst (v := 1) o dX7_askedNames_33 (by decide) ?_
      refine R_istore_n (lv2 := [(0, rA g 64), (1, .int x1), (2, .int r2), (3, .int 1)]) o dX7_askedNames_34 rfl (by decide) rfl ?_
      refine R_iconst (v := 0) o dX7_askedNames_35 (by decide) ?_
      refine R_istore (lv2 := [(0, rA g 64), (1, .int x1), (2, .int r2), (3, .int 1), (4, .int 0)]) o dX7_askedNames_36 (by decide) rfl ?_
      refine R_drop (lv2 := [(0, rA g 64), (1, .int x1), (3, .int 1), (4, .int 0)]) o [0, 1, 3, 4] rfl ?_
      refine T_bind (t_X7_askedNames_L38 o rr h2 x1 1 0) (fun b38 => ?_)
      refine R_iload_n o 1 dX7_askedNames_78 rfl rfl ?_
      refine R_if_eq o 86 dX7_askedNames_79 (by decide) ?_ ?_
      · refine R_aload_n o 0 dX7_askedNames_86 rfl rfl ?_
        refine R_iconst (v := 3) o dX7_askedNames_87 (by decide) ?_
        refine K_ih (callV' (As := [.int 3]) (rest := []) o dX7_askedNames_88 lk_X7_100 rfl sh_64 rfl rfl rfl rfl (Nat.le_of_ble_eq_true rfl)) (c_X7_meets g l h2 3) (fun r88 h88 => ?_)
        exact T_some (fun p => rr _ _ _ _ dX7_askedNames_91 p)
      · refine R_iconst (v := 0) o dX7_askedNames_82 (by decide) ?_
        refine R_goto o 91 dX7_askedNames_83 (by decide) ?_
        exact T_some (fun p => rr _ _ _ _ dX7_askedNames_91 p)
    · refine R_aload_n o 0 dX7_askedNames_27 rfl rfl ?_
      refine R_iconst (v := 5) o dX7_askedNames_28 (by decide) ?_
      refine K_ih (callV' (As := [.int 5]) (rest := []) o dX7_askedNames_29 lk_X7_100 rfl sh_64 rfl rfl rfl rfl (Nat.le_of_ble_eq_true rfl)) (c_X7_meets g l h2 5) (fun r29 h29 => ?_)
      exact T_some (fun p => rr _ _ _ _ dX7_askedNames_32 p)
theorem c_X7_askedNames (g : Gx) (l : Launch) (h : MH) (x1 : Int32) (r : (Int32 × MH)) (e : f_X7_askedNames h x1 = some r) : Ctr g l yX7_askedNames cX7_askedNames 5 (some .int) 3 63 0 [rA g 64, .int x1] h (some (.int r.1)) r.2 := mkCi (plainFor_of_name (by decide)) (Nat.le_of_ble_eq_true rfl) (fun V Rt o rr p => b_X7_askedNames o rr h x1  r e p)
/-! X7_canMake -/
noncomputable def f_X7_canMake_J44_11 (h : MH) (x1 : Int32) (x2 : Int32) (x3 : Int32) (x5 : Int32) (x6 : Int32) (s0 : Int32) (s1 : Int32) : Option ((Int32 × Int32 × Int32) ⊕ (Int32 × Int32)) :=
  nm (s0 ||| s1) (fun v45 => Option.bind (f_X7_has x2 x6) (fun r52 => (if r52 = true then Option.bind (f_X7_rowAt h x1 x6) (fun r62 => nm (x5 &&& r62) (fun v72 => some (.inl (v45, v72, (x6 + 1))))) else nm (x5 &&& 4095) (fun v72 => some (.inl (v45, v72, (x6 + 1)))))))
set_option maxRecDepth 100000 in
set_option maxHeartbeats 4000000 in
theorem t_X7_canMake_J44_11 {g : Gx} {l : Launch} {V : VT} {Rt : Option Value → MH → Prop} (o : Ok g l RX7 cX7_canMake 7 1 22 0 V) (rr : ORz cX7_canMake V Rt) (h : MH) (x1 : Int32) (x2 : Int32) (x3 : Int32) (x5 : Int32) (x6 : Int32) (s0 : Int32) (s1 : Int32) : T (Sum.elim (fun s => V 11 [(0, rA g 64), (1, .int x1), (2, .int x2), (3, .int x3), (4, .int s.1), (5, .int s.2.1), (6, .int s.2.2)] [] h) (fun b => V 80 [(3, .int x3), (4, .int b.1), (5, .int b.2)] [] h)) (f_X7_canMake_J44_11  h x1 x2 x3 x5 x6 s0 s1) (V 44 [(0, rA g 64), (1, .int x1), (2, .int x2), (3, .int x3), (5, .int x5), (6, .int x6)] [.int s1, .int s0] h) := by
  unfold f_X7_canMake_J44_11
  refine R_ior o dX7_canMake_44 ?_
  refine R_nmI (fun v45 => ?_)
  refine R_istore (lv2 := [(0, rA g 64), (1, .int x1), (2, .int x2), (3, .int x3), (4, .int v45), (5, .int x5), (6, .int x6)]) o dX7_canMake_45 (by decide) rfl ?_
  refine R_iload o 5 dX7_canMake_47 rfl ?_
  refine R_iload_n o 2 dX7_canMake_49 rfl rfl ?_
  refine R_iload o 6 dX7_canMake_50 rfl ?_
  refine K_z (callS' (av := [.int x2, .int x6]) (rest := [.int x5]) o dX7_canMake_52 lk_X7_134 rfl rfl rfl (Nat.le_of_ble_eq_true rfl)) (c_X7_has g l h x2 x6) (fun r52 => ?_)
  refine R_bif_eq o 68 dX7_canMake_55 (by decide) ?_ ?_
  · refine R_aload_n o 0 dX7_canMake_58 rfl rfl ?_
    refine R_iload_n o 1 dX7_canMake_59 rfl rfl ?_
    refine R_iload o 6 dX7_canMake_60 rfl ?_
    refine K_i (callV' (As := [.int x1, .int x6]) (rest := [.int x5]) o dX7_canMake_62 lk_X7_110 rfl sh_64 rfl rfl rfl rfl (Nat.le_of_ble_eq_true rfl)) (c_X7_rowAt g l h x1 x6) (fun r62 => ?_)
    refine R_goto o 71 dX7_canMake_65 (by decide) ?_
    refine R_iand o dX7_canMake_71 ?_
    refine R_nmI (fun v72 => ?_)
    refine R_istore (lv2 := [(0, rA g 64), (1, .int x1), (2, .int x2), (3, .int x3), (4, .int v45), (5, .int v72), (6, .int x6)]) o dX7_canMake_72 (by decide) rfl ?_
    refine R_iinc (v := (x6 + 1)) (lv2 := [(0, rA g 64), (1, .int x1), (2, .int x2), (3, .int x3), (4, .int v45), (5, .int v72), (6, .int (x6 + 1))]) o 6 dX7_canMake_74 rfl rfl (by decide) rfl ?_
    refine R_goto o 11 dX7_canMake_77 (by decide) ?_
    exact T_some (fun p => p)
  · refine R_sipush (v := 4095) o dX7_canMake_68 (by decide) ?_
    refine R_iand o dX7_canMake_71 ?_
    refine R_nmI (fun v72 => ?_)
    refine R_istore (lv2 := [(0, rA g 64), (1, .int x1), (2, .int x2), (3, .int x3), (4, .int v45), (5, .int v72), (6, .int x6)]) o dX7_canMake_72 (by decide) rfl ?_
    refine R_iinc (v := (x6 + 1)) (lv2 := [(0, rA g 64), (1, .int x1), (2, .int x2), (3, .int x3), (4, .int v45), (5, .int v72), (6, .int (x6 + 1))]) o 6 dX7_canMake_74 rfl rfl (by decide) rfl ?_
    refine R_goto o 11 dX7_canMake_77 (by decide) ?_
    exact T_some (fun p => p)
noncomputable def f_X7_canMake_B11 (h : MH) (x1 : Int32) (x2 : Int32) (x3 : Int32) (x4 : Int32) (x5 : Int32) (x6 : Int32) : Option ((Int32 × Int32 × Int32) ⊕ (Int32 × Int32)) :=
  gd (ix x1 6) ((if x6 < (h.1 66 x1.toNatClampNeg) then Option.bind (f_X7_has x2 x6) (fun r27 => (if r27 = true then Option.bind (f_X7_rowAt h x1 x6) (fun r37 => f_X7_canMake_J44_11 h x1 x2 x3 x5 x6 x4 r37) else f_X7_canMake_J44_11 h x1 x2 x3 x5 x6 x4 0)) else some (.inr (x4, x5))))
set_option maxRecDepth 100000 in
set_option maxHeartbeats 4000000 in
theorem t_X7_canMake_B11 {g : Gx} {l : Launch} {V : VT} {Rt : Option Value → MH → Prop} (o : Ok g l RX7 cX7_canMake 7 1 22 0 V) (rr : ORz cX7_canMake V Rt) (h : MH) (x1 : Int32) (x2 : Int32) (x3 : Int32) (x4 : Int32) (x5 : Int32) (x6 : Int32) : T (Sum.elim (fun s => V 11 [(0, rA g 64), (1, .int x1), (2, .int x2), (3, .int x3), (4, .int s.1), (5, .int s.2.1), (6, .int s.2.2)] [] h) (fun b => V 80 [(3, .int x3), (4, .int b.1), (5, .int b.2)] [] h)) (f_X7_canMake_B11  h x1 x2 x3 x4 x5 x6) (V 11 [(0, rA g 64), (1, .int x1), (2, .int x2), (3, .int x3), (4, .int x4), (5, .int x5), (6, .int x6)] [] h) := by
  unfold f_X7_canMake_B11
  refine R_iload o 6 dX7_canMake_11 rfl ?_
  refine R_aload_n o 0 dX7_canMake_13 rfl rfl ?_
  refine R_getR (a2 := 66) o dX7_canMake_14 fl_X7_17 sh_64 (by decide) rfl rf_64_5 ?_
  refine R_iload_n o 1 dX7_canMake_17 rfl rfl ?_
  refine R_iald o dX7_canMake_18 sh_66 ?_
  refine R_icmp_ge o 80 dX7_canMake_19 (by decide) ?_ ?_
  · refine R_iload o 4 dX7_canMake_22 rfl ?_
    refine R_iload_n o 2 dX7_canMake_24 rfl rfl ?_
    refine R_iload o 6 dX7_canMake_25 rfl ?_
    refine K_z (callS' (av := [.int x2, .int x6]) (rest := [.int x4]) o dX7_canMake_27 lk_X7_134 rfl rfl rfl (Nat.le_of_ble_eq_true rfl)) (c_X7_has g l h x2 x6) (fun r27 => ?_)
    refine R_bif_eq o 43 dX7_canMake_30 (by decide) ?_ ?_
    · refine R_aload_n o 0 dX7_canMake_33 rfl rfl ?_
      refine R_iload_n o 1 dX7_canMake_34 rfl rfl ?_
      refine R_iload o 6 dX7_canMake_35 rfl ?_
      refine K_i (callV' (As := [.int x1, .int x6]) (rest := [.int x4]) o dX7_canMake_37 lk_X7_110 rfl sh_64 rfl rfl rfl rfl (Nat.le_of_ble_eq_true rfl)) (c_X7_rowAt g l h x1 x6) (fun r37 => ?_)
      refine R_goto o 44 dX7_canMake_40 (by decide) ?_
      refine R_drop (lv2 := [(0, rA g 64), (1, .int x1), (2, .int x2), (3, .int x3), (5, .int x5), (6, .int x6)]) o [0, 1, 2, 3, 5, 6] rfl ?_
      exact t_X7_canMake_J44_11 o rr h x1 x2 x3 x5 x6 x4 r37
    · refine R_iconst (v := 0) o dX7_canMake_43 (by decide) ?_
      refine R_drop (lv2 := [(0, rA g 64), (1, .int x1), (2, .int x2), (3, .int x3), (5, .int x5), (6, .int x6)]) o [0, 1, 2, 3, 5, 6] rfl ?_
      exact t_X7_canMake_J44_11 o rr h x1 x2 x3 x5 x6 x4 0
  · refine R_drop (lv2 := [(3, .int x3), (4, .int x4), (5, .int x5)]) o [3, 4, 5] rfl ?_
    exact T_some (fun p => p)
noncomputable def f_X7_canMake_L11 (h : MH) (x1 : Int32) (x2 : Int32) (x3 : Int32) (x4 : Int32) (x5 : Int32) (x6 : Int32) : Option (Int32 × Int32) :=
  lpo (fun s : Int32 × Int32 × Int32 => f_X7_canMake_B11 h x1 x2 x3 s.1 s.2.1 s.2.2) (x4, x5, x6)
theorem t_X7_canMake_L11 {g : Gx} {l : Launch} {V : VT} {Rt : Option Value → MH → Prop} (o : Ok g l RX7 cX7_canMake 7 1 22 0 V) (rr : ORz cX7_canMake V Rt) (h : MH) (x1 : Int32) (x2 : Int32) (x3 : Int32) (x4 : Int32) (x5 : Int32) (x6 : Int32) : T (fun b => V 80 [(3, .int x3), (4, .int b.1), (5, .int b.2)] [] h) (f_X7_canMake_L11 h x1 x2 x3 x4 x5 x6) (V 11 [(0, rA g 64), (1, .int x1), (2, .int x2), (3, .int x3), (4, .int x4), (5, .int x5), (6, .int x6)] [] h) := T_loop (head := fun s : Int32 × Int32 × Int32 => V 11 [(0, rA g 64), (1, .int x1), (2, .int x2), (3, .int x3), (4, .int s.1), (5, .int s.2.1), (6, .int s.2.2)] [] h) (fun s => t_X7_canMake_B11 o rr h x1 x2 x3 s.1 s.2.1 s.2.2 ) (x4, x5, x6)
noncomputable def f_X7_canMake (h : MH) (x1 : Int32) (x2 : Int32) (x3 : Int32) : Option Bool :=
  Option.bind (f_X7_canMake_L11 h x1 x2 x3 0 4095 0) (fun b11 => (if (x3 &&& (b11.1 ^^^ (-1))) = 0 then (if (b11.2 &&& (x3 ^^^ (-1))) = 0 then some true else some false) else some false))
set_option maxRecDepth 100000 in
set_option maxHeartbeats 4000000 in
theorem b_X7_canMake {g : Gx} {l : Launch} {V : VT} {Rt : Option Value → MH → Prop} (o : Ok g l RX7 cX7_canMake 7 1 22 0 V) (rr : ORz cX7_canMake V Rt) (h : MH) (x1 : Int32) (x2 : Int32) (x3 : Int32) : T (fun r => Rt (some (.int (b2i r))) h) (f_X7_canMake h x1 x2 x3) (V 0 [(0, rA g 64), (1, .int x1), (2, .int x2), (3, .int x3)] [] h) := by
  unfold f_X7_canMake
  refine R_iconst (v := 0) o dX7_canMake_0 (by decide) ?_
  refine R_istore (lv2 := [(0, rA g 64), (1, .int x1), (2, .int x2), (3, .int x3), (4, .int 0)]) o dX7_canMake_1 (by decide) rfl ?_
  refine R_sipush (v := 4095) o dX7_canMake_3 (by decide) ?_
  refine R_istore (lv2 := [(0, rA g 64), (1, .int x1), (2, .int x2), (3, .int x3), (4, .int 0), (5, .int 4095)]) o dX7_canMake_6 (by decide) rfl ?_
  refine R_iconst (v := 0) o dX7_canMake_8 (by decide) ?_
  refine R_istore (lv2 := [(0, rA g 64), (1, .int x1), (2, .int x2), (3, .int x3), (4, .int 0), (5, .int 4095), (6, .int 0)]) o dX7_canMake_9 (by decide) rfl ?_
  refine T_bind (t_X7_canMake_L11 o rr h x1 x2 x3 0 4095 0) (fun b11 => ?_)
  refine R_iload_n o 0 dX7_canMake_80 rfl rfl ?_
  refine R_iload o 1 dX7_canMake_81 rfl ?_
  refine R_iconst (v := (-1)) o dX7_canMake_83 (by decide) ?_
  refine R_ixor o dX7_canMake_84 ?_
  refine R_iand o dX7_canMake_85 ?_
  refine R_if_ne o 102 dX7_canMake_86 (by decide) ?_ ?_
  · refine R_iload o 2 dX7_canMake_89 rfl ?_
    refine R_iload_n o 0 dX7_canMake_91 rfl rfl ?_
    refine R_iconst (v := (-1)) o dX7_canMake_92 (by decide) ?_
    refine R_ixor o dX7_canMake_93 ?_
    refine R_iand o dX7_canMake_94 ?_
    refine R_if_ne o 102 dX7_canMake_95 (by decide) ?_ ?_
    · refine R_iconst (v := 1) o dX7_canMake_98 (by decide) ?_
      refine R_goto o 103 dX7_canMake_99 (by decide) ?_
      exact T_some (fun p => rr _ _ true _ dX7_canMake_103 p)
    · refine R_iconst (v := 0) o dX7_canMake_102 (by decide) ?_
      exact T_some (fun p => rr _ _ false _ dX7_canMake_103 p)
  · refine R_iconst (v := 0) o dX7_canMake_102 (by decide) ?_
    exact T_some (fun p => rr _ _ false _ dX7_canMake_103 p)
theorem c_X7_canMake (g : Gx) (l : Launch) (h : MH) (x1 : Int32) (x2 : Int32) (x3 : Int32) (r : Bool) (e : f_X7_canMake h x1 x2 x3 = some r) : Ctr g l yX7_canMake cX7_canMake 7 (some .boolean) 1 22 0 [rA g 64, .int x1, .int x2, .int x3] h (some (.int (b2i r))) h := mkCz (plainFor_of_name (by decide)) (Nat.le_of_ble_eq_true rfl) (fun V Rt o rr p => b_X7_canMake o rr h x1 x2 x3  r e p)
/-! X7_makes -/
noncomputable def f_X7_makes (h : MH) (x1 : Int32) (x2 : Int32) (x3 : Int32) : Option (Int32 × MH) :=
  (if x2 < 1 then some ((-1), h) else Option.bind (f_X7_isName x3) (fun r6 => (if r6 = true then bnd2 (f_X7_askedNames h x1) (fun r16 h16 => (if r16 < 0 then some (r16, h16) else gd (ix x1 6) ((if x2 < (shl 1 (h16.1 66 x1.toNatClampNeg)) then Option.bind (f_X7_canMake h16 x1 x2 x3) (fun r49 => (if r49 = true then some (1, h16) else some (0, h16))) else some ((-1), h16))))) else some ((-1), h))))
set_option maxRecDepth 100000 in
set_option maxHeartbeats 4000000 in
theorem b_X7_makes {g : Gx} {l : Launch} {V : VT} {Rt : Option Value → MH → Prop} (o : Ok g l RX7 cX7_makes 5 4 87 0 V) (rr : ORi cX7_makes V Rt) (h : MH) (x1 : Int32) (x2 : Int32) (x3 : Int32) : T (fun r => Rt (some (.int r.1)) r.2) (f_X7_makes h x1 x2 x3) (V 0 [(0, rA g 64), (1, .int x1), (2, .int x2), (3, .int x3)] [] h) := by
  unfold f_X7_makes
  refine R_iload_n o 2 dX7_makes_0 rfl rfl ?_
  refine R_iconst (v := 1) o dX7_makes_1 (by decide) ?_
  refine R_icmp_lt o 12 dX7_makes_2 (by decide) ?_ ?_
  · refine R_iconst (v := (-1)) o dX7_makes_12 (by decide) ?_
    exact T_some (fun p => rr _ _ _ _ dX7_makes_13 p)
  · refine R_iload_n o 3 dX7_makes_5 rfl rfl ?_
    refine K_z (callS' (av := [.int x3]) (rest := []) o dX7_makes_6 lk_X7_244 rfl rfl rfl (Nat.le_of_ble_eq_true rfl)) (c_X7_isName g l h x3) (fun r6 => ?_)
    refine R_bif_ne o 14 dX7_makes_9 (by decide) ?_ ?_
    · refine R_aload_n o 0 dX7_makes_14 rfl rfl ?_
      refine R_iload_n o 1 dX7_makes_15 rfl rfl ?_
      refine K_ih (callV' (As := [.int x1]) (rest := []) o dX7_makes_16 lk_X7_247 rfl sh_64 rfl rfl rfl rfl (Nat.le_of_ble_eq_true rfl)) (c_X7_askedNames g l h x1) (fun r16 h16 => ?_)
      refine R_istore (lv2 := [(0, rA g 64), (1, .int x1), (2, .int x2), (3, .int x3), (4, .int r16)]) o dX7_makes_19 (by decide) rfl ?_
      refine R_iload o 4 dX7_makes_21 rfl ?_
      refine R_if_ge o 29 dX7_makes_23 (by decide) ?_ ?_
      · refine R_iload o 4 dX7_makes_26 rfl ?_
        exact T_some (fun p => rr _ _ _ _ dX7_makes_28 p)
      · refine R_iload_n o 2 dX7_makes_29 rfl rfl ?_
        refine R_iconst (v := 1) o dX7_makes_30 (by decide) ?_
        refine R_aload_n o 0 dX7_makes_31 rfl rfl ?_
        refine R_getR (a2 := 66) o dX7_makes_32 fl_X7_17 sh_64 (by decide) rfl rf_64_5 ?_
        refine R_iload_n o 1 dX7_makes_35 rfl rfl ?_
        refine R_iald o dX7_makes_36 sh_66 ?_
        refine R_ishl o dX7_makes_37 ?_
        refine R_icmp_lt o 45 dX7_makes_38 (by decide) ?_ ?_
        · refine R_aload_n o 0 dX7_makes_45 rfl rfl ?_
          refine R_iload_n o 1 dX7_makes_46 rfl rfl ?_
          refine R_iload_n o 2 dX7_makes_47 rfl rfl ?_
          refine R_iload_n o 3 dX7_makes_48 rfl rfl ?_
          refine K_z (callV' (As := [.int x1, .int x2, .int x3]) (rest := []) o dX7_makes_49 lk_X7_250 rfl sh_64 rfl rfl rfl rfl (Nat.le_of_ble_eq_true rfl)) (c_X7_canMake g l h16 x1 x2 x3) (fun r49 => ?_)
          refine R_bif_eq o 59 dX7_makes_52 (by decide) ?_ ?_
          · refine R_iconst (v := 1) o dX7_makes_55 (by decide) ?_
            refine R_goto o 60 dX7_makes_56 (by decide) ?_
            exact T_some (fun p => rr _ _ _ _ dX7_makes_60 p)
          · refine R_iconst (v := 0) o dX7_makes_59 (by decide) ?_
            exact T_some (fun p => rr _ _ _ _ dX7_makes_60 p)
        · refine R_iconst (v := (-1)) o dX7_makes_41 (by decide) ?_
          refine R_goto o 60 dX7_makes_42 (by decide) ?_
          exact T_some (fun p => rr _ _ _ _ dX7_makes_60 p)
    · refine R_iconst (v := (-1)) o dX7_makes_12 (by decide) ?_
      exact T_some (fun p => rr _ _ _ _ dX7_makes_13 p)
theorem c_X7_makes (g : Gx) (l : Launch) (h : MH) (x1 : Int32) (x2 : Int32) (x3 : Int32) (r : (Int32 × MH)) (e : f_X7_makes h x1 x2 x3 = some r) : Ctr g l yX7_makes cX7_makes 5 (some .int) 4 87 0 [rA g 64, .int x1, .int x2, .int x3] h (some (.int r.1)) r.2 := mkCi (plainFor_of_name (by decide)) (Nat.le_of_ble_eq_true rfl) (fun V Rt o rr p => b_X7_makes o rr h x1 x2 x3  r e p)
/-! X7_guilty -/
noncomputable def f_X7_guilty_B51 (h : MH) (x1 : Int32) (x2 : Int32) (x3 : Int32) (x5 : Int32) (x6 : Int32) (x7 : Int32) : Option ((Int32 × Int32 × Int32) ⊕ (Int32 × Int32)) :=
  gd (ix x1 6) ((if x7 < (shl 1 (h.1 66 x1.toNatClampNeg)) then Option.bind (f_X7_bits x7) (fun r66 => (if x2 < r66 then some (.inl (x5, x6, (x7 + 1))) else Option.bind (f_X7_canMake h x1 x7 x3) (fun r78 => (if r78 = true then nm (x6 &&& x7) (fun v92 => some (.inl ((x5 + 1), v92, (x7 + 1)))) else some (.inl (x5, x6, (x7 + 1))))))) else some (.inr (x5, x6))))
set_option maxRecDepth 100000 in
set_option maxHeartbeats 4000000 in
theorem t_X7_guilty_B51 {g : Gx} {l : Launch} {V : VT} {Rt : Option Value → MH → Prop} (o : Ok g l RX7 cX7_guilty 8 4 87 0 V) (rr : ORi cX7_guilty V Rt) (h : MH) (x1 : Int32) (x2 : Int32) (x3 : Int32) (x5 : Int32) (x6 : Int32) (x7 : Int32) : T (Sum.elim (fun s => V 51 [(0, rA g 64), (1, .int x1), (2, .int x2), (3, .int x3), (5, .int s.1), (6, .int s.2.1), (7, .int s.2.2)] [] h) (fun b => V 100 [(0, rA g 64), (5, .int b.1), (6, .int b.2)] [] h)) (f_X7_guilty_B51  h x1 x2 x3 x5 x6 x7) (V 51 [(0, rA g 64), (1, .int x1), (2, .int x2), (3, .int x3), (5, .int x5), (6, .int x6), (7, .int x7)] [] h) := by
  unfold f_X7_guilty_B51
  refine R_iload o 6 dX7_guilty_51 rfl ?_
  refine R_iconst (v := 1) o dX7_guilty_53 (by decide) ?_
  refine R_aload_n o 0 dX7_guilty_54 rfl rfl ?_
  refine R_getR (a2 := 66) o dX7_guilty_55 fl_X7_17 sh_64 (by decide) rfl rf_64_5 ?_
  refine R_iload_n o 1 dX7_guilty_58 rfl rfl ?_
  refine R_iald o dX7_guilty_59 sh_66 ?_
  refine R_ishl o dX7_guilty_60 ?_
  refine R_icmp_ge o 100 dX7_guilty_61 (by decide) ?_ ?_
  · refine R_iload o 6 dX7_guilty_64 rfl ?_
    refine K_i (callS' (av := [.int x7]) (rest := []) o dX7_guilty_66 lk_X7_203 rfl rfl rfl (Nat.le_of_ble_eq_true rfl)) (c_X7_bits g l h x7) (fun r66 => ?_)
    refine R_iload_n o 2 dX7_guilty_69 rfl rfl ?_
    refine R_icmp_gt o 94 dX7_guilty_70 (by decide) ?_ ?_
    · refine R_iinc (v := (x7 + 1)) (lv2 := [(0, rA g 64), (1, .int x1), (2, .int x2), (3, .int x3), (5, .int x5), (6, .int x6), (7, .int (x7 + 1))]) o 6 dX7_guilty_94 rfl rfl (by decide) rfl ?_
      refine R_goto o 51 dX7_guilty_97 (by decide) ?_
      exact T_some (fun p => p)
    · refine R_aload_n o 0 dX7_guilty_73 rfl rfl ?_
      refine R_iload_n o 1 dX7_guilty_74 rfl rfl ?_
      refine R_iload o 6 dX7_guilty_75 rfl ?_
      refine R_iload_n o 3 dX7_guilty_77 rfl rfl ?_
      refine K_z (callV' (As := [.int x1, .int x7, .int x3]) (rest := []) o dX7_guilty_78 lk_X7_250 rfl sh_64 rfl rfl rfl rfl (Nat.le_of_ble_eq_true rfl)) (c_X7_canMake g l h x1 x7 x3) (fun r78 => ?_)
      refine R_bif_eq o 94 dX7_guilty_81 (by decide) ?_ ?_
      · refine R_iinc (v := (x5 + 1)) (lv2 := [(0, rA g 64), (1, .int x1), (2, .int x2), (3, .int x3), (5, .int (x5 + 1)), (6, .int x6), (7, .int x7)]) o 4 dX7_guilty_84 rfl rfl (by decide) rfl ?_
        refine R_iload o 5 dX7_guilty_87 rfl ?_
        refine R_iload o 6 dX7_guilty_89 rfl ?_
        refine R_iand o dX7_guilty_91 ?_
        refine R_nmI (fun v92 => ?_)
        refine R_istore (lv2 := [(0, rA g 64), (1, .int x1), (2, .int x2), (3, .int x3), (5, .int (x5 + 1)), (6, .int v92), (7, .int x7)]) o dX7_guilty_92 (by decide) rfl ?_
        refine R_iinc (v := (x7 + 1)) (lv2 := [(0, rA g 64), (1, .int x1), (2, .int x2), (3, .int x3), (5, .int (x5 + 1)), (6, .int v92), (7, .int (x7 + 1))]) o 6 dX7_guilty_94 rfl rfl (by decide) rfl ?_
        refine R_goto o 51 dX7_guilty_97 (by decide) ?_
        exact T_some (fun p => p)
      · refine R_iinc (v := (x7 + 1)) (lv2 := [(0, rA g 64), (1, .int x1), (2, .int x2), (3, .int x3), (5, .int x5), (6, .int x6), (7, .int (x7 + 1))]) o 6 dX7_guilty_94 rfl rfl (by decide) rfl ?_
        refine R_goto o 51 dX7_guilty_97 (by decide) ?_
        exact T_some (fun p => p)
  · refine R_drop (lv2 := [(0, rA g 64), (5, .int x5), (6, .int x6)]) o [0, 4, 5] rfl ?_
    exact T_some (fun p => p)
noncomputable def f_X7_guilty_L51 (h : MH) (x1 : Int32) (x2 : Int32) (x3 : Int32) (x5 : Int32) (x6 : Int32) (x7 : Int32) : Option (Int32 × Int32) :=
  lpo (fun s : Int32 × Int32 × Int32 => f_X7_guilty_B51 h x1 x2 x3 s.1 s.2.1 s.2.2) (x5, x6, x7)
theorem t_X7_guilty_L51 {g : Gx} {l : Launch} {V : VT} {Rt : Option Value → MH → Prop} (o : Ok g l RX7 cX7_guilty 8 4 87 0 V) (rr : ORi cX7_guilty V Rt) (h : MH) (x1 : Int32) (x2 : Int32) (x3 : Int32) (x5 : Int32) (x6 : Int32) (x7 : Int32) : T (fun b => V 100 [(0, rA g 64), (5, .int b.1), (6, .int b.2)] [] h) (f_X7_guilty_L51 h x1 x2 x3 x5 x6 x7) (V 51 [(0, rA g 64), (1, .int x1), (2, .int x2), (3, .int x3), (5, .int x5), (6, .int x6), (7, .int x7)] [] h) := T_loop (head := fun s : Int32 × Int32 × Int32 => V 51 [(0, rA g 64), (1, .int x1), (2, .int x2), (3, .int x3), (5, .int s.1), (6, .int s.2.1), (7, .int s.2.2)] [] h) (fun s => t_X7_guilty_B51 o rr h x1 x2 x3 s.1 s.2.1 s.2.2 ) (x5, x6, x7)
noncomputable def f_X7_guilty (h : MH) (x1 : Int32) (x2 : Int32) (x3 : Int32) : Option (Int32 × MH) :=
  Option.bind (f_X7_in x2 1 4) (fun r3 => (if r3 = true then Option.bind (f_X7_isName x3) (fun r10 => (if r10 = true then bnd2 (f_X7_askedNames h x1) (fun r20 h20 => (if r20 < 0 then some (r20, h20) else gd (ix x1 6) (nm ((shl 1 (h20.1 66 x1.toNatClampNeg)) - 1) (fun v46 => Option.bind (f_X7_guilty_L51 h20 x1 x2 x3 0 v46 1) (fun b51 => (if b51.1 = 0 then bnd2 (f_X7_ask h20 0 b51.1) (fun r114 h114 => some (r114, h114)) else bnd2 (f_X7_ask h20 b51.2 b51.1) (fun r114 h114 => some (r114, h114)))))))) else some ((-1), h))) else some ((-1), h)))
set_option maxRecDepth 100000 in
set_option maxHeartbeats 4000000 in
theorem b_X7_guilty {g : Gx} {l : Launch} {V : VT} {Rt : Option Value → MH → Prop} (o : Ok g l RX7 cX7_guilty 8 4 87 0 V) (rr : ORi cX7_guilty V Rt) (h : MH) (x1 : Int32) (x2 : Int32) (x3 : Int32) : T (fun r => Rt (some (.int r.1)) r.2) (f_X7_guilty h x1 x2 x3) (V 0 [(0, rA g 64), (1, .int x1), (2, .int x2), (3, .int x3)] [] h) := by
  unfold f_X7_guilty
  refine R_iload_n o 2 dX7_guilty_0 rfl rfl ?_
  refine R_iconst (v := 1) o dX7_guilty_1 (by decide) ?_
  refine R_iconst (v := 4) o dX7_guilty_2 (by decide) ?_
  refine K_z (callS' (av := [.int x2, .int 1, .int 4]) (rest := []) o dX7_guilty_3 lk_X7_92 rfl rfl rfl (Nat.le_of_ble_eq_true rfl)) (c_X7_in g l h x2 1 4) (fun r3 => ?_)
  refine R_bif_eq o 16 dX7_guilty_6 (by decide) ?_ ?_
  · refine R_iload_n o 3 dX7_guilty_9 rfl rfl ?_
    refine K_z (callS' (av := [.int x3]) (rest := []) o dX7_guilty_10 lk_X7_244 rfl rfl rfl (Nat.le_of_ble_eq_true rfl)) (c_X7_isName g l h x3) (fun r10 => ?_)
    refine R_bif_ne o 18 dX7_guilty_13 (by decide) ?_ ?_
    · refine R_aload_n o 0 dX7_guilty_18 rfl rfl ?_
      refine R_iload_n o 1 dX7_guilty_19 rfl rfl ?_
      refine K_ih (callV' (As := [.int x1]) (rest := []) o dX7_guilty_20 lk_X7_247 rfl sh_64 rfl rfl rfl rfl (Nat.le_of_ble_eq_true rfl)) (c_X7_askedNames g l h x1) (fun r20 h20 => ?_)
      refine R_istore (lv2 := [(0, rA g 64), (1, .int x1), (2, .int x2), (3, .int x3), (4, .int r20)]) o dX7_guilty_23 (by decide) rfl ?_
      refine R_iload o 4 dX7_guilty_25 rfl ?_
      refine R_if_ge o 33 dX7_guilty_27 (by decide) ?_ ?_
      · refine R_iload o 4 dX7_guilty_30 rfl ?_
        exact T_some (fun p => rr _ _ _ _ dX7_guilty_32 p)
      · refine R_iconst (v := 0) o dX7_guilty_33 (by decide) ?_
        refine R_istore (lv2 := [(0, rA g 64), (1, .int x1), (2, .int x2), (3, .int x3), (4, .int r20), (5, .int 0)]) o dX7_guilty_34 (by decide) rfl ?_
        refine R_iconst (v := 1) o dX7_guilty_36 (by decide) ?_
        refine R_aload_n o 0 dX7_guilty_37 rfl rfl ?_
        refine R_getR (a2 := 66) o dX7_guilty_38 fl_X7_17 sh_64 (by decide) rfl rf_64_5 ?_
        refine R_iload_n o 1 dX7_guilty_41 rfl rfl ?_
        refine R_iald o dX7_guilty_42 sh_66 ?_
        refine R_ishl o dX7_guilty_43 ?_
        refine R_iconst (v := 1) o dX7_guilty_44 (by decide) ?_
        refine R_isub o dX7_guilty_45 ?_
        refine R_nmI (fun v46 => ?_)
        refine R_istore (lv2 := [(0, rA g 64), (1, .int x1), (2, .int x2), (3, .int x3), (4, .int r20), (5, .int 0), (6, .int v46)]) o dX7_guilty_46 (by decide) rfl ?_
        refine R_iconst (v := 1) o dX7_guilty_48 (by decide) ?_
        refine R_istore (lv2 := [(0, rA g 64), (1, .int x1), (2, .int x2), (3, .int x3), (4, .int r20), (5, .int 0), (6, .int v46), (7, .int 1)]) o dX7_guilty_49 (by decide) rfl ?_
        refine R_drop (lv2 := [(0, rA g 64), (1, .int x1), (2, .int x2), (3, .int x3), (5, .int 0), (6, .int v46), (7, .int 1)]) o [0, 1, 2, 3, 5, 6, 7] rfl ?_
        refine T_bind (t_X7_guilty_L51 o rr h20 x1 x2 x3 0 v46 1) (fun b51 => ?_)
        refine R_aload_n o 0 dX7_guilty_100 rfl rfl ?_
        refine R_iload o 1 dX7_guilty_101 rfl ?_
        refine R_if_ne o 110 dX7_guilty_103 (by decide) ?_ ?_
        · refine R_iconst (v := 0) o dX7_guilty_106 (by decide) ?_
          refine R_goto o 112 dX7_guilty_107 (by decide) ?_
          refine R_iload o 1 dX7_guilty_112 rfl ?_
          refine K_ih (callV' (As := [.int 0, .int b51.1]) (rest := []) o dX7_guilty_114 lk_X7_114 rfl sh_64 rfl rfl rfl rfl (Nat.le_of_ble_eq_true rfl)) (c_X7_ask g l h20 0 b51.1) (fun r114 h114 => ?_)
          exact T_some (fun p => rr _ _ _ _ dX7_guilty_117 p)
        · refine R_iload o 2 dX7_guilty_110 rfl ?_
          refine R_iload o 1 dX7_guilty_112 rfl ?_
          refine K_ih (callV' (As := [.int b51.2, .int b51.1]) (rest := []) o dX7_guilty_114 lk_X7_114 rfl sh_64 rfl rfl rfl rfl (Nat.le_of_ble_eq_true rfl)) (c_X7_ask g l h20 b51.2 b51.1) (fun r114 h114 => ?_)
          exact T_some (fun p => rr _ _ _ _ dX7_guilty_117 p)
    · refine R_iconst (v := (-1)) o dX7_guilty_16 (by decide) ?_
      exact T_some (fun p => rr _ _ _ _ dX7_guilty_17 p)
  · refine R_iconst (v := (-1)) o dX7_guilty_16 (by decide) ?_
    exact T_some (fun p => rr _ _ _ _ dX7_guilty_17 p)
theorem c_X7_guilty (g : Gx) (l : Launch) (h : MH) (x1 : Int32) (x2 : Int32) (x3 : Int32) (r : (Int32 × MH)) (e : f_X7_guilty h x1 x2 x3 = some r) : Ctr g l yX7_guilty cX7_guilty 8 (some .int) 4 87 0 [rA g 64, .int x1, .int x2, .int x3] h (some (.int r.1)) r.2 := mkCi (plainFor_of_name (by decide)) (Nat.le_of_ble_eq_true rfl) (fun V Rt o rr p => b_X7_guilty o rr h x1 x2 x3  r e p)
/-! X7_apart -/
noncomputable def f_X7_apart_B32 (h : MH) (x1 : Int32) (x3 : Int32) (x4 : Int32) (x5 : Int32) : Option ((Int32 × Int32) ⊕ (Int32)) :=
  (if x5 < x4 then Option.bind (f_X7_rowAt h x1 x4) (fun r43 => Option.bind (f_X7_rowAt h x1 x5) (fun r50 => Option.bind (f_X7_bits (r43 ^^^ r50)) (fun r54 => (if x3 < 0 then some (.inl (r54, (x5 + 1))) else (if r54 < x3 then some (.inl (r54, (x5 + 1))) else some (.inl (x3, (x5 + 1)))))))) else some (.inr x3))
set_option maxRecDepth 100000 in
set_option maxHeartbeats 4000000 in
theorem t_X7_apart_B32 {g : Gx} {l : Launch} {V : VT} {Rt : Option Value → MH → Prop} (o : Ok g l RX7 cX7_apart 7 4 87 0 V) (rr : ORi cX7_apart V Rt) (h : MH) (x1 : Int32) (x3 : Int32) (x4 : Int32) (x5 : Int32) : T (Sum.elim (fun s => V 32 [(0, rA g 64), (1, .int x1), (3, .int s.1), (4, .int x4), (5, .int s.2)] [] h) (fun b => V 82 [(0, rA g 64), (1, .int x1), (3, .int b), (4, .int x4)] [] h)) (f_X7_apart_B32  h x1 x3 x4 x5) (V 32 [(0, rA g 64), (1, .int x1), (3, .int x3), (4, .int x4), (5, .int x5)] [] h) := by
  unfold f_X7_apart_B32
  refine R_iload o 4 dX7_apart_32 rfl ?_
  refine R_iload o 3 dX7_apart_34 rfl ?_
  refine R_icmp_ge o 82 dX7_apart_36 (by decide) ?_ ?_
  · refine R_aload_n o 0 dX7_apart_39 rfl rfl ?_
    refine R_iload_n o 1 dX7_apart_40 rfl rfl ?_
    refine R_iload o 3 dX7_apart_41 rfl ?_
    refine K_i (callV' (As := [.int x1, .int x4]) (rest := []) o dX7_apart_43 lk_X7_110 rfl sh_64 rfl rfl rfl rfl (Nat.le_of_ble_eq_true rfl)) (c_X7_rowAt g l h x1 x4) (fun r43 => ?_)
    refine R_aload_n o 0 dX7_apart_46 rfl rfl ?_
    refine R_iload_n o 1 dX7_apart_47 rfl rfl ?_
    refine R_iload o 4 dX7_apart_48 rfl ?_
    refine K_i (callV' (As := [.int x1, .int x5]) (rest := [.int r43]) o dX7_apart_50 lk_X7_110 rfl sh_64 rfl rfl rfl rfl (Nat.le_of_ble_eq_true rfl)) (c_X7_rowAt g l h x1 x5) (fun r50 => ?_)
    refine R_ixor o dX7_apart_53 ?_
    refine K_i (callS' (av := [.int (r43 ^^^ r50)]) (rest := []) o dX7_apart_54 lk_X7_203 rfl rfl rfl (Nat.le_of_ble_eq_true rfl)) (c_X7_bits g l h (r43 ^^^ r50)) (fun r54 => ?_)
    refine R_istore (lv2 := [(0, rA g 64), (1, .int x1), (3, .int x3), (4, .int x4), (5, .int x5), (6, .int r54)]) o dX7_apart_57 (by decide) rfl ?_
    refine R_iload_n o 2 dX7_apart_59 rfl rfl ?_
    refine R_if_lt o 69 dX7_apart_60 (by decide) ?_ ?_
    · refine R_iload o 5 dX7_apart_69 rfl ?_
      refine R_goto o 75 dX7_apart_71 (by decide) ?_
      refine R_istore_n (lv2 := [(0, rA g 64), (1, .int x1), (3, .int r54), (4, .int x4), (5, .int x5), (6, .int r54)]) o dX7_apart_75 rfl (by decide) rfl ?_
      refine R_iinc (v := (x5 + 1)) (lv2 := [(0, rA g 64), (1, .int x1), (3, .int r54), (4, .int x4), (5, .int (x5 + 1)), (6, .int r54)]) o 4 dX7_apart_76 rfl rfl (by decide) rfl ?_
      refine R_goto o 32 dX7_apart_79 (by decide) ?_
      refine R_drop (lv2 := [(0, rA g 64), (1, .int x1), (3, .int r54), (4, .int x4), (5, .int (x5 + 1))]) o [0, 1, 2, 3, 4] rfl ?_
      exact T_some (fun p => p)
    · refine R_iload o 5 dX7_apart_63 rfl ?_
      refine R_iload_n o 2 dX7_apart_65 rfl rfl ?_
      refine R_icmp_ge o 74 dX7_apart_66 (by decide) ?_ ?_
      · refine R_iload o 5 dX7_apart_69 rfl ?_
        refine R_goto o 75 dX7_apart_71 (by decide) ?_
        refine R_istore_n (lv2 := [(0, rA g 64), (1, .int x1), (3, .int r54), (4, .int x4), (5, .int x5), (6, .int r54)]) o dX7_apart_75 rfl (by decide) rfl ?_
        refine R_iinc (v := (x5 + 1)) (lv2 := [(0, rA g 64), (1, .int x1), (3, .int r54), (4, .int x4), (5, .int (x5 + 1)), (6, .int r54)]) o 4 dX7_apart_76 rfl rfl (by decide) rfl ?_
        refine R_goto o 32 dX7_apart_79 (by decide) ?_
        refine R_drop (lv2 := [(0, rA g 64), (1, .int x1), (3, .int r54), (4, .int x4), (5, .int (x5 + 1))]) o [0, 1, 2, 3, 4] rfl ?_
        exact T_some (fun p => p)
      · refine R_iload_n o 2 dX7_apart_74 rfl rfl ?_
        refine R_istore_n (lv2 := [(0, rA g 64), (1, .int x1), (3, .int x3), (4, .int x4), (5, .int x5), (6, .int r54)]) o dX7_apart_75 rfl (by decide) rfl ?_
        refine R_iinc (v := (x5 + 1)) (lv2 := [(0, rA g 64), (1, .int x1), (3, .int x3), (4, .int x4), (5, .int (x5 + 1)), (6, .int r54)]) o 4 dX7_apart_76 rfl rfl (by decide) rfl ?_
        refine R_goto o 32 dX7_apart_79 (by decide) ?_
        refine R_drop (lv2 := [(0, rA g 64), (1, .int x1), (3, .int x3), (4, .int x4), (5, .int (x5 + 1))]) o [0, 1, 2, 3, 4] rfl ?_
        exact T_some (fun p => p)
  · refine R_drop (lv2 := [(0, rA g 64), (1, .int x1), (3, .int x3), (4, .int x4)]) o [0, 1, 2, 3] rfl ?_
    exact T_some (fun p => p)
noncomputable def f_X7_apart_L32 (h : MH) (x1 : Int32) (x3 : Int32) (x4 : Int32) (x5 : Int32) : Option (Int32) :=
  lpo (fun s : Int32 × Int32 => f_X7_apart_B32 h x1 s.1 x4 s.2) (x3, x5)
theorem t_X7_apart_L32 {g : Gx} {l : Launch} {V : VT} {Rt : Option Value → MH → Prop} (o : Ok g l RX7 cX7_apart 7 4 87 0 V) (rr : ORi cX7_apart V Rt) (h : MH) (x1 : Int32) (x3 : Int32) (x4 : Int32) (x5 : Int32) : T (fun b => V 82 [(0, rA g 64), (1, .int x1), (3, .int b), (4, .int x4)] [] h) (f_X7_apart_L32 h x1 x3 x4 x5) (V 32 [(0, rA g 64), (1, .int x1), (3, .int x3), (4, .int x4), (5, .int x5)] [] h) := T_loop (head := fun s : Int32 × Int32 => V 32 [(0, rA g 64), (1, .int x1), (3, .int s.1), (4, .int x4), (5, .int s.2)] [] h) (fun s => t_X7_apart_B32 o rr h x1 s.1 x4 s.2 ) (x3, x5)
noncomputable def f_X7_apart_B18 (h : MH) (x1 : Int32) (x3 : Int32) (x4 : Int32) : Option ((Int32 × Int32) ⊕ (Int32)) :=
  gd (ix x1 6) ((if x4 < (h.1 66 x1.toNatClampNeg) then Option.bind (f_X7_apart_L32 h x1 x3 x4 0) (fun b32 => some (.inl (b32, (x4 + 1)))) else some (.inr x3)))
set_option maxRecDepth 100000 in
set_option maxHeartbeats 4000000 in
theorem t_X7_apart_B18 {g : Gx} {l : Launch} {V : VT} {Rt : Option Value → MH → Prop} (o : Ok g l RX7 cX7_apart 7 4 87 0 V) (rr : ORi cX7_apart V Rt) (h : MH) (x1 : Int32) (x3 : Int32) (x4 : Int32) : T (Sum.elim (fun s => V 18 [(0, rA g 64), (1, .int x1), (3, .int s.1), (4, .int s.2)] [] h) (fun b => V 88 [(3, .int b)] [] h)) (f_X7_apart_B18  h x1 x3 x4) (V 18 [(0, rA g 64), (1, .int x1), (3, .int x3), (4, .int x4)] [] h) := by
  unfold f_X7_apart_B18
  refine R_iload o 3 dX7_apart_18 rfl ?_
  refine R_aload_n o 0 dX7_apart_20 rfl rfl ?_
  refine R_getR (a2 := 66) o dX7_apart_21 fl_X7_17 sh_64 (by decide) rfl rf_64_5 ?_
  refine R_iload_n o 1 dX7_apart_24 rfl rfl ?_
  refine R_iald o dX7_apart_25 sh_66 ?_
  refine R_icmp_ge o 88 dX7_apart_26 (by decide) ?_ ?_
  · refine R_iconst (v := 0) o dX7_apart_29 (by decide) ?_
    refine R_istore (lv2 := [(0, rA g 64), (1, .int x1), (3, .int x3), (4, .int x4), (5, .int 0)]) o dX7_apart_30 (by decide) rfl ?_
    refine T_bind (t_X7_apart_L32 o rr h x1 x3 x4 0) (fun b32 => ?_)
    refine R_iinc (v := (x4 + 1)) (lv2 := [(0, rA g 64), (1, .int x1), (3, .int b32), (4, .int (x4 + 1))]) o 3 dX7_apart_82 rfl rfl (by decide) rfl ?_
    refine R_goto o 18 dX7_apart_85 (by decide) ?_
    exact T_some (fun p => p)
  · refine R_drop (lv2 := [(3, .int x3)]) o [2] rfl ?_
    exact T_some (fun p => p)
noncomputable def f_X7_apart_L18 (h : MH) (x1 : Int32) (x3 : Int32) (x4 : Int32) : Option (Int32) :=
  lpo (fun s : Int32 × Int32 => f_X7_apart_B18 h x1 s.1 s.2) (x3, x4)
theorem t_X7_apart_L18 {g : Gx} {l : Launch} {V : VT} {Rt : Option Value → MH → Prop} (o : Ok g l RX7 cX7_apart 7 4 87 0 V) (rr : ORi cX7_apart V Rt) (h : MH) (x1 : Int32) (x3 : Int32) (x4 : Int32) : T (fun b => V 88 [(3, .int b)] [] h) (f_X7_apart_L18 h x1 x3 x4) (V 18 [(0, rA g 64), (1, .int x1), (3, .int x3), (4, .int x4)] [] h) := T_loop (head := fun s : Int32 × Int32 => V 18 [(0, rA g 64), (1, .int x1), (3, .int s.1), (4, .int s.2)] [] h) (fun s => t_X7_apart_B18 o rr h x1 s.1 s.2 ) (x3, x4)
noncomputable def f_X7_apart (h : MH) (x1 : Int32) : Option (Int32 × MH) :=
  bnd2 (f_X7_askedNames h x1) (fun r2 h2 => (if r2 < 0 then some (r2, h2) else Option.bind (f_X7_apart_L18 h2 x1 (-9) 0) (fun b18 => some (b18, h2))))
set_option maxRecDepth 100000 in
set_option maxHeartbeats 4000000 in
theorem b_X7_apart {g : Gx} {l : Launch} {V : VT} {Rt : Option Value → MH → Prop} (o : Ok g l RX7 cX7_apart 7 4 87 0 V) (rr : ORi cX7_apart V Rt) (h : MH) (x1 : Int32) : T (fun r => Rt (some (.int r.1)) r.2) (f_X7_apart h x1) (V 0 [(0, rA g 64), (1, .int x1)] [] h) := by
  unfold f_X7_apart
  refine R_aload_n o 0 dX7_apart_0 rfl rfl ?_
  refine R_iload_n o 1 dX7_apart_1 rfl rfl ?_
  refine K_ih (callV' (As := [.int x1]) (rest := []) o dX7_apart_2 lk_X7_247 rfl sh_64 rfl rfl rfl rfl (Nat.le_of_ble_eq_true rfl)) (c_X7_askedNames g l h x1) (fun r2 h2 => ?_)
  refine R_istore_n (lv2 := [(0, rA g 64), (1, .int x1), (2, .int r2)]) o dX7_apart_5 rfl (by decide) rfl ?_
  refine R_iload_n o 2 dX7_apart_6 rfl rfl ?_
  refine R_if_ge o 12 dX7_apart_7 (by decide) ?_ ?_
  · refine R_iload_n o 2 dX7_apart_10 rfl rfl ?_
    exact T_some (fun p => rr _ _ _ _ dX7_apart_11 p)
  · refine R_bipush (v := (-9)) o dX7_apart_12 (by decide) ?_
    refine R_istore_n (lv2 := [(0, rA g 64), (1, .int x1), (2, .int r2), (3, .int (-9))]) o dX7_apart_14 rfl (by decide) rfl ?_
    refine R_iconst (v := 0) o dX7_apart_15 (by decide) ?_
    refine R_istore (lv2 := [(0, rA g 64), (1, .int x1), (2, .int r2), (3, .int (-9)), (4, .int 0)]) o dX7_apart_16 (by decide) rfl ?_
    refine R_drop (lv2 := [(0, rA g 64), (1, .int x1), (3, .int (-9)), (4, .int 0)]) o [0, 1, 3, 4] rfl ?_
    refine T_bind (t_X7_apart_L18 o rr h2 x1 (-9) 0) (fun b18 => ?_)
    refine R_iload_n o 0 dX7_apart_88 rfl rfl ?_
    exact T_some (fun p => rr _ _ _ _ dX7_apart_89 p)
theorem c_X7_apart (g : Gx) (l : Launch) (h : MH) (x1 : Int32) (r : (Int32 × MH)) (e : f_X7_apart h x1 = some r) : Ctr g l yX7_apart cX7_apart 7 (some .int) 4 87 0 [rA g 64, .int x1] h (some (.int r.1)) r.2 := mkCi (plainFor_of_name (by decide)) (Nat.le_of_ble_eq_true rfl) (fun V Rt o rr p => b_X7_apart o rr h x1  r e p)
