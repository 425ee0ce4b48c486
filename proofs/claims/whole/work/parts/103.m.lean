/-! X3_planAll -/
noncomputable def f_X3_planAll_B73 (h : MH) (a1 : Nat) (a2 : Nat) (a3 : Nat) (x4 : Int32) (x5 : Int32) (x6 : Int32) (x7 : Int32) : Option ((Int32 × MH) ⊕ (MH)) :=
  (if x7 < (h.1 a2 2) then Option.bind (f_X3_placeAt h ((x5 * (h.1 a2 2)) + x7)) (fun r93 => Option.bind (f_X1_isWet h a1 r93) (fun r101 => (if r101 = true then some (.inl ((x7 + 1), h)) else Option.bind (f_X0_columnAt h a2 x7) (fun r113 => Option.bind (f_X1_priceAt h a1 r93) (fun r119 => Option.bind (f_X3_growSets h x7 r113 r119) (fun h122 => some (.inl ((x7 + 1), h122)))))))) else some (.inr h))
set_option maxRecDepth 100000 in
set_option maxHeartbeats 4000000 in
theorem t_X3_planAll_B73 {g : Gx} {l : Launch} {V : VT} {Rt : Option Value → MH → Prop} (o : Ok g l RX3 cX3_planAll 9 4 90 0 V) (rr : ORi cX3_planAll V Rt) (h : MH) (a1 : Nat) (a2 : Nat) (a3 : Nat) (x4 : Int32) (x5 : Int32) (x6 : Int32) (x7 : Int32) (ha1 : shp a1 = (1, 0)) (ha2 : shp a2 = (0, 0)) (ha3 : shp a3 = (5, 0)) : T (Sum.elim (fun s => V 73 [(0, rA g 9), (1, rA g a1), (2, rA g a2), (3, rA g a3), (4, .int x4), (5, .int x5), (6, .int x6), (7, .int s.1)] [] s.2) (fun b => V 131 [(0, rA g 9), (1, rA g a1), (2, rA g a2), (3, rA g a3), (4, .int x4), (5, .int x5), (6, .int x6)] [] b)) (f_X3_planAll_B73  h a1 a2 a3 x4 x5 x6 x7) (V 73 [(0, rA g 9), (1, rA g a1), (2, rA g a2), (3, rA g a3), (4, .int x4), (5, .int x5), (6, .int x6), (7, .int x7)] [] h) := by
  unfold f_X3_planAll_B73
  refine R_iload o 7 dX3_planAll_73 rfl ?_
  refine R_aload_n o 2 dX3_planAll_75 rfl rfl ?_
  refine R_getI o dX3_planAll_76 fl_X3_41 ha2 (by decide) rfl ?_
  refine R_icmp_ge o 131 dX3_planAll_79 (by decide) ?_ ?_
  · refine R_aload_n o 0 dX3_planAll_82 rfl rfl ?_
    refine R_iload o 5 dX3_planAll_83 rfl ?_
    refine R_aload_n o 2 dX3_planAll_85 rfl rfl ?_
    refine R_getI o dX3_planAll_86 fl_X3_41 ha2 (by decide) rfl ?_
    refine R_imul o dX3_planAll_89 ?_
    refine R_iload o 7 dX3_planAll_90 rfl ?_
    refine R_iadd o dX3_planAll_92 ?_
    refine K_i (callV' (As := [.int ((x5 * (h.1 a2 2)) + x7)]) (rest := []) o dX3_planAll_93 lk_X3_46 rfl sh_9 rfl rfl rfl rfl (Nat.le_of_ble_eq_true rfl)) (c_X3_placeAt g l h ((x5 * (h.1 a2 2)) + x7)) (fun r93 => ?_)
    refine R_istore (lv2 := [(0, rA g 9), (1, rA g a1), (2, rA g a2), (3, rA g a3), (4, .int x4), (5, .int x5), (6, .int x6), (7, .int x7), (8, .int r93)]) o dX3_planAll_96 (by decide) rfl ?_
    refine R_aload_n o 1 dX3_planAll_98 rfl rfl ?_
    refine R_iload o 8 dX3_planAll_99 rfl ?_
    refine K_z (callV' (As := [.int r93]) (rest := []) o dX3_planAll_101 lk_X3_76 rfl ha1 rfl rfl rfl rfl (Nat.le_of_ble_eq_true rfl)) (c_X1_isWet g l h a1 r93 ha1) (fun r101 => ?_)
    refine R_bif_ne o 125 dX3_planAll_104 (by decide) ?_ ?_
    · refine R_iinc (v := (x7 + 1)) (lv2 := [(0, rA g 9), (1, rA g a1), (2, rA g a2), (3, rA g a3), (4, .int x4), (5, .int x5), (6, .int x6), (7, .int (x7 + 1)), (8, .int r93)]) o 7 dX3_planAll_125 rfl rfl (by decide) rfl ?_
      refine R_goto o 73 dX3_planAll_128 (by decide) ?_
      refine R_drop (lv2 := [(0, rA g 9), (1, rA g a1), (2, rA g a2), (3, rA g a3), (4, .int x4), (5, .int x5), (6, .int x6), (7, .int (x7 + 1))]) o [0, 1, 2, 3, 4, 5, 6, 7] rfl ?_
      exact T_some (fun p => p)
    · refine R_aload_n o 0 dX3_planAll_107 rfl rfl ?_
      refine R_iload o 7 dX3_planAll_108 rfl ?_
      refine R_aload_n o 2 dX3_planAll_110 rfl rfl ?_
      refine R_iload o 7 dX3_planAll_111 rfl ?_
      refine K_i (callV' (As := [.int x7]) (rest := [.int x7, rA g 9]) o dX3_planAll_113 lk_X3_54 rfl ha2 rfl rfl rfl rfl (Nat.le_of_ble_eq_true rfl)) (c_X0_columnAt g l h a2 x7 ha2) (fun r113 => ?_)
      refine R_aload_n o 1 dX3_planAll_116 rfl rfl ?_
      refine R_iload o 8 dX3_planAll_117 rfl ?_
      refine K_i (callV' (As := [.int r93]) (rest := [.int r113, .int x7, rA g 9]) o dX3_planAll_119 lk_X3_80 rfl ha1 rfl rfl rfl rfl (Nat.le_of_ble_eq_true rfl)) (c_X1_priceAt g l h a1 r93 ha1) (fun r119 => ?_)
      refine K_vh (callV' (As := [.int x7, .int r113, .int r119]) (rest := []) o dX3_planAll_122 lk_X3_83 rfl sh_9 rfl rfl rfl rfl (Nat.le_of_ble_eq_true rfl)) (c_X3_growSets g l h x7 r113 r119) (fun h122 => ?_)
      refine R_iinc (v := (x7 + 1)) (lv2 := [(0, rA g 9), (1, rA g a1), (2, rA g a2), (3, rA g a3), (4, .int x4), (5, .int x5), (6, .int x6), (7, .int (x7 + 1)), (8, .int r93)]) o 7 dX3_planAll_125 rfl rfl (by decide) rfl ?_
      refine R_goto o 73 dX3_planAll_128 (by decide) ?_
      refine R_drop (lv2 := [(0, rA g 9), (1, rA g a1), (2, rA g a2), (3, rA g a3), (4, .int x4), (5, .int x5), (6, .int x6), (7, .int (x7 + 1))]) o [0, 1, 2, 3, 4, 5, 6, 7] rfl ?_
      exact T_some (fun p => p)
  · refine R_drop (lv2 := [(0, rA g 9), (1, rA g a1), (2, rA g a2), (3, rA g a3), (4, .int x4), (5, .int x5), (6, .int x6)]) o [0, 1, 2, 3, 4, 5, 6] rfl ?_
    exact T_some (fun p => p)
noncomputable def f_X3_planAll_L73 (h : MH) (a1 : Nat) (a2 : Nat) (a3 : Nat) (x4 : Int32) (x5 : Int32) (x6 : Int32) (x7 : Int32) : Option (MH) :=
  lpo (fun s : Int32 × MH => f_X3_planAll_B73 s.2 a1 a2 a3 x4 x5 x6 s.1) (x7, h)
theorem t_X3_planAll_L73 {g : Gx} {l : Launch} {V : VT} {Rt : Option Value → MH → Prop} (o : Ok g l RX3 cX3_planAll 9 4 90 0 V) (rr : ORi cX3_planAll V Rt) (h : MH) (a1 : Nat) (a2 : Nat) (a3 : Nat) (x4 : Int32) (x5 : Int32) (x6 : Int32) (x7 : Int32) (ha1 : shp a1 = (1, 0)) (ha2 : shp a2 = (0, 0)) (ha3 : shp a3 = (5, 0)) : T (fun b => V 131 [(0, rA g 9), (1, rA g a1), (2, rA g a2), (3, rA g a3), (4, .int x4), (5, .int x5), (6, .int x6)] [] b) (f_X3_planAll_L73 h a1 a2 a3 x4 x5 x6 x7) (V 73 [(0, rA g 9), (1, rA g a1), (2, rA g a2), (3, rA g a3), (4, .int x4), (5, .int x5), (6, .int x6), (7, .int x7)] [] h) := T_loop (head := fun s : Int32 × MH => V 73 [(0, rA g 9), (1, rA g a1), (2, rA g a2), (3, rA g a3), (4, .int x4), (5, .int x5), (6, .int x6), (7, .int s.1)] [] s.2) (fun s => t_X3_planAll_B73 o rr s.2 a1 a2 a3 x4 x5 x6 s.1 ha1 ha2 ha3) (x7, h)
noncomputable def f_X3_planAll_B39 (h : MH) (a1 : Nat) (a2 : Nat) (a3 : Nat) (x4 : Int32) (x5 : Int32) : Option ((Int32 × Int32 × MH) ⊕ ((Int32 × MH) ⊕ ((Int32 × MH)))) :=
  (if x5 < (h.1 9 4) then Option.bind (f_X3_bitsHeld h a1 a2 x5) (fun r53 => Option.bind (f_X3_bitsWanted h a2 a3 x5) (fun r60 => nm (r53 ^^^ r60) (fun v64 => Option.bind (f_X3_startSets h) (fun h67 => Option.bind (f_X3_planAll_L73 h67 a1 a2 a3 x4 x5 v64 0) (fun b73 => (if v64 < 64 then gd (ix v64 64) ((if (b73.1 11 v64.toNatClampNeg) = 1000000 then some (.inr (.inr ((-9), b73))) else gd (ix v64 64) (gd (ix x5 40) (nm (uI b73 13 x5.toNatClampNeg (b73.1 12 v64.toNatClampNeg)) (fun h166 => gd (ix v64 64) (nm (x4 + (h166.1 11 v64.toNatClampNeg)) (fun v177 => some (.inl (v177, (x5 + 1), h166))))))))) else some (.inr (.inr ((-9), b73))))))))) else some (.inr (.inl (x4, h))))
set_option maxRecDepth 100000 in
set_option maxHeartbeats 4000000 in
theorem t_X3_planAll_B39 {g : Gx} {l : Launch} {V : VT} {Rt : Option Value → MH → Prop} (o : Ok g l RX3 cX3_planAll 9 4 90 0 V) (rr : ORi cX3_planAll V Rt) (h : MH) (a1 : Nat) (a2 : Nat) (a3 : Nat) (x4 : Int32) (x5 : Int32) (ha1 : shp a1 = (1, 0)) (ha2 : shp a2 = (0, 0)) (ha3 : shp a3 = (5, 0)) : T (Sum.elim (fun s => V 39 [(0, rA g 9), (1, rA g a1), (2, rA g a2), (3, rA g a3), (4, .int s.1), (5, .int s.2.1)] [] s.2.2) (Sum.elim (fun b => V 185 [(4, .int b.1)] [] b.2) (fun r => Rt (some (.int r.1)) r.2))) (f_X3_planAll_B39  h a1 a2 a3 x4 x5) (V 39 [(0, rA g 9), (1, rA g a1), (2, rA g a2), (3, rA g a3), (4, .int x4), (5, .int x5)] [] h) := by
  unfold f_X3_planAll_B39
  refine R_iload o 5 dX3_planAll_39 rfl ?_
  refine R_aload_n o 0 dX3_planAll_41 rfl rfl ?_
  refine R_getI o dX3_planAll_42 fl_X3_24 sh_9 (by decide) rfl ?_
  refine R_icmp_ge o 185 dX3_planAll_45 (by decide) ?_ ?_
  · refine R_aload_n o 0 dX3_planAll_48 rfl rfl ?_
    refine R_aload_n o 1 dX3_planAll_49 rfl rfl ?_
    refine R_aload_n o 2 dX3_planAll_50 rfl rfl ?_
    refine R_iload o 5 dX3_planAll_51 rfl ?_
    refine K_i (callV' (As := [rA g a1, rA g a2, .int x5]) (rest := []) o dX3_planAll_53 lk_X3_65 rfl sh_9 rfl rfl rfl rfl (Nat.le_of_ble_eq_true rfl)) (c_X3_bitsHeld g l h a1 a2 x5 ha1 ha2) (fun r53 => ?_)
    refine R_aload_n o 2 dX3_planAll_56 rfl rfl ?_
    refine R_aload_n o 3 dX3_planAll_57 rfl rfl ?_
    refine R_iload o 5 dX3_planAll_58 rfl ?_
    refine K_i (callS' (av := [rA g a2, rA g a3, .int x5]) (rest := [.int r53]) o dX3_planAll_60 lk_X3_69 rfl rfl rfl (Nat.le_of_ble_eq_true rfl)) (c_X3_bitsWanted g l h a2 a3 x5 ha2 ha3) (fun r60 => ?_)
    refine R_ixor o dX3_planAll_63 ?_
    refine R_nmI (fun v64 => ?_)
    refine R_istore (lv2 := [(0, rA g 9), (1, rA g a1), (2, rA g a2), (3, rA g a3), (4, .int x4), (5, .int x5), (6, .int v64)]) o dX3_planAll_64 (by decide) rfl ?_
    refine R_aload_n o 0 dX3_planAll_66 rfl rfl ?_
    refine K_vh (callV' (As := []) (rest := []) o dX3_planAll_67 lk_X3_73 rfl sh_9 rfl rfl rfl rfl (Nat.le_of_ble_eq_true rfl)) (c_X3_startSets g l h) (fun h67 => ?_)
    refine R_iconst (v := 0) o dX3_planAll_70 (by decide) ?_
    refine R_istore (lv2 := [(0, rA g 9), (1, rA g a1), (2, rA g a2), (3, rA g a3), (4, .int x4), (5, .int x5), (6, .int v64), (7, .int 0)]) o dX3_planAll_71 (by decide) rfl ?_
    refine T_bind (t_X3_planAll_L73 o rr h67 a1 a2 a3 x4 x5 v64 0 ha1 ha2 ha3) (fun b73 => ?_)
    refine R_iload o 6 dX3_planAll_131 rfl ?_
    refine R_bipush (v := 64) o dX3_planAll_133 (by decide) ?_
    refine R_icmp_ge o 150 dX3_planAll_135 (by decide) ?_ ?_
    · refine R_aload_n o 0 dX3_planAll_138 rfl rfl ?_
      refine R_getR (a2 := 11) o dX3_planAll_139 fl_X3_15 sh_9 (by decide) rfl rf_9_1 ?_
      refine R_iload o 6 dX3_planAll_142 rfl ?_
      refine R_iald o dX3_planAll_144 sh_11 ?_
      refine R_ldc (v := 1000000) o dX3_planAll_145 kc_X3_87 ?_
      refine R_icmp_ne o 153 dX3_planAll_147 (by decide) ?_ ?_
      · refine R_bipush (v := (-9)) o dX3_planAll_150 (by decide) ?_
        exact T_some (fun p => rr _ _ _ _ dX3_planAll_152 p)
      · refine R_aload_n o 0 dX3_planAll_153 rfl rfl ?_
        refine R_getR (a2 := 13) o dX3_planAll_154 fl_X3_21 sh_9 (by decide) rfl rf_9_3 ?_
        refine R_iload o 5 dX3_planAll_157 rfl ?_
        refine R_aload_n o 0 dX3_planAll_159 rfl rfl ?_
        refine R_getR (a2 := 12) o dX3_planAll_160 fl_X3_18 sh_9 (by decide) rfl rf_9_2 ?_
        refine R_iload o 6 dX3_planAll_163 rfl ?_
        refine R_iald o dX3_planAll_165 sh_12 ?_
        refine R_iast o dX3_planAll_166 sh_13 ?_
        refine R_nmH (fun h166 => ?_)
        refine R_iload o 4 dX3_planAll_167 rfl ?_
        refine R_aload_n o 0 dX3_planAll_169 rfl rfl ?_
        refine R_getR (a2 := 11) o dX3_planAll_170 fl_X3_15 sh_9 (by decide) rfl rf_9_1 ?_
        refine R_iload o 6 dX3_planAll_173 rfl ?_
        refine R_iald o dX3_planAll_175 sh_11 ?_
        refine R_iadd o dX3_planAll_176 ?_
        refine R_nmI (fun v177 => ?_)
        refine R_istore (lv2 := [(0, rA g 9), (1, rA g a1), (2, rA g a2), (3, rA g a3), (4, .int v177), (5, .int x5), (6, .int v64)]) o dX3_planAll_177 (by decide) rfl ?_
        refine R_iinc (v := (x5 + 1)) (lv2 := [(0, rA g 9), (1, rA g a1), (2, rA g a2), (3, rA g a3), (4, .int v177), (5, .int (x5 + 1)), (6, .int v64)]) o 5 dX3_planAll_179 rfl rfl (by decide) rfl ?_
        refine R_goto o 39 dX3_planAll_182 (by decide) ?_
        refine R_drop (lv2 := [(0, rA g 9), (1, rA g a1), (2, rA g a2), (3, rA g a3), (4, .int v177), (5, .int (x5 + 1))]) o [0, 1, 2, 3, 4, 5] rfl ?_
        exact T_some (fun p => p)
    · refine R_bipush (v := (-9)) o dX3_planAll_150 (by decide) ?_
      exact T_some (fun p => rr _ _ _ _ dX3_planAll_152 p)
  · refine R_drop (lv2 := [(4, .int x4)]) o [4] rfl ?_
    exact T_some (fun p => p)
noncomputable def f_X3_planAll_L39 (h : MH) (a1 : Nat) (a2 : Nat) (a3 : Nat) (x4 : Int32) (x5 : Int32) : Option ((Int32 × MH) ⊕ ((Int32 × MH))) :=
  lpo (fun s : Int32 × Int32 × MH => f_X3_planAll_B39 s.2.2 a1 a2 a3 s.1 s.2.1) (x4, x5, h)
theorem t_X3_planAll_L39 {g : Gx} {l : Launch} {V : VT} {Rt : Option Value → MH → Prop} (o : Ok g l RX3 cX3_planAll 9 4 90 0 V) (rr : ORi cX3_planAll V Rt) (h : MH) (a1 : Nat) (a2 : Nat) (a3 : Nat) (x4 : Int32) (x5 : Int32) (ha1 : shp a1 = (1, 0)) (ha2 : shp a2 = (0, 0)) (ha3 : shp a3 = (5, 0)) : T (Sum.elim (fun b => V 185 [(4, .int b.1)] [] b.2) (fun r => Rt (some (.int r.1)) r.2)) (f_X3_planAll_L39 h a1 a2 a3 x4 x5) (V 39 [(0, rA g 9), (1, rA g a1), (2, rA g a2), (3, rA g a3), (4, .int x4), (5, .int x5)] [] h) := T_loop (head := fun s : Int32 × Int32 × MH => V 39 [(0, rA g 9), (1, rA g a1), (2, rA g a2), (3, rA g a3), (4, .int s.1), (5, .int s.2.1)] [] s.2.2) (fun s => t_X3_planAll_B39 o rr s.2.2 a1 a2 a3 s.1 s.2.1 ha1 ha2 ha3) (x4, x5, h)
noncomputable def f_X3_planAll_J30 (h : MH) (a1 : Nat) (a2 : Nat) (a3 : Nat) (s1 : Int32) : Option (Int32 × MH) :=
  nm (uI h 9 4 s1) (fun h30 => Option.bind (f_X3_planAll_L39 h30 a1 a2 a3 0 0) (Sum.elim (fun b39 => some (b39.1, b39.2)) (fun r => some r)))
set_option maxRecDepth 100000 in
set_option maxHeartbeats 4000000 in
theorem t_X3_planAll_J30 {g : Gx} {l : Launch} {V : VT} {Rt : Option Value → MH → Prop} (o : Ok g l RX3 cX3_planAll 9 4 90 0 V) (rr : ORi cX3_planAll V Rt) (h : MH) (a1 : Nat) (a2 : Nat) (a3 : Nat) (s1 : Int32) (ha1 : shp a1 = (1, 0)) (ha2 : shp a2 = (0, 0)) (ha3 : shp a3 = (5, 0)) : T (fun r => Rt (some (.int r.1)) r.2) (f_X3_planAll_J30  h a1 a2 a3 s1) (V 30 [(0, rA g 9), (1, rA g a1), (2, rA g a2), (3, rA g a3)] [.int s1, rA g 9] h) := by
  unfold f_X3_planAll_J30
  refine R_putI o dX3_planAll_30 fp_X3_24 sh_9 (by decide) rfl ?_
  refine R_nmH (fun h30 => ?_)
  refine R_iconst (v := 0) o dX3_planAll_33 (by decide) ?_
  refine R_istore (lv2 := [(0, rA g 9), (1, rA g a1), (2, rA g a2), (3, rA g a3), (4, .int 0)]) o dX3_planAll_34 (by decide) rfl ?_
  refine R_iconst (v := 0) o dX3_planAll_36 (by decide) ?_
  refine R_istore (lv2 := [(0, rA g 9), (1, rA g a1), (2, rA g a2), (3, rA g a3), (4, .int 0), (5, .int 0)]) o dX3_planAll_37 (by decide) rfl ?_
  refine T_bind2 (t_X3_planAll_L39 o rr h30 a1 a2 a3 0 0 ha1 ha2 ha3) (fun b39 => ?_) (fun r => ?_)
  · refine R_iload o 0 dX3_planAll_185 rfl ?_
    exact T_some (fun p => rr _ _ _ _ dX3_planAll_187 p)
  · exact T_some (fun p => p)
noncomputable def f_X3_planAll (h : MH) (a1 : Nat) (a2 : Nat) (a3 : Nat) : Option (Int32 × MH) :=
  (if (h.1 a2 1) < 1 then f_X3_planAll_J30 h a1 a2 a3 0 else gd (nz (h.1 a2 1)) (Option.bind (f_J9_min_7cf53 ((h.1 a3 1) / (h.1 a2 1)) 40) (fun r27 => f_X3_planAll_J30 h a1 a2 a3 r27)))
set_option maxRecDepth 100000 in
set_option maxHeartbeats 4000000 in
theorem b_X3_planAll {g : Gx} {l : Launch} {V : VT} {Rt : Option Value → MH → Prop} (o : Ok g l RX3 cX3_planAll 9 4 90 0 V) (rr : ORi cX3_planAll V Rt) (h : MH) (a1 : Nat) (a2 : Nat) (a3 : Nat) (ha1 : shp a1 = (1, 0)) (ha2 : shp a2 = (0, 0)) (ha3 : shp a3 = (5, 0)) : T (fun r => Rt (some (.int r.1)) r.2) (f_X3_planAll h a1 a2 a3) (V 0 [(0, rA g 9), (1, rA g a1), (2, rA g a2), (3, rA g a3)] [] h) := by
  unfold f_X3_planAll
  refine R_aload_n o 0 dX3_planAll_0 rfl rfl ?_
  refine R_aload_n o 2 dX3_planAll_1 rfl rfl ?_
  refine R_getI o dX3_planAll_2 fl_X3_57 ha2 (by decide) rfl ?_
  refine R_iconst (v := 1) o dX3_planAll_5 (by decide) ?_
  refine R_icmp_ge o 13 dX3_planAll_6 (by decide) ?_ ?_
  · refine R_iconst (v := 0) o dX3_planAll_9 (by decide) ?_
    refine R_goto o 30 dX3_planAll_10 (by decide) ?_
    exact t_X3_planAll_J30 o rr h a1 a2 a3 0 ha1 ha2 ha3
  · refine R_aload_n o 3 dX3_planAll_13 rfl rfl ?_
    refine R_getI o dX3_planAll_14 fl_X3_60 ha3 (by decide) rfl ?_
    refine R_aload_n o 2 dX3_planAll_17 rfl rfl ?_
    refine R_getI o dX3_planAll_18 fl_X3_57 ha2 (by decide) rfl ?_
    refine R_idiv o dX3_planAll_21 ?_
    refine R_aload_n o 0 dX3_planAll_22 rfl rfl ?_
    refine R_getR (a2 := 13) o dX3_planAll_23 fl_X3_21 sh_9 (by decide) rfl rf_9_3 ?_
    refine R_alenI (v := 40) o dX3_planAll_26 sh_13 (Or.inl rfl) rfl ?_
    refine K_i (callS' (av := [.int ((h.1 a3 1) / (h.1 a2 1)), .int 40]) (rest := [rA g 9]) o dX3_planAll_27 lk_X3_28 rfl rfl rfl (Nat.le_of_ble_eq_true rfl)) (c_J9_min_7cf53 g l h ((h.1 a3 1) / (h.1 a2 1)) 40) (fun r27 => ?_)
    exact t_X3_planAll_J30 o rr h a1 a2 a3 r27 ha1 ha2 ha3
theorem c_X3_planAll (g : Gx) (l : Launch) (h : MH) (a1 : Nat) (a2 : Nat) (a3 : Nat) (ha1 : shp a1 = (1, 0)) (ha2 : shp a2 = (0, 0)) (ha3 : shp a3 = (5, 0)) (r : (Int32 × MH)) (e : f_X3_planAll h a1 a2 a3 = some r) : Ctr g l yX3_planAll cX3_planAll 9 (some .int) 4 90 0 [rA g 9, rA g a1, rA g a2, rA g a3] h (some (.int r.1)) r.2 := mkCi (plainFor_of_name (by decide)) (Nat.le_of_ble_eq_true rfl) (fun V Rt o rr p => b_X3_planAll o rr h a1 a2 a3 ha1 ha2 ha3 r e p)
/-! X3_flipAll -/
noncomputable def f_X3_flipAll_B13 (h : MH) (a1 : Nat) (a2 : Nat) (x3 : Int32) (x4 : Int32) : Option ((Int32 × MH) ⊕ (MH)) :=
  (if x4 < (h.1 a2 2) then Option.bind (f_X3_placeAt h ((x3 * (h.1 a2 2)) + x4)) (fun r32 => gd (ix x3 40) ((if ((shr (h.1 13 x3.toNatClampNeg) x4) &&& 1) = 0 then some (.inl ((x4 + 1), h)) else Option.bind (f_X1_flippedAt h a1 r32) (fun r57 => Option.bind (f_X1_setDot h a1 r32 r57) (fun h60 => some (.inl ((x4 + 1), h60))))))) else some (.inr h))
set_option maxRecDepth 100000 in
set_option maxHeartbeats 4000000 in
theorem t_X3_flipAll_B13 {g : Gx} {l : Launch} {V : VT} {Rt : Option Value → MH → Prop} (o : Ok g l RX3 cX3_flipAll 6 3 64 0 V) (rr : ORv cX3_flipAll V Rt) (h : MH) (a1 : Nat) (a2 : Nat) (x3 : Int32) (x4 : Int32) (ha1 : shp a1 = (1, 0)) (ha2 : shp a2 = (0, 0)) : T (Sum.elim (fun s => V 13 [(0, rA g 9), (1, rA g a1), (2, rA g a2), (3, .int x3), (4, .int s.1)] [] s.2) (fun b => V 69 [(0, rA g 9), (1, rA g a1), (2, rA g a2), (3, .int x3)] [] b)) (f_X3_flipAll_B13  h a1 a2 x3 x4) (V 13 [(0, rA g 9), (1, rA g a1), (2, rA g a2), (3, .int x3), (4, .int x4)] [] h) := by
  unfold f_X3_flipAll_B13
  refine R_iload o 4 dX3_flipAll_13 rfl ?_
  refine R_aload_n o 2 dX3_flipAll_15 rfl rfl ?_
  refine R_getI o dX3_flipAll_16 fl_X3_41 ha2 (by decide) rfl ?_
  refine R_icmp_ge o 69 dX3_flipAll_19 (by decide) ?_ ?_
  · refine R_aload_n o 0 dX3_flipAll_22 rfl rfl ?_
    refine R_iload_n o 3 dX3_flipAll_23 rfl rfl ?_
    refine R_aload_n o 2 dX3_flipAll_24 rfl rfl ?_
    refine R_getI o dX3_flipAll_25 fl_X3_41 ha2 (by decide) rfl ?_
    refine R_imul o dX3_flipAll_28 ?_
    refine R_iload o 4 dX3_flipAll_29 rfl ?_
    refine R_iadd o dX3_flipAll_31 ?_
    refine K_i (callV' (As := [.int ((x3 * (h.1 a2 2)) + x4)]) (rest := []) o dX3_flipAll_32 lk_X3_46 rfl sh_9 rfl rfl rfl rfl (Nat.le_of_ble_eq_true rfl)) (c_X3_placeAt g l h ((x3 * (h.1 a2 2)) + x4)) (fun r32 => ?_)
    refine R_istore (lv2 := [(0, rA g 9), (1, rA g a1), (2, rA g a2), (3, .int x3), (4, .int x4), (5, .int r32)]) o dX3_flipAll_35 (by decide) rfl ?_
    refine R_aload_n o 0 dX3_flipAll_37 rfl rfl ?_
    refine R_getR (a2 := 13) o dX3_flipAll_38 fl_X3_21 sh_9 (by decide) rfl rf_9_3 ?_
    refine R_iload_n o 3 dX3_flipAll_41 rfl rfl ?_
    refine R_iald o dX3_flipAll_42 sh_13 ?_
    refine R_iload o 4 dX3_flipAll_43 rfl ?_
    refine R_ishr o dX3_flipAll_45 ?_
    refine R_iconst (v := 1) o dX3_flipAll_46 (by decide) ?_
    refine R_iand o dX3_flipAll_47 ?_
    refine R_if_eq o 63 dX3_flipAll_48 (by decide) ?_ ?_
    · refine R_iinc (v := (x4 + 1)) (lv2 := [(0, rA g 9), (1, rA g a1), (2, rA g a2), (3, .int x3), (4, .int (x4 + 1)), (5, .int r32)]) o 4 dX3_flipAll_63 rfl rfl (by decide) rfl ?_
      refine R_goto o 13 dX3_flipAll_66 (by decide) ?_
      refine R_drop (lv2 := [(0, rA g 9), (1, rA g a1), (2, rA g a2), (3, .int x3), (4, .int (x4 + 1))]) o [0, 1, 2, 3, 4] rfl ?_
      exact T_some (fun p => p)
    · refine R_aload_n o 1 dX3_flipAll_51 rfl rfl ?_
      refine R_iload o 5 dX3_flipAll_52 rfl ?_
      refine R_aload_n o 1 dX3_flipAll_54 rfl rfl ?_
      refine R_iload o 5 dX3_flipAll_55 rfl ?_
      refine K_i (callV' (As := [.int r32]) (rest := [.int r32, rA g a1]) o dX3_flipAll_57 lk_X3_91 rfl ha1 rfl rfl rfl rfl (Nat.le_of_ble_eq_true rfl)) (c_X1_flippedAt g l h a1 r32 ha1) (fun r57 => ?_)
      refine K_vh (callV' (As := [.int r32, .int r57]) (rest := []) o dX3_flipAll_60 lk_X3_94 rfl ha1 rfl rfl rfl rfl (Nat.le_of_ble_eq_true rfl)) (c_X1_setDot g l h a1 r32 r57 ha1) (fun h60 => ?_)
      refine R_iinc (v := (x4 + 1)) (lv2 := [(0, rA g 9), (1, rA g a1), (2, rA g a2), (3, .int x3), (4, .int (x4 + 1)), (5, .int r32)]) o 4 dX3_flipAll_63 rfl rfl (by decide) rfl ?_
      refine R_goto o 13 dX3_flipAll_66 (by decide) ?_
      refine R_drop (lv2 := [(0, rA g 9), (1, rA g a1), (2, rA g a2), (3, .int x3), (4, .int (x4 + 1))]) o [0, 1, 2, 3, 4] rfl ?_
      exact T_some (fun p => p)
  · refine R_drop (lv2 := [(0, rA g 9), (1, rA g a1), (2, rA g a2), (3, .int x3)]) o [0, 1, 2, 3] rfl ?_
    exact T_some (fun p => p)
noncomputable def f_X3_flipAll_L13 (h : MH) (a1 : Nat) (a2 : Nat) (x3 : Int32) (x4 : Int32) : Option (MH) :=
  lpo (fun s : Int32 × MH => f_X3_flipAll_B13 s.2 a1 a2 x3 s.1) (x4, h)
theorem t_X3_flipAll_L13 {g : Gx} {l : Launch} {V : VT} {Rt : Option Value → MH → Prop} (o : Ok g l RX3 cX3_flipAll 6 3 64 0 V) (rr : ORv cX3_flipAll V Rt) (h : MH) (a1 : Nat) (a2 : Nat) (x3 : Int32) (x4 : Int32) (ha1 : shp a1 = (1, 0)) (ha2 : shp a2 = (0, 0)) : T (fun b => V 69 [(0, rA g 9), (1, rA g a1), (2, rA g a2), (3, .int x3)] [] b) (f_X3_flipAll_L13 h a1 a2 x3 x4) (V 13 [(0, rA g 9), (1, rA g a1), (2, rA g a2), (3, .int x3), (4, .int x4)] [] h) := T_loop (head := fun s : Int32 × MH => V 13 [(0, rA g 9), (1, rA g a1), (2, rA g a2), (3, .int x3), (4, .int s.1)] [] s.2) (fun s => t_X3_flipAll_B13 o rr s.2 a1 a2 x3 s.1 ha1 ha2) (x4, h)
noncomputable def f_X3_flipAll_B2 (h : MH) (a1 : Nat) (a2 : Nat) (x3 : Int32) : Option ((Int32 × MH) ⊕ (MH)) :=
  (if x3 < (h.1 9 4) then Option.bind (f_X3_flipAll_L13 h a1 a2 x3 0) (fun b13 => some (.inl ((x3 + 1), b13))) else some (.inr h))
set_option maxRecDepth 100000 in
set_option maxHeartbeats 4000000 in
theorem t_X3_flipAll_B2 {g : Gx} {l : Launch} {V : VT} {Rt : Option Value → MH → Prop} (o : Ok g l RX3 cX3_flipAll 6 3 64 0 V) (rr : ORv cX3_flipAll V Rt) (h : MH) (a1 : Nat) (a2 : Nat) (x3 : Int32) (ha1 : shp a1 = (1, 0)) (ha2 : shp a2 = (0, 0)) : T (Sum.elim (fun s => V 2 [(0, rA g 9), (1, rA g a1), (2, rA g a2), (3, .int s.1)] [] s.2) (fun b => V 75 [] [] b)) (f_X3_flipAll_B2  h a1 a2 x3) (V 2 [(0, rA g 9), (1, rA g a1), (2, rA g a2), (3, .int x3)] [] h) := by
  unfold f_X3_flipAll_B2
  refine R_iload_n o 3 dX3_flipAll_2 rfl rfl ?_
  refine R_aload_n o 0 dX3_flipAll_3 rfl rfl ?_
  refine R_getI o dX3_flipAll_4 fl_X3_24 sh_9 (by decide) rfl ?_
  refine R_icmp_ge o 75 dX3_flipAll_7 (by decide) ?_ ?_
  · refine R_iconst (v := 0) o dX3_flipAll_10 (by decide) ?_
    refine R_istore (lv2 := [(0, rA g 9), (1, rA g a1), (2, rA g a2), (3, .int x3), (4, .int 0)]) o dX3_flipAll_11 (by decide) rfl ?_
    refine T_bind (t_X3_flipAll_L13 o rr h a1 a2 x3 0 ha1 ha2) (fun b13 => ?_)
    refine R_iinc (v := (x3 + 1)) (lv2 := [(0, rA g 9), (1, rA g a1), (2, rA g a2), (3, .int (x3 + 1))]) o 3 dX3_flipAll_69 rfl rfl (by decide) rfl ?_
    refine R_goto o 2 dX3_flipAll_72 (by decide) ?_
    exact T_some (fun p => p)
  · refine R_drop (lv2 := []) o [] rfl ?_
    exact T_some (fun p => p)
noncomputable def f_X3_flipAll_L2 (h : MH) (a1 : Nat) (a2 : Nat) (x3 : Int32) : Option (MH) :=
  lpo (fun s : Int32 × MH => f_X3_flipAll_B2 s.2 a1 a2 s.1) (x3, h)
theorem t_X3_flipAll_L2 {g : Gx} {l : Launch} {V : VT} {Rt : Option Value → MH → Prop} (o : Ok g l RX3 cX3_flipAll 6 3 64 0 V) (rr : ORv cX3_flipAll V Rt) (h : MH) (a1 : Nat) (a2 : Nat) (x3 : Int32) (ha1 : shp a1 = (1, 0)) (ha2 : shp a2 = (0, 0)) : T (fun b => V 75 [] [] b) (f_X3_flipAll_L2 h a1 a2 x3) (V 2 [(0, rA g 9), (1, rA g a1), (2, rA g a2), (3, .int x3)] [] h) := T_loop (head := fun s : Int32 × MH => V 2 [(0, rA g 9), (1, rA g a1), (2, rA g a2), (3, .int s.1)] [] s.2) (fun s => t_X3_flipAll_B2 o rr s.2 a1 a2 s.1 ha1 ha2) (x3, h)
noncomputable def f_X3_flipAll (h : MH) (a1 : Nat) (a2 : Nat) : Option MH :=
  Option.bind (f_X3_flipAll_L2 h a1 a2 0) (fun b2 => some b2)
set_option maxRecDepth 100000 in
set_option maxHeartbeats 4000000 in
theorem b_X3_flipAll {g : Gx} {l : Launch} {V : VT} {Rt : Option Value → MH → Prop} (o : Ok g l RX3 cX3_flipAll 6 3 64 0 V) (rr : ORv cX3_flipAll V Rt) (h : MH) (a1 : Nat) (a2 : Nat) (ha1 : shp a1 = (1, 0)) (ha2 : shp a2 = (0, 0)) : T (fun r => Rt none r) (f_X3_flipAll h a1 a2) (V 0 [(0, rA g 9), (1, rA g a1), (2, rA g a2)] [] h) := by
  unfold f_X3_flipAll
  refine R_iconst (v := 0) o dX3_flipAll_0 (by decide) ?_
  refine R_istore_n (lv2 := [(0, rA g 9), (1, rA g a1), (2, rA g a2), (3, .int 0)]) o dX3_flipAll_1 rfl (by decide) rfl ?_
  refine T_bind (t_X3_flipAll_L2 o rr h a1 a2 0 ha1 ha2) (fun b2 => ?_)
  exact T_some (fun p => rr _ _ _ dX3_flipAll_75 p)
theorem c_X3_flipAll (g : Gx) (l : Launch) (h : MH) (a1 : Nat) (a2 : Nat) (ha1 : shp a1 = (1, 0)) (ha2 : shp a2 = (0, 0)) (r : MH) (e : f_X3_flipAll h a1 a2 = some r) : Ctr g l yX3_flipAll cX3_flipAll 6 none 3 64 0 [rA g 9, rA g a1, rA g a2] h none r := mkCv (plainFor_of_name (by decide)) (Nat.le_of_ble_eq_true rfl) (fun V Rt o rr p => b_X3_flipAll o rr h a1 a2 ha1 ha2 r e p)
/-! J6_bitCount_0f7a4 -/
noncomputable def f_J6_bitCount_0f7a4 (x0 : Int32) : Option Int32 :=
  nm (x0 - ((ushr x0 1) &&& 1431655765)) (fun v9 => nm ((v9 &&& 858993459) + ((ushr v9 2) &&& 858993459)) (fun v23 => nm ((v23 + (ushr v23 4)) &&& 252645135) (fun v33 => nm (v33 + (ushr v33 8)) (fun v40 => nm (v40 + (ushr v40 16)) (fun v47 => some (v47 &&& 63))))))
set_option maxRecDepth 100000 in
set_option maxHeartbeats 4000000 in
theorem b_J6_bitCount_0f7a4 {g : Gx} {l : Launch} {V : VT} {Rt : Option Value → MH → Prop} (o : Ok g l RJ6 cJ6_bitCount_0f7a4 1 0 0 0 V) (rr : ORi cJ6_bitCount_0f7a4 V Rt) (h : MH) (x0 : Int32) : T (fun r => Rt (some (.int r)) h) (f_J6_bitCount_0f7a4  x0) (V 0 [(0, .int x0)] [] h) := by
  unfold f_J6_bitCount_0f7a4
  refine R_iload_n o 0 dJ6_bitCount_0f7a4_0 rfl rfl ?_
  refine R_iload_n o 0 dJ6_bitCount_0f7a4_1 rfl rfl ?_
  refine R_iconst (v := 1) o dJ6_bitCount_0f7a4_2 (by decide) ?_
  refine R_iushr o dJ6_bitCount_0f7a4_3 ?_
  refine R_ldcw (v := 1431655765) o dJ6_bitCount_0f7a4_4 kc_J6_265 ?_
  refine R_iand o dJ6_bitCount_0f7a4_7 ?_
  refine R_isub o dJ6_bitCount_0f7a4_8 ?_
  refine R_nmI (fun v9 => ?_)
  refine R_istore_n (lv2 := [(0, .int v9)]) o dJ6_bitCount_0f7a4_9 rfl (by decide) rfl ?_
  refine R_iload_n o 0 dJ6_bitCount_0f7a4_10 rfl rfl ?_
  refine R_ldcw (v := 858993459) o dJ6_bitCount_0f7a4_11 kc_J6_266 ?_
  refine R_iand o dJ6_bitCount_0f7a4_14 ?_
  refine R_iload_n o 0 dJ6_bitCount_0f7a4_15 rfl rfl ?_
  refine R_iconst (v := 2) o dJ6_bitCount_0f7a4_16 (by decide) ?_
  refine R_iushr o dJ6_bitCount_0f7a4_17 ?_
  refine R_ldcw (v := 858993459) o dJ6_bitCount_0f7a4_18 kc_J6_266 ?_
  refine R_iand o dJ6_bitCount_0f7a4_21 ?_
  refine R_iadd o dJ6_bitCount_0f7a4_22 ?_
  refine R_nmI (fun v23 => ?_)
  refine R_istore_n (lv2 := [(0, .int v23)]) o dJ6_bitCount_0f7a4_23 rfl (by decide) rfl ?_
  refine R_iload_n o 0 dJ6_bitCount_0f7a4_24 rfl rfl ?_
  refine R_iload_n o 0 dJ6_bitCount_0f7a4_25 rfl rfl ?_
  refine R_iconst (v := 4) o dJ6_bitCount_0f7a4_26 (by decide) ?_
  refine R_iushr o dJ6_bitCount_0f7a4_27 ?_
  refine R_iadd o dJ6_bitCount_0f7a4_28 ?_
  refine R_ldcw (v := 252645135) o dJ6_bitCount_0f7a4_29 kc_J6_267 ?_
  refine R_iand o dJ6_bitCount_0f7a4_32 ?_
  refine R_nmI (fun v33 => ?_)
  refine R_istore_n (lv2 := [(0, .int v33)]) o dJ6_bitCount_0f7a4_33 rfl (by decide) rfl ?_
  refine R_iload_n o 0 dJ6_bitCount_0f7a4_34 rfl rfl ?_
  refine R_iload_n o 0 dJ6_bitCount_0f7a4_35 rfl rfl ?_
  refine R_bipush (v := 8) o dJ6_bitCount_0f7a4_36 (by decide) ?_
  refine R_iushr o dJ6_bitCount_0f7a4_38 ?_
  refine R_iadd o dJ6_bitCount_0f7a4_39 ?_
  refine R_nmI (fun v40 => ?_)
  refine R_istore_n (lv2 := [(0, .int v40)]) o dJ6_bitCount_0f7a4_40 rfl (by decide) rfl ?_
  refine R_iload_n o 0 dJ6_bitCount_0f7a4_41 rfl rfl ?_
  refine R_iload_n o 0 dJ6_bitCount_0f7a4_42 rfl rfl ?_
  refine R_bipush (v := 16) o dJ6_bitCount_0f7a4_43 (by decide) ?_
  refine R_iushr o dJ6_bitCount_0f7a4_45 ?_
  refine R_iadd o dJ6_bitCount_0f7a4_46 ?_
  refine R_nmI (fun v47 => ?_)
  refine R_istore_n (lv2 := [(0, .int v47)]) o dJ6_bitCount_0f7a4_47 rfl (by decide) rfl ?_
  refine R_iload_n o 0 dJ6_bitCount_0f7a4_48 rfl rfl ?_
  refine R_bipush (v := 63) o dJ6_bitCount_0f7a4_49 (by decide) ?_
  refine R_iand o dJ6_bitCount_0f7a4_51 ?_
  exact T_some (fun p => rr _ _ _ _ dJ6_bitCount_0f7a4_52 p)
theorem c_J6_bitCount_0f7a4 (g : Gx) (l : Launch) (h : MH) (x0 : Int32) (r : Int32) (e : f_J6_bitCount_0f7a4  x0 = some r) : Ctr g l yJ6_bitCount_0f7a4 cJ6_bitCount_0f7a4 1 (some .int) 0 0 0 [.int x0] h (some (.int r)) h := mkCi (plainFor_of_name (by decide)) (Nat.le_of_ble_eq_true rfl) (fun V Rt o rr p => b_J6_bitCount_0f7a4 o rr h x0  r e p)
/-! X3_countFlips -/
noncomputable def f_X3_countFlips_B4 (h : MH) (x1 : Int32) (x2 : Int32) : Option ((Int32 × Int32) ⊕ (Int32)) :=
  (if x2 < (h.1 9 4) then gd (ix x2 40) (Option.bind (f_J6_bitCount_0f7a4 (h.1 13 x2.toNatClampNeg)) (fun r19 => nm (x1 + r19) (fun v23 => some (.inl (v23, (x2 + 1)))))) else some (.inr x1))
set_option maxRecDepth 100000 in
set_option maxHeartbeats 4000000 in
theorem t_X3_countFlips_B4 {g : Gx} {l : Launch} {V : VT} {Rt : Option Value → MH → Prop} (o : Ok g l RX3 cX3_countFlips 3 1 20 0 V) (rr : ORi cX3_countFlips V Rt) (h : MH) (x1 : Int32) (x2 : Int32) : T (Sum.elim (fun s => V 4 [(0, rA g 9), (1, .int s.1), (2, .int s.2)] [] h) (fun b => V 30 [(1, .int b)] [] h)) (f_X3_countFlips_B4  h x1 x2) (V 4 [(0, rA g 9), (1, .int x1), (2, .int x2)] [] h) := by
  unfold f_X3_countFlips_B4
  refine R_iload_n o 2 dX3_countFlips_4 rfl rfl ?_
  refine R_aload_n o 0 dX3_countFlips_5 rfl rfl ?_
  refine R_getI o dX3_countFlips_6 fl_X3_24 sh_9 (by decide) rfl ?_
  refine R_icmp_ge o 30 dX3_countFlips_9 (by decide) ?_ ?_
  · refine R_iload_n o 1 dX3_countFlips_12 rfl rfl ?_
    refine R_aload_n o 0 dX3_countFlips_13 rfl rfl ?_
    refine R_getR (a2 := 13) o dX3_countFlips_14 fl_X3_21 sh_9 (by decide) rfl rf_9_3 ?_
    refine R_iload_n o 2 dX3_countFlips_17 rfl rfl ?_
    refine R_iald o dX3_countFlips_18 sh_13 ?_
    refine K_i (callS' (av := [.int (h.1 13 x2.toNatClampNeg)]) (rest := [.int x1]) o dX3_countFlips_19 lk_X3_98 rfl rfl rfl (Nat.le_of_ble_eq_true rfl)) (c_J6_bitCount_0f7a4 g l h (h.1 13 x2.toNatClampNeg)) (fun r19 => ?_)
    refine R_iadd o dX3_countFlips_22 ?_
    refine R_nmI (fun v23 => ?_)
    refine R_istore_n (lv2 := [(0, rA g 9), (1, .int v23), (2, .int x2)]) o dX3_countFlips_23 rfl (by decide) rfl ?_
    refine R_iinc (v := (x2 + 1)) (lv2 := [(0, rA g 9), (1, .int v23), (2, .int (x2 + 1))]) o 2 dX3_countFlips_24 rfl rfl (by decide) rfl ?_
    refine R_goto o 4 dX3_countFlips_27 (by decide) ?_
    exact T_some (fun p => p)
  · refine R_drop (lv2 := [(1, .int x1)]) o [1] rfl ?_
    exact T_some (fun p => p)
noncomputable def f_X3_countFlips_L4 (h : MH) (x1 : Int32) (x2 : Int32) : Option (Int32) :=
  lpo (fun s : Int32 × Int32 => f_X3_countFlips_B4 h s.1 s.2) (x1, x2)
theorem t_X3_countFlips_L4 {g : Gx} {l : Launch} {V : VT} {Rt : Option Value → MH → Prop} (o : Ok g l RX3 cX3_countFlips 3 1 20 0 V) (rr : ORi cX3_countFlips V Rt) (h : MH) (x1 : Int32) (x2 : Int32) : T (fun b => V 30 [(1, .int b)] [] h) (f_X3_countFlips_L4 h x1 x2) (V 4 [(0, rA g 9), (1, .int x1), (2, .int x2)] [] h) := T_loop (head := fun s : Int32 × Int32 => V 4 [(0, rA g 9), (1, .int s.1), (2, .int s.2)] [] h) (fun s => t_X3_countFlips_B4 o rr h s.1 s.2 ) (x1, x2)
noncomputable def f_X3_countFlips (h : MH)  : Option Int32 :=
  Option.bind (f_X3_countFlips_L4 h 0 0) (fun b4 => some b4)
set_option maxRecDepth 100000 in
set_option maxHeartbeats 4000000 in
theorem b_X3_countFlips {g : Gx} {l : Launch} {V : VT} {Rt : Option Value → MH → Prop} (o : Ok g l RX3 cX3_countFlips 3 1 20 0 V) (rr : ORi cX3_countFlips V Rt) (h : MH)  : T (fun r => Rt (some (.int r)) h) (f_X3_countFlips h) (V 0 [(0, rA g 9)] [] h) := by
  unfold f_X3_countFlips
  refine R_iconst (v := 0) o dX3_countFlips_0 (by decide) ?_
  refine R_istore_n (lv2 := [(0, rA g 9), (1, .int 0)]) o dX3_countFlips_1 rfl (by decide) rfl ?_
  refine R_iconst (v := 0) o dX3_countFlips_2 (by decide) ?_
  refine R_istore_n (lv2 := [(0, rA g 9), (1, .int 0), (2, .int 0)]) o dX3_countFlips_3 rfl (by decide) rfl ?_
  refine T_bind (t_X3_countFlips_L4 o rr h 0 0) (fun b4 => ?_)
  refine R_iload_n o 0 dX3_countFlips_30 rfl rfl ?_
  exact T_some (fun p => rr _ _ _ _ dX3_countFlips_31 p)
theorem c_X3_countFlips (g : Gx) (l : Launch) (h : MH)  (r : Int32) (e : f_X3_countFlips h = some r) : Ctr g l yX3_countFlips cX3_countFlips 3 (some .int) 1 20 0 [rA g 9] h (some (.int r)) h := mkCi (plainFor_of_name (by decide)) (Nat.le_of_ble_eq_true rfl) (fun V Rt o rr p => b_X3_countFlips o rr h   r e p)
/-! X3_weigh -/
noncomputable def f_X3_weigh_B6 (h : MH) (a1 : Nat) (x2 : Int32) : Option ((Int32 × MH) ⊕ (MH)) :=
  (if x2 < (h.1 a1 2) then Option.bind (f_X0_columnAt h a1 x2) (fun r18 => Option.bind (f_X3_growSets h x2 r18 1) (fun h22 => some (.inl ((x2 + 1), h22)))) else some (.inr h))
set_option maxRecDepth 100000 in
set_option maxHeartbeats 4000000 in
theorem t_X3_weigh_B6 {g : Gx} {l : Launch} {V : VT} {Rt : Option Value → MH → Prop} (o : Ok g l RX3 cX3_weigh 3 3 65 0 V) (rr : ORv cX3_weigh V Rt) (h : MH) (a1 : Nat) (x2 : Int32) (ha1 : shp a1 = (0, 0)) : T (Sum.elim (fun s => V 6 [(0, rA g 9), (1, rA g a1), (2, .int s.1)] [] s.2) (fun b => V 31 [] [] b)) (f_X3_weigh_B6  h a1 x2) (V 6 [(0, rA g 9), (1, rA g a1), (2, .int x2)] [] h) := by
  unfold f_X3_weigh_B6
  refine R_iload_n o 2 dX3_weigh_6 rfl rfl ?_
  refine R_aload_n o 1 dX3_weigh_7 rfl rfl ?_
  refine R_getI o dX3_weigh_8 fl_X3_41 ha1 (by decide) rfl ?_
  refine R_icmp_ge o 31 dX3_weigh_11 (by decide) ?_ ?_
  · refine R_aload_n o 0 dX3_weigh_14 rfl rfl ?_
    refine R_iload_n o 2 dX3_weigh_15 rfl rfl ?_
    refine R_aload_n o 1 dX3_weigh_16 rfl rfl ?_
    refine R_iload_n o 2 dX3_weigh_17 rfl rfl ?_
    refine K_i (callV' (As := [.int x2]) (rest := [.int x2, rA g 9]) o dX3_weigh_18 lk_X3_54 rfl ha1 rfl rfl rfl rfl (Nat.le_of_ble_eq_true rfl)) (c_X0_columnAt g l h a1 x2 ha1) (fun r18 => ?_)
    refine R_iconst (v := 1) o dX3_weigh_21 (by decide) ?_
    refine K_vh (callV' (As := [.int x2, .int r18, .int 1]) (rest := []) o dX3_weigh_22 lk_X3_83 rfl sh_9 rfl rfl rfl rfl (Nat.le_of_ble_eq_true rfl)) (c_X3_growSets g l h x2 r18 1) (fun h22 => ?_)
    refine R_iinc (v := (x2 + 1)) (lv2 := [(0, rA g 9), (1, rA g a1), (2, .int (x2 + 1))]) o 2 dX3_weigh_25 rfl rfl (by decide) rfl ?_
    refine R_goto o 6 dX3_weigh_28 (by decide) ?_
    exact T_some (fun p => p)
  · refine R_drop (lv2 := []) o [] rfl ?_
    exact T_some (fun p => p)
noncomputable def f_X3_weigh_L6 (h : MH) (a1 : Nat) (x2 : Int32) : Option (MH) :=
  lpo (fun s : Int32 × MH => f_X3_weigh_B6 s.2 a1 s.1) (x2, h)
theorem t_X3_weigh_L6 {g : Gx} {l : Launch} {V : VT} {Rt : Option Value → MH → Prop} (o : Ok g l RX3 cX3_weigh 3 3 65 0 V) (rr : ORv cX3_weigh V Rt) (h : MH) (a1 : Nat) (x2 : Int32) (ha1 : shp a1 = (0, 0)) : T (fun b => V 31 [] [] b) (f_X3_weigh_L6 h a1 x2) (V 6 [(0, rA g 9), (1, rA g a1), (2, .int x2)] [] h) := T_loop (head := fun s : Int32 × MH => V 6 [(0, rA g 9), (1, rA g a1), (2, .int s.1)] [] s.2) (fun s => t_X3_weigh_B6 o rr s.2 a1 s.1 ha1) (x2, h)
noncomputable def f_X3_weigh (h : MH) (a1 : Nat) : Option MH :=
  Option.bind (f_X3_startSets h) (fun h1 => Option.bind (f_X3_weigh_L6 h1 a1 0) (fun b6 => some b6))
set_option maxRecDepth 100000 in
set_option maxHeartbeats 4000000 in
theorem b_X3_weigh {g : Gx} {l : Launch} {V : VT} {Rt : Option Value → MH → Prop} (o : Ok g l RX3 cX3_weigh 3 3 65 0 V) (rr : ORv cX3_weigh V Rt) (h : MH) (a1 : Nat) (ha1 : shp a1 = (0, 0)) : T (fun r => Rt none r) (f_X3_weigh h a1) (V 0 [(0, rA g 9), (1, rA g a1)] [] h) := by
  unfold f_X3_weigh
  refine R_aload_n o 0 dX3_weigh_0 rfl rfl ?_
  refine K_vh (callV' (As := []) (rest := []) o dX3_weigh_1 lk_X3_73 rfl sh_9 rfl rfl rfl rfl (Nat.le_of_ble_eq_true rfl)) (c_X3_startSets g l h) (fun h1 => ?_)
  refine R_iconst (v := 0) o dX3_weigh_4 (by decide) ?_
  refine R_istore_n (lv2 := [(0, rA g 9), (1, rA g a1), (2, .int 0)]) o dX3_weigh_5 rfl (by decide) rfl ?_
  refine T_bind (t_X3_weigh_L6 o rr h1 a1 0 ha1) (fun b6 => ?_)
  exact T_some (fun p => rr _ _ _ dX3_weigh_31 p)
theorem c_X3_weigh (g : Gx) (l : Launch) (h : MH) (a1 : Nat) (ha1 : shp a1 = (0, 0)) (r : MH) (e : f_X3_weigh h a1 = some r) : Ctr g l yX3_weigh cX3_weigh 3 none 3 65 0 [rA g 9, rA g a1] h none r := mkCv (plainFor_of_name (by decide)) (Nat.le_of_ble_eq_true rfl) (fun V Rt o rr p => b_X3_weigh o rr h a1 ha1 r e p)
/-! X3_countReached -/
noncomputable def f_X3_countReached_B13 (h : MH) (x1 : Int32) (x3 : Int32) (x4 : Int32) : Option ((Int32 × Int32) ⊕ (Int32)) :=
  (if x4 < x3 then gd (ix x4 64) (nm (h.1 11 x4.toNatClampNeg) (fun v23 => (if v23 = 1000000 then some (.inl (x1, (x4 + 1))) else some (.inl ((x1 + 1), (x4 + 1)))))) else some (.inr x1))
set_option maxRecDepth 100000 in
set_option maxHeartbeats 4000000 in
theorem t_X3_countReached_B13 {g : Gx} {l : Launch} {V : VT} {Rt : Option Value → MH → Prop} (o : Ok g l RX3 cX3_countReached 6 0 0 0 V) (rr : ORi cX3_countReached V Rt) (h : MH) (x1 : Int32) (x3 : Int32) (x4 : Int32) : T (Sum.elim (fun s => V 13 [(1, .int s.1), (2, rA g 11), (3, .int x3), (4, .int s.2)] [] h) (fun b => V 41 [(1, .int b)] [] h)) (f_X3_countReached_B13  h x1 x3 x4) (V 13 [(1, .int x1), (2, rA g 11), (3, .int x3), (4, .int x4)] [] h) := by
  unfold f_X3_countReached_B13
  refine R_iload o 3 dX3_countReached_13 rfl ?_
  refine R_iload_n o 2 dX3_countReached_15 rfl rfl ?_
  refine R_icmp_ge o 41 dX3_countReached_16 (by decide) ?_ ?_
  · refine R_aload_n o 1 dX3_countReached_19 rfl rfl ?_
    refine R_iload o 3 dX3_countReached_20 rfl ?_
    refine R_iald o dX3_countReached_22 sh_11 ?_
    refine R_nmI (fun v23 => ?_)
    refine R_istore (lv2 := [(1, .int x1), (2, rA g 11), (3, .int x3), (4, .int x4), (5, .int v23)]) o dX3_countReached_23 (by decide) rfl ?_
    refine R_iload o 4 dX3_countReached_25 rfl ?_
    refine R_ldc (v := 1000000) o dX3_countReached_27 kc_X3_87 ?_
    refine R_icmp_eq o 35 dX3_countReached_29 (by decide) ?_ ?_
    · refine R_iinc (v := (x4 + 1)) (lv2 := [(1, .int x1), (2, rA g 11), (3, .int x3), (4, .int (x4 + 1)), (5, .int v23)]) o 3 dX3_countReached_35 rfl rfl (by decide) rfl ?_
      refine R_goto o 13 dX3_countReached_38 (by decide) ?_
      refine R_drop (lv2 := [(1, .int x1), (2, rA g 11), (3, .int x3), (4, .int (x4 + 1))]) o [0, 1, 2, 3] rfl ?_
      exact T_some (fun p => p)
    · refine R_iinc (v := (x1 + 1)) (lv2 := [(1, .int (x1 + 1)), (2, rA g 11), (3, .int x3), (4, .int x4), (5, .int v23)]) o 0 dX3_countReached_32 rfl rfl (by decide) rfl ?_
      refine R_iinc (v := (x4 + 1)) (lv2 := [(1, .int (x1 + 1)), (2, rA g 11), (3, .int x3), (4, .int (x4 + 1)), (5, .int v23)]) o 3 dX3_countReached_35 rfl rfl (by decide) rfl ?_
      refine R_goto o 13 dX3_countReached_38 (by decide) ?_
      refine R_drop (lv2 := [(1, .int (x1 + 1)), (2, rA g 11), (3, .int x3), (4, .int (x4 + 1))]) o [0, 1, 2, 3] rfl ?_
      exact T_some (fun p => p)
  · refine R_drop (lv2 := [(1, .int x1)]) o [0] rfl ?_
    exact T_some (fun p => p)
noncomputable def f_X3_countReached_L13 (h : MH) (x1 : Int32) (x3 : Int32) (x4 : Int32) : Option (Int32) :=
  lpo (fun s : Int32 × Int32 => f_X3_countReached_B13 h s.1 x3 s.2) (x1, x4)
theorem t_X3_countReached_L13 {g : Gx} {l : Launch} {V : VT} {Rt : Option Value → MH → Prop} (o : Ok g l RX3 cX3_countReached 6 0 0 0 V) (rr : ORi cX3_countReached V Rt) (h : MH) (x1 : Int32) (x3 : Int32) (x4 : Int32) : T (fun b => V 41 [(1, .int b)] [] h) (f_X3_countReached_L13 h x1 x3 x4) (V 13 [(1, .int x1), (2, rA g 11), (3, .int x3), (4, .int x4)] [] h) := T_loop (head := fun s : Int32 × Int32 => V 13 [(1, .int s.1), (2, rA g 11), (3, .int x3), (4, .int s.2)] [] h) (fun s => t_X3_countReached_B13 o rr h s.1 x3 s.2 ) (x1, x4)
noncomputable def f_X3_countReached (h : MH)  : Option Int32 :=
  Option.bind (f_X3_countReached_L13 h 0 64 0) (fun b13 => some b13)
set_option maxRecDepth 100000 in
set_option maxHeartbeats 4000000 in
theorem b_X3_countReached {g : Gx} {l : Launch} {V : VT} {Rt : Option Value → MH → Prop} (o : Ok g l RX3 cX3_countReached 6 0 0 0 V) (rr : ORi cX3_countReached V Rt) (h : MH)  : T (fun r => Rt (some (.int r)) h) (f_X3_countReached h) (V 0 [(0, rA g 9)] [] h) := by
  unfold f_X3_countReached
  refine R_iconst (v := 0) o dX3_countReached_0 (by decide) ?_
  refine R_istore_n (lv2 := [(0, rA g 9), (1, .int 0)]) o dX3_countReached_1 rfl (by decide) rfl ?_
  refine R_aload_n o 0 dX3_countReached_2 rfl rfl ?_
  refine R_getR (a2 := 11) o dX3_countReached_3 fl_X3_15 sh_9 (by decide) rfl rf_9_1 ?_
  refine R_astore_n (lv2 := [(0, rA g 9), (1, .int 0), (2, rA g 11)]) o dX3_countReached_6 rfl (by decide) rfl ?_
  refine R_aload_n o 2 dX3_countReached_7 rfl rfl ?_
  refine R_alenI (v := 64) o dX3_countReached_8 sh_11 (Or.inl rfl) rfl ?_
  refine R_istore_n (lv2 := [(0, rA g 9), (1, .int 0), (2, rA g 11), (3, .int 64)]) o dX3_countReached_9 rfl (by decide) rfl ?_
  refine R_iconst (v := 0) o dX3_countReached_10 (by decide) ?_
  refine R_istore (lv2 := [(0, rA g 9), (1, .int 0), (2, rA g 11), (3, .int 64), (4, .int 0)]) o dX3_countReached_11 (by decide) rfl ?_
  refine R_drop (lv2 := [(1, .int 0), (2, rA g 11), (3, .int 64), (4, .int 0)]) o [1, 2, 3, 4] rfl ?_
  refine T_bind (t_X3_countReached_L13 o rr h 0 64 0) (fun b13 => ?_)
  refine R_iload_n o 0 dX3_countReached_41 rfl rfl ?_
  exact T_some (fun p => rr _ _ _ _ dX3_countReached_42 p)
theorem c_X3_countReached (g : Gx) (l : Launch) (h : MH)  (r : Int32) (e : f_X3_countReached h = some r) : Ctr g l yX3_countReached cX3_countReached 6 (some .int) 0 0 0 [rA g 9] h (some (.int r)) h := mkCi (plainFor_of_name (by decide)) (Nat.le_of_ble_eq_true rfl) (fun V Rt o rr p => b_X3_countReached o rr h   r e p)
/-! X3_sumOfCosts -/
noncomputable def f_X3_sumOfCosts_B13 (h : MH) (x1 : Int32) (x3 : Int32) (x4 : Int32) : Option ((Int32 × Int32) ⊕ (Int32)) :=
  (if x4 < x3 then gd (ix x4 64) (nm (h.1 11 x4.toNatClampNeg) (fun v23 => (if v23 = 1000000 then some (.inl (x1, (x4 + 1))) else nm (x1 + v23) (fun v36 => some (.inl (v36, (x4 + 1))))))) else some (.inr x1))
set_option maxRecDepth 100000 in
set_option maxHeartbeats 4000000 in
theorem t_X3_sumOfCosts_B13 {g : Gx} {l : Launch} {V : VT} {Rt : Option Value → MH → Prop} (o : Ok g l RX3 cX3_sumOfCosts 6 0 0 0 V) (rr : ORi cX3_sumOfCosts V Rt) (h : MH) (x1 : Int32) (x3 : Int32) (x4 : Int32) : T (Sum.elim (fun s => V 13 [(1, .int s.1), (2, rA g 11), (3, .int x3), (4, .int s.2)] [] h) (fun b => V 43 [(1, .int b)] [] h)) (f_X3_sumOfCosts_B13  h x1 x3 x4) (V 13 [(1, .int x1), (2, rA g 11), (3, .int x3), (4, .int x4)] [] h) := by
  unfold f_X3_sumOfCosts_B13
  refine R_iload o 3 dX3_sumOfCosts_13 rfl ?_
  refine R_iload_n o 2 dX3_sumOfCosts_15 rfl rfl ?_
  refine R_icmp_ge o 43 dX3_sumOfCosts_16 (by decide) ?_ ?_
  · refine R_aload_n o 1 dX3_sumOfCosts_19 rfl rfl ?_
    refine R_iload o 3 dX3_sumOfCosts_20 rfl ?_
    refine R_iald o dX3_sumOfCosts_22 sh_11 ?_
    refine R_nmI (fun v23 => ?_)
    refine R_istore (lv2 := [(1, .int x1), (2, rA g 11), (3, .int x3), (4, .int x4), (5, .int v23)]) o dX3_sumOfCosts_23 (by decide) rfl ?_
    refine R_iload o 4 dX3_sumOfCosts_25 rfl ?_
    refine R_ldc (v := 1000000) o dX3_sumOfCosts_27 kc_X3_87 ?_
    refine R_icmp_eq o 37 dX3_sumOfCosts_29 (by decide) ?_ ?_
    · refine R_iinc (v := (x4 + 1)) (lv2 := [(1, .int x1), (2, rA g 11), (3, .int x3), (4, .int (x4 + 1)), (5, .int v23)]) o 3 dX3_sumOfCosts_37 rfl rfl (by decide) rfl ?_
      refine R_goto o 13 dX3_sumOfCosts_40 (by decide) ?_
      refine R_drop (lv2 := [(1, .int x1), (2, rA g 11), (3, .int x3), (4, .int (x4 + 1))]) o [0, 1, 2, 3] rfl ?_
      exact T_some (fun p => p)
    · refine R_iload_n o 0 dX3_sumOfCosts_32 rfl rfl ?_
      refine R_iload o 4 dX3_sumOfCosts_33 rfl ?_
      refine R_iadd o dX3_sumOfCosts_35 ?_
      refine R_nmI (fun v36 => ?_)
      refine R_istore_n (lv2 := [(1, .int v36), (2, rA g 11), (3, .int x3), (4, .int x4), (5, .int v23)]) o dX3_sumOfCosts_36 rfl (by decide) rfl ?_
      refine R_iinc (v := (x4 + 1)) (lv2 := [(1, .int v36), (2, rA g 11), (3, .int x3), (4, .int (x4 + 1)), (5, .int v23)]) o 3 dX3_sumOfCosts_37 rfl rfl (by decide) rfl ?_
      refine R_goto o 13 dX3_sumOfCosts_40 (by decide) ?_
      refine R_drop (lv2 := [(1, .int v36), (2, rA g 11), (3, .int x3), (4, .int (x4 + 1))]) o [0, 1, 2, 3] rfl ?_
      exact T_some (fun p => p)
  · refine R_drop (lv2 := [(1, .int x1)]) o [0] rfl ?_
    exact T_some (fun p => p)
noncomputable def f_X3_sumOfCosts_L13 (h : MH) (x1 : Int32) (x3 : Int32) (x4 : Int32) : Option (Int32) :=
  lpo (fun s : Int32 × Int32 => f_X3_sumOfCosts_B13 h s.1 x3 s.2) (x1, x4)
theorem t_X3_sumOfCosts_L13 {g : Gx} {l : Launch} {V : VT} {Rt : Option Value → MH → Prop} (o : Ok g l RX3 cX3_sumOfCosts 6 0 0 0 V) (rr : ORi cX3_sumOfCosts V Rt) (h : MH) (x1 : Int32) (x3 : Int32) (x4 : Int32) : T (fun b => V 43 [(1, .int b)] [] h) (f_X3_sumOfCosts_L13 h x1 x3 x4) (V 13 [(1, .int x1), (2, rA g 11), (3, .int x3), (4, .int x4)] [] h) := T_loop (head := fun s : Int32 × Int32 => V 13 [(1, .int s.1), (2, rA g 11), (3, .int x3), (4, .int s.2)] [] h) (fun s => t_X3_sumOfCosts_B13 o rr h s.1 x3 s.2 ) (x1, x4)
noncomputable def f_X3_sumOfCosts (h : MH)  : Option Int32 :=
  Option.bind (f_X3_sumOfCosts_L13 h 0 64 0) (fun b13 => some b13)
set_option maxRecDepth 100000 in
set_option maxHeartbeats 4000000 in
theorem b_X3_sumOfCosts {g : Gx} {l : Launch} {V : VT} {Rt : Option Value → MH → Prop} (o : Ok g l RX3 cX3_sumOfCosts 6 0 0 0 V) (rr : ORi cX3_sumOfCosts V Rt) (h : MH)  : T (fun r => Rt (some (.int r)) h) (f_X3_sumOfCosts h) (V 0 [(0, rA g 9)] [] h) := by
  unfold f_X3_sumOfCosts
  refine R_iconst (v := 0) o dX3_sumOfCosts_0 (by decide) ?_
  refine R_istore_n (lv2 := [(0, rA g 9), (1, .int 0)]) o dX3_sumOfCosts_1 rfl (by decide) rfl ?_
  refine R_aload_n o 0 dX3_sumOfCosts_2 rfl rfl ?_
  refine R_getR (a2 := 11) o dX3_sumOfCosts_3 fl_X3_15 sh_9 (by decide) rfl rf_9_1 ?_
  refine R_astore_n (lv2 := [(0, rA g 9), (1, .int 0), (2, rA g 11)]) o dX3_sumOfCosts_6 rfl (by decide) rfl ?_
  refine R_aload_n o 2 dX3_sumOfCosts_7 rfl rfl ?_
  refine R_alenI (v := 64) o dX3_sumOfCosts_8 sh_11 (Or.inl rfl) rfl ?_
  refine R_istore_n (lv2 := [(0, rA g 9), (1, .int 0), (2, rA g 11), (3, .int 64)]) o dX3_sumOfCosts_9 rfl (by decide) rfl ?_
  refine R_iconst (v := 0) o dX3_sumOfCosts_10 (by decide) ?_
  refine R_istore (lv2 := [(0, rA g 9), (1, .int 0), (2, rA g 11), (3, .int 64), (4, .int 0)]) o dX3_sumOfCosts_11 (by decide) rfl ?_
  refine R_drop (lv2 := [(1, .int 0), (2, rA g 11), (3, .int 64), (4, .int 0)]) o [1, 2, 3, 4] rfl ?_
  refine T_bind (t_X3_sumOfCosts_L13 o rr h 0 64 0) (fun b13 => ?_)
  refine R_iload_n o 0 dX3_sumOfCosts_43 rfl rfl ?_
  exact T_some (fun p => rr _ _ _ _ dX3_sumOfCosts_44 p)
theorem c_X3_sumOfCosts (g : Gx) (l : Launch) (h : MH)  (r : Int32) (e : f_X3_sumOfCosts h = some r) : Ctr g l yX3_sumOfCosts cX3_sumOfCosts 6 (some .int) 0 0 0 [rA g 9] h (some (.int r)) h := mkCi (plainFor_of_name (by decide)) (Nat.le_of_ble_eq_true rfl) (fun V Rt o rr p => b_X3_sumOfCosts o rr h   r e p)
/-! X3_mostCost -/
noncomputable def f_X3_mostCost_B13 (h : MH) (x1 : Int32) (x3 : Int32) (x4 : Int32) : Option ((Int32 × Int32) ⊕ (Int32)) :=
  (if x4 < x3 then gd (ix x4 64) (nm (h.1 11 x4.toNatClampNeg) (fun v23 => (if v23 = 1000000 then some (.inl (x1, (x4 + 1))) else Option.bind (f_J9_max_7cf53 x1 v23) (fun r35 => some (.inl (r35, (x4 + 1))))))) else some (.inr x1))
set_option maxRecDepth 100000 in
set_option maxHeartbeats 4000000 in
theorem t_X3_mostCost_B13 {g : Gx} {l : Launch} {V : VT} {Rt : Option Value → MH → Prop} (o : Ok g l RX3 cX3_mostCost 6 1 21 0 V) (rr : ORi cX3_mostCost V Rt) (h : MH) (x1 : Int32) (x3 : Int32) (x4 : Int32) : T (Sum.elim (fun s => V 13 [(1, .int s.1), (2, rA g 11), (3, .int x3), (4, .int s.2)] [] h) (fun b => V 45 [(1, .int b)] [] h)) (f_X3_mostCost_B13  h x1 x3 x4) (V 13 [(1, .int x1), (2, rA g 11), (3, .int x3), (4, .int x4)] [] h) := by
  unfold f_X3_mostCost_B13
  refine R_iload o 3 dX3_mostCost_13 rfl ?_
  refine R_iload_n o 2 dX3_mostCost_15 rfl rfl ?_
  refine R_icmp_ge o 45 dX3_mostCost_16 (by decide) ?_ ?_
  · refine R_aload_n o 1 dX3_mostCost_19 rfl rfl ?_
    refine R_iload o 3 dX3_mostCost_20 rfl ?_
    refine R_iald o dX3_mostCost_22 sh_11 ?_
    refine R_nmI (fun v23 => ?_)
    refine R_istore (lv2 := [(1, .int x1), (2, rA g 11), (3, .int x3), (4, .int x4), (5, .int v23)]) o dX3_mostCost_23 (by decide) rfl ?_
    refine R_iload o 4 dX3_mostCost_25 rfl ?_
    refine R_ldc (v := 1000000) o dX3_mostCost_27 kc_X3_87 ?_
    refine R_icmp_eq o 39 dX3_mostCost_29 (by decide) ?_ ?_
    · refine R_iinc (v := (x4 + 1)) (lv2 := [(1, .int x1), (2, rA g 11), (3, .int x3), (4, .int (x4 + 1)), (5, .int v23)]) o 3 dX3_mostCost_39 rfl rfl (by decide) rfl ?_
      refine R_goto o 13 dX3_mostCost_42 (by decide) ?_
      refine R_drop (lv2 := [(1, .int x1), (2, rA g 11), (3, .int x3), (4, .int (x4 + 1))]) o [0, 1, 2, 3] rfl ?_
      exact T_some (fun p => p)
    · refine R_iload_n o 0 dX3_mostCost_32 rfl rfl ?_
      refine R_iload o 4 dX3_mostCost_33 rfl ?_
      refine K_i (callS' (av := [.int x1, .int v23]) (rest := []) o dX3_mostCost_35 lk_X3_113 rfl rfl rfl (Nat.le_of_ble_eq_true rfl)) (c_J9_max_7cf53 g l h x1 v23) (fun r35 => ?_)
      refine R_istore_n (lv2 := [(1, .int r35), (2, rA g 11), (3, .int x3), (4, .int x4), (5, .int v23)]) o dX3_mostCost_38 rfl (by decide) rfl ?_
      refine R_iinc (v := (x4 + 1)) (lv2 := [(1, .int r35), (2, rA g 11), (3, .int x3), (4, .int (x4 + 1)), (5, .int v23)]) o 3 dX3_mostCost_39 rfl rfl (by decide) rfl ?_
      refine R_goto o 13 dX3_mostCost_42 (by decide) ?_
      refine R_drop (lv2 := [(1, .int r35), (2, rA g 11), (3, .int x3), (4, .int (x4 + 1))]) o [0, 1, 2, 3] rfl ?_
      exact T_some (fun p => p)
  · refine R_drop (lv2 := [(1, .int x1)]) o [0] rfl ?_
    exact T_some (fun p => p)
noncomputable def f_X3_mostCost_L13 (h : MH) (x1 : Int32) (x3 : Int32) (x4 : Int32) : Option (Int32) :=
  lpo (fun s : Int32 × Int32 => f_X3_mostCost_B13 h s.1 x3 s.2) (x1, x4)
theorem t_X3_mostCost_L13 {g : Gx} {l : Launch} {V : VT} {Rt : Option Value → MH → Prop} (o : Ok g l RX3 cX3_mostCost 6 1 21 0 V) (rr : ORi cX3_mostCost V Rt) (h : MH) (x1 : Int32) (x3 : Int32) (x4 : Int32) : T (fun b => V 45 [(1, .int b)] [] h) (f_X3_mostCost_L13 h x1 x3 x4) (V 13 [(1, .int x1), (2, rA g 11), (3, .int x3), (4, .int x4)] [] h) := T_loop (head := fun s : Int32 × Int32 => V 13 [(1, .int s.1), (2, rA g 11), (3, .int x3), (4, .int s.2)] [] h) (fun s => t_X3_mostCost_B13 o rr h s.1 x3 s.2 ) (x1, x4)
noncomputable def f_X3_mostCost (h : MH)  : Option Int32 :=
  Option.bind (f_X3_mostCost_L13 h 0 64 0) (fun b13 => some b13)
set_option maxRecDepth 100000 in
set_option maxHeartbeats 4000000 in
theorem b_X3_mostCost {g : Gx} {l : Launch} {V : VT} {Rt : Option Value → MH → Prop} (o : Ok g l RX3 cX3_mostCost 6 1 21 0 V) (rr : ORi cX3_mostCost V Rt) (h : MH)  : T (fun r => Rt (some (.int r)) h) (f_X3_mostCost h) (V 0 [(0, rA g 9)] [] h) := by
  unfold f_X3_mostCost
  refine R_iconst (v := 0) o dX3_mostCost_0 (by decide) ?_
  refine R_istore_n (lv2 := [(0, rA g 9), (1, .int 0)]) o dX3_mostCost_1 rfl (by decide) rfl ?_
  refine R_aload_n o 0 dX3_mostCost_2 rfl rfl ?_
  refine R_getR (a2 := 11) o dX3_mostCost_3 fl_X3_15 sh_9 (by decide) rfl rf_9_1 ?_
  refine R_astore_n (lv2 := [(0, rA g 9), (1, .int 0), (2, rA g 11)]) o dX3_mostCost_6 rfl (by decide) rfl ?_
  refine R_aload_n o 2 dX3_mostCost_7 rfl rfl ?_
  refine R_alenI (v := 64) o dX3_mostCost_8 sh_11 (Or.inl rfl) rfl ?_
  refine R_istore_n (lv2 := [(0, rA g 9), (1, .int 0), (2, rA g 11), (3, .int 64)]) o dX3_mostCost_9 rfl (by decide) rfl ?_
  refine R_iconst (v := 0) o dX3_mostCost_10 (by decide) ?_
  refine R_istore (lv2 := [(0, rA g 9), (1, .int 0), (2, rA g 11), (3, .int 64), (4, .int 0)]) o dX3_mostCost_11 (by decide) rfl ?_
  refine R_drop (lv2 := [(1, .int 0), (2, rA g 11), (3, .int 64), (4, .int 0)]) o [1, 2, 3, 4] rfl ?_
  refine T_bind (t_X3_mostCost_L13 o rr h 0 64 0) (fun b13 => ?_)
  refine R_iload_n o 0 dX3_mostCost_45 rfl rfl ?_
  exact T_some (fun p => rr _ _ _ _ dX3_mostCost_46 p)
theorem c_X3_mostCost (g : Gx) (l : Launch) (h : MH)  (r : Int32) (e : f_X3_mostCost h = some r) : Ctr g l yX3_mostCost cX3_mostCost 6 (some .int) 1 21 0 [rA g 9] h (some (.int r)) h := mkCi (plainFor_of_name (by decide)) (Nat.le_of_ble_eq_true rfl) (fun V Rt o rr p => b_X3_mostCost o rr h   r e p)
/-! X4_signBy -/
noncomputable def f_X4_signBy_B4 (h : MH) (x2 : Int32) (x3 : Int32) : Option ((Int32 × Int32 × MH) ⊕ (MH)) :=
  (if x3 < 40 then Option.bind (f_X6_nextOfKey x2) (fun r14 => Option.bind (f_X6_bitsOfKey r14) (fun r24 => (if (irm r24 2) = 1 then gd (ix x3 40) (nm (uI h 15 x3.toNatClampNeg 1) (fun h38 => some (.inl (r14, (x3 + 1), h38)))) else gd (ix x3 40) (nm (uI h 15 x3.toNatClampNeg (-1)) (fun h38 => some (.inl (r14, (x3 + 1), h38))))))) else some (.inr h))
set_option maxRecDepth 100000 in
set_option maxHeartbeats 4000000 in
theorem t_X4_signBy_B4 {g : Gx} {l : Launch} {V : VT} {Rt : Option Value → MH → Prop} (o : Ok g l RX4 cX4_signBy 4 1 20 0 V) (rr : ORv cX4_signBy V Rt) (h : MH) (x2 : Int32) (x3 : Int32) : T (Sum.elim (fun s => V 4 [(0, rA g 14), (2, .int s.1), (3, .int s.2.1)] [] s.2.2) (fun b => V 45 [] [] b)) (f_X4_signBy_B4  h x2 x3) (V 4 [(0, rA g 14), (2, .int x2), (3, .int x3)] [] h) := by
  unfold f_X4_signBy_B4
  refine R_iload_n o 2 dX4_signBy_4 rfl rfl ?_
  refine R_aload_n o 0 dX4_signBy_5 rfl rfl ?_
  refine R_getR (a2 := 15) o dX4_signBy_6 fl_X4_9 sh_14 (by decide) rfl rf_14_0 ?_
  refine R_alenI (v := 40) o dX4_signBy_9 sh_15 (Or.inl rfl) rfl ?_
  refine R_icmp_ge o 45 dX4_signBy_10 (by decide) ?_ ?_
  · refine R_iload_n o 1 dX4_signBy_13 rfl rfl ?_
    refine K_i (callSN' (av := [.int x2]) (rest := []) o dX4_signBy_14 lk_X4_19 rfl rfl rfl (Nat.le_of_ble_eq_true rfl)) (c_X6_nextOfKey g l h x2) (fun r14 => ?_)
    refine R_istore_n (lv2 := [(0, rA g 14), (2, .int r14), (3, .int x3)]) o dX4_signBy_17 rfl (by decide) rfl ?_
    refine R_aload_n o 0 dX4_signBy_18 rfl rfl ?_
    refine R_getR (a2 := 15) o dX4_signBy_19 fl_X4_9 sh_14 (by decide) rfl rf_14_0 ?_
    refine R_iload_n o 2 dX4_signBy_22 rfl rfl ?_
    refine R_iload_n o 1 dX4_signBy_23 rfl rfl ?_
    refine K_i (callSN' (av := [.int r14]) (rest := [.int x3, rA g 15]) o dX4_signBy_24 lk_X4_23 rfl rfl rfl (Nat.le_of_ble_eq_true rfl)) (c_X6_bitsOfKey g l h r14) (fun r24 => ?_)
    refine R_iconst (v := 2) o dX4_signBy_27 (by decide) ?_
    refine R_irem_c o dX4_signBy_28 (by decide) ?_
    refine R_iconst (v := 1) o dX4_signBy_29 (by decide) ?_
    refine R_icmp_ne o 37 dX4_signBy_30 (by decide) ?_ ?_
    · refine R_iconst (v := 1) o dX4_signBy_33 (by decide) ?_
      refine R_goto o 38 dX4_signBy_34 (by decide) ?_
      refine R_iast o dX4_signBy_38 sh_15 ?_
      refine R_nmH (fun h38 => ?_)
      refine R_iinc (v := (x3 + 1)) (lv2 := [(0, rA g 14), (2, .int r14), (3, .int (x3 + 1))]) o 2 dX4_signBy_39 rfl rfl (by decide) rfl ?_
      refine R_goto o 4 dX4_signBy_42 (by decide) ?_
      exact T_some (fun p => p)
    · refine R_iconst (v := (-1)) o dX4_signBy_37 (by decide) ?_
      refine R_iast o dX4_signBy_38 sh_15 ?_
      refine R_nmH (fun h38 => ?_)
      refine R_iinc (v := (x3 + 1)) (lv2 := [(0, rA g 14), (2, .int r14), (3, .int (x3 + 1))]) o 2 dX4_signBy_39 rfl rfl (by decide) rfl ?_
      refine R_goto o 4 dX4_signBy_42 (by decide) ?_
      exact T_some (fun p => p)
  · refine R_drop (lv2 := []) o [] rfl ?_
    exact T_some (fun p => p)
noncomputable def f_X4_signBy_L4 (h : MH) (x2 : Int32) (x3 : Int32) : Option (MH) :=
  lpo (fun s : Int32 × Int32 × MH => f_X4_signBy_B4 s.2.2 s.1 s.2.1) (x2, x3, h)
theorem t_X4_signBy_L4 {g : Gx} {l : Launch} {V : VT} {Rt : Option Value → MH → Prop} (o : Ok g l RX4 cX4_signBy 4 1 20 0 V) (rr : ORv cX4_signBy V Rt) (h : MH) (x2 : Int32) (x3 : Int32) : T (fun b => V 45 [] [] b) (f_X4_signBy_L4 h x2 x3) (V 4 [(0, rA g 14), (2, .int x2), (3, .int x3)] [] h) := T_loop (head := fun s : Int32 × Int32 × MH => V 4 [(0, rA g 14), (2, .int s.1), (3, .int s.2.1)] [] s.2.2) (fun s => t_X4_signBy_B4 o rr s.2.2 s.1 s.2.1 ) (x2, x3, h)
noncomputable def f_X4_signBy (h : MH) (x1 : Int32) : Option MH :=
  Option.bind (f_X4_signBy_L4 h x1 0) (fun b4 => some b4)
set_option maxRecDepth 100000 in
set_option maxHeartbeats 4000000 in
theorem b_X4_signBy {g : Gx} {l : Launch} {V : VT} {Rt : Option Value → MH → Prop} (o : Ok g l RX4 cX4_signBy 4 1 20 0 V) (rr : ORv cX4_signBy V Rt) (h : MH) (x1 : Int32) : T (fun r => Rt none r) (f_X4_signBy h x1) (V 0 [(0, rA g 14), (1, .int x1)] [] h) := by
  unfold f_X4_signBy
  refine R_iload_n o 1 dX4_signBy_0 rfl rfl ?_
  refine R_istore_n (lv2 := [(0, rA g 14), (1, .int x1), (2, .int x1)]) o dX4_signBy_1 rfl (by decide) rfl ?_
  refine R_iconst (v := 0) o dX4_signBy_2 (by decide) ?_
  refine R_istore_n (lv2 := [(0, rA g 14), (1, .int x1), (2, .int x1), (3, .int 0)]) o dX4_signBy_3 rfl (by decide) rfl ?_
  refine R_drop (lv2 := [(0, rA g 14), (2, .int x1), (3, .int 0)]) o [0, 2, 3] rfl ?_
  refine T_bind (t_X4_signBy_L4 o rr h x1 0) (fun b4 => ?_)
  exact T_some (fun p => rr _ _ _ dX4_signBy_45 p)
theorem c_X4_signBy (g : Gx) (l : Launch) (h : MH) (x1 : Int32) (r : MH) (e : f_X4_signBy h x1 = some r) : Ctr g l yX4_signBy cX4_signBy 4 none 1 20 0 [rA g 14, .int x1] h none r := mkCv (plainFor_of_name (by decide)) (Nat.le_of_ble_eq_true rfl) (fun V Rt o rr p => b_X4_signBy o rr h x1  r e p)
/-! X4_signAt -/
noncomputable def f_X4_signAt (h : MH) (x1 : Int32) : Option Int32 :=
  (if x1 < 0 then some 0 else (if x1 < 40 then gd (ix x1 40) (some (h.1 15 x1.toNatClampNeg)) else some 0))
set_option maxRecDepth 100000 in
set_option maxHeartbeats 4000000 in
theorem b_X4_signAt {g : Gx} {l : Launch} {V : VT} {Rt : Option Value → MH → Prop} (o : Ok g l RX4 cX4_signAt 2 0 0 0 V) (rr : ORi cX4_signAt V Rt) (h : MH) (x1 : Int32) : T (fun r => Rt (some (.int r)) h) (f_X4_signAt h x1) (V 0 [(0, rA g 14), (1, .int x1)] [] h) := by
  unfold f_X4_signAt
  refine R_iload_n o 1 dX4_signAt_0 rfl rfl ?_
  refine R_if_lt o 22 dX4_signAt_1 (by decide) ?_ ?_
  · refine R_iconst (v := 0) o dX4_signAt_22 (by decide) ?_
    exact T_some (fun p => rr _ _ _ _ dX4_signAt_23 p)
  · refine R_iload_n o 1 dX4_signAt_4 rfl rfl ?_
    refine R_aload_n o 0 dX4_signAt_5 rfl rfl ?_
    refine R_getR (a2 := 15) o dX4_signAt_6 fl_X4_9 sh_14 (by decide) rfl rf_14_0 ?_
    refine R_alenI (v := 40) o dX4_signAt_9 sh_15 (Or.inl rfl) rfl ?_
    refine R_icmp_ge o 22 dX4_signAt_10 (by decide) ?_ ?_
    · refine R_aload_n o 0 dX4_signAt_13 rfl rfl ?_
      refine R_getR (a2 := 15) o dX4_signAt_14 fl_X4_9 sh_14 (by decide) rfl rf_14_0 ?_
      refine R_iload_n o 1 dX4_signAt_17 rfl rfl ?_
      refine R_iald o dX4_signAt_18 sh_15 ?_
      refine R_goto o 23 dX4_signAt_19 (by decide) ?_
      exact T_some (fun p => rr _ _ _ _ dX4_signAt_23 p)
    · refine R_iconst (v := 0) o dX4_signAt_22 (by decide) ?_
      exact T_some (fun p => rr _ _ _ _ dX4_signAt_23 p)
theorem c_X4_signAt (g : Gx) (l : Launch) (h : MH) (x1 : Int32) (r : Int32) (e : f_X4_signAt h x1 = some r) : Ctr g l yX4_signAt cX4_signAt 2 (some .int) 0 0 0 [rA g 14, .int x1] h (some (.int r)) h := mkCi (plainFor_of_name (by decide)) (Nat.le_of_ble_eq_true rfl) (fun V Rt o rr p => b_X4_signAt o rr h x1  r e p)
/-! X4_sumOver -/
noncomputable def f_X4_sumOver_B15 (h : MH) (a1 : Nat) (x2 : Int32) (x3 : Int32) (x4 : Int32) : Option ((Int32 × Int32) ⊕ (Int32)) :=
  (if x4 < (h.1 a1 3) then Option.bind (f_X1_dotAt h a1 x4) (fun r28 => gd (nz (h.1 a1 3)) (Option.bind (f_X4_signAt h (irm (x4 + x2) (h.1 a1 3))) (fun r41 => nm (x3 + (r28 * r41)) (fun v46 => some (.inl (v46, (x4 + 1))))))) else some (.inr x3))
set_option maxRecDepth 100000 in
set_option maxHeartbeats 4000000 in
theorem t_X4_sumOver_B15 {g : Gx} {l : Launch} {V : VT} {Rt : Option Value → MH → Prop} (o : Ok g l RX4 cX4_sumOver 5 2 42 0 V) (rr : ORi cX4_sumOver V Rt) (h : MH) (a1 : Nat) (x2 : Int32) (x3 : Int32) (x4 : Int32) (ha1 : shp a1 = (1, 0)) : T (Sum.elim (fun s => V 15 [(0, rA g 14), (1, rA g a1), (2, .int x2), (3, .int s.1), (4, .int s.2)] [] h) (fun b => V 53 [(3, .int b)] [] h)) (f_X4_sumOver_B15  h a1 x2 x3 x4) (V 15 [(0, rA g 14), (1, rA g a1), (2, .int x2), (3, .int x3), (4, .int x4)] [] h) := by
  unfold f_X4_sumOver_B15
  refine R_iload o 4 dX4_sumOver_15 rfl ?_
  refine R_aload_n o 1 dX4_sumOver_17 rfl rfl ?_
  refine R_getI o dX4_sumOver_18 fl_X4_26 ha1 (by decide) rfl ?_
  refine R_icmp_ge o 53 dX4_sumOver_21 (by decide) ?_ ?_
  · refine R_iload_n o 3 dX4_sumOver_24 rfl rfl ?_
    refine R_aload_n o 1 dX4_sumOver_25 rfl rfl ?_
    refine R_iload o 4 dX4_sumOver_26 rfl ?_
    refine K_i (callV' (As := [.int x4]) (rest := [.int x3]) o dX4_sumOver_28 lk_X4_32 rfl ha1 rfl rfl rfl rfl (Nat.le_of_ble_eq_true rfl)) (c_X1_dotAt g l h a1 x4 ha1) (fun r28 => ?_)
    refine R_aload_n o 0 dX4_sumOver_31 rfl rfl ?_
    refine R_iload o 4 dX4_sumOver_32 rfl ?_
    refine R_iload_n o 2 dX4_sumOver_34 rfl rfl ?_
    refine R_iadd o dX4_sumOver_35 ?_
    refine R_aload_n o 1 dX4_sumOver_36 rfl rfl ?_
    refine R_getI o dX4_sumOver_37 fl_X4_26 ha1 (by decide) rfl ?_
    refine R_irem o dX4_sumOver_40 ?_
    refine K_i (callV' (As := [.int (irm (x4 + x2) (h.1 a1 3))]) (rest := [.int r28, .int x3]) o dX4_sumOver_41 lk_X4_35 rfl sh_14 rfl rfl rfl rfl (Nat.le_of_ble_eq_true rfl)) (c_X4_signAt g l h (irm (x4 + x2) (h.1 a1 3))) (fun r41 => ?_)
    refine R_imul o dX4_sumOver_44 ?_
    refine R_iadd o dX4_sumOver_45 ?_
    refine R_nmI (fun v46 => ?_)
    refine R_istore_n (lv2 := [(0, rA g 14), (1, rA g a1), (2, .int x2), (3, .int v46), (4, .int x4)]) o dX4_sumOver_46 rfl (by decide) rfl ?_
    refine R_iinc (v := (x4 + 1)) (lv2 := [(0, rA g 14), (1, rA g a1), (2, .int x2), (3, .int v46), (4, .int (x4 + 1))]) o 4 dX4_sumOver_47 rfl rfl (by decide) rfl ?_
    refine R_goto o 15 dX4_sumOver_50 (by decide) ?_
    exact T_some (fun p => p)
  · refine R_drop (lv2 := [(3, .int x3)]) o [3] rfl ?_
    exact T_some (fun p => p)
noncomputable def f_X4_sumOver_L15 (h : MH) (a1 : Nat) (x2 : Int32) (x3 : Int32) (x4 : Int32) : Option (Int32) :=
  lpo (fun s : Int32 × Int32 => f_X4_sumOver_B15 h a1 x2 s.1 s.2) (x3, x4)
theorem t_X4_sumOver_L15 {g : Gx} {l : Launch} {V : VT} {Rt : Option Value → MH → Prop} (o : Ok g l RX4 cX4_sumOver 5 2 42 0 V) (rr : ORi cX4_sumOver V Rt) (h : MH) (a1 : Nat) (x2 : Int32) (x3 : Int32) (x4 : Int32) (ha1 : shp a1 = (1, 0)) : T (fun b => V 53 [(3, .int b)] [] h) (f_X4_sumOver_L15 h a1 x2 x3 x4) (V 15 [(0, rA g 14), (1, rA g a1), (2, .int x2), (3, .int x3), (4, .int x4)] [] h) := T_loop (head := fun s : Int32 × Int32 => V 15 [(0, rA g 14), (1, rA g a1), (2, .int x2), (3, .int s.1), (4, .int s.2)] [] h) (fun s => t_X4_sumOver_B15 o rr h a1 x2 s.1 s.2 ha1) (x3, x4)
noncomputable def f_X4_sumOver (h : MH) (a1 : Nat) (x2 : Int32) : Option Int32 :=
  (if (h.1 a1 3) < 1 then some 0 else Option.bind (f_X4_sumOver_L15 h a1 x2 0 0) (fun b15 => some b15))
set_option maxRecDepth 100000 in
set_option maxHeartbeats 4000000 in
theorem b_X4_sumOver {g : Gx} {l : Launch} {V : VT} {Rt : Option Value → MH → Prop} (o : Ok g l RX4 cX4_sumOver 5 2 42 0 V) (rr : ORi cX4_sumOver V Rt) (h : MH) (a1 : Nat) (x2 : Int32) (ha1 : shp a1 = (1, 0)) : T (fun r => Rt (some (.int r)) h) (f_X4_sumOver h a1 x2) (V 0 [(0, rA g 14), (1, rA g a1), (2, .int x2)] [] h) := by
  unfold f_X4_sumOver
  refine R_aload_n o 1 dX4_sumOver_0 rfl rfl ?_
  refine R_getI o dX4_sumOver_1 fl_X4_26 ha1 (by decide) rfl ?_
  refine R_iconst (v := 1) o dX4_sumOver_4 (by decide) ?_
  refine R_icmp_ge o 10 dX4_sumOver_5 (by decide) ?_ ?_
  · refine R_iconst (v := 0) o dX4_sumOver_8 (by decide) ?_
    exact T_some (fun p => rr _ _ _ _ dX4_sumOver_9 p)
  · refine R_iconst (v := 0) o dX4_sumOver_10 (by decide) ?_
    refine R_istore_n (lv2 := [(0, rA g 14), (1, rA g a1), (2, .int x2), (3, .int 0)]) o dX4_sumOver_11 rfl (by decide) rfl ?_
    refine R_iconst (v := 0) o dX4_sumOver_12 (by decide) ?_
    refine R_istore (lv2 := [(0, rA g 14), (1, rA g a1), (2, .int x2), (3, .int 0), (4, .int 0)]) o dX4_sumOver_13 (by decide) rfl ?_
    refine T_bind (t_X4_sumOver_L15 o rr h a1 x2 0 0 ha1) (fun b15 => ?_)
    refine R_iload_n o 0 dX4_sumOver_53 rfl rfl ?_
    exact T_some (fun p => rr _ _ _ _ dX4_sumOver_54 p)
theorem c_X4_sumOver (g : Gx) (l : Launch) (h : MH) (a1 : Nat) (x2 : Int32) (ha1 : shp a1 = (1, 0)) (r : Int32) (e : f_X4_sumOver h a1 x2 = some r) : Ctr g l yX4_sumOver cX4_sumOver 5 (some .int) 2 42 0 [rA g 14, rA g a1, .int x2] h (some (.int r)) h := mkCi (plainFor_of_name (by decide)) (Nat.le_of_ble_eq_true rfl) (fun V Rt o rr p => b_X4_sumOver o rr h a1 x2 ha1 r e p)
/-! J9_floorDiv_7cf53 -/
noncomputable def f_J9_floorDiv_7cf53 (x0 : Int32) (x1 : Int32) : Option Int32 :=
  gd (nz x1) (nm (x0 / x1) (fun v3 => (if (x0 ^^^ x1) < 0 then (if (v3 * x1) = x0 then some v3 else some (v3 - 1)) else some v3)))
set_option maxRecDepth 100000 in
set_option maxHeartbeats 4000000 in
theorem b_J9_floorDiv_7cf53 {g : Gx} {l : Launch} {V : VT} {Rt : Option Value → MH → Prop} (o : Ok g l RJ9 cJ9_floorDiv_7cf53 3 0 0 0 V) (rr : ORi cJ9_floorDiv_7cf53 V Rt) (h : MH) (x0 : Int32) (x1 : Int32) : T (fun r => Rt (some (.int r)) h) (f_J9_floorDiv_7cf53  x0 x1) (V 0 [(0, .int x0), (1, .int x1)] [] h) := by
  unfold f_J9_floorDiv_7cf53
  refine R_iload_n o 0 dJ9_floorDiv_7cf53_0 rfl rfl ?_
  refine R_iload_n o 1 dJ9_floorDiv_7cf53_1 rfl rfl ?_
  refine R_idiv o dJ9_floorDiv_7cf53_2 ?_
  refine R_nmI (fun v3 => ?_)
  refine R_istore_n (lv2 := [(0, .int x0), (1, .int x1), (2, .int v3)]) o dJ9_floorDiv_7cf53_3 rfl (by decide) rfl ?_
  refine R_iload_n o 0 dJ9_floorDiv_7cf53_4 rfl rfl ?_
  refine R_iload_n o 1 dJ9_floorDiv_7cf53_5 rfl rfl ?_
  refine R_ixor o dJ9_floorDiv_7cf53_6 ?_
  refine R_if_ge o 21 dJ9_floorDiv_7cf53_7 (by decide) ?_ ?_
  · refine R_iload_n o 2 dJ9_floorDiv_7cf53_10 rfl rfl ?_
    refine R_iload_n o 1 dJ9_floorDiv_7cf53_11 rfl rfl ?_
    refine R_imul o dJ9_floorDiv_7cf53_12 ?_
    refine R_iload_n o 0 dJ9_floorDiv_7cf53_13 rfl rfl ?_
    refine R_icmp_eq o 21 dJ9_floorDiv_7cf53_14 (by decide) ?_ ?_
    · refine R_iload_n o 2 dJ9_floorDiv_7cf53_21 rfl rfl ?_
      exact T_some (fun p => rr _ _ _ _ dJ9_floorDiv_7cf53_22 p)
    · refine R_iload_n o 2 dJ9_floorDiv_7cf53_17 rfl rfl ?_
      refine R_iconst (v := 1) o dJ9_floorDiv_7cf53_18 (by decide) ?_
      refine R_isub o dJ9_floorDiv_7cf53_19 ?_
      exact T_some (fun p => rr _ _ _ _ dJ9_floorDiv_7cf53_20 p)
  · refine R_iload_n o 2 dJ9_floorDiv_7cf53_21 rfl rfl ?_
    exact T_some (fun p => rr _ _ _ _ dJ9_floorDiv_7cf53_22 p)
theorem c_J9_floorDiv_7cf53 (g : Gx) (l : Launch) (h : MH) (x0 : Int32) (x1 : Int32) (r : Int32) (e : f_J9_floorDiv_7cf53  x0 x1 = some r) : Ctr g l yJ9_floorDiv_7cf53 cJ9_floorDiv_7cf53 3 (some .int) 0 0 0 [.int x0, .int x1] h (some (.int r)) h := mkCi (by decide +kernel) (Nat.le_of_ble_eq_true rfl) (fun V Rt o rr p => b_J9_floorDiv_7cf53 o rr h x0 x1  r e p)
/-! J7_fill_bad5a -/
noncomputable def f_J7_fill_bad5a_B10 (h : MH) (a0 : Nat) (n0 : Nat) (x2 : Int32) (l3 : Int64) (x5 : Int32) : Option ((Int32 × MH) ⊕ (MH)) :=
  (if x5 < x2 then gd (lgs h a0 n0) (gd (ix x5 n0) (nm (uL h a0 x5.toNatClampNeg l3) (fun h20 => some (.inl ((x5 + 1), h20))))) else some (.inr h))
set_option maxRecDepth 100000 in
set_option maxHeartbeats 4000000 in
theorem t_J7_fill_bad5a_B10 {g : Gx} {l : Launch} {V : VT} {Rt : Option Value → MH → Prop} (o : Ok g l RJ7 cJ7_fill_bad5a 6 1 22 0 V) (rr : ORv cJ7_fill_bad5a V Rt) (h : MH) (a0 : Nat) (n0 : Nat) (x2 : Int32) (l3 : Int64) (x5 : Int32) : T (Sum.elim (fun s => V 10 [(0, rA g a0), (2, .int x2), (3, .long l3), (5, .int s.1)] [] s.2) (fun b => V 27 [] [] b)) (f_J7_fill_bad5a_B10  h a0 n0 x2 l3 x5) (V 10 [(0, rA g a0), (2, .int x2), (3, .long l3), (5, .int x5)] [] h) := by
  unfold f_J7_fill_bad5a_B10
  refine R_iload o 3 dJ7_fill_bad5a_10 rfl ?_
  refine R_iload_n o 1 dJ7_fill_bad5a_12 rfl rfl ?_
  refine R_icmp_ge o 27 dJ7_fill_bad5a_13 (by decide) ?_ ?_
  · refine R_aload_n o 0 dJ7_fill_bad5a_16 rfl rfl ?_
    refine R_iload o 3 dJ7_fill_bad5a_17 rfl ?_
    refine R_lload_n o 2 dJ7_fill_bad5a_19 rfl rfl ?_
    refine R_lastG o (Or.inl rfl) dJ7_fill_bad5a_20 ?_
    refine R_nmH (fun h20 => ?_)
    refine R_iinc (v := (x5 + 1)) (lv2 := [(0, rA g a0), (2, .int x2), (3, .long l3), (5, .int (x5 + 1))]) o 3 dJ7_fill_bad5a_21 rfl rfl (by decide) rfl ?_
    refine R_goto o 10 dJ7_fill_bad5a_24 (by decide) ?_
    exact T_some (fun p => p)
  · refine R_drop (lv2 := []) o [] rfl ?_
    exact T_some (fun p => p)
noncomputable def f_J7_fill_bad5a_L10 (h : MH) (a0 : Nat) (n0 : Nat) (x2 : Int32) (l3 : Int64) (x5 : Int32) : Option (MH) :=
  lpo (fun s : Int32 × MH => f_J7_fill_bad5a_B10 s.2 a0 n0 x2 l3 s.1) (x5, h)
theorem t_J7_fill_bad5a_L10 {g : Gx} {l : Launch} {V : VT} {Rt : Option Value → MH → Prop} (o : Ok g l RJ7 cJ7_fill_bad5a 6 1 22 0 V) (rr : ORv cJ7_fill_bad5a V Rt) (h : MH) (a0 : Nat) (n0 : Nat) (x2 : Int32) (l3 : Int64) (x5 : Int32) : T (fun b => V 27 [] [] b) (f_J7_fill_bad5a_L10 h a0 n0 x2 l3 x5) (V 10 [(0, rA g a0), (2, .int x2), (3, .long l3), (5, .int x5)] [] h) := T_loop (head := fun s : Int32 × MH => V 10 [(0, rA g a0), (2, .int x2), (3, .long l3), (5, .int s.1)] [] s.2) (fun s => t_J7_fill_bad5a_B10 o rr s.2 a0 n0 x2 l3 s.1 ) (x5, h)
noncomputable def f_J7_fill_bad5a (h : MH) (a0 : Nat) (n0 : Nat) (x1 : Int32) (x2 : Int32) (l3 : Int64) : Option MH :=
  gd (lgs h a0 n0) (Option.bind (f_J7_rangeCheck_23922 (nI n0) x1 x2) (fun r4 => Option.bind (f_J7_fill_bad5a_L10 h a0 n0 x2 l3 x1) (fun b10 => some b10)))
set_option maxRecDepth 100000 in
set_option maxHeartbeats 4000000 in
theorem b_J7_fill_bad5a {g : Gx} {l : Launch} {V : VT} {Rt : Option Value → MH → Prop} (o : Ok g l RJ7 cJ7_fill_bad5a 6 1 22 0 V) (rr : ORv cJ7_fill_bad5a V Rt) (h : MH) (a0 : Nat) (n0 : Nat) (x1 : Int32) (x2 : Int32) (l3 : Int64) : T (fun r => Rt none r) (f_J7_fill_bad5a h a0 n0 x1 x2 l3) (V 0 [(0, rA g a0), (1, .int x1), (2, .int x2), (3, .long l3)] [] h) := by
  unfold f_J7_fill_bad5a
  refine R_aload_n o 0 dJ7_fill_bad5a_0 rfl rfl ?_
  refine R_alenG (v := (nI n0)) o dJ7_fill_bad5a_1 rfl ?_
  refine R_iload_n o 1 dJ7_fill_bad5a_2 rfl rfl ?_
  refine R_iload_n o 2 dJ7_fill_bad5a_3 rfl rfl ?_
  refine K_v (callS' (av := [.int (nI n0), .int x1, .int x2]) (rest := []) o dJ7_fill_bad5a_4 lk_J7_13 rfl rfl rfl (Nat.le_of_ble_eq_true rfl)) (c_J7_rangeCheck_23922 g l h (nI n0) x1 x2) (fun r4 => ?_)
  refine R_iload_n o 1 dJ7_fill_bad5a_7 rfl rfl ?_
  refine R_istore (lv2 := [(0, rA g a0), (1, .int x1), (2, .int x2), (3, .long l3), (5, .int x1)]) o dJ7_fill_bad5a_8 (by decide) rfl ?_
  refine R_drop (lv2 := [(0, rA g a0), (2, .int x2), (3, .long l3), (5, .int x1)]) o [0, 2, 3, 4] rfl ?_
  refine T_bind (t_J7_fill_bad5a_L10 o rr h a0 n0 x2 l3 x1) (fun b10 => ?_)
  exact T_some (fun p => rr _ _ _ dJ7_fill_bad5a_27 p)
theorem c_J7_fill_bad5a (g : Gx) (l : Launch) (h : MH) (a0 : Nat) (n0 : Nat) (x1 : Int32) (x2 : Int32) (l3 : Int64) (r : MH) (e : f_J7_fill_bad5a h a0 n0 x1 x2 l3 = some r) : Ctr g l yJ7_fill_bad5a cJ7_fill_bad5a 6 none 1 22 0 [rA g a0, .int x1, .int x2, .long l3] h none r := mkCv (plainFor_of_name (by decide)) (Nat.le_of_ble_eq_true rfl) (fun V Rt o rr p => b_J7_fill_bad5a o rr h a0 n0 x1 x2 l3  r e p)
/-! X4_countUpTo -/
noncomputable def f_X4_countUpTo_B84 (h : MH) (a1 : Nat) (x2 : Int32) (x3 : Int32) (x4 : Int32) (x5 : Int32) (x6 : Int32) : Option ((Int32 × MH) ⊕ (MH)) :=
  (if x6 < x5 then some (.inr h) else (if x5 < 0 then some (.inr h) else gd (wok h) (gd (lgs h 87 5101) (gd (ix x6 5101) (gd (wok h) (gd (lgs h 87 5101) (gd (ix (x6 - x5) 5101) (gd (lgs h 87 5101) (gd (ix x6 5101) (nm (uL h 87 x6.toNatClampNeg ((h.2.1 87 x6.toNatClampNeg) + (h.2.1 87 (x6 - x5).toNatClampNeg))) (fun h115 => some (.inl ((x6 + (-1)), h115)))))))))))))
set_option maxRecDepth 100000 in
set_option maxHeartbeats 4000000 in
theorem t_X4_countUpTo_B84 {g : Gx} {l : Launch} {V : VT} {Rt : Option Value → MH → Prop} (o : Ok g l RX4 cX4_countUpTo 7 2 47 1 V) (rr : ORl cX4_countUpTo V Rt) (h : MH) (a1 : Nat) (x2 : Int32) (x3 : Int32) (x4 : Int32) (x5 : Int32) (x6 : Int32) (ha1 : shp a1 = (1, 0)) : T (Sum.elim (fun s => V 84 [(0, rA g 14), (1, rA g a1), (2, .int x2), (3, .int x3), (4, .int x4), (5, .int x5), (6, .int s.1)] [] s.2) (fun b => V 122 [(0, rA g 14), (1, rA g a1), (2, .int x2), (3, .int x3), (4, .int x4)] [] b)) (f_X4_countUpTo_B84  h a1 x2 x3 x4 x5 x6) (V 84 [(0, rA g 14), (1, rA g a1), (2, .int x2), (3, .int x3), (4, .int x4), (5, .int x5), (6, .int x6)] [] h) := by
  unfold f_X4_countUpTo_B84
  refine R_iload o 6 dX4_countUpTo_84 rfl ?_
  refine R_iload o 5 dX4_countUpTo_86 rfl ?_
  refine R_icmp_lt o 122 dX4_countUpTo_88 (by decide) ?_ ?_
  · refine R_drop (lv2 := [(0, rA g 14), (1, rA g a1), (2, .int x2), (3, .int x3), (4, .int x4)]) o [0, 1, 2, 3, 4] rfl ?_
    exact T_some (fun p => p)
  · refine R_iload o 5 dX4_countUpTo_91 rfl ?_
    refine R_if_lt o 122 dX4_countUpTo_93 (by decide) ?_ ?_
    · refine R_drop (lv2 := [(0, rA g 14), (1, rA g a1), (2, .int x2), (3, .int x3), (4, .int x4)]) o [0, 1, 2, 3, 4] rfl ?_
      exact T_some (fun p => p)
    · refine R_aload_n o 0 dX4_countUpTo_96 rfl rfl ?_
      refine R_getW o dX4_countUpTo_97 fl_X4_15 ?_
      refine R_iload o 6 dX4_countUpTo_100 rfl ?_
      refine R_dup2 o dX4_countUpTo_102 rfl rfl ?_
      refine R_laldG o dX4_countUpTo_103 ?_
      refine R_aload_n o 0 dX4_countUpTo_104 rfl rfl ?_
      refine R_getW o dX4_countUpTo_105 fl_X4_15 ?_
      refine R_iload o 6 dX4_countUpTo_108 rfl ?_
      refine R_iload o 5 dX4_countUpTo_110 rfl ?_
      refine R_isub o dX4_countUpTo_112 ?_
      refine R_laldG o dX4_countUpTo_113 ?_
      refine R_ladd o dX4_countUpTo_114 ?_
      refine R_lastG o (Or.inr rfl) dX4_countUpTo_115 ?_
      refine R_nmH (fun h115 => ?_)
      refine R_iinc (v := (x6 + (-1))) (lv2 := [(0, rA g 14), (1, rA g a1), (2, .int x2), (3, .int x3), (4, .int x4), (5, .int x5), (6, .int (x6 + (-1)))]) o 6 dX4_countUpTo_116 rfl rfl (by decide) rfl ?_
      refine R_goto o 84 dX4_countUpTo_119 (by decide) ?_
      exact T_some (fun p => p)
noncomputable def f_X4_countUpTo_L84 (h : MH) (a1 : Nat) (x2 : Int32) (x3 : Int32) (x4 : Int32) (x5 : Int32) (x6 : Int32) : Option (MH) :=
  lpo (fun s : Int32 × MH => f_X4_countUpTo_B84 s.2 a1 x2 x3 x4 x5 s.1) (x6, h)
theorem t_X4_countUpTo_L84 {g : Gx} {l : Launch} {V : VT} {Rt : Option Value → MH → Prop} (o : Ok g l RX4 cX4_countUpTo 7 2 47 1 V) (rr : ORl cX4_countUpTo V Rt) (h : MH) (a1 : Nat) (x2 : Int32) (x3 : Int32) (x4 : Int32) (x5 : Int32) (x6 : Int32) (ha1 : shp a1 = (1, 0)) : T (fun b => V 122 [(0, rA g 14), (1, rA g a1), (2, .int x2), (3, .int x3), (4, .int x4)] [] b) (f_X4_countUpTo_L84 h a1 x2 x3 x4 x5 x6) (V 84 [(0, rA g 14), (1, rA g a1), (2, .int x2), (3, .int x3), (4, .int x4), (5, .int x5), (6, .int x6)] [] h) := T_loop (head := fun s : Int32 × MH => V 84 [(0, rA g 14), (1, rA g a1), (2, .int x2), (3, .int x3), (4, .int x4), (5, .int x5), (6, .int s.1)] [] s.2) (fun s => t_X4_countUpTo_B84 o rr s.2 a1 x2 x3 x4 x5 s.1 ha1) (x6, h)
noncomputable def f_X4_countUpTo_B55 (h : MH) (a1 : Nat) (x2 : Int32) (x3 : Int32) (x4 : Int32) : Option ((Int32 × Int32 × MH) ⊕ (Int32 × MH)) :=
  (if x4 < (h.1 a1 3) then Option.bind (f_X1_dotAt h a1 x4) (fun r67 => Option.bind (f_J9_min_7cf53 x2 (x3 + r67)) (fun r77 => Option.bind (f_X4_countUpTo_L84 h a1 x2 r77 x4 r67 r77) (fun b84 => some (.inl (r77, (x4 + 1), b84))))) else some (.inr (x3, h)))
set_option maxRecDepth 100000 in
set_option maxHeartbeats 4000000 in
theorem t_X4_countUpTo_B55 {g : Gx} {l : Launch} {V : VT} {Rt : Option Value → MH → Prop} (o : Ok g l RX4 cX4_countUpTo 7 2 47 1 V) (rr : ORl cX4_countUpTo V Rt) (h : MH) (a1 : Nat) (x2 : Int32) (x3 : Int32) (x4 : Int32) (ha1 : shp a1 = (1, 0)) : T (Sum.elim (fun s => V 55 [(0, rA g 14), (1, rA g a1), (2, .int x2), (3, .int s.1), (4, .int s.2.1)] [] s.2.2) (fun b => V 128 [(0, rA g 14), (3, .int b.1)] [] b.2)) (f_X4_countUpTo_B55  h a1 x2 x3 x4) (V 55 [(0, rA g 14), (1, rA g a1), (2, .int x2), (3, .int x3), (4, .int x4)] [] h) := by
  unfold f_X4_countUpTo_B55
  refine R_iload o 4 dX4_countUpTo_55 rfl ?_
  refine R_aload_n o 1 dX4_countUpTo_57 rfl rfl ?_
  refine R_getI o dX4_countUpTo_58 fl_X4_26 ha1 (by decide) rfl ?_
  refine R_icmp_ge o 128 dX4_countUpTo_61 (by decide) ?_ ?_
  · refine R_aload_n o 1 dX4_countUpTo_64 rfl rfl ?_
    refine R_iload o 4 dX4_countUpTo_65 rfl ?_
    refine K_i (callV' (As := [.int x4]) (rest := []) o dX4_countUpTo_67 lk_X4_32 rfl ha1 rfl rfl rfl rfl (Nat.le_of_ble_eq_true rfl)) (c_X1_dotAt g l h a1 x4 ha1) (fun r67 => ?_)
    refine R_istore (lv2 := [(0, rA g 14), (1, rA g a1), (2, .int x2), (3, .int x3), (4, .int x4), (5, .int r67)]) o dX4_countUpTo_70 (by decide) rfl ?_
    refine R_iload_n o 2 dX4_countUpTo_72 rfl rfl ?_
    refine R_iload_n o 3 dX4_countUpTo_73 rfl rfl ?_
    refine R_iload o 5 dX4_countUpTo_74 rfl ?_
    refine R_iadd o dX4_countUpTo_76 ?_
    refine K_i (callS' (av := [.int x2, .int (x3 + r67)]) (rest := []) o dX4_countUpTo_77 lk_X4_58 rfl rfl rfl (Nat.le_of_ble_eq_true rfl)) (c_J9_min_7cf53 g l h x2 (x3 + r67)) (fun r77 => ?_)
    refine R_istore_n (lv2 := [(0, rA g 14), (1, rA g a1), (2, .int x2), (3, .int r77), (4, .int x4), (5, .int r67)]) o dX4_countUpTo_80 rfl (by decide) rfl ?_
    refine R_iload_n o 3 dX4_countUpTo_81 rfl rfl ?_
    refine R_istore (lv2 := [(0, rA g 14), (1, rA g a1), (2, .int x2), (3, .int r77), (4, .int x4), (5, .int r67), (6, .int r77)]) o dX4_countUpTo_82 (by decide) rfl ?_
    refine T_bind (t_X4_countUpTo_L84 o rr h a1 x2 r77 x4 r67 r77 ha1) (fun b84 => ?_)
    refine R_iinc (v := (x4 + 1)) (lv2 := [(0, rA g 14), (1, rA g a1), (2, .int x2), (3, .int r77), (4, .int (x4 + 1))]) o 4 dX4_countUpTo_122 rfl rfl (by decide) rfl ?_
    refine R_goto o 55 dX4_countUpTo_125 (by decide) ?_
    exact T_some (fun p => p)
  · refine R_drop (lv2 := [(0, rA g 14), (3, .int x3)]) o [0, 3] rfl ?_
    exact T_some (fun p => p)
noncomputable def f_X4_countUpTo_L55 (h : MH) (a1 : Nat) (x2 : Int32) (x3 : Int32) (x4 : Int32) : Option (Int32 × MH) :=
  lpo (fun s : Int32 × Int32 × MH => f_X4_countUpTo_B55 s.2.2 a1 x2 s.1 s.2.1) (x3, x4, h)
theorem t_X4_countUpTo_L55 {g : Gx} {l : Launch} {V : VT} {Rt : Option Value → MH → Prop} (o : Ok g l RX4 cX4_countUpTo 7 2 47 1 V) (rr : ORl cX4_countUpTo V Rt) (h : MH) (a1 : Nat) (x2 : Int32) (x3 : Int32) (x4 : Int32) (ha1 : shp a1 = (1, 0)) : T (fun b => V 128 [(0, rA g 14), (3, .int b.1)] [] b.2) (f_X4_countUpTo_L55 h a1 x2 x3 x4) (V 55 [(0, rA g 14), (1, rA g a1), (2, .int x2), (3, .int x3), (4, .int x4)] [] h) := T_loop (head := fun s : Int32 × Int32 × MH => V 55 [(0, rA g 14), (1, rA g a1), (2, .int x2), (3, .int s.1), (4, .int s.2.1)] [] s.2.2) (fun s => t_X4_countUpTo_B55 o rr s.2.2 a1 x2 s.1 s.2.1 ha1) (x3, x4, h)
noncomputable def f_X4_countUpTo_B134 (h : MH) (x3 : Int32) (l4 : Int64) (x6 : Int32) : Option ((Int64 × Int32) ⊕ (Int64)) :=
  (if x3 < x6 then some (.inr l4) else gd (wok h) (gd (lgs h 87 5101) (gd (ix x6 5101) (nm (l4 + (h.2.1 87 x6.toNatClampNeg)) (fun v150 => some (.inl (v150, (x6 + 1))))))))
set_option maxRecDepth 100000 in
set_option maxHeartbeats 4000000 in
theorem t_X4_countUpTo_B134 {g : Gx} {l : Launch} {V : VT} {Rt : Option Value → MH → Prop} (o : Ok g l RX4 cX4_countUpTo 7 2 47 1 V) (rr : ORl cX4_countUpTo V Rt) (h : MH) (x3 : Int32) (l4 : Int64) (x6 : Int32) : T (Sum.elim (fun s => V 134 [(0, rA g 14), (3, .int x3), (4, .long s.1), (6, .int s.2)] [] h) (fun b => V 158 [(4, .long b)] [] h)) (f_X4_countUpTo_B134  h x3 l4 x6) (V 134 [(0, rA g 14), (3, .int x3), (4, .long l4), (6, .int x6)] [] h) := by
  unfold f_X4_countUpTo_B134
  refine R_iload o 3 dX4_countUpTo_134 rfl ?_
  refine R_iload_n o 1 dX4_countUpTo_136 rfl rfl ?_
  refine R_icmp_gt o 158 dX4_countUpTo_137 (by decide) ?_ ?_
  · refine R_drop (lv2 := [(4, .long l4)]) o [2] rfl ?_
    exact T_some (fun p => p)
  · refine R_lload o 2 dX4_countUpTo_140 rfl ?_
    refine R_aload_n o 0 dX4_countUpTo_142 rfl rfl ?_
    refine R_getW o dX4_countUpTo_143 fl_X4_15 ?_
    refine R_iload o 3 dX4_countUpTo_146 rfl ?_
    refine R_laldG o dX4_countUpTo_148 ?_
    refine R_ladd o dX4_countUpTo_149 ?_
    refine R_nmL (fun v150 => ?_)
    refine R_lstore (lv2 := [(0, rA g 14), (3, .int x3), (4, .long v150), (6, .int x6)]) o dX4_countUpTo_150 (by decide) rfl ?_
    refine R_iinc (v := (x6 + 1)) (lv2 := [(0, rA g 14), (3, .int x3), (4, .long v150), (6, .int (x6 + 1))]) o 3 dX4_countUpTo_152 rfl rfl (by decide) rfl ?_
    refine R_goto o 134 dX4_countUpTo_155 (by decide) ?_
    exact T_some (fun p => p)
noncomputable def f_X4_countUpTo_L134 (h : MH) (x3 : Int32) (l4 : Int64) (x6 : Int32) : Option (Int64) :=
  lpo (fun s : Int64 × Int32 => f_X4_countUpTo_B134 h x3 s.1 s.2) (l4, x6)
theorem t_X4_countUpTo_L134 {g : Gx} {l : Launch} {V : VT} {Rt : Option Value → MH → Prop} (o : Ok g l RX4 cX4_countUpTo 7 2 47 1 V) (rr : ORl cX4_countUpTo V Rt) (h : MH) (x3 : Int32) (l4 : Int64) (x6 : Int32) : T (fun b => V 158 [(4, .long b)] [] h) (f_X4_countUpTo_L134 h x3 l4 x6) (V 134 [(0, rA g 14), (3, .int x3), (4, .long l4), (6, .int x6)] [] h) := T_loop (head := fun s : Int64 × Int32 => V 134 [(0, rA g 14), (3, .int x3), (4, .long s.1), (6, .int s.2)] [] h) (fun s => t_X4_countUpTo_B134 o rr h x3 s.1 s.2 ) (l4, x6)
noncomputable def f_X4_countUpTo_J16 (h : MH) (a1 : Nat) (x2 : Int32) : Option (Int64 × MH) :=
  (if x2 < 0 then some (0, h) else gd (wok h) (gd (lgs h 87 5101) ((if x2 < 5101 then gd (wok h) (Option.bind (f_J7_fill_bad5a h 87 5101 0 (x2 + 1) 0) (fun h40 => gd (wok h40) (gd (lgs h40 87 5101) (gd (ix 0 5101) (nm (uL h40 87 (0 : Int32).toNatClampNeg 1) (fun h49 => Option.bind (f_X4_countUpTo_L55 h49 a1 x2 0 0) (fun b55 => Option.bind (f_X4_countUpTo_L134 b55.2 b55.1 0 0) (fun b134 => some (b134, b55.2))))))))) else some (0, h)))))
set_option maxRecDepth 100000 in
set_option maxHeartbeats 4000000 in
theorem t_X4_countUpTo_J16 {g : Gx} {l : Launch} {V : VT} {Rt : Option Value → MH → Prop} (o : Ok g l RX4 cX4_countUpTo 7 2 47 1 V) (rr : ORl cX4_countUpTo V Rt) (h : MH) (a1 : Nat) (x2 : Int32) (ha1 : shp a1 = (1, 0)) : T (fun r => Rt (some (.long r.1)) r.2) (f_X4_countUpTo_J16  h a1 x2) (V 16 [(0, rA g 14), (1, rA g a1), (2, .int x2)] [] h) := by
  unfold f_X4_countUpTo_J16
  refine R_iload_n o 2 dX4_countUpTo_16 rfl rfl ?_
  refine R_if_lt o 29 dX4_countUpTo_17 (by decide) ?_ ?_
  · refine R_lconst (v := 0) o dX4_countUpTo_29 (by decide) ?_
    exact T_some (fun p => rr _ _ _ _ dX4_countUpTo_30 p)
  · refine R_iload_n o 2 dX4_countUpTo_20 rfl rfl ?_
    refine R_aload_n o 0 dX4_countUpTo_21 rfl rfl ?_
    refine R_getW o dX4_countUpTo_22 fl_X4_15 ?_
    refine R_alenG (v := 5101) o dX4_countUpTo_25 rfl ?_
    refine R_icmp_lt o 31 dX4_countUpTo_26 (by decide) ?_ ?_
    · refine R_aload_n o 0 dX4_countUpTo_31 rfl rfl ?_
      refine R_getW o dX4_countUpTo_32 fl_X4_15 ?_
      refine R_iconst (v := 0) o dX4_countUpTo_35 (by decide) ?_
      refine R_iload_n o 2 dX4_countUpTo_36 rfl rfl ?_
      refine R_iconst (v := 1) o dX4_countUpTo_37 (by decide) ?_
      refine R_iadd o dX4_countUpTo_38 ?_
      refine R_lconst (v := 0) o dX4_countUpTo_39 (by decide) ?_
      refine K_vh (callS' (av := [rA g 87, .int 0, .int (x2 + 1), .long 0]) (rest := []) o dX4_countUpTo_40 lk_X4_52 rfl rfl rfl (Nat.le_of_ble_eq_true rfl)) (c_J7_fill_bad5a g l h 87 5101 0 (x2 + 1) 0) (fun h40 => ?_)
      refine R_aload_n o 0 dX4_countUpTo_43 rfl rfl ?_
      refine R_getW o dX4_countUpTo_44 fl_X4_15 ?_
      refine R_iconst (v := 0) o dX4_countUpTo_47 (by decide) ?_
      refine R_lconst (v := 1) o dX4_countUpTo_48 (by decide) ?_
      refine R_lastG o (Or.inr rfl) dX4_countUpTo_49 ?_
      refine R_nmH (fun h49 => ?_)
      refine R_iconst (v := 0) o dX4_countUpTo_50 (by decide) ?_
      refine R_istore_n (lv2 := [(0, rA g 14), (1, rA g a1), (2, .int x2), (3, .int 0)]) o dX4_countUpTo_51 rfl (by decide) rfl ?_
      refine R_iconst (v := 0) o dX4_countUpTo_52 (by decide) ?_
      refine R_istore (lv2 := [(0, rA g 14), (1, rA g a1), (2, .int x2), (3, .int 0), (4, .int 0)]) o dX4_countUpTo_53 (by decide) rfl ?_
      refine T_bind (t_X4_countUpTo_L55 o rr h49 a1 x2 0 0 ha1) (fun b55 => ?_)
      refine R_lconst (v := 0) o dX4_countUpTo_128 (by decide) ?_
      refine R_lstore (lv2 := [(0, rA g 14), (3, .int b55.1), (4, .long 0)]) o dX4_countUpTo_129 (by decide) rfl ?_
      refine R_iconst (v := 0) o dX4_countUpTo_131 (by decide) ?_
      refine R_istore (lv2 := [(0, rA g 14), (3, .int b55.1), (4, .long 0), (6, .int 0)]) o dX4_countUpTo_132 (by decide) rfl ?_
      refine T_bind (t_X4_countUpTo_L134 o rr b55.2 b55.1 0 0) (fun b134 => ?_)
      refine R_lload o 0 dX4_countUpTo_158 rfl ?_
      exact T_some (fun p => rr _ _ _ _ dX4_countUpTo_160 p)
    · refine R_lconst (v := 0) o dX4_countUpTo_29 (by decide) ?_
      exact T_some (fun p => rr _ _ _ _ dX4_countUpTo_30 p)
noncomputable def f_X4_countUpTo (h : MH) (a1 : Nat) (x2 : Int32) : Option (Int64 × MH) :=
  (if h.2.2 = 0 then f_X4_countUpTo_J16 (uW h) a1 x2 else f_X4_countUpTo_J16 h a1 x2)
set_option maxRecDepth 100000 in
set_option maxHeartbeats 4000000 in
theorem b_X4_countUpTo {g : Gx} {l : Launch} {V V1 : VT} {Rt : Option Value → MH → Prop} (oP : OkP g l RX4 cX4_countUpTo 7 2 47 V V1) (rr : ORl cX4_countUpTo V Rt) (rr1 : ORl cX4_countUpTo V1 Rt) (h : MH) (a1 : Nat) (x2 : Int32) (ha1 : shp a1 = (1, 0)) : T (fun r => Rt (some (.long r.1)) r.2) (f_X4_countUpTo h a1 x2) (V 0 [(0, rA g 14), (1, rA g a1), (2, .int x2)] [] h) := by
  have o := oP.fst
  have o1 := oP.snd
  unfold f_X4_countUpTo
  refine R_aload_n o 0 dX4_countUpTo_0 rfl rfl ?_
  refine R_make oP dX4_countUpTo_1 dX4_countUpTo_4 dX4_countUpTo_7 dX4_countUpTo_8 dX4_countUpTo_11 dX4_countUpTo_13 (by decide) fl_X4_15 fpW acL rfl ?_ ?_
  · exact t_X4_countUpTo_J16 o1 rr1 (uW h) a1 x2 ha1
  · exact t_X4_countUpTo_J16 o1 rr1 h a1 x2 ha1
theorem c_X4_countUpTo (g : Gx) (l : Launch) (h : MH) (a1 : Nat) (x2 : Int32) (ha1 : shp a1 = (1, 0)) (r : (Int64 × MH)) (e : f_X4_countUpTo h a1 x2 = some r) : Ctr g l yX4_countUpTo cX4_countUpTo 7 (some .long) 2 47 1 [rA g 14, rA g a1, .int x2] h (some (.long r.1)) r.2 := mkC1l (plainFor_of_name (by decide)) (Nat.le_of_ble_eq_true rfl) (fun V V1 Rt o rr rr1 p => b_X4_countUpTo o rr rr1 h a1 x2 ha1 r e p)
/-! X4_countAsGreat -/
noncomputable def f_X4_countAsGreat (h : MH) (a1 : Nat) (x2 : Int32) : Option (Int64 × MH) :=
  nm (lshl 1 (h.1 a1 3)) (fun v6 => Option.bind (f_X1_totalOfDots h a1) (fun r8 => Option.bind (f_J9_floorDiv_7cf53 ((x2 + r8) + 1) 2) (fun r20 => (if 0 < r20 then (if (r20 - 1) < (r8 - r20) then bnd2 (f_X4_countUpTo h a1 (r20 - 1)) (fun r51 h51 => some ((v6 - r51), h51)) else bnd2 (f_X4_countUpTo h a1 (r8 - r20)) (fun r65 h65 => some (r65, h65))) else some (v6, h)))))
set_option maxRecDepth 100000 in
set_option maxHeartbeats 4000000 in
theorem b_X4_countAsGreat {g : Gx} {l : Launch} {V V1 : VT} {Rt : Option Value → MH → Prop} (oP : OkP g l RX4 cX4_countAsGreat 7 3 73 V V1) (rr : ORl cX4_countAsGreat V Rt) (rr1 : ORl cX4_countAsGreat V1 Rt) (h : MH) (a1 : Nat) (x2 : Int32) (ha1 : shp a1 = (1, 0)) : T (fun r => Rt (some (.long r.1)) r.2) (f_X4_countAsGreat h a1 x2) (V 0 [(0, rA g 14), (1, rA g a1), (2, .int x2)] [] h) := by
  have o := oP.fst
  have o1 := oP.snd
  unfold f_X4_countAsGreat
  refine R_lconst (v := 1) o dX4_countAsGreat_0 (by decide) ?_
  refine R_aload_n o 1 dX4_countAsGreat_1 rfl rfl ?_
  refine R_getI o dX4_countAsGreat_2 fl_X4_26 ha1 (by decide) rfl ?_
  refine R_lshl o dX4_countAsGreat_5 ?_
  refine R_nmL (fun v6 => ?_)
  refine R_lstore_n (lv2 := [(0, rA g 14), (1, rA g a1), (2, .int x2), (3, .long v6)]) o dX4_countAsGreat_6 rfl (by decide) rfl ?_
  refine R_aload_n o 1 dX4_countAsGreat_7 rfl rfl ?_
  refine K_i (callV' (As := []) (rest := []) o dX4_countAsGreat_8 lk_X4_38 rfl ha1 rfl rfl rfl rfl (Nat.le_of_ble_eq_true rfl)) (c_X1_totalOfDots g l h a1 ha1) (fun r8 => ?_)
  refine R_istore (lv2 := [(0, rA g 14), (1, rA g a1), (2, .int x2), (3, .long v6), (5, .int r8)]) o dX4_countAsGreat_11 (by decide) rfl ?_
  refine R_iload_n o 2 dX4_countAsGreat_13 rfl rfl ?_
  refine R_iload o 4 dX4_countAsGreat_14 rfl ?_
  refine R_iadd o dX4_countAsGreat_16 ?_
  refine R_iconst (v := 1) o dX4_countAsGreat_17 (by decide) ?_
  refine R_iadd o dX4_countAsGreat_18 ?_
  refine R_iconst (v := 2) o dX4_countAsGreat_19 (by decide) ?_
  refine K_i (callS' (av := [.int ((x2 + r8) + 1), .int 2]) (rest := []) o dX4_countAsGreat_20 lk_X4_42 rfl rfl rfl (Nat.le_of_ble_eq_true rfl)) (c_J9_floorDiv_7cf53 g l h ((x2 + r8) + 1) 2) (fun r20 => ?_)
  refine R_istore (lv2 := [(0, rA g 14), (1, rA g a1), (2, .int x2), (3, .long v6), (5, .int r8), (6, .int r20)]) o dX4_countAsGreat_23 (by decide) rfl ?_
  refine R_iload o 5 dX4_countAsGreat_25 rfl ?_
  refine R_if_gt o 32 dX4_countAsGreat_27 (by decide) ?_ ?_
  · refine R_iload o 5 dX4_countAsGreat_32 rfl ?_
    refine R_iconst (v := 1) o dX4_countAsGreat_34 (by decide) ?_
    refine R_isub o dX4_countAsGreat_35 ?_
    refine R_iload o 4 dX4_countAsGreat_36 rfl ?_
    refine R_iload o 5 dX4_countAsGreat_38 rfl ?_
    refine R_isub o dX4_countAsGreat_40 ?_
    refine R_icmp_ge o 58 dX4_countAsGreat_41 (by decide) ?_ ?_
    · refine R_lload_n o 3 dX4_countAsGreat_44 rfl rfl ?_
      refine R_aload_n o 0 dX4_countAsGreat_45 rfl rfl ?_
      refine R_aload_n o 1 dX4_countAsGreat_46 rfl rfl ?_
      refine R_iload o 5 dX4_countAsGreat_47 rfl ?_
      refine R_iconst (v := 1) o dX4_countAsGreat_49 (by decide) ?_
      refine R_isub o dX4_countAsGreat_50 ?_
      refine K1_lh (callV1 (As := [rA g a1, .int (r20 - 1)]) (rest := [.long v6]) oP dX4_countAsGreat_51 lk_X4_48 rfl sh_14 rfl rfl rfl rfl (Nat.le_of_ble_eq_true rfl)) (c_X4_countUpTo g l h a1 (r20 - 1) ha1) (fun r51 h51 => ?_)
      refine R_lsub o1 dX4_countAsGreat_54 ?_
      refine R_goto o1 68 dX4_countAsGreat_55 (by decide) ?_
      exact T_some (fun p => rr1 _ _ _ _ dX4_countAsGreat_68 p)
    · refine R_aload_n o 0 dX4_countAsGreat_58 rfl rfl ?_
      refine R_aload_n o 1 dX4_countAsGreat_59 rfl rfl ?_
      refine R_iload o 4 dX4_countAsGreat_60 rfl ?_
      refine R_iload o 5 dX4_countAsGreat_62 rfl ?_
      refine R_isub o dX4_countAsGreat_64 ?_
      refine K1_lh (callV1 (As := [rA g a1, .int (r8 - r20)]) (rest := []) oP dX4_countAsGreat_65 lk_X4_48 rfl sh_14 rfl rfl rfl rfl (Nat.le_of_ble_eq_true rfl)) (c_X4_countUpTo g l h a1 (r8 - r20) ha1) (fun r65 h65 => ?_)
      exact T_some (fun p => rr1 _ _ _ _ dX4_countAsGreat_68 p)
  · refine R_lload_n o 3 dX4_countAsGreat_30 rfl rfl ?_
    exact T_some (fun p => rr _ _ _ _ dX4_countAsGreat_31 p)
theorem c_X4_countAsGreat (g : Gx) (l : Launch) (h : MH) (a1 : Nat) (x2 : Int32) (ha1 : shp a1 = (1, 0)) (r : (Int64 × MH)) (e : f_X4_countAsGreat h a1 x2 = some r) : Ctr g l yX4_countAsGreat cX4_countAsGreat 7 (some .long) 3 73 1 [rA g 14, rA g a1, .int x2] h (some (.long r.1)) r.2 := mkC1l (plainFor_of_name (by decide)) (Nat.le_of_ble_eq_true rfl) (fun V V1 Rt o rr rr1 p => b_X4_countAsGreat o rr rr1 h a1 x2 ha1 r e p)
/-! X5_isMissing -/
noncomputable def f_X5_isMissing (h : MH) (a0 : Nat) : Option Bool :=
  (if (h.1 a0 1) < 0 then some true else some false)
set_option maxRecDepth 100000 in
set_option maxHeartbeats 4000000 in
theorem b_X5_isMissing {g : Gx} {l : Launch} {V : VT} {Rt : Option Value → MH → Prop} (o : Ok g l RX5 cX5_isMissing 1 0 0 0 V) (rr : ORz cX5_isMissing V Rt) (h : MH) (a0 : Nat) (ha0 : shp a0 = (5, 0)) : T (fun r => Rt (some (.int (b2i r))) h) (f_X5_isMissing h a0) (V 0 [(0, rA g a0)] [] h) := by
  unfold f_X5_isMissing
  refine R_aload_n o 0 dX5_isMissing_0 rfl rfl ?_
  refine R_getI o dX5_isMissing_1 fl_X5_15 ha0 (by decide) rfl ?_
  refine R_if_ge o 11 dX5_isMissing_4 (by decide) ?_ ?_
  · refine R_iconst (v := 1) o dX5_isMissing_7 (by decide) ?_
    refine R_goto o 12 dX5_isMissing_8 (by decide) ?_
    exact T_some (fun p => rr _ _ true _ dX5_isMissing_12 p)
  · refine R_iconst (v := 0) o dX5_isMissing_11 (by decide) ?_
    exact T_some (fun p => rr _ _ false _ dX5_isMissing_12 p)
theorem c_X5_isMissing (g : Gx) (l : Launch) (h : MH) (a0 : Nat) (ha0 : shp a0 = (5, 0)) (r : Bool) (e : f_X5_isMissing h a0 = some r) : Ctr g l yX5_isMissing cX5_isMissing 1 (some .boolean) 0 0 0 [rA g a0] h (some (.int (b2i r))) h := mkCz (plainFor_of_name (by decide)) (Nat.le_of_ble_eq_true rfl) (fun V Rt o rr p => b_X5_isMissing o rr h a0 ha0 r e p)
/-! X5_hasSpan -/
noncomputable def f_X5_hasSpan (h : MH) (a0 : Nat) (x1 : Int32) (x2 : Int32) : Option Bool :=
  (if x1 < 0 then some false else (if x2 < 0 then some false else (if (h.1 a0 1) < x2 then some false else (if ((h.1 a0 1) - x2) < x1 then some false else some true))))
set_option maxRecDepth 100000 in
set_option maxHeartbeats 4000000 in
theorem b_X5_hasSpan {g : Gx} {l : Launch} {V : VT} {Rt : Option Value → MH → Prop} (o : Ok g l RX5 cX5_hasSpan 3 0 0 0 V) (rr : ORz cX5_hasSpan V Rt) (h : MH) (a0 : Nat) (x1 : Int32) (x2 : Int32) (ha0 : shp a0 = (5, 0)) : T (fun r => Rt (some (.int (b2i r))) h) (f_X5_hasSpan h a0 x1 x2) (V 0 [(0, rA g a0), (1, .int x1), (2, .int x2)] [] h) := by
  unfold f_X5_hasSpan
  refine R_iload_n o 1 dX5_hasSpan_0 rfl rfl ?_
  refine R_if_lt o 30 dX5_hasSpan_1 (by decide) ?_ ?_
  · refine R_iconst (v := 0) o dX5_hasSpan_30 (by decide) ?_
    exact T_some (fun p => rr _ _ false _ dX5_hasSpan_31 p)
  · refine R_iload_n o 2 dX5_hasSpan_4 rfl rfl ?_
    refine R_if_lt o 30 dX5_hasSpan_5 (by decide) ?_ ?_
    · refine R_iconst (v := 0) o dX5_hasSpan_30 (by decide) ?_
      exact T_some (fun p => rr _ _ false _ dX5_hasSpan_31 p)
    · refine R_iload_n o 2 dX5_hasSpan_8 rfl rfl ?_
      refine R_aload_n o 0 dX5_hasSpan_9 rfl rfl ?_
      refine R_getI o dX5_hasSpan_10 fl_X5_15 ha0 (by decide) rfl ?_
      refine R_icmp_gt o 30 dX5_hasSpan_13 (by decide) ?_ ?_
      · refine R_iconst (v := 0) o dX5_hasSpan_30 (by decide) ?_
        exact T_some (fun p => rr _ _ false _ dX5_hasSpan_31 p)
      · refine R_iload_n o 1 dX5_hasSpan_16 rfl rfl ?_
        refine R_aload_n o 0 dX5_hasSpan_17 rfl rfl ?_
        refine R_getI o dX5_hasSpan_18 fl_X5_15 ha0 (by decide) rfl ?_
        refine R_iload_n o 2 dX5_hasSpan_21 rfl rfl ?_
        refine R_isub o dX5_hasSpan_22 ?_
        refine R_icmp_gt o 30 dX5_hasSpan_23 (by decide) ?_ ?_
        · refine R_iconst (v := 0) o dX5_hasSpan_30 (by decide) ?_
          exact T_some (fun p => rr _ _ false _ dX5_hasSpan_31 p)
        · refine R_iconst (v := 1) o dX5_hasSpan_26 (by decide) ?_
          refine R_goto o 31 dX5_hasSpan_27 (by decide) ?_
          exact T_some (fun p => rr _ _ true _ dX5_hasSpan_31 p)
theorem c_X5_hasSpan (g : Gx) (l : Launch) (h : MH) (a0 : Nat) (x1 : Int32) (x2 : Int32) (ha0 : shp a0 = (5, 0)) (r : Bool) (e : f_X5_hasSpan h a0 x1 x2 = some r) : Ctr g l yX5_hasSpan cX5_hasSpan 3 (some .boolean) 0 0 0 [rA g a0, .int x1, .int x2] h (some (.int (b2i r))) h := mkCz (plainFor_of_name (by decide)) (Nat.le_of_ble_eq_true rfl) (fun V Rt o rr p => b_X5_hasSpan o rr h a0 x1 x2 ha0 r e p)
/-! X5_lose -/
noncomputable def f_X5_lose (h : MH) (a0 : Nat) : Option MH :=
  nm (uI h a0 1 (-1)) (fun h2 => some h2)
set_option maxRecDepth 100000 in
set_option maxHeartbeats 4000000 in
theorem b_X5_lose {g : Gx} {l : Launch} {V : VT} {Rt : Option Value → MH → Prop} (o : Ok g l RX5 cX5_lose 1 0 0 0 V) (rr : ORv cX5_lose V Rt) (h : MH) (a0 : Nat) (ha0 : shp a0 = (5, 0)) : T (fun r => Rt none r) (f_X5_lose h a0) (V 0 [(0, rA g a0)] [] h) := by
  unfold f_X5_lose
  refine R_aload_n o 0 dX5_lose_0 rfl rfl ?_
  refine R_iconst (v := (-1)) o dX5_lose_1 (by decide) ?_
  refine R_putI o dX5_lose_2 fp_X5_15 ha0 (by decide) rfl ?_
  refine R_nmH (fun h2 => ?_)
  exact T_some (fun p => rr _ _ _ dX5_lose_5 p)
theorem c_X5_lose (g : Gx) (l : Launch) (h : MH) (a0 : Nat) (ha0 : shp a0 = (5, 0)) (r : MH) (e : f_X5_lose h a0 = some r) : Ctr g l yX5_lose cX5_lose 1 none 0 0 0 [rA g a0] h none r := mkCv (plainFor_of_name (by decide)) (Nat.le_of_ble_eq_true rfl) (fun V Rt o rr p => b_X5_lose o rr h a0 ha0 r e p)
/-! X5_total -/
noncomputable def f_X5_total_B4 (h : MH) (a0 : Nat) (l1 : Int64) (x3 : Int32) : Option ((Int64 × Int32) ⊕ (Int64)) :=
  (if x3 < (h.1 a0 1) then gd (ix x3 60) (nm (l1 + (Int32.toInt64 (h.1 (rf a0 0) x3.toNatClampNeg))) (fun v21 => some (.inl (v21, (x3 + 1))))) else some (.inr l1))
set_option maxRecDepth 100000 in
set_option maxHeartbeats 4000000 in
theorem t_X5_total_B4 {g : Gx} {l : Launch} {V : VT} {Rt : Option Value → MH → Prop} (o : Ok g l RX5 cX5_total 4 0 0 0 V) (rr : ORl cX5_total V Rt) (h : MH) (a0 : Nat) (l1 : Int64) (x3 : Int32) (ha0 : shp a0 = (5, 0)) : T (Sum.elim (fun s => V 4 [(0, rA g a0), (1, .long s.1), (3, .int s.2)] [] h) (fun b => V 28 [(1, .long b)] [] h)) (f_X5_total_B4  h a0 l1 x3) (V 4 [(0, rA g a0), (1, .long l1), (3, .int x3)] [] h) := by
  unfold f_X5_total_B4
  refine R_iload_n o 2 dX5_total_4 rfl rfl ?_
  refine R_aload_n o 0 dX5_total_5 rfl rfl ?_
  refine R_getI o dX5_total_6 fl_X5_15 ha0 (by decide) rfl ?_
  refine R_icmp_ge o 28 dX5_total_9 (by decide) ?_ ?_
  · refine R_lload_n o 1 dX5_total_12 rfl rfl ?_
    refine R_aload_n o 0 dX5_total_13 rfl rfl ?_
    refine R_getR o dX5_total_14 fl_X5_9 ha0 (by decide) rfl rfl ?_
    refine R_iload_n o 2 dX5_total_17 rfl rfl ?_
    refine R_iald o dX5_total_18 (sh_Row_0 ha0) ?_
    refine R_i2l o dX5_total_19 ?_
    refine R_ladd o dX5_total_20 ?_
    refine R_nmL (fun v21 => ?_)
    refine R_lstore_n (lv2 := [(0, rA g a0), (1, .long v21), (3, .int x3)]) o dX5_total_21 rfl (by decide) rfl ?_
    refine R_iinc (v := (x3 + 1)) (lv2 := [(0, rA g a0), (1, .long v21), (3, .int (x3 + 1))]) o 2 dX5_total_22 rfl rfl (by decide) rfl ?_
    refine R_goto o 4 dX5_total_25 (by decide) ?_
    exact T_some (fun p => p)
  · refine R_drop (lv2 := [(1, .long l1)]) o [1] rfl ?_
    exact T_some (fun p => p)
noncomputable def f_X5_total_L4 (h : MH) (a0 : Nat) (l1 : Int64) (x3 : Int32) : Option (Int64) :=
  lpo (fun s : Int64 × Int32 => f_X5_total_B4 h a0 s.1 s.2) (l1, x3)
theorem t_X5_total_L4 {g : Gx} {l : Launch} {V : VT} {Rt : Option Value → MH → Prop} (o : Ok g l RX5 cX5_total 4 0 0 0 V) (rr : ORl cX5_total V Rt) (h : MH) (a0 : Nat) (l1 : Int64) (x3 : Int32) (ha0 : shp a0 = (5, 0)) : T (fun b => V 28 [(1, .long b)] [] h) (f_X5_total_L4 h a0 l1 x3) (V 4 [(0, rA g a0), (1, .long l1), (3, .int x3)] [] h) := T_loop (head := fun s : Int64 × Int32 => V 4 [(0, rA g a0), (1, .long s.1), (3, .int s.2)] [] h) (fun s => t_X5_total_B4 o rr h a0 s.1 s.2 ha0) (l1, x3)
noncomputable def f_X5_total (h : MH) (a0 : Nat) : Option Int64 :=
  Option.bind (f_X5_total_L4 h a0 0 0) (fun b4 => some b4)
set_option maxRecDepth 100000 in
set_option maxHeartbeats 4000000 in
theorem b_X5_total {g : Gx} {l : Launch} {V : VT} {Rt : Option Value → MH → Prop} (o : Ok g l RX5 cX5_total 4 0 0 0 V) (rr : ORl cX5_total V Rt) (h : MH) (a0 : Nat) (ha0 : shp a0 = (5, 0)) : T (fun r => Rt (some (.long r)) h) (f_X5_total h a0) (V 0 [(0, rA g a0)] [] h) := by
  unfold f_X5_total
  refine R_lconst (v := 0) o dX5_total_0 (by decide) ?_
  refine R_lstore_n (lv2 := [(0, rA g a0), (1, .long 0)]) o dX5_total_1 rfl (by decide) rfl ?_
  refine R_iconst (v := 0) o dX5_total_2 (by decide) ?_
  refine R_istore_n (lv2 := [(0, rA g a0), (1, .long 0), (3, .int 0)]) o dX5_total_3 rfl (by decide) rfl ?_
  refine T_bind (t_X5_total_L4 o rr h a0 0 0 ha0) (fun b4 => ?_)
  refine R_lload_n o 0 dX5_total_28 rfl rfl ?_
  exact T_some (fun p => rr _ _ _ _ dX5_total_29 p)
theorem c_X5_total (g : Gx) (l : Launch) (h : MH) (a0 : Nat) (ha0 : shp a0 = (5, 0)) (r : Int64) (e : f_X5_total h a0 = some r) : Ctr g l yX5_total cX5_total 4 (some .long) 0 0 0 [rA g a0] h (some (.long r)) h := mkCl (plainFor_of_name (by decide)) (Nat.le_of_ble_eq_true rfl) (fun V Rt o rr p => b_X5_total o rr h a0 ha0 r e p)
/-! X5_isWithin -/
noncomputable def f_X5_isWithin_B2 (h : MH) (a0 : Nat) (x1 : Int32) (x2 : Int32) (x3 : Int32) : Option ((Int32) ⊕ ((Unit) ⊕ (Bool))) :=
  (if x3 < (h.1 a0 1) then gd (ix x3 60) ((if (h.1 (rf a0 0) x3.toNatClampNeg) < x1 then some (.inr (.inr false)) else gd (ix x3 60) ((if x2 < (h.1 (rf a0 0) x3.toNatClampNeg) then some (.inr (.inr false)) else some (.inl (x3 + 1)))))) else some (.inr (.inl ())))
set_option maxRecDepth 100000 in
set_option maxHeartbeats 4000000 in
theorem t_X5_isWithin_B2 {g : Gx} {l : Launch} {V : VT} {Rt : Option Value → MH → Prop} (o : Ok g l RX5 cX5_isWithin 4 0 0 0 V) (rr : ORz cX5_isWithin V Rt) (h : MH) (a0 : Nat) (x1 : Int32) (x2 : Int32) (x3 : Int32) (ha0 : shp a0 = (5, 0)) : T (Sum.elim (fun s => V 2 [(0, rA g a0), (1, .int x1), (2, .int x2), (3, .int s)] [] h) (Sum.elim (fun b => V 38 [] [] h) (fun r => Rt (some (.int (b2i r))) h))) (f_X5_isWithin_B2  h a0 x1 x2 x3) (V 2 [(0, rA g a0), (1, .int x1), (2, .int x2), (3, .int x3)] [] h) := by
  unfold f_X5_isWithin_B2
  refine R_iload_n o 3 dX5_isWithin_2 rfl rfl ?_
  refine R_aload_n o 0 dX5_isWithin_3 rfl rfl ?_
  refine R_getI o dX5_isWithin_4 fl_X5_15 ha0 (by decide) rfl ?_
  refine R_icmp_ge o 38 dX5_isWithin_7 (by decide) ?_ ?_
  · refine R_aload_n o 0 dX5_isWithin_10 rfl rfl ?_
    refine R_getR o dX5_isWithin_11 fl_X5_9 ha0 (by decide) rfl rfl ?_
    refine R_iload_n o 3 dX5_isWithin_14 rfl rfl ?_
    refine R_iald o dX5_isWithin_15 (sh_Row_0 ha0) ?_
    refine R_iload_n o 1 dX5_isWithin_16 rfl rfl ?_
    refine R_icmp_lt o 30 dX5_isWithin_17 (by decide) ?_ ?_
    · refine R_iconst (v := 0) o dX5_isWithin_30 (by decide) ?_
      exact T_some (fun p => rr _ _ false _ dX5_isWithin_31 p)
    · refine R_aload_n o 0 dX5_isWithin_20 rfl rfl ?_
      refine R_getR o dX5_isWithin_21 fl_X5_9 ha0 (by decide) rfl rfl ?_
      refine R_iload_n o 3 dX5_isWithin_24 rfl rfl ?_
      refine R_iald o dX5_isWithin_25 (sh_Row_0 ha0) ?_
      refine R_iload_n o 2 dX5_isWithin_26 rfl rfl ?_
      refine R_icmp_le o 32 dX5_isWithin_27 (by decide) ?_ ?_
      · refine R_iconst (v := 0) o dX5_isWithin_30 (by decide) ?_
        exact T_some (fun p => rr _ _ false _ dX5_isWithin_31 p)
      · refine R_iinc (v := (x3 + 1)) (lv2 := [(0, rA g a0), (1, .int x1), (2, .int x2), (3, .int (x3 + 1))]) o 3 dX5_isWithin_32 rfl rfl (by decide) rfl ?_
        refine R_goto o 2 dX5_isWithin_35 (by decide) ?_
        exact T_some (fun p => p)
  · refine R_drop (lv2 := []) o [] rfl ?_
    exact T_some (fun p => p)
noncomputable def f_X5_isWithin_L2 (h : MH) (a0 : Nat) (x1 : Int32) (x2 : Int32) (x3 : Int32) : Option ((Unit) ⊕ (Bool)) :=
  lpo (fun s : Int32 => f_X5_isWithin_B2 h a0 x1 x2 s) x3
theorem t_X5_isWithin_L2 {g : Gx} {l : Launch} {V : VT} {Rt : Option Value → MH → Prop} (o : Ok g l RX5 cX5_isWithin 4 0 0 0 V) (rr : ORz cX5_isWithin V Rt) (h : MH) (a0 : Nat) (x1 : Int32) (x2 : Int32) (x3 : Int32) (ha0 : shp a0 = (5, 0)) : T (Sum.elim (fun b => V 38 [] [] h) (fun r => Rt (some (.int (b2i r))) h)) (f_X5_isWithin_L2 h a0 x1 x2 x3) (V 2 [(0, rA g a0), (1, .int x1), (2, .int x2), (3, .int x3)] [] h) := T_loop (head := fun s : Int32 => V 2 [(0, rA g a0), (1, .int x1), (2, .int x2), (3, .int s)] [] h) (fun s => t_X5_isWithin_B2 o rr h a0 x1 x2 s ha0) x3
noncomputable def f_X5_isWithin (h : MH) (a0 : Nat) (x1 : Int32) (x2 : Int32) : Option Bool :=
  Option.bind (f_X5_isWithin_L2 h a0 x1 x2 0) (Sum.elim (fun b2 => some true) (fun r => some r))
set_option maxRecDepth 100000 in
set_option maxHeartbeats 4000000 in
theorem b_X5_isWithin {g : Gx} {l : Launch} {V : VT} {Rt : Option Value → MH → Prop} (o : Ok g l RX5 cX5_isWithin 4 0 0 0 V) (rr : ORz cX5_isWithin V Rt) (h : MH) (a0 : Nat) (x1 : Int32) (x2 : Int32) (ha0 : shp a0 = (5, 0)) : T (fun r => Rt (some (.int (b2i r))) h) (f_X5_isWithin h a0 x1 x2) (V 0 [(0, rA g a0), (1, .int x1), (2, .int x2)] [] h) := by
  unfold f_X5_isWithin
  refine R_iconst (v := 0) o dX5_isWithin_0 (by decide) ?_
  refine R_istore_n (lv2 := [(0, rA g a0), (1, .int x1), (2, .int x2), (3, .int 0)]) o dX5_isWithin_1 rfl (by decide) rfl ?_
  refine T_bind2 (t_X5_isWithin_L2 o rr h a0 x1 x2 0 ha0) (fun b2 => ?_) (fun r => ?_)
  · refine R_iconst (v := 1) o dX5_isWithin_38 (by decide) ?_
    exact T_some (fun p => rr _ _ true _ dX5_isWithin_39 p)
  · exact T_some (fun p => p)
theorem c_X5_isWithin (g : Gx) (l : Launch) (h : MH) (a0 : Nat) (x1 : Int32) (x2 : Int32) (ha0 : shp a0 = (5, 0)) (r : Bool) (e : f_X5_isWithin h a0 x1 x2 = some r) : Ctr g l yX5_isWithin cX5_isWithin 4 (some .boolean) 0 0 0 [rA g a0, .int x1, .int x2] h (some (.int (b2i r))) h := mkCz (plainFor_of_name (by decide)) (Nat.le_of_ble_eq_true rfl) (fun V Rt o rr p => b_X5_isWithin o rr h a0 x1 x2 ha0 r e p)
/-! X5_hasTwoAlike -/
noncomputable def f_X5_hasTwoAlike_B12 (h : MH) (a0 : Nat) (x1 : Int32) (x2 : Int32) : Option ((Int32) ⊕ ((Unit) ⊕ (Bool))) :=
  (if x2 < x1 then gd (ix x1 60) (gd (ix x2 60) ((if (h.1 (rf a0 0) x1.toNatClampNeg) = (h.1 (rf a0 0) x2.toNatClampNeg) then some (.inr (.inr true)) else some (.inl (x2 + 1))))) else some (.inr (.inl ())))
set_option maxRecDepth 100000 in
set_option maxHeartbeats 4000000 in
theorem t_X5_hasTwoAlike_B12 {g : Gx} {l : Launch} {V : VT} {Rt : Option Value → MH → Prop} (o : Ok g l RX5 cX5_hasTwoAlike 3 0 0 0 V) (rr : ORz cX5_hasTwoAlike V Rt) (h : MH) (a0 : Nat) (x1 : Int32) (x2 : Int32) (ha0 : shp a0 = (5, 0)) : T (Sum.elim (fun s => V 12 [(0, rA g a0), (1, .int x1), (2, .int s)] [] h) (Sum.elim (fun b => V 40 [(0, rA g a0), (1, .int x1)] [] h) (fun r => Rt (some (.int (b2i r))) h))) (f_X5_hasTwoAlike_B12  h a0 x1 x2) (V 12 [(0, rA g a0), (1, .int x1), (2, .int x2)] [] h) := by
  unfold f_X5_hasTwoAlike_B12
  refine R_iload_n o 2 dX5_hasTwoAlike_12 rfl rfl ?_
  refine R_iload_n o 1 dX5_hasTwoAlike_13 rfl rfl ?_
  refine R_icmp_ge o 40 dX5_hasTwoAlike_14 (by decide) ?_ ?_
  · refine R_aload_n o 0 dX5_hasTwoAlike_17 rfl rfl ?_
    refine R_getR o dX5_hasTwoAlike_18 fl_X5_9 ha0 (by decide) rfl rfl ?_
    refine R_iload_n o 1 dX5_hasTwoAlike_21 rfl rfl ?_
    refine R_iald o dX5_hasTwoAlike_22 (sh_Row_0 ha0) ?_
    refine R_aload_n o 0 dX5_hasTwoAlike_23 rfl rfl ?_
    refine R_getR o dX5_hasTwoAlike_24 fl_X5_9 ha0 (by decide) rfl rfl ?_
    refine R_iload_n o 2 dX5_hasTwoAlike_27 rfl rfl ?_
    refine R_iald o dX5_hasTwoAlike_28 (sh_Row_0 ha0) ?_
    refine R_icmp_ne o 34 dX5_hasTwoAlike_29 (by decide) ?_ ?_
    · refine R_iconst (v := 1) o dX5_hasTwoAlike_32 (by decide) ?_
      exact T_some (fun p => rr _ _ true _ dX5_hasTwoAlike_33 p)
    · refine R_iinc (v := (x2 + 1)) (lv2 := [(0, rA g a0), (1, .int x1), (2, .int (x2 + 1))]) o 2 dX5_hasTwoAlike_34 rfl rfl (by decide) rfl ?_
      refine R_goto o 12 dX5_hasTwoAlike_37 (by decide) ?_
      exact T_some (fun p => p)
  · refine R_drop (lv2 := [(0, rA g a0), (1, .int x1)]) o [0, 1] rfl ?_
    exact T_some (fun p => p)
noncomputable def f_X5_hasTwoAlike_L12 (h : MH) (a0 : Nat) (x1 : Int32) (x2 : Int32) : Option ((Unit) ⊕ (Bool)) :=
  lpo (fun s : Int32 => f_X5_hasTwoAlike_B12 h a0 x1 s) x2
theorem t_X5_hasTwoAlike_L12 {g : Gx} {l : Launch} {V : VT} {Rt : Option Value → MH → Prop} (o : Ok g l RX5 cX5_hasTwoAlike 3 0 0 0 V) (rr : ORz cX5_hasTwoAlike V Rt) (h : MH) (a0 : Nat) (x1 : Int32) (x2 : Int32) (ha0 : shp a0 = (5, 0)) : T (Sum.elim (fun b => V 40 [(0, rA g a0), (1, .int x1)] [] h) (fun r => Rt (some (.int (b2i r))) h)) (f_X5_hasTwoAlike_L12 h a0 x1 x2) (V 12 [(0, rA g a0), (1, .int x1), (2, .int x2)] [] h) := T_loop (head := fun s : Int32 => V 12 [(0, rA g a0), (1, .int x1), (2, .int s)] [] h) (fun s => t_X5_hasTwoAlike_B12 o rr h a0 x1 s ha0) x2
noncomputable def f_X5_hasTwoAlike_B2 (h : MH) (a0 : Nat) (x1 : Int32) : Option ((Int32) ⊕ ((Unit) ⊕ (Bool))) :=
  (if x1 < (h.1 a0 1) then Option.bind (f_X5_hasTwoAlike_L12 h a0 x1 0) (Sum.elim (fun b12 => some (.inl (x1 + 1))) (fun r => some (.inr (.inr r)))) else some (.inr (.inl ())))
set_option maxRecDepth 100000 in
set_option maxHeartbeats 4000000 in
theorem t_X5_hasTwoAlike_B2 {g : Gx} {l : Launch} {V : VT} {Rt : Option Value → MH → Prop} (o : Ok g l RX5 cX5_hasTwoAlike 3 0 0 0 V) (rr : ORz cX5_hasTwoAlike V Rt) (h : MH) (a0 : Nat) (x1 : Int32) (ha0 : shp a0 = (5, 0)) : T (Sum.elim (fun s => V 2 [(0, rA g a0), (1, .int s)] [] h) (Sum.elim (fun b => V 46 [] [] h) (fun r => Rt (some (.int (b2i r))) h))) (f_X5_hasTwoAlike_B2  h a0 x1) (V 2 [(0, rA g a0), (1, .int x1)] [] h) := by
  unfold f_X5_hasTwoAlike_B2
  refine R_iload_n o 1 dX5_hasTwoAlike_2 rfl rfl ?_
  refine R_aload_n o 0 dX5_hasTwoAlike_3 rfl rfl ?_
  refine R_getI o dX5_hasTwoAlike_4 fl_X5_15 ha0 (by decide) rfl ?_
  refine R_icmp_ge o 46 dX5_hasTwoAlike_7 (by decide) ?_ ?_
  · refine R_iconst (v := 0) o dX5_hasTwoAlike_10 (by decide) ?_
    refine R_istore_n (lv2 := [(0, rA g a0), (1, .int x1), (2, .int 0)]) o dX5_hasTwoAlike_11 rfl (by decide) rfl ?_
    refine T_bind2 (t_X5_hasTwoAlike_L12 o rr h a0 x1 0 ha0) (fun b12 => ?_) (fun r => ?_)
    · refine R_iinc (v := (x1 + 1)) (lv2 := [(0, rA g a0), (1, .int (x1 + 1))]) o 1 dX5_hasTwoAlike_40 rfl rfl (by decide) rfl ?_
      refine R_goto o 2 dX5_hasTwoAlike_43 (by decide) ?_
      exact T_some (fun p => p)
    · exact T_some (fun p => p)
  · refine R_drop (lv2 := []) o [] rfl ?_
    exact T_some (fun p => p)
noncomputable def f_X5_hasTwoAlike_L2 (h : MH) (a0 : Nat) (x1 : Int32) : Option ((Unit) ⊕ (Bool)) :=
  lpo (fun s : Int32 => f_X5_hasTwoAlike_B2 h a0 s) x1
theorem t_X5_hasTwoAlike_L2 {g : Gx} {l : Launch} {V : VT} {Rt : Option Value → MH → Prop} (o : Ok g l RX5 cX5_hasTwoAlike 3 0 0 0 V) (rr : ORz cX5_hasTwoAlike V Rt) (h : MH) (a0 : Nat) (x1 : Int32) (ha0 : shp a0 = (5, 0)) : T (Sum.elim (fun b => V 46 [] [] h) (fun r => Rt (some (.int (b2i r))) h)) (f_X5_hasTwoAlike_L2 h a0 x1) (V 2 [(0, rA g a0), (1, .int x1)] [] h) := T_loop (head := fun s : Int32 => V 2 [(0, rA g a0), (1, .int s)] [] h) (fun s => t_X5_hasTwoAlike_B2 o rr h a0 s ha0) x1
noncomputable def f_X5_hasTwoAlike (h : MH) (a0 : Nat) : Option Bool :=
  Option.bind (f_X5_hasTwoAlike_L2 h a0 0) (Sum.elim (fun b2 => some false) (fun r => some r))
set_option maxRecDepth 100000 in
set_option maxHeartbeats 4000000 in
theorem b_X5_hasTwoAlike {g : Gx} {l : Launch} {V : VT} {Rt : Option Value → MH → Prop} (o : Ok g l RX5 cX5_hasTwoAlike 3 0 0 0 V) (rr : ORz cX5_hasTwoAlike V Rt) (h : MH) (a0 : Nat) (ha0 : shp a0 = (5, 0)) : T (fun r => Rt (some (.int (b2i r))) h) (f_X5_hasTwoAlike h a0) (V 0 [(0, rA g a0)] [] h) := by
  unfold f_X5_hasTwoAlike
  refine R_iconst (v := 0) o dX5_hasTwoAlike_0 (by decide) ?_
  refine R_istore_n (lv2 := [(0, rA g a0), (1, .int 0)]) o dX5_hasTwoAlike_1 rfl (by decide) rfl ?_
  refine T_bind2 (t_X5_hasTwoAlike_L2 o rr h a0 0 ha0) (fun b2 => ?_) (fun r => ?_)
  · refine R_iconst (v := 0) o dX5_hasTwoAlike_46 (by decide) ?_
    exact T_some (fun p => rr _ _ false _ dX5_hasTwoAlike_47 p)
  · exact T_some (fun p => p)
theorem c_X5_hasTwoAlike (g : Gx) (l : Launch) (h : MH) (a0 : Nat) (ha0 : shp a0 = (5, 0)) (r : Bool) (e : f_X5_hasTwoAlike h a0 = some r) : Ctr g l yX5_hasTwoAlike cX5_hasTwoAlike 3 (some .boolean) 0 0 0 [rA g a0] h (some (.int (b2i r))) h := mkCz (plainFor_of_name (by decide)) (Nat.le_of_ble_eq_true rfl) (fun V Rt o rr p => b_X5_hasTwoAlike o rr h a0 ha0 r e p)
