/-! X5_digestFrom -/
noncomputable def f_X5_digestFrom_B15 (h : MH) (a0 : Nat) (l3 : Int64) (x5 : Int32) : Option ((Int64 × Int32) ⊕ (Int64)) :=
  (if x5 < (h.1 a0 1) then gd (ix x5 60) (nm ((31 * l3) + (Int32.toInt64 (h.1 (rf a0 0) x5.toNatClampNeg))) (fun v38 => some (.inl (v38, (x5 + 1))))) else some (.inr l3))
set_option maxRecDepth 100000 in
set_option maxHeartbeats 4000000 in
theorem t_X5_digestFrom_B15 {g : Gx} {l : Launch} {V : VT} {Rt : Option Value → MH → Prop} (o : Ok g l RX5 cX5_digestFrom 6 0 0 0 V) (rr : ORl cX5_digestFrom V Rt) (h : MH) (a0 : Nat) (l3 : Int64) (x5 : Int32) (ha0 : shp a0 = (5, 0)) : T (Sum.elim (fun s => V 15 [(0, rA g a0), (3, .long s.1), (5, .int s.2)] [] h) (fun b => V 45 [(3, .long b)] [] h)) (f_X5_digestFrom_B15  h a0 l3 x5) (V 15 [(0, rA g a0), (3, .long l3), (5, .int x5)] [] h) := by
  unfold f_X5_digestFrom_B15
  refine R_iload o 2 dX5_digestFrom_15 rfl ?_
  refine R_aload_n o 0 dX5_digestFrom_17 rfl rfl ?_
  refine R_getI o dX5_digestFrom_18 fl_X5_15 ha0 (by decide) rfl ?_
  refine R_icmp_ge o 45 dX5_digestFrom_21 (by decide) ?_ ?_
  · refine R_ldc2 (v := 31) o dX5_digestFrom_24 kc_X5_38 ?_
    refine R_lload_n o 1 dX5_digestFrom_27 rfl rfl ?_
    refine R_lmul o dX5_digestFrom_28 ?_
    refine R_aload_n o 0 dX5_digestFrom_29 rfl rfl ?_
    refine R_getR o dX5_digestFrom_30 fl_X5_9 ha0 (by decide) rfl rfl ?_
    refine R_iload o 2 dX5_digestFrom_33 rfl ?_
    refine R_iald o dX5_digestFrom_35 (sh_Row_0 ha0) ?_
    refine R_i2l o dX5_digestFrom_36 ?_
    refine R_ladd o dX5_digestFrom_37 ?_
    refine R_nmL (fun v38 => ?_)
    refine R_lstore_n (lv2 := [(0, rA g a0), (3, .long v38), (5, .int x5)]) o dX5_digestFrom_38 rfl (by decide) rfl ?_
    refine R_iinc (v := (x5 + 1)) (lv2 := [(0, rA g a0), (3, .long v38), (5, .int (x5 + 1))]) o 2 dX5_digestFrom_39 rfl rfl (by decide) rfl ?_
    refine R_goto o 15 dX5_digestFrom_42 (by decide) ?_
    exact T_some (fun p => p)
  · refine R_drop (lv2 := [(3, .long l3)]) o [1] rfl ?_
    exact T_some (fun p => p)
noncomputable def f_X5_digestFrom_L15 (h : MH) (a0 : Nat) (l3 : Int64) (x5 : Int32) : Option (Int64) :=
  lpo (fun s : Int64 × Int32 => f_X5_digestFrom_B15 h a0 s.1 s.2) (l3, x5)
theorem t_X5_digestFrom_L15 {g : Gx} {l : Launch} {V : VT} {Rt : Option Value → MH → Prop} (o : Ok g l RX5 cX5_digestFrom 6 0 0 0 V) (rr : ORl cX5_digestFrom V Rt) (h : MH) (a0 : Nat) (l3 : Int64) (x5 : Int32) (ha0 : shp a0 = (5, 0)) : T (fun b => V 45 [(3, .long b)] [] h) (f_X5_digestFrom_L15 h a0 l3 x5) (V 15 [(0, rA g a0), (3, .long l3), (5, .int x5)] [] h) := T_loop (head := fun s : Int64 × Int32 => V 15 [(0, rA g a0), (3, .long s.1), (5, .int s.2)] [] h) (fun s => t_X5_digestFrom_B15 o rr h a0 s.1 s.2 ha0) (l3, x5)
noncomputable def f_X5_digestFrom (h : MH) (a0 : Nat) (l1 : Int64) : Option Int64 :=
  nm ((31 * l1) + (Int32.toInt64 (h.1 a0 1))) (fun v11 => Option.bind (f_X5_digestFrom_L15 h a0 v11 0) (fun b15 => some b15))
set_option maxRecDepth 100000 in
set_option maxHeartbeats 4000000 in
theorem b_X5_digestFrom {g : Gx} {l : Launch} {V : VT} {Rt : Option Value → MH → Prop} (o : Ok g l RX5 cX5_digestFrom 6 0 0 0 V) (rr : ORl cX5_digestFrom V Rt) (h : MH) (a0 : Nat) (l1 : Int64) (ha0 : shp a0 = (5, 0)) : T (fun r => Rt (some (.long r)) h) (f_X5_digestFrom h a0 l1) (V 0 [(0, rA g a0), (1, .long l1)] [] h) := by
  unfold f_X5_digestFrom
  refine R_ldc2 (v := 31) o dX5_digestFrom_0 kc_X5_38 ?_
  refine R_lload_n o 1 dX5_digestFrom_3 rfl rfl ?_
  refine R_lmul o dX5_digestFrom_4 ?_
  refine R_aload_n o 0 dX5_digestFrom_5 rfl rfl ?_
  refine R_getI o dX5_digestFrom_6 fl_X5_15 ha0 (by decide) rfl ?_
  refine R_i2l o dX5_digestFrom_9 ?_
  refine R_ladd o dX5_digestFrom_10 ?_
  refine R_nmL (fun v11 => ?_)
  refine R_lstore_n (lv2 := [(0, rA g a0), (1, .long l1), (3, .long v11)]) o dX5_digestFrom_11 rfl (by decide) rfl ?_
  refine R_iconst (v := 0) o dX5_digestFrom_12 (by decide) ?_
  refine R_istore (lv2 := [(0, rA g a0), (1, .long l1), (3, .long v11), (5, .int 0)]) o dX5_digestFrom_13 (by decide) rfl ?_
  refine R_drop (lv2 := [(0, rA g a0), (3, .long v11), (5, .int 0)]) o [0, 2, 3] rfl ?_
  refine T_bind (t_X5_digestFrom_L15 o rr h a0 v11 0 ha0) (fun b15 => ?_)
  refine R_lload_n o 0 dX5_digestFrom_45 rfl rfl ?_
  exact T_some (fun p => rr _ _ _ _ dX5_digestFrom_46 p)
theorem c_X5_digestFrom (g : Gx) (l : Launch) (h : MH) (a0 : Nat) (l1 : Int64) (ha0 : shp a0 = (5, 0)) (r : Int64) (e : f_X5_digestFrom h a0 l1 = some r) : Ctr g l yX5_digestFrom cX5_digestFrom 6 (some .long) 0 0 0 [rA g a0, .long l1] h (some (.long r)) h := mkCl (plainFor_of_name (by decide)) (Nat.le_of_ble_eq_true rfl) (fun V Rt o rr p => b_X5_digestFrom o rr h a0 l1 ha0 r e p)
/-! X6_isRow -/
noncomputable def f_X6_isRow (h : MH) (x1 : Int32) : Option Bool :=
  (if x1 < 0 then some false else (if x1 < 6 then some true else some false))
set_option maxRecDepth 100000 in
set_option maxHeartbeats 4000000 in
theorem b_X6_isRow {g : Gx} {l : Launch} {V : VT} {Rt : Option Value → MH → Prop} (o : Ok g l RX6 cX6_isRow 2 0 0 0 V) (rr : ORz cX6_isRow V Rt) (h : MH) (x1 : Int32) : T (fun r => Rt (some (.int (b2i r))) h) (f_X6_isRow h x1) (V 0 [(0, rA g 0), (1, .int x1)] [] h) := by
  unfold f_X6_isRow
  refine R_iload_n o 1 dX6_isRow_0 rfl rfl ?_
  refine R_if_lt o 17 dX6_isRow_1 (by decide) ?_ ?_
  · refine R_iconst (v := 0) o dX6_isRow_17 (by decide) ?_
    exact T_some (fun p => rr _ _ false _ dX6_isRow_18 p)
  · refine R_iload_n o 1 dX6_isRow_4 rfl rfl ?_
    refine R_aload_n o 0 dX6_isRow_5 rfl rfl ?_
    refine R_getR (a2 := 1) o dX6_isRow_6 fl_X6_11 sh_0 (by decide) rfl rf_0_0 ?_
    refine R_alenI (v := 6) o dX6_isRow_9 sh_1 (Or.inr (Or.inr (Or.inl rfl))) rfl ?_
    refine R_icmp_ge o 17 dX6_isRow_10 (by decide) ?_ ?_
    · refine R_iconst (v := 1) o dX6_isRow_13 (by decide) ?_
      refine R_goto o 18 dX6_isRow_14 (by decide) ?_
      exact T_some (fun p => rr _ _ true _ dX6_isRow_18 p)
    · refine R_iconst (v := 0) o dX6_isRow_17 (by decide) ?_
      exact T_some (fun p => rr _ _ false _ dX6_isRow_18 p)
theorem c_X6_isRow (g : Gx) (l : Launch) (h : MH) (x1 : Int32) (r : Bool) (e : f_X6_isRow h x1 = some r) : Ctr g l yX6_isRow cX6_isRow 2 (some .boolean) 0 0 0 [rA g 0, .int x1] h (some (.int (b2i r))) h := mkCz (plainFor_of_name (by decide)) (Nat.le_of_ble_eq_true rfl) (fun V Rt o rr p => b_X6_isRow o rr h x1  r e p)
/-! X6_found -/
noncomputable def f_X6_found (h : MH) (x1 : Int32) : Option (Int32 × MH) :=
  nm (uI h 0 10 x1) (fun h2 => (if x1 < 1 then some ((-3), h2) else (if 5 < x1 then some ((-3), h2) else gd (ix x1 6) (gd (ix x1 6) (nm (uI h2 17 x1.toNatClampNeg ((h2.1 17 x1.toNatClampNeg) + 1)) (fun h24 => some ((-3), h24)))))))
set_option maxRecDepth 100000 in
set_option maxHeartbeats 4000000 in
theorem b_X6_found {g : Gx} {l : Launch} {V : VT} {Rt : Option Value → MH → Prop} (o : Ok g l RX6 cX6_found 2 0 0 0 V) (rr : ORi cX6_found V Rt) (h : MH) (x1 : Int32) : T (fun r => Rt (some (.int r.1)) r.2) (f_X6_found h x1) (V 0 [(0, rA g 0), (1, .int x1)] [] h) := by
  unfold f_X6_found
  refine R_aload_n o 0 dX6_found_0 rfl rfl ?_
  refine R_iload_n o 1 dX6_found_1 rfl rfl ?_
  refine R_putI o dX6_found_2 fp_X6_65 sh_0 (by decide) rfl ?_
  refine R_nmH (fun h2 => ?_)
  refine R_iload_n o 1 dX6_found_5 rfl rfl ?_
  refine R_iconst (v := 1) o dX6_found_6 (by decide) ?_
  refine R_icmp_lt o 25 dX6_found_7 (by decide) ?_ ?_
  · refine R_bipush (v := (-3)) o dX6_found_25 (by decide) ?_
    exact T_some (fun p => rr _ _ _ _ dX6_found_27 p)
  · refine R_iload_n o 1 dX6_found_10 rfl rfl ?_
    refine R_iconst (v := 5) o dX6_found_11 (by decide) ?_
    refine R_icmp_gt o 25 dX6_found_12 (by decide) ?_ ?_
    · refine R_bipush (v := (-3)) o dX6_found_25 (by decide) ?_
      exact T_some (fun p => rr _ _ _ _ dX6_found_27 p)
    · refine R_aload_n o 0 dX6_found_15 rfl rfl ?_
      refine R_getR (a2 := 17) o dX6_found_16 fl_X6_68 sh_0 (by decide) rfl rf_0_11 ?_
      refine R_iload_n o 1 dX6_found_19 rfl rfl ?_
      refine R_dup2 o dX6_found_20 rfl rfl ?_
      refine R_iald o dX6_found_21 sh_17 ?_
      refine R_iconst (v := 1) o dX6_found_22 (by decide) ?_
      refine R_iadd o dX6_found_23 ?_
      refine R_iast o dX6_found_24 sh_17 ?_
      refine R_nmH (fun h24 => ?_)
      refine R_bipush (v := (-3)) o dX6_found_25 (by decide) ?_
      exact T_some (fun p => rr _ _ _ _ dX6_found_27 p)
theorem c_X6_found (g : Gx) (l : Launch) (h : MH) (x1 : Int32) (r : (Int32 × MH)) (e : f_X6_found h x1 = some r) : Ctr g l yX6_found cX6_found 2 (some .int) 0 0 0 [rA g 0, .int x1] h (some (.int r.1)) r.2 := mkCi (plainFor_of_name (by decide)) (Nat.le_of_ble_eq_true rfl) (fun V Rt o rr p => b_X6_found o rr h x1  r e p)
/-! X6_row -/
noncomputable def f_X6_row (h : MH) (x1 : Int32) (x2 : Int32) : Option (Int32 × MH) :=
  Option.bind (f_X6_isRow h x1) (fun r2 => (if r2 = true then (if 40 < x2 then some ((-1), h) else (if x2 < 0 then bnd2 (f_X6_found h 5) (fun r22 h22 => some (r22, h22)) else gd (ix x1 6) (Option.bind (f_X5_renew h (rf 1 x1.toNatClampNeg) x2 0) (fun h34 => some (x2, h34))))) else some ((-1), h)))
set_option maxRecDepth 100000 in
set_option maxHeartbeats 4000000 in
theorem b_X6_row {g : Gx} {l : Launch} {V : VT} {Rt : Option Value → MH → Prop} (o : Ok g l RX6 cX6_row 3 3 68 0 V) (rr : ORi cX6_row V Rt) (h : MH) (x1 : Int32) (x2 : Int32) : T (fun r => Rt (some (.int r.1)) r.2) (f_X6_row h x1 x2) (V 0 [(0, rA g 0), (1, .int x1), (2, .int x2)] [] h) := by
  unfold f_X6_row
  refine R_aload_n o 0 dX6_row_0 rfl rfl ?_
  refine R_iload_n o 1 dX6_row_1 rfl rfl ?_
  refine K_z (callV' (As := [.int x1]) (rest := []) o dX6_row_2 lk_X6_73 rfl sh_0 rfl rfl rfl rfl (Nat.le_of_ble_eq_true rfl)) (c_X6_isRow g l h x1) (fun r2 => ?_)
  refine R_bif_eq o 14 dX6_row_5 (by decide) ?_ ?_
  · refine R_iload_n o 2 dX6_row_8 rfl rfl ?_
    refine R_bipush (v := 40) o dX6_row_9 (by decide) ?_
    refine R_icmp_le o 16 dX6_row_11 (by decide) ?_ ?_
    · refine R_iconst (v := (-1)) o dX6_row_14 (by decide) ?_
      exact T_some (fun p => rr _ _ _ _ dX6_row_15 p)
    · refine R_iload_n o 2 dX6_row_16 rfl rfl ?_
      refine R_if_ge o 26 dX6_row_17 (by decide) ?_ ?_
      · refine R_aload_n o 0 dX6_row_20 rfl rfl ?_
        refine R_iconst (v := 5) o dX6_row_21 (by decide) ?_
        refine K_ih (callV' (As := [.int 5]) (rest := []) o dX6_row_22 lk_X6_77 rfl sh_0 rfl rfl rfl rfl (Nat.le_of_ble_eq_true rfl)) (c_X6_found g l h 5) (fun r22 h22 => ?_)
        exact T_some (fun p => rr _ _ _ _ dX6_row_25 p)
      · refine R_aload_n o 0 dX6_row_26 rfl rfl ?_
        refine R_getR (a2 := 1) o dX6_row_27 fl_X6_11 sh_0 (by decide) rfl rf_0_0 ?_
        refine R_iload_n o 1 dX6_row_30 rfl rfl ?_
        refine R_aald o dX6_row_31 sh_1 (Or.inl rfl) (fun q31 => ?_)
        refine R_iload_n o 2 dX6_row_32 rfl rfl ?_
        refine R_iconst (v := 0) o dX6_row_33 (by decide) ?_
        refine K_vh (callV' (As := [.int x2, .int 0]) (rest := []) o dX6_row_34 lk_X6_81 rfl (sh_el13 sh_1 q31) rfl rfl rfl rfl (Nat.le_of_ble_eq_true rfl)) (c_X5_renew g l h (rf 1 x1.toNatClampNeg) x2 0 (sh_el13 sh_1 q31)) (fun h34 => ?_)
        refine R_iload_n o 2 dX6_row_37 rfl rfl ?_
        exact T_some (fun p => rr _ _ _ _ dX6_row_38 p)
  · refine R_iconst (v := (-1)) o dX6_row_14 (by decide) ?_
    exact T_some (fun p => rr _ _ _ _ dX6_row_15 p)
theorem c_X6_row (g : Gx) (l : Launch) (h : MH) (x1 : Int32) (x2 : Int32) (r : (Int32 × MH)) (e : f_X6_row h x1 x2 = some r) : Ctr g l yX6_row cX6_row 3 (some .int) 3 68 0 [rA g 0, .int x1, .int x2] h (some (.int r.1)) r.2 := mkCi (plainFor_of_name (by decide)) (Nat.le_of_ble_eq_true rfl) (fun V Rt o rr p => b_X6_row o rr h x1 x2  r e p)
/-! X6_lay -/
noncomputable def f_X6_lay (h : MH) (x1 : Int32) (x2 : Int32) (x3 : Int32) : Option (Int32 × MH) :=
  Option.bind (f_X6_isRow h x1) (fun r2 => (if r2 = true then gd (ix x1 6) (Option.bind (f_X5_isMissing h (rf 1 x1.toNatClampNeg)) (fun r20 => (if r20 = true then bnd2 (f_X6_found h 1) (fun r28 h28 => some (r28, h28)) else Option.bind (f_X5_has h (rf 1 x1.toNatClampNeg) x2) (fun r35 => (if r35 = true then Option.bind (f_X5_get h (rf 1 x1.toNatClampNeg) x2) (fun r51 => nm (uI h 0 9 r51) (fun h54 => Option.bind (f_X5_set h54 (rf 1 x1.toNatClampNeg) x2 x3) (fun h61 => some (1, h61)))) else bnd2 (f_X6_found h 2) (fun r43 h43 => some (r43, h43))))))) else some ((-1), h)))
set_option maxRecDepth 100000 in
set_option maxHeartbeats 4000000 in
theorem b_X6_lay {g : Gx} {l : Launch} {V : VT} {Rt : Option Value → MH → Prop} (o : Ok g l RX6 cX6_lay 5 2 43 0 V) (rr : ORi cX6_lay V Rt) (h : MH) (x1 : Int32) (x2 : Int32) (x3 : Int32) : T (fun r => Rt (some (.int r.1)) r.2) (f_X6_lay h x1 x2 x3) (V 0 [(0, rA g 0), (1, .int x1), (2, .int x2), (3, .int x3)] [] h) := by
  unfold f_X6_lay
  refine R_aload_n o 0 dX6_lay_0 rfl rfl ?_
  refine R_iload_n o 1 dX6_lay_1 rfl rfl ?_
  refine K_z (callV' (As := [.int x1]) (rest := []) o dX6_lay_2 lk_X6_73 rfl sh_0 rfl rfl rfl rfl (Nat.le_of_ble_eq_true rfl)) (c_X6_isRow g l h x1) (fun r2 => ?_)
  refine R_bif_ne o 10 dX6_lay_5 (by decide) ?_ ?_
  · refine R_aload_n o 0 dX6_lay_10 rfl rfl ?_
    refine R_getR (a2 := 1) o dX6_lay_11 fl_X6_11 sh_0 (by decide) rfl rf_0_0 ?_
    refine R_iload_n o 1 dX6_lay_14 rfl rfl ?_
    refine R_aald o dX6_lay_15 sh_1 (Or.inl rfl) (fun q15 => ?_)
    refine R_astore (lv2 := [(0, rA g 0), (1, .int x1), (2, .int x2), (3, .int x3), (4, rA g (rf 1 x1.toNatClampNeg))]) o dX6_lay_16 (by decide) rfl ?_
    refine R_aload o 4 dX6_lay_18 rfl ?_
    refine K_z (callV' (As := []) (rest := []) o dX6_lay_20 lk_X6_85 rfl (sh_el13 sh_1 q15) rfl rfl rfl rfl (Nat.le_of_ble_eq_true rfl)) (c_X5_isMissing g l h (rf 1 x1.toNatClampNeg) (sh_el13 sh_1 q15)) (fun r20 => ?_)
    refine R_bif_eq o 32 dX6_lay_23 (by decide) ?_ ?_
    · refine R_aload_n o 0 dX6_lay_26 rfl rfl ?_
      refine R_iconst (v := 1) o dX6_lay_27 (by decide) ?_
      refine K_ih (callV' (As := [.int 1]) (rest := []) o dX6_lay_28 lk_X6_77 rfl sh_0 rfl rfl rfl rfl (Nat.le_of_ble_eq_true rfl)) (c_X6_found g l h 1) (fun r28 h28 => ?_)
      exact T_some (fun p => rr _ _ _ _ dX6_lay_31 p)
    · refine R_aload o 4 dX6_lay_32 rfl ?_
      refine R_iload_n o 2 dX6_lay_34 rfl rfl ?_
      refine K_z (callV' (As := [.int x2]) (rest := []) o dX6_lay_35 lk_X6_89 rfl (sh_el13 sh_1 q15) rfl rfl rfl rfl (Nat.le_of_ble_eq_true rfl)) (c_X5_has g l h (rf 1 x1.toNatClampNeg) x2 (sh_el13 sh_1 q15)) (fun r35 => ?_)
      refine R_bif_ne o 47 dX6_lay_38 (by decide) ?_ ?_
      · refine R_aload_n o 0 dX6_lay_47 rfl rfl ?_
        refine R_aload o 4 dX6_lay_48 rfl ?_
        refine R_iload_n o 2 dX6_lay_50 rfl rfl ?_
        refine K_i (callV' (As := [.int x2]) (rest := [rA g 0]) o dX6_lay_51 lk_X6_92 rfl (sh_el13 sh_1 q15) rfl rfl rfl rfl (Nat.le_of_ble_eq_true rfl)) (c_X5_get g l h (rf 1 x1.toNatClampNeg) x2 (sh_el13 sh_1 q15)) (fun r51 => ?_)
        refine R_putI o dX6_lay_54 fp_X6_61 sh_0 (by decide) rfl ?_
        refine R_nmH (fun h54 => ?_)
        refine R_aload o 4 dX6_lay_57 rfl ?_
        refine R_iload_n o 2 dX6_lay_59 rfl rfl ?_
        refine R_iload_n o 3 dX6_lay_60 rfl rfl ?_
        refine K_vh (callV' (As := [.int x2, .int x3]) (rest := []) o dX6_lay_61 lk_X6_95 rfl (sh_el13 sh_1 q15) rfl rfl rfl rfl (Nat.le_of_ble_eq_true rfl)) (c_X5_set g l h54 (rf 1 x1.toNatClampNeg) x2 x3 (sh_el13 sh_1 q15)) (fun h61 => ?_)
        refine R_iconst (v := 1) o dX6_lay_64 (by decide) ?_
        exact T_some (fun p => rr _ _ _ _ dX6_lay_65 p)
      · refine R_aload_n o 0 dX6_lay_41 rfl rfl ?_
        refine R_iconst (v := 2) o dX6_lay_42 (by decide) ?_
        refine K_ih (callV' (As := [.int 2]) (rest := []) o dX6_lay_43 lk_X6_77 rfl sh_0 rfl rfl rfl rfl (Nat.le_of_ble_eq_true rfl)) (c_X6_found g l h 2) (fun r43 h43 => ?_)
        exact T_some (fun p => rr _ _ _ _ dX6_lay_46 p)
  · refine R_iconst (v := (-1)) o dX6_lay_8 (by decide) ?_
    exact T_some (fun p => rr _ _ _ _ dX6_lay_9 p)
theorem c_X6_lay (g : Gx) (l : Launch) (h : MH) (x1 : Int32) (x2 : Int32) (x3 : Int32) (r : (Int32 × MH)) (e : f_X6_lay h x1 x2 x3 = some r) : Ctr g l yX6_lay cX6_lay 5 (some .int) 2 43 0 [rA g 0, .int x1, .int x2, .int x3] h (some (.int r.1)) r.2 := mkCi (plainFor_of_name (by decide)) (Nat.le_of_ble_eq_true rfl) (fun V Rt o rr p => b_X6_lay o rr h x1 x2 x3  r e p)
/-! X6_at -/
noncomputable def f_X6_at (h : MH) (x1 : Int32) (x2 : Int32) : Option (Int32 × MH) :=
  Option.bind (f_X6_isRow h x1) (fun r2 => (if r2 = true then gd (ix x1 6) (Option.bind (f_X5_isMissing h (rf 1 x1.toNatClampNeg)) (fun r18 => (if r18 = true then bnd2 (f_X6_found h 1) (fun r26 h26 => some (r26, h26)) else Option.bind (f_X5_has h (rf 1 x1.toNatClampNeg) x2) (fun r32 => (if r32 = true then Option.bind (f_X5_get h (rf 1 x1.toNatClampNeg) x2) (fun r47 => nm (uI h 0 9 r47) (fun h50 => some (1, h50))) else bnd2 (f_X6_found h 2) (fun r40 h40 => some (r40, h40))))))) else some ((-1), h)))
set_option maxRecDepth 100000 in
set_option maxHeartbeats 4000000 in
theorem b_X6_at {g : Gx} {l : Launch} {V : VT} {Rt : Option Value → MH → Prop} (o : Ok g l RX6 cX6_at 4 2 42 0 V) (rr : ORi cX6_at V Rt) (h : MH) (x1 : Int32) (x2 : Int32) : T (fun r => Rt (some (.int r.1)) r.2) (f_X6_at h x1 x2) (V 0 [(0, rA g 0), (1, .int x1), (2, .int x2)] [] h) := by
  unfold f_X6_at
  refine R_aload_n o 0 dX6_at_0 rfl rfl ?_
  refine R_iload_n o 1 dX6_at_1 rfl rfl ?_
  refine K_z (callV' (As := [.int x1]) (rest := []) o dX6_at_2 lk_X6_73 rfl sh_0 rfl rfl rfl rfl (Nat.le_of_ble_eq_true rfl)) (c_X6_isRow g l h x1) (fun r2 => ?_)
  refine R_bif_ne o 10 dX6_at_5 (by decide) ?_ ?_
  · refine R_aload_n o 0 dX6_at_10 rfl rfl ?_
    refine R_getR (a2 := 1) o dX6_at_11 fl_X6_11 sh_0 (by decide) rfl rf_0_0 ?_
    refine R_iload_n o 1 dX6_at_14 rfl rfl ?_
    refine R_aald o dX6_at_15 sh_1 (Or.inl rfl) (fun q15 => ?_)
    refine R_astore_n (lv2 := [(0, rA g 0), (1, .int x1), (2, .int x2), (3, rA g (rf 1 x1.toNatClampNeg))]) o dX6_at_16 rfl (by decide) rfl ?_
    refine R_aload_n o 3 dX6_at_17 rfl rfl ?_
    refine K_z (callV' (As := []) (rest := []) o dX6_at_18 lk_X6_85 rfl (sh_el13 sh_1 q15) rfl rfl rfl rfl (Nat.le_of_ble_eq_true rfl)) (c_X5_isMissing g l h (rf 1 x1.toNatClampNeg) (sh_el13 sh_1 q15)) (fun r18 => ?_)
    refine R_bif_eq o 30 dX6_at_21 (by decide) ?_ ?_
    · refine R_aload_n o 0 dX6_at_24 rfl rfl ?_
      refine R_iconst (v := 1) o dX6_at_25 (by decide) ?_
      refine K_ih (callV' (As := [.int 1]) (rest := []) o dX6_at_26 lk_X6_77 rfl sh_0 rfl rfl rfl rfl (Nat.le_of_ble_eq_true rfl)) (c_X6_found g l h 1) (fun r26 h26 => ?_)
      exact T_some (fun p => rr _ _ _ _ dX6_at_29 p)
    · refine R_aload_n o 3 dX6_at_30 rfl rfl ?_
      refine R_iload_n o 2 dX6_at_31 rfl rfl ?_
      refine K_z (callV' (As := [.int x2]) (rest := []) o dX6_at_32 lk_X6_89 rfl (sh_el13 sh_1 q15) rfl rfl rfl rfl (Nat.le_of_ble_eq_true rfl)) (c_X5_has g l h (rf 1 x1.toNatClampNeg) x2 (sh_el13 sh_1 q15)) (fun r32 => ?_)
      refine R_bif_ne o 44 dX6_at_35 (by decide) ?_ ?_
      · refine R_aload_n o 0 dX6_at_44 rfl rfl ?_
        refine R_aload_n o 3 dX6_at_45 rfl rfl ?_
        refine R_iload_n o 2 dX6_at_46 rfl rfl ?_
        refine K_i (callV' (As := [.int x2]) (rest := [rA g 0]) o dX6_at_47 lk_X6_92 rfl (sh_el13 sh_1 q15) rfl rfl rfl rfl (Nat.le_of_ble_eq_true rfl)) (c_X5_get g l h (rf 1 x1.toNatClampNeg) x2 (sh_el13 sh_1 q15)) (fun r47 => ?_)
        refine R_putI o dX6_at_50 fp_X6_61 sh_0 (by decide) rfl ?_
        refine R_nmH (fun h50 => ?_)
        refine R_iconst (v := 1) o dX6_at_53 (by decide) ?_
        exact T_some (fun p => rr _ _ _ _ dX6_at_54 p)
      · refine R_aload_n o 0 dX6_at_38 rfl rfl ?_
        refine R_iconst (v := 2) o dX6_at_39 (by decide) ?_
        refine K_ih (callV' (As := [.int 2]) (rest := []) o dX6_at_40 lk_X6_77 rfl sh_0 rfl rfl rfl rfl (Nat.le_of_ble_eq_true rfl)) (c_X6_found g l h 2) (fun r40 h40 => ?_)
        exact T_some (fun p => rr _ _ _ _ dX6_at_43 p)
  · refine R_iconst (v := (-1)) o dX6_at_8 (by decide) ?_
    exact T_some (fun p => rr _ _ _ _ dX6_at_9 p)
theorem c_X6_at (g : Gx) (l : Launch) (h : MH) (x1 : Int32) (x2 : Int32) (r : (Int32 × MH)) (e : f_X6_at h x1 x2 = some r) : Ctr g l yX6_at cX6_at 4 (some .int) 2 42 0 [rA g 0, .int x1, .int x2] h (some (.int r.1)) r.2 := mkCi (plainFor_of_name (by decide)) (Nat.le_of_ble_eq_true rfl) (fun V Rt o rr p => b_X6_at o rr h x1 x2  r e p)
/-! X6_tear -/
noncomputable def f_X6_tear (h : MH) (x1 : Int32) : Option (Int32 × MH) :=
  Option.bind (f_X6_isRow h x1) (fun r2 => (if r2 = true then gd (ix x1 6) (Option.bind (f_X5_isMissing h (rf 1 x1.toNatClampNeg)) (fun r16 => (if r16 = true then bnd2 (f_X6_found h 1) (fun r24 h24 => some (r24, h24)) else gd (ix x1 6) (Option.bind (f_X5_lose h (rf 1 x1.toNatClampNeg)) (fun h34 => some (1, h34)))))) else some ((-1), h)))
set_option maxRecDepth 100000 in
set_option maxHeartbeats 4000000 in
theorem b_X6_tear {g : Gx} {l : Launch} {V : VT} {Rt : Option Value → MH → Prop} (o : Ok g l RX6 cX6_tear 2 1 21 0 V) (rr : ORi cX6_tear V Rt) (h : MH) (x1 : Int32) : T (fun r => Rt (some (.int r.1)) r.2) (f_X6_tear h x1) (V 0 [(0, rA g 0), (1, .int x1)] [] h) := by
  unfold f_X6_tear
  refine R_aload_n o 0 dX6_tear_0 rfl rfl ?_
  refine R_iload_n o 1 dX6_tear_1 rfl rfl ?_
  refine K_z (callV' (As := [.int x1]) (rest := []) o dX6_tear_2 lk_X6_73 rfl sh_0 rfl rfl rfl rfl (Nat.le_of_ble_eq_true rfl)) (c_X6_isRow g l h x1) (fun r2 => ?_)
  refine R_bif_ne o 10 dX6_tear_5 (by decide) ?_ ?_
  · refine R_aload_n o 0 dX6_tear_10 rfl rfl ?_
    refine R_getR (a2 := 1) o dX6_tear_11 fl_X6_11 sh_0 (by decide) rfl rf_0_0 ?_
    refine R_iload_n o 1 dX6_tear_14 rfl rfl ?_
    refine R_aald o dX6_tear_15 sh_1 (Or.inl rfl) (fun q15 => ?_)
    refine K_z (callV' (As := []) (rest := []) o dX6_tear_16 lk_X6_85 rfl (sh_el13 sh_1 q15) rfl rfl rfl rfl (Nat.le_of_ble_eq_true rfl)) (c_X5_isMissing g l h (rf 1 x1.toNatClampNeg) (sh_el13 sh_1 q15)) (fun r16 => ?_)
    refine R_bif_eq o 28 dX6_tear_19 (by decide) ?_ ?_
    · refine R_aload_n o 0 dX6_tear_22 rfl rfl ?_
      refine R_iconst (v := 1) o dX6_tear_23 (by decide) ?_
      refine K_ih (callV' (As := [.int 1]) (rest := []) o dX6_tear_24 lk_X6_77 rfl sh_0 rfl rfl rfl rfl (Nat.le_of_ble_eq_true rfl)) (c_X6_found g l h 1) (fun r24 h24 => ?_)
      exact T_some (fun p => rr _ _ _ _ dX6_tear_27 p)
    · refine R_aload_n o 0 dX6_tear_28 rfl rfl ?_
      refine R_getR (a2 := 1) o dX6_tear_29 fl_X6_11 sh_0 (by decide) rfl rf_0_0 ?_
      refine R_iload_n o 1 dX6_tear_32 rfl rfl ?_
      refine R_aald o dX6_tear_33 sh_1 (Or.inl rfl) (fun q33 => ?_)
      refine K_vh (callV' (As := []) (rest := []) o dX6_tear_34 lk_X6_98 rfl (sh_el13 sh_1 q33) rfl rfl rfl rfl (Nat.le_of_ble_eq_true rfl)) (c_X5_lose g l h (rf 1 x1.toNatClampNeg) (sh_el13 sh_1 q33)) (fun h34 => ?_)
      refine R_iconst (v := 1) o dX6_tear_37 (by decide) ?_
      exact T_some (fun p => rr _ _ _ _ dX6_tear_38 p)
  · refine R_iconst (v := (-1)) o dX6_tear_8 (by decide) ?_
    exact T_some (fun p => rr _ _ _ _ dX6_tear_9 p)
theorem c_X6_tear (g : Gx) (l : Launch) (h : MH) (x1 : Int32) (r : (Int32 × MH)) (e : f_X6_tear h x1 = some r) : Ctr g l yX6_tear cX6_tear 2 (some .int) 1 21 0 [rA g 0, .int x1] h (some (.int r.1)) r.2 := mkCi (plainFor_of_name (by decide)) (Nat.le_of_ble_eq_true rfl) (fun V Rt o rr p => b_X6_tear o rr h x1  r e p)
/-! X6_copy -/
noncomputable def f_X6_copy (h : MH) (x1 : Int32) (x2 : Int32) (x3 : Int32) (x4 : Int32) (x5 : Int32) : Option (Int32 × MH) :=
  Option.bind (f_X6_isRow h x1) (fun r2 => (if r2 = true then Option.bind (f_X6_isRow h x3) (fun r10 => (if r10 = true then (if x5 < 0 then bnd2 (f_X6_found h 5) (fun r25 h25 => some (r25, h25)) else gd (ix x1 6) (gd (ix x3 6) (Option.bind (f_X5_isMissing h (rf 1 x1.toNatClampNeg)) (fun r47 => (if r47 = true then bnd2 (f_X6_found h 1) (fun r63 h63 => some (r63, h63)) else Option.bind (f_X5_isMissing h (rf 1 x3.toNatClampNeg)) (fun r55 => (if r55 = true then bnd2 (f_X6_found h 1) (fun r63 h63 => some (r63, h63)) else Option.bind (f_X5_hasSpan h (rf 1 x1.toNatClampNeg) x2 x5) (fun r72 => (if r72 = true then Option.bind (f_X5_hasSpan h (rf 1 x3.toNatClampNeg) x4 x5) (fun r84 => (if r84 = true then gd (acp x2 x4 x5 60 60) (nm (uA h (rf (rf 1 x3.toNatClampNeg) 0) (va_cpy (h.1 (rf (rf 1 x1.toNatClampNeg) 0)) (h.1 (rf (rf 1 x3.toNatClampNeg) 0)) x2.toNatClampNeg x4.toNatClampNeg x5.toNatClampNeg)) (fun h111 => some (1, h111))) else bnd2 (f_X6_found h 2) (fun r92 h92 => some (r92, h92)))) else bnd2 (f_X6_found h 2) (fun r92 h92 => some (r92, h92))))))))))) else some ((-1), h))) else some ((-1), h)))
set_option maxRecDepth 100000 in
set_option maxHeartbeats 4000000 in
theorem b_X6_copy {g : Gx} {l : Launch} {V : VT} {Rt : Option Value → MH → Prop} (o : Ok g l RX6 cX6_copy 8 1 26 0 V) (rr : ORi cX6_copy V Rt) (h : MH) (x1 : Int32) (x2 : Int32) (x3 : Int32) (x4 : Int32) (x5 : Int32) : T (fun r => Rt (some (.int r.1)) r.2) (f_X6_copy h x1 x2 x3 x4 x5) (V 0 [(0, rA g 0), (1, .int x1), (2, .int x2), (3, .int x3), (4, .int x4), (5, .int x5)] [] h) := by
  unfold f_X6_copy
  refine R_aload_n o 0 dX6_copy_0 rfl rfl ?_
  refine R_iload_n o 1 dX6_copy_1 rfl rfl ?_
  refine K_z (callV' (As := [.int x1]) (rest := []) o dX6_copy_2 lk_X6_73 rfl sh_0 rfl rfl rfl rfl (Nat.le_of_ble_eq_true rfl)) (c_X6_isRow g l h x1) (fun r2 => ?_)
  refine R_bif_eq o 16 dX6_copy_5 (by decide) ?_ ?_
  · refine R_aload_n o 0 dX6_copy_8 rfl rfl ?_
    refine R_iload_n o 3 dX6_copy_9 rfl rfl ?_
    refine K_z (callV' (As := [.int x3]) (rest := []) o dX6_copy_10 lk_X6_73 rfl sh_0 rfl rfl rfl rfl (Nat.le_of_ble_eq_true rfl)) (c_X6_isRow g l h x3) (fun r10 => ?_)
    refine R_bif_ne o 18 dX6_copy_13 (by decide) ?_ ?_
    · refine R_iload o 5 dX6_copy_18 rfl ?_
      refine R_if_ge o 29 dX6_copy_20 (by decide) ?_ ?_
      · refine R_aload_n o 0 dX6_copy_23 rfl rfl ?_
        refine R_iconst (v := 5) o dX6_copy_24 (by decide) ?_
        refine K_ih (callV' (As := [.int 5]) (rest := []) o dX6_copy_25 lk_X6_77 rfl sh_0 rfl rfl rfl rfl (Nat.le_of_ble_eq_true rfl)) (c_X6_found g l h 5) (fun r25 h25 => ?_)
        exact T_some (fun p => rr _ _ _ _ dX6_copy_28 p)
      · refine R_aload_n o 0 dX6_copy_29 rfl rfl ?_
        refine R_getR (a2 := 1) o dX6_copy_30 fl_X6_11 sh_0 (by decide) rfl rf_0_0 ?_
        refine R_iload_n o 1 dX6_copy_33 rfl rfl ?_
        refine R_aald o dX6_copy_34 sh_1 (Or.inl rfl) (fun q34 => ?_)
        refine R_astore (lv2 := [(0, rA g 0), (1, .int x1), (2, .int x2), (3, .int x3), (4, .int x4), (5, .int x5), (6, rA g (rf 1 x1.toNatClampNeg))]) o dX6_copy_35 (by decide) rfl ?_
        refine R_aload_n o 0 dX6_copy_37 rfl rfl ?_
        refine R_getR (a2 := 1) o dX6_copy_38 fl_X6_11 sh_0 (by decide) rfl rf_0_0 ?_
        refine R_iload_n o 3 dX6_copy_41 rfl rfl ?_
        refine R_aald o dX6_copy_42 sh_1 (Or.inl rfl) (fun q42 => ?_)
        refine R_astore (lv2 := [(0, rA g 0), (1, .int x1), (2, .int x2), (3, .int x3), (4, .int x4), (5, .int x5), (6, rA g (rf 1 x1.toNatClampNeg)), (7, rA g (rf 1 x3.toNatClampNeg))]) o dX6_copy_43 (by decide) rfl ?_
        refine R_aload o 6 dX6_copy_45 rfl ?_
        refine K_z (callV' (As := []) (rest := []) o dX6_copy_47 lk_X6_85 rfl (sh_el13 sh_1 q34) rfl rfl rfl rfl (Nat.le_of_ble_eq_true rfl)) (c_X5_isMissing g l h (rf 1 x1.toNatClampNeg) (sh_el13 sh_1 q34)) (fun r47 => ?_)
        refine R_bif_ne o 61 dX6_copy_50 (by decide) ?_ ?_
        · refine R_aload_n o 0 dX6_copy_61 rfl rfl ?_
          refine R_iconst (v := 1) o dX6_copy_62 (by decide) ?_
          refine K_ih (callV' (As := [.int 1]) (rest := []) o dX6_copy_63 lk_X6_77 rfl sh_0 rfl rfl rfl rfl (Nat.le_of_ble_eq_true rfl)) (c_X6_found g l h 1) (fun r63 h63 => ?_)
          exact T_some (fun p => rr _ _ _ _ dX6_copy_66 p)
        · refine R_aload o 7 dX6_copy_53 rfl ?_
          refine K_z (callV' (As := []) (rest := []) o dX6_copy_55 lk_X6_85 rfl (sh_el13 sh_1 q42) rfl rfl rfl rfl (Nat.le_of_ble_eq_true rfl)) (c_X5_isMissing g l h (rf 1 x3.toNatClampNeg) (sh_el13 sh_1 q42)) (fun r55 => ?_)
          refine R_bif_eq o 67 dX6_copy_58 (by decide) ?_ ?_
          · refine R_aload_n o 0 dX6_copy_61 rfl rfl ?_
            refine R_iconst (v := 1) o dX6_copy_62 (by decide) ?_
            refine K_ih (callV' (As := [.int 1]) (rest := []) o dX6_copy_63 lk_X6_77 rfl sh_0 rfl rfl rfl rfl (Nat.le_of_ble_eq_true rfl)) (c_X6_found g l h 1) (fun r63 h63 => ?_)
            exact T_some (fun p => rr _ _ _ _ dX6_copy_66 p)
          · refine R_aload o 6 dX6_copy_67 rfl ?_
            refine R_iload_n o 2 dX6_copy_69 rfl rfl ?_
            refine R_iload o 5 dX6_copy_70 rfl ?_
            refine K_z (callV' (As := [.int x2, .int x5]) (rest := []) o dX6_copy_72 lk_X6_101 rfl (sh_el13 sh_1 q34) rfl rfl rfl rfl (Nat.le_of_ble_eq_true rfl)) (c_X5_hasSpan g l h (rf 1 x1.toNatClampNeg) x2 x5 (sh_el13 sh_1 q34)) (fun r72 => ?_)
            refine R_bif_eq o 90 dX6_copy_75 (by decide) ?_ ?_
            · refine R_aload o 7 dX6_copy_78 rfl ?_
              refine R_iload o 4 dX6_copy_80 rfl ?_
              refine R_iload o 5 dX6_copy_82 rfl ?_
              refine K_z (callV' (As := [.int x4, .int x5]) (rest := []) o dX6_copy_84 lk_X6_101 rfl (sh_el13 sh_1 q42) rfl rfl rfl rfl (Nat.le_of_ble_eq_true rfl)) (c_X5_hasSpan g l h (rf 1 x3.toNatClampNeg) x4 x5 (sh_el13 sh_1 q42)) (fun r84 => ?_)
              refine R_bif_ne o 96 dX6_copy_87 (by decide) ?_ ?_
              · refine R_aload o 6 dX6_copy_96 rfl ?_
                refine R_getR o dX6_copy_98 fl_X6_105 (sh_el13 sh_1 q34) (by decide) rfl rfl ?_
                refine R_iload_n o 2 dX6_copy_101 rfl rfl ?_
                refine R_aload o 7 dX6_copy_102 rfl ?_
                refine R_getR o dX6_copy_104 fl_X6_105 (sh_el13 sh_1 q42) (by decide) rfl rfl ?_
                refine R_iload o 4 dX6_copy_107 rfl ?_
                refine R_iload o 5 dX6_copy_109 rfl ?_
                refine R_acopy o dX6_copy_111 la_X6_108 (sh_Row_0 (sh_el13 sh_1 q34)) (sh_Row_0 (sh_el13 sh_1 q42)) (by decide) ?_
                refine R_nmH (fun h111 => ?_)
                refine R_iconst (v := 1) o dX6_copy_114 (by decide) ?_
                exact T_some (fun p => rr _ _ _ _ dX6_copy_115 p)
              · refine R_aload_n o 0 dX6_copy_90 rfl rfl ?_
                refine R_iconst (v := 2) o dX6_copy_91 (by decide) ?_
                refine K_ih (callV' (As := [.int 2]) (rest := []) o dX6_copy_92 lk_X6_77 rfl sh_0 rfl rfl rfl rfl (Nat.le_of_ble_eq_true rfl)) (c_X6_found g l h 2) (fun r92 h92 => ?_)
                exact T_some (fun p => rr _ _ _ _ dX6_copy_95 p)
            · refine R_aload_n o 0 dX6_copy_90 rfl rfl ?_
              refine R_iconst (v := 2) o dX6_copy_91 (by decide) ?_
              refine K_ih (callV' (As := [.int 2]) (rest := []) o dX6_copy_92 lk_X6_77 rfl sh_0 rfl rfl rfl rfl (Nat.le_of_ble_eq_true rfl)) (c_X6_found g l h 2) (fun r92 h92 => ?_)
              exact T_some (fun p => rr _ _ _ _ dX6_copy_95 p)
    · refine R_iconst (v := (-1)) o dX6_copy_16 (by decide) ?_
      exact T_some (fun p => rr _ _ _ _ dX6_copy_17 p)
  · refine R_iconst (v := (-1)) o dX6_copy_16 (by decide) ?_
    exact T_some (fun p => rr _ _ _ _ dX6_copy_17 p)
theorem c_X6_copy (g : Gx) (l : Launch) (h : MH) (x1 : Int32) (x2 : Int32) (x3 : Int32) (x4 : Int32) (x5 : Int32) (r : (Int32 × MH)) (e : f_X6_copy h x1 x2 x3 x4 x5 = some r) : Ctr g l yX6_copy cX6_copy 8 (some .int) 1 26 0 [rA g 0, .int x1, .int x2, .int x3, .int x4, .int x5] h (some (.int r.1)) r.2 := mkCi (plainFor_of_name (by decide)) (Nat.le_of_ble_eq_true rfl) (fun V Rt o rr p => b_X6_copy o rr h x1 x2 x3 x4 x5  r e p)
/-! X6_mean -/
noncomputable def f_X6_mean (h : MH) (x1 : Int32) : Option (Int32 × MH) :=
  Option.bind (f_X6_isRow h x1) (fun r2 => (if r2 = true then gd (ix x1 6) (Option.bind (f_X5_isMissing h (rf 1 x1.toNatClampNeg)) (fun r18 => (if r18 = true then bnd2 (f_X6_found h 1) (fun r26 h26 => some (r26, h26)) else (if (h.1 (rf 1 x1.toNatClampNeg) 1) < 1 then bnd2 (f_X6_found h 4) (fun r40 h40 => some (r40, h40)) else Option.bind (f_X5_total h (rf 1 x1.toNatClampNeg)) (fun r46 => gd (nzL (Int32.toInt64 (h.1 (rf 1 x1.toNatClampNeg) 1))) (nm (uI h 0 9 (Int64.toInt32 (r46 / (Int32.toInt64 (h.1 (rf 1 x1.toNatClampNeg) 1))))) (fun h56 => some (1, h56)))))))) else some ((-1), h)))
set_option maxRecDepth 100000 in
set_option maxHeartbeats 4000000 in
theorem b_X6_mean {g : Gx} {l : Launch} {V : VT} {Rt : Option Value → MH → Prop} (o : Ok g l RX6 cX6_mean 3 1 23 0 V) (rr : ORi cX6_mean V Rt) (h : MH) (x1 : Int32) : T (fun r => Rt (some (.int r.1)) r.2) (f_X6_mean h x1) (V 0 [(0, rA g 0), (1, .int x1)] [] h) := by
  unfold f_X6_mean
  refine R_aload_n o 0 dX6_mean_0 rfl rfl ?_
  refine R_iload_n o 1 dX6_mean_1 rfl rfl ?_
  refine K_z (callV' (As := [.int x1]) (rest := []) o dX6_mean_2 lk_X6_73 rfl sh_0 rfl rfl rfl rfl (Nat.le_of_ble_eq_true rfl)) (c_X6_isRow g l h x1) (fun r2 => ?_)
  refine R_bif_ne o 10 dX6_mean_5 (by decide) ?_ ?_
  · refine R_aload_n o 0 dX6_mean_10 rfl rfl ?_
    refine R_getR (a2 := 1) o dX6_mean_11 fl_X6_11 sh_0 (by decide) rfl rf_0_0 ?_
    refine R_iload_n o 1 dX6_mean_14 rfl rfl ?_
    refine R_aald o dX6_mean_15 sh_1 (Or.inl rfl) (fun q15 => ?_)
    refine R_astore_n (lv2 := [(0, rA g 0), (1, .int x1), (2, rA g (rf 1 x1.toNatClampNeg))]) o dX6_mean_16 rfl (by decide) rfl ?_
    refine R_aload_n o 2 dX6_mean_17 rfl rfl ?_
    refine K_z (callV' (As := []) (rest := []) o dX6_mean_18 lk_X6_85 rfl (sh_el13 sh_1 q15) rfl rfl rfl rfl (Nat.le_of_ble_eq_true rfl)) (c_X5_isMissing g l h (rf 1 x1.toNatClampNeg) (sh_el13 sh_1 q15)) (fun r18 => ?_)
    refine R_bif_eq o 30 dX6_mean_21 (by decide) ?_ ?_
    · refine R_aload_n o 0 dX6_mean_24 rfl rfl ?_
      refine R_iconst (v := 1) o dX6_mean_25 (by decide) ?_
      refine K_ih (callV' (As := [.int 1]) (rest := []) o dX6_mean_26 lk_X6_77 rfl sh_0 rfl rfl rfl rfl (Nat.le_of_ble_eq_true rfl)) (c_X6_found g l h 1) (fun r26 h26 => ?_)
      exact T_some (fun p => rr _ _ _ _ dX6_mean_29 p)
    · refine R_aload_n o 2 dX6_mean_30 rfl rfl ?_
      refine R_getI o dX6_mean_31 fl_X6_114 (sh_el13 sh_1 q15) (by decide) rfl ?_
      refine R_iconst (v := 1) o dX6_mean_34 (by decide) ?_
      refine R_icmp_ge o 44 dX6_mean_35 (by decide) ?_ ?_
      · refine R_aload_n o 0 dX6_mean_38 rfl rfl ?_
        refine R_iconst (v := 4) o dX6_mean_39 (by decide) ?_
        refine K_ih (callV' (As := [.int 4]) (rest := []) o dX6_mean_40 lk_X6_77 rfl sh_0 rfl rfl rfl rfl (Nat.le_of_ble_eq_true rfl)) (c_X6_found g l h 4) (fun r40 h40 => ?_)
        exact T_some (fun p => rr _ _ _ _ dX6_mean_43 p)
      · refine R_aload_n o 0 dX6_mean_44 rfl rfl ?_
        refine R_aload_n o 2 dX6_mean_45 rfl rfl ?_
        refine K_l (callV' (As := []) (rest := [rA g 0]) o dX6_mean_46 lk_X6_117 rfl (sh_el13 sh_1 q15) rfl rfl rfl rfl (Nat.le_of_ble_eq_true rfl)) (c_X5_total g l h (rf 1 x1.toNatClampNeg) (sh_el13 sh_1 q15)) (fun r46 => ?_)
        refine R_aload_n o 2 dX6_mean_49 rfl rfl ?_
        refine R_getI o dX6_mean_50 fl_X6_114 (sh_el13 sh_1 q15) (by decide) rfl ?_
        refine R_i2l o dX6_mean_53 ?_
        refine R_ldiv o dX6_mean_54 ?_
        refine R_l2i o dX6_mean_55 ?_
        refine R_putI o dX6_mean_56 fp_X6_61 sh_0 (by decide) rfl ?_
        refine R_nmH (fun h56 => ?_)
        refine R_iconst (v := 1) o dX6_mean_59 (by decide) ?_
        exact T_some (fun p => rr _ _ _ _ dX6_mean_60 p)
  · refine R_iconst (v := (-1)) o dX6_mean_8 (by decide) ?_
    exact T_some (fun p => rr _ _ _ _ dX6_mean_9 p)
theorem c_X6_mean (g : Gx) (l : Launch) (h : MH) (x1 : Int32) (r : (Int32 × MH)) (e : f_X6_mean h x1 = some r) : Ctr g l yX6_mean cX6_mean 3 (some .int) 1 23 0 [rA g 0, .int x1] h (some (.int r.1)) r.2 := mkCi (plainFor_of_name (by decide)) (Nat.le_of_ble_eq_true rfl) (fun V Rt o rr p => b_X6_mean o rr h x1  r e p)
/-! X6_isText -/
noncomputable def f_X6_isText (h : MH) (x1 : Int32) : Option Bool :=
  (if x1 < 0 then some false else (if x1 < 4 then some true else some false))
set_option maxRecDepth 100000 in
set_option maxHeartbeats 4000000 in
theorem b_X6_isText {g : Gx} {l : Launch} {V : VT} {Rt : Option Value → MH → Prop} (o : Ok g l RX6 cX6_isText 2 0 0 0 V) (rr : ORz cX6_isText V Rt) (h : MH) (x1 : Int32) : T (fun r => Rt (some (.int (b2i r))) h) (f_X6_isText h x1) (V 0 [(0, rA g 0), (1, .int x1)] [] h) := by
  unfold f_X6_isText
  refine R_iload_n o 1 dX6_isText_0 rfl rfl ?_
  refine R_if_lt o 17 dX6_isText_1 (by decide) ?_ ?_
  · refine R_iconst (v := 0) o dX6_isText_17 (by decide) ?_
    exact T_some (fun p => rr _ _ false _ dX6_isText_18 p)
  · refine R_iload_n o 1 dX6_isText_4 rfl rfl ?_
    refine R_aload_n o 0 dX6_isText_5 rfl rfl ?_
    refine R_getR (a2 := 2) o dX6_isText_6 fl_X6_15 sh_0 (by decide) rfl rf_0_1 ?_
    refine R_alenI (v := 4) o dX6_isText_9 sh_2 (Or.inr (Or.inr (Or.inl rfl))) rfl ?_
    refine R_icmp_ge o 17 dX6_isText_10 (by decide) ?_ ?_
    · refine R_iconst (v := 1) o dX6_isText_13 (by decide) ?_
      refine R_goto o 18 dX6_isText_14 (by decide) ?_
      exact T_some (fun p => rr _ _ true _ dX6_isText_18 p)
    · refine R_iconst (v := 0) o dX6_isText_17 (by decide) ?_
      exact T_some (fun p => rr _ _ false _ dX6_isText_18 p)
theorem c_X6_isText (g : Gx) (l : Launch) (h : MH) (x1 : Int32) (r : Bool) (e : f_X6_isText h x1 = some r) : Ctr g l yX6_isText cX6_isText 2 (some .boolean) 0 0 0 [rA g 0, .int x1] h (some (.int (b2i r))) h := mkCz (plainFor_of_name (by decide)) (Nat.le_of_ble_eq_true rfl) (fun V Rt o rr p => b_X6_isText o rr h x1  r e p)
/-! X6_text -/
noncomputable def f_X6_text (h : MH) (x1 : Int32) (x2 : Int32) : Option (Int32 × MH) :=
  Option.bind (f_X6_isText h x1) (fun r2 => (if r2 = true then (if 60 < x2 then some ((-1), h) else (if x2 < 0 then bnd2 (f_X6_found h 5) (fun r22 h22 => some (r22, h22)) else gd (ix x1 4) (Option.bind (f_X5_renew h (rf 2 x1.toNatClampNeg) x2 32) (fun h35 => some (x2, h35))))) else some ((-1), h)))
set_option maxRecDepth 100000 in
set_option maxHeartbeats 4000000 in
theorem b_X6_text {g : Gx} {l : Launch} {V : VT} {Rt : Option Value → MH → Prop} (o : Ok g l RX6 cX6_text 3 3 68 0 V) (rr : ORi cX6_text V Rt) (h : MH) (x1 : Int32) (x2 : Int32) : T (fun r => Rt (some (.int r.1)) r.2) (f_X6_text h x1 x2) (V 0 [(0, rA g 0), (1, .int x1), (2, .int x2)] [] h) := by
  unfold f_X6_text
  refine R_aload_n o 0 dX6_text_0 rfl rfl ?_
  refine R_iload_n o 1 dX6_text_1 rfl rfl ?_
  refine K_z (callV' (As := [.int x1]) (rest := []) o dX6_text_2 lk_X6_121 rfl sh_0 rfl rfl rfl rfl (Nat.le_of_ble_eq_true rfl)) (c_X6_isText g l h x1) (fun r2 => ?_)
  refine R_bif_eq o 14 dX6_text_5 (by decide) ?_ ?_
  · refine R_iload_n o 2 dX6_text_8 rfl rfl ?_
    refine R_bipush (v := 60) o dX6_text_9 (by decide) ?_
    refine R_icmp_le o 16 dX6_text_11 (by decide) ?_ ?_
    · refine R_iconst (v := (-1)) o dX6_text_14 (by decide) ?_
      exact T_some (fun p => rr _ _ _ _ dX6_text_15 p)
    · refine R_iload_n o 2 dX6_text_16 rfl rfl ?_
      refine R_if_ge o 26 dX6_text_17 (by decide) ?_ ?_
      · refine R_aload_n o 0 dX6_text_20 rfl rfl ?_
        refine R_iconst (v := 5) o dX6_text_21 (by decide) ?_
        refine K_ih (callV' (As := [.int 5]) (rest := []) o dX6_text_22 lk_X6_77 rfl sh_0 rfl rfl rfl rfl (Nat.le_of_ble_eq_true rfl)) (c_X6_found g l h 5) (fun r22 h22 => ?_)
        exact T_some (fun p => rr _ _ _ _ dX6_text_25 p)
      · refine R_aload_n o 0 dX6_text_26 rfl rfl ?_
        refine R_getR (a2 := 2) o dX6_text_27 fl_X6_15 sh_0 (by decide) rfl rf_0_1 ?_
        refine R_iload_n o 1 dX6_text_30 rfl rfl ?_
        refine R_aald o dX6_text_31 sh_2 (Or.inl rfl) (fun q31 => ?_)
        refine R_iload_n o 2 dX6_text_32 rfl rfl ?_
        refine R_bipush (v := 32) o dX6_text_33 (by decide) ?_
        refine K_vh (callV' (As := [.int x2, .int 32]) (rest := []) o dX6_text_35 lk_X6_81 rfl (sh_el13 sh_2 q31) rfl rfl rfl rfl (Nat.le_of_ble_eq_true rfl)) (c_X5_renew g l h (rf 2 x1.toNatClampNeg) x2 32 (sh_el13 sh_2 q31)) (fun h35 => ?_)
        refine R_iload_n o 2 dX6_text_38 rfl rfl ?_
        exact T_some (fun p => rr _ _ _ _ dX6_text_39 p)
  · refine R_iconst (v := (-1)) o dX6_text_14 (by decide) ?_
    exact T_some (fun p => rr _ _ _ _ dX6_text_15 p)
theorem c_X6_text (g : Gx) (l : Launch) (h : MH) (x1 : Int32) (x2 : Int32) (r : (Int32 × MH)) (e : f_X6_text h x1 x2 = some r) : Ctr g l yX6_text cX6_text 3 (some .int) 3 68 0 [rA g 0, .int x1, .int x2] h (some (.int r.1)) r.2 := mkCi (plainFor_of_name (by decide)) (Nat.le_of_ble_eq_true rfl) (fun V Rt o rr p => b_X6_text o rr h x1 x2  r e p)
/-! X6_put -/
noncomputable def f_X6_put (h : MH) (x1 : Int32) (x2 : Int32) (x3 : Int32) : Option (Int32 × MH) :=
  Option.bind (f_X6_isText h x1) (fun r2 => (if r2 = true then gd (ix x1 4) (Option.bind (f_X5_isMissing h (rf 2 x1.toNatClampNeg)) (fun r20 => (if r20 = true then bnd2 (f_X6_found h 1) (fun r28 h28 => some (r28, h28)) else Option.bind (f_X5_has h (rf 2 x1.toNatClampNeg) x2) (fun r35 => (if r35 = true then Option.bind (f_X5_get h (rf 2 x1.toNatClampNeg) x2) (fun r50 => Option.bind (f_X5_set h (rf 2 x1.toNatClampNeg) x2 (Int8.toInt32 (Int32.toInt8 x3))) (fun h60 => some ((r50 + 1000), h60))) else bnd2 (f_X6_found h 2) (fun r43 h43 => some (r43, h43))))))) else some ((-1), h)))
set_option maxRecDepth 100000 in
set_option maxHeartbeats 4000000 in
theorem b_X6_put {g : Gx} {l : Launch} {V : VT} {Rt : Option Value → MH → Prop} (o : Ok g l RX6 cX6_put 6 2 43 0 V) (rr : ORi cX6_put V Rt) (h : MH) (x1 : Int32) (x2 : Int32) (x3 : Int32) : T (fun r => Rt (some (.int r.1)) r.2) (f_X6_put h x1 x2 x3) (V 0 [(0, rA g 0), (1, .int x1), (2, .int x2), (3, .int x3)] [] h) := by
  unfold f_X6_put
  refine R_aload_n o 0 dX6_put_0 rfl rfl ?_
  refine R_iload_n o 1 dX6_put_1 rfl rfl ?_
  refine K_z (callV' (As := [.int x1]) (rest := []) o dX6_put_2 lk_X6_121 rfl sh_0 rfl rfl rfl rfl (Nat.le_of_ble_eq_true rfl)) (c_X6_isText g l h x1) (fun r2 => ?_)
  refine R_bif_ne o 10 dX6_put_5 (by decide) ?_ ?_
  · refine R_aload_n o 0 dX6_put_10 rfl rfl ?_
    refine R_getR (a2 := 2) o dX6_put_11 fl_X6_15 sh_0 (by decide) rfl rf_0_1 ?_
    refine R_iload_n o 1 dX6_put_14 rfl rfl ?_
    refine R_aald o dX6_put_15 sh_2 (Or.inl rfl) (fun q15 => ?_)
    refine R_astore (lv2 := [(0, rA g 0), (1, .int x1), (2, .int x2), (3, .int x3), (4, rA g (rf 2 x1.toNatClampNeg))]) o dX6_put_16 (by decide) rfl ?_
    refine R_aload o 4 dX6_put_18 rfl ?_
    refine K_z (callV' (As := []) (rest := []) o dX6_put_20 lk_X6_85 rfl (sh_el13 sh_2 q15) rfl rfl rfl rfl (Nat.le_of_ble_eq_true rfl)) (c_X5_isMissing g l h (rf 2 x1.toNatClampNeg) (sh_el13 sh_2 q15)) (fun r20 => ?_)
    refine R_bif_eq o 32 dX6_put_23 (by decide) ?_ ?_
    · refine R_aload_n o 0 dX6_put_26 rfl rfl ?_
      refine R_iconst (v := 1) o dX6_put_27 (by decide) ?_
      refine K_ih (callV' (As := [.int 1]) (rest := []) o dX6_put_28 lk_X6_77 rfl sh_0 rfl rfl rfl rfl (Nat.le_of_ble_eq_true rfl)) (c_X6_found g l h 1) (fun r28 h28 => ?_)
      exact T_some (fun p => rr _ _ _ _ dX6_put_31 p)
    · refine R_aload o 4 dX6_put_32 rfl ?_
      refine R_iload_n o 2 dX6_put_34 rfl rfl ?_
      refine K_z (callV' (As := [.int x2]) (rest := []) o dX6_put_35 lk_X6_89 rfl (sh_el13 sh_2 q15) rfl rfl rfl rfl (Nat.le_of_ble_eq_true rfl)) (c_X5_has g l h (rf 2 x1.toNatClampNeg) x2 (sh_el13 sh_2 q15)) (fun r35 => ?_)
      refine R_bif_ne o 47 dX6_put_38 (by decide) ?_ ?_
      · refine R_aload o 4 dX6_put_47 rfl ?_
        refine R_iload_n o 2 dX6_put_49 rfl rfl ?_
        refine K_i (callV' (As := [.int x2]) (rest := []) o dX6_put_50 lk_X6_92 rfl (sh_el13 sh_2 q15) rfl rfl rfl rfl (Nat.le_of_ble_eq_true rfl)) (c_X5_get g l h (rf 2 x1.toNatClampNeg) x2 (sh_el13 sh_2 q15)) (fun r50 => ?_)
        refine R_istore (lv2 := [(0, rA g 0), (1, .int x1), (2, .int x2), (3, .int x3), (4, rA g (rf 2 x1.toNatClampNeg)), (5, .int r50)]) o dX6_put_53 (by decide) rfl ?_
        refine R_aload o 4 dX6_put_55 rfl ?_
        refine R_iload_n o 2 dX6_put_57 rfl rfl ?_
        refine R_iload_n o 3 dX6_put_58 rfl rfl ?_
        refine R_i2b o dX6_put_59 ?_
        refine K_vh (callV' (As := [.int x2, .int (Int8.toInt32 (Int32.toInt8 x3))]) (rest := []) o dX6_put_60 lk_X6_95 rfl (sh_el13 sh_2 q15) rfl rfl rfl rfl (Nat.le_of_ble_eq_true rfl)) (c_X5_set g l h (rf 2 x1.toNatClampNeg) x2 (Int8.toInt32 (Int32.toInt8 x3)) (sh_el13 sh_2 q15)) (fun h60 => ?_)
        refine R_iload o 5 dX6_put_63 rfl ?_
        refine R_sipush (v := 1000) o dX6_put_65 (by decide) ?_
        refine R_iadd o dX6_put_68 ?_
        exact T_some (fun p => rr _ _ _ _ dX6_put_69 p)
      · refine R_aload_n o 0 dX6_put_41 rfl rfl ?_
        refine R_iconst (v := 2) o dX6_put_42 (by decide) ?_
        refine K_ih (callV' (As := [.int 2]) (rest := []) o dX6_put_43 lk_X6_77 rfl sh_0 rfl rfl rfl rfl (Nat.le_of_ble_eq_true rfl)) (c_X6_found g l h 2) (fun r43 h43 => ?_)
        exact T_some (fun p => rr _ _ _ _ dX6_put_46 p)
  · refine R_iconst (v := (-1)) o dX6_put_8 (by decide) ?_
    exact T_some (fun p => rr _ _ _ _ dX6_put_9 p)
theorem c_X6_put (g : Gx) (l : Launch) (h : MH) (x1 : Int32) (x2 : Int32) (x3 : Int32) (r : (Int32 × MH)) (e : f_X6_put h x1 x2 x3 = some r) : Ctr g l yX6_put cX6_put 6 (some .int) 2 43 0 [rA g 0, .int x1, .int x2, .int x3] h (some (.int r.1)) r.2 := mkCi (plainFor_of_name (by decide)) (Nat.le_of_ble_eq_true rfl) (fun V Rt o rr p => b_X6_put o rr h x1 x2 x3  r e p)
/-! X6_isCover -/
noncomputable def f_X6_isCover (h : MH) (x1 : Int32) : Option Bool :=
  (if x1 < 0 then some false else (if x1 < 6 then some true else some false))
set_option maxRecDepth 100000 in
set_option maxHeartbeats 4000000 in
theorem b_X6_isCover {g : Gx} {l : Launch} {V : VT} {Rt : Option Value → MH → Prop} (o : Ok g l RX6 cX6_isCover 2 0 0 0 V) (rr : ORz cX6_isCover V Rt) (h : MH) (x1 : Int32) : T (fun r => Rt (some (.int (b2i r))) h) (f_X6_isCover h x1) (V 0 [(0, rA g 0), (1, .int x1)] [] h) := by
  unfold f_X6_isCover
  refine R_iload_n o 1 dX6_isCover_0 rfl rfl ?_
  refine R_if_lt o 17 dX6_isCover_1 (by decide) ?_ ?_
  · refine R_iconst (v := 0) o dX6_isCover_17 (by decide) ?_
    exact T_some (fun p => rr _ _ false _ dX6_isCover_18 p)
  · refine R_iload_n o 1 dX6_isCover_4 rfl rfl ?_
    refine R_aload_n o 0 dX6_isCover_5 rfl rfl ?_
    refine R_getR (a2 := 3) o dX6_isCover_6 fl_X6_20 sh_0 (by decide) rfl rf_0_2 ?_
    refine R_alenI (v := 6) o dX6_isCover_9 sh_3 (Or.inr (Or.inr (Or.inr (Or.inl rfl)))) rfl ?_
    refine R_icmp_ge o 17 dX6_isCover_10 (by decide) ?_ ?_
    · refine R_iconst (v := 1) o dX6_isCover_13 (by decide) ?_
      refine R_goto o 18 dX6_isCover_14 (by decide) ?_
      exact T_some (fun p => rr _ _ true _ dX6_isCover_18 p)
    · refine R_iconst (v := 0) o dX6_isCover_17 (by decide) ?_
      exact T_some (fun p => rr _ _ false _ dX6_isCover_18 p)
theorem c_X6_isCover (g : Gx) (l : Launch) (h : MH) (x1 : Int32) (r : Bool) (e : f_X6_isCover h x1 = some r) : Ctr g l yX6_isCover cX6_isCover 2 (some .boolean) 0 0 0 [rA g 0, .int x1] h (some (.int (b2i r))) h := mkCz (plainFor_of_name (by decide)) (Nat.le_of_ble_eq_true rfl) (fun V Rt o rr p => b_X6_isCover o rr h x1  r e p)
/-! X6_drawn -/
noncomputable def f_X6_drawn (h : MH) (a1 : Nat) (a2 : Nat) (x3 : Int32) (x4 : Int32) : Option (Int32 × MH) :=
  Option.bind (f_X5_isMissing h a2) (fun r1 => (if r1 = true then bnd2 (f_X6_found h 1) (fun r9 h9 => some (r9, h9)) else (if (h.1 a2 1) < 1 then bnd2 (f_X6_found h 5) (fun r23 h23 => some (r23, h23)) else Option.bind (f_X5_isWithin h a2 0 255) (fun r32 => (if r32 = true then (if x3 = 4 then Option.bind (f_X5_hasTwoAlike h a2) (fun r50 => (if r50 = true then bnd2 (f_X6_found h 3) (fun r58 h58 => some (r58, h58)) else Option.bind (f_X1_renew h a1 a2 x3 x4) (fun h67 => some ((h67.1 a2 1), h67)))) else Option.bind (f_X1_renew h a1 a2 x3 x4) (fun h67 => some ((h67.1 a2 1), h67))) else bnd2 (f_X6_found h 3) (fun r40 h40 => some (r40, h40)))))))
set_option maxRecDepth 100000 in
set_option maxHeartbeats 4000000 in
theorem b_X6_drawn {g : Gx} {l : Launch} {V : VT} {Rt : Option Value → MH → Prop} (o : Ok g l RX6 cX6_drawn 5 3 69 0 V) (rr : ORi cX6_drawn V Rt) (h : MH) (a1 : Nat) (a2 : Nat) (x3 : Int32) (x4 : Int32) (ha1 : shp a1 = (1, 0)) (ha2 : shp a2 = (5, 0)) : T (fun r => Rt (some (.int r.1)) r.2) (f_X6_drawn h a1 a2 x3 x4) (V 0 [(0, rA g 0), (1, rA g a1), (2, rA g a2), (3, .int x3), (4, .int x4)] [] h) := by
  unfold f_X6_drawn
  refine R_aload_n o 2 dX6_drawn_0 rfl rfl ?_
  refine K_z (callV' (As := []) (rest := []) o dX6_drawn_1 lk_X6_85 rfl ha2 rfl rfl rfl rfl (Nat.le_of_ble_eq_true rfl)) (c_X5_isMissing g l h a2 ha2) (fun r1 => ?_)
  refine R_bif_eq o 13 dX6_drawn_4 (by decide) ?_ ?_
  · refine R_aload_n o 0 dX6_drawn_7 rfl rfl ?_
    refine R_iconst (v := 1) o dX6_drawn_8 (by decide) ?_
    refine K_ih (callV' (As := [.int 1]) (rest := []) o dX6_drawn_9 lk_X6_77 rfl sh_0 rfl rfl rfl rfl (Nat.le_of_ble_eq_true rfl)) (c_X6_found g l h 1) (fun r9 h9 => ?_)
    exact T_some (fun p => rr _ _ _ _ dX6_drawn_12 p)
  · refine R_aload_n o 2 dX6_drawn_13 rfl rfl ?_
    refine R_getI o dX6_drawn_14 fl_X6_114 ha2 (by decide) rfl ?_
    refine R_iconst (v := 1) o dX6_drawn_17 (by decide) ?_
    refine R_icmp_ge o 27 dX6_drawn_18 (by decide) ?_ ?_
    · refine R_aload_n o 0 dX6_drawn_21 rfl rfl ?_
      refine R_iconst (v := 5) o dX6_drawn_22 (by decide) ?_
      refine K_ih (callV' (As := [.int 5]) (rest := []) o dX6_drawn_23 lk_X6_77 rfl sh_0 rfl rfl rfl rfl (Nat.le_of_ble_eq_true rfl)) (c_X6_found g l h 5) (fun r23 h23 => ?_)
      exact T_some (fun p => rr _ _ _ _ dX6_drawn_26 p)
    · refine R_aload_n o 2 dX6_drawn_27 rfl rfl ?_
      refine R_iconst (v := 0) o dX6_drawn_28 (by decide) ?_
      refine R_sipush (v := 255) o dX6_drawn_29 (by decide) ?_
      refine K_z (callV' (As := [.int 0, .int 255]) (rest := []) o dX6_drawn_32 lk_X6_373 rfl ha2 rfl rfl rfl rfl (Nat.le_of_ble_eq_true rfl)) (c_X5_isWithin g l h a2 0 255 ha2) (fun r32 => ?_)
      refine R_bif_ne o 44 dX6_drawn_35 (by decide) ?_ ?_
      · refine R_iload_n o 3 dX6_drawn_44 rfl rfl ?_
        refine R_iconst (v := 4) o dX6_drawn_45 (by decide) ?_
        refine R_icmp_ne o 62 dX6_drawn_46 (by decide) ?_ ?_
        · refine R_aload_n o 2 dX6_drawn_49 rfl rfl ?_
          refine K_z (callV' (As := []) (rest := []) o dX6_drawn_50 lk_X6_376 rfl ha2 rfl rfl rfl rfl (Nat.le_of_ble_eq_true rfl)) (c_X5_hasTwoAlike g l h a2 ha2) (fun r50 => ?_)
          refine R_bif_eq o 62 dX6_drawn_53 (by decide) ?_ ?_
          · refine R_aload_n o 0 dX6_drawn_56 rfl rfl ?_
            refine R_iconst (v := 3) o dX6_drawn_57 (by decide) ?_
            refine K_ih (callV' (As := [.int 3]) (rest := []) o dX6_drawn_58 lk_X6_77 rfl sh_0 rfl rfl rfl rfl (Nat.le_of_ble_eq_true rfl)) (c_X6_found g l h 3) (fun r58 h58 => ?_)
            exact T_some (fun p => rr _ _ _ _ dX6_drawn_61 p)
          · refine R_aload_n o 1 dX6_drawn_62 rfl rfl ?_
            refine R_aload_n o 2 dX6_drawn_63 rfl rfl ?_
            refine R_iload_n o 3 dX6_drawn_64 rfl rfl ?_
            refine R_iload o 4 dX6_drawn_65 rfl ?_
            refine K_vh (callV' (As := [rA g a2, .int x3, .int x4]) (rest := []) o dX6_drawn_67 lk_X6_135 rfl ha1 rfl rfl rfl rfl (Nat.le_of_ble_eq_true rfl)) (c_X1_renew g l h a1 a2 x3 x4 ha1 ha2) (fun h67 => ?_)
            refine R_aload_n o 2 dX6_drawn_70 rfl rfl ?_
            refine R_getI o dX6_drawn_71 fl_X6_114 ha2 (by decide) rfl ?_
            exact T_some (fun p => rr _ _ _ _ dX6_drawn_74 p)
        · refine R_aload_n o 1 dX6_drawn_62 rfl rfl ?_
          refine R_aload_n o 2 dX6_drawn_63 rfl rfl ?_
          refine R_iload_n o 3 dX6_drawn_64 rfl rfl ?_
          refine R_iload o 4 dX6_drawn_65 rfl ?_
          refine K_vh (callV' (As := [rA g a2, .int x3, .int x4]) (rest := []) o dX6_drawn_67 lk_X6_135 rfl ha1 rfl rfl rfl rfl (Nat.le_of_ble_eq_true rfl)) (c_X1_renew g l h a1 a2 x3 x4 ha1 ha2) (fun h67 => ?_)
          refine R_aload_n o 2 dX6_drawn_70 rfl rfl ?_
          refine R_getI o dX6_drawn_71 fl_X6_114 ha2 (by decide) rfl ?_
          exact T_some (fun p => rr _ _ _ _ dX6_drawn_74 p)
      · refine R_aload_n o 0 dX6_drawn_38 rfl rfl ?_
        refine R_iconst (v := 3) o dX6_drawn_39 (by decide) ?_
        refine K_ih (callV' (As := [.int 3]) (rest := []) o dX6_drawn_40 lk_X6_77 rfl sh_0 rfl rfl rfl rfl (Nat.le_of_ble_eq_true rfl)) (c_X6_found g l h 3) (fun r40 h40 => ?_)
        exact T_some (fun p => rr _ _ _ _ dX6_drawn_43 p)
theorem c_X6_drawn (g : Gx) (l : Launch) (h : MH) (a1 : Nat) (a2 : Nat) (x3 : Int32) (x4 : Int32) (ha1 : shp a1 = (1, 0)) (ha2 : shp a2 = (5, 0)) (r : (Int32 × MH)) (e : f_X6_drawn h a1 a2 x3 x4 = some r) : Ctr g l yX6_drawn cX6_drawn 5 (some .int) 3 69 0 [rA g 0, rA g a1, rA g a2, .int x3, .int x4] h (some (.int r.1)) r.2 := mkCi (plainFor_of_name (by decide)) (Nat.le_of_ble_eq_true rfl) (fun V Rt o rr p => b_X6_drawn o rr h a1 a2 x3 x4 ha1 ha2 r e p)
/-! X6_cover -/
noncomputable def f_X6_cover_J27 (h : MH) (x1 : Int32) (x2 : Int32) (x3 : Int32) : Option (Int32 × MH) :=
  gd (ix x1 6) (gd (ix x3 6) (bnd2 (f_X6_drawn h (rf 3 x1.toNatClampNeg) (rf 1 x3.toNatClampNeg) x2 0) (fun r42 h42 => some (r42, h42))))
set_option maxRecDepth 100000 in
set_option maxHeartbeats 4000000 in
theorem t_X6_cover_J27 {g : Gx} {l : Launch} {V : VT} {Rt : Option Value → MH → Prop} (o : Ok g l RX6 cX6_cover 4 4 93 0 V) (rr : ORi cX6_cover V Rt) (h : MH) (x1 : Int32) (x2 : Int32) (x3 : Int32) : T (fun r => Rt (some (.int r.1)) r.2) (f_X6_cover_J27  h x1 x2 x3) (V 27 [(0, rA g 0), (1, .int x1), (2, .int x2), (3, .int x3)] [] h) := by
  unfold f_X6_cover_J27
  refine R_aload_n o 0 dX6_cover_27 rfl rfl ?_
  refine R_aload_n o 0 dX6_cover_28 rfl rfl ?_
  refine R_getR (a2 := 3) o dX6_cover_29 fl_X6_20 sh_0 (by decide) rfl rf_0_2 ?_
  refine R_iload_n o 1 dX6_cover_32 rfl rfl ?_
  refine R_aald o dX6_cover_33 sh_3 (Or.inr (Or.inl rfl)) (fun q33 => ?_)
  refine R_aload_n o 0 dX6_cover_34 rfl rfl ?_
  refine R_getR (a2 := 1) o dX6_cover_35 fl_X6_11 sh_0 (by decide) rfl rf_0_0 ?_
  refine R_iload_n o 3 dX6_cover_38 rfl rfl ?_
  refine R_aald o dX6_cover_39 sh_1 (Or.inl rfl) (fun q39 => ?_)
  refine R_iload_n o 2 dX6_cover_40 rfl rfl ?_
  refine R_iconst (v := 0) o dX6_cover_41 (by decide) ?_
  refine K_ih (callV' (As := [rA g (rf 3 x1.toNatClampNeg), rA g (rf 1 x3.toNatClampNeg), .int x2, .int 0]) (rest := []) o dX6_cover_42 lk_X6_127 rfl sh_0 rfl rfl rfl rfl (Nat.le_of_ble_eq_true rfl)) (c_X6_drawn g l h (rf 3 x1.toNatClampNeg) (rf 1 x3.toNatClampNeg) x2 0 (sh_el14 sh_3 q33) (sh_el13 sh_1 q39)) (fun r42 h42 => ?_)
  exact T_some (fun p => rr _ _ _ _ dX6_cover_45 p)
noncomputable def f_X6_cover (h : MH) (x1 : Int32) (x2 : Int32) (x3 : Int32) : Option (Int32 × MH) :=
  Option.bind (f_X6_isCover h x1) (fun r2 => (if r2 = true then Option.bind (f_X6_isRow h x3) (fun r10 => (if r10 = true then (if x2 = 0 then f_X6_cover_J27 h x1 x2 x3 else (if x2 = 4 then f_X6_cover_J27 h x1 x2 x3 else some ((-1), h))) else some ((-1), h))) else some ((-1), h)))
set_option maxRecDepth 100000 in
set_option maxHeartbeats 4000000 in
theorem b_X6_cover {g : Gx} {l : Launch} {V : VT} {Rt : Option Value → MH → Prop} (o : Ok g l RX6 cX6_cover 4 4 93 0 V) (rr : ORi cX6_cover V Rt) (h : MH) (x1 : Int32) (x2 : Int32) (x3 : Int32) : T (fun r => Rt (some (.int r.1)) r.2) (f_X6_cover h x1 x2 x3) (V 0 [(0, rA g 0), (1, .int x1), (2, .int x2), (3, .int x3)] [] h) := by
  unfold f_X6_cover
  refine R_aload_n o 0 dX6_cover_0 rfl rfl ?_
  refine R_iload_n o 1 dX6_cover_1 rfl rfl ?_
  refine K_z (callV' (As := [.int x1]) (rest := []) o dX6_cover_2 lk_X6_124 rfl sh_0 rfl rfl rfl rfl (Nat.le_of_ble_eq_true rfl)) (c_X6_isCover g l h x1) (fun r2 => ?_)
  refine R_bif_eq o 25 dX6_cover_5 (by decide) ?_ ?_
  · refine R_aload_n o 0 dX6_cover_8 rfl rfl ?_
    refine R_iload_n o 3 dX6_cover_9 rfl rfl ?_
    refine K_z (callV' (As := [.int x3]) (rest := []) o dX6_cover_10 lk_X6_73 rfl sh_0 rfl rfl rfl rfl (Nat.le_of_ble_eq_true rfl)) (c_X6_isRow g l h x3) (fun r10 => ?_)
    refine R_bif_eq o 25 dX6_cover_13 (by decide) ?_ ?_
    · refine R_iload_n o 2 dX6_cover_16 rfl rfl ?_
      refine R_if_eq o 27 dX6_cover_17 (by decide) ?_ ?_
      · exact t_X6_cover_J27 o rr h x1 x2 x3
      · refine R_iload_n o 2 dX6_cover_20 rfl rfl ?_
        refine R_iconst (v := 4) o dX6_cover_21 (by decide) ?_
        refine R_icmp_eq o 27 dX6_cover_22 (by decide) ?_ ?_
        · exact t_X6_cover_J27 o rr h x1 x2 x3
        · refine R_iconst (v := (-1)) o dX6_cover_25 (by decide) ?_
          exact T_some (fun p => rr _ _ _ _ dX6_cover_26 p)
    · refine R_iconst (v := (-1)) o dX6_cover_25 (by decide) ?_
      exact T_some (fun p => rr _ _ _ _ dX6_cover_26 p)
  · refine R_iconst (v := (-1)) o dX6_cover_25 (by decide) ?_
    exact T_some (fun p => rr _ _ _ _ dX6_cover_26 p)
theorem c_X6_cover (g : Gx) (l : Launch) (h : MH) (x1 : Int32) (x2 : Int32) (x3 : Int32) (r : (Int32 × MH)) (e : f_X6_cover h x1 x2 x3 = some r) : Ctr g l yX6_cover cX6_cover 4 (some .int) 4 93 0 [rA g 0, .int x1, .int x2, .int x3] h (some (.int r.1)) r.2 := mkCi (plainFor_of_name (by decide)) (Nat.le_of_ble_eq_true rfl) (fun V Rt o rr p => b_X6_cover o rr h x1 x2 x3  r e p)
/-! X6_grey -/
noncomputable def f_X6_grey (h : MH) (x1 : Int32) (x2 : Int32) (x3 : Int32) (x4 : Int32) : Option (Int32 × MH) :=
  Option.bind (f_X6_isCover h x1) (fun r2 => (if r2 = true then Option.bind (f_X6_isRow h x2) (fun r10 => (if r10 = true then (if x3 < 1 then some ((-1), h) else (if 40 < x3 then some ((-1), h) else gd (ix x1 6) (gd (ix x2 6) ((if x4 = 0 then bnd2 (f_X6_drawn h (rf 3 x1.toNatClampNeg) (rf 1 x2.toNatClampNeg) 1 x3) (fun r53 h53 => some (r53, h53)) else bnd2 (f_X6_drawn h (rf 3 x1.toNatClampNeg) (rf 1 x2.toNatClampNeg) 2 x3) (fun r53 h53 => some (r53, h53))))))) else some ((-1), h))) else some ((-1), h)))
set_option maxRecDepth 100000 in
set_option maxHeartbeats 4000000 in
theorem b_X6_grey {g : Gx} {l : Launch} {V : VT} {Rt : Option Value → MH → Prop} (o : Ok g l RX6 cX6_grey 5 4 93 0 V) (rr : ORi cX6_grey V Rt) (h : MH) (x1 : Int32) (x2 : Int32) (x3 : Int32) (x4 : Int32) : T (fun r => Rt (some (.int r.1)) r.2) (f_X6_grey h x1 x2 x3 x4) (V 0 [(0, rA g 0), (1, .int x1), (2, .int x2), (3, .int x3), (4, .int x4)] [] h) := by
  unfold f_X6_grey
  refine R_aload_n o 0 dX6_grey_0 rfl rfl ?_
  refine R_iload_n o 1 dX6_grey_1 rfl rfl ?_
  refine K_z (callV' (As := [.int x1]) (rest := []) o dX6_grey_2 lk_X6_124 rfl sh_0 rfl rfl rfl rfl (Nat.le_of_ble_eq_true rfl)) (c_X6_isCover g l h x1) (fun r2 => ?_)
  refine R_bif_eq o 27 dX6_grey_5 (by decide) ?_ ?_
  · refine R_aload_n o 0 dX6_grey_8 rfl rfl ?_
    refine R_iload_n o 2 dX6_grey_9 rfl rfl ?_
    refine K_z (callV' (As := [.int x2]) (rest := []) o dX6_grey_10 lk_X6_73 rfl sh_0 rfl rfl rfl rfl (Nat.le_of_ble_eq_true rfl)) (c_X6_isRow g l h x2) (fun r10 => ?_)
    refine R_bif_eq o 27 dX6_grey_13 (by decide) ?_ ?_
    · refine R_iload_n o 3 dX6_grey_16 rfl rfl ?_
      refine R_iconst (v := 1) o dX6_grey_17 (by decide) ?_
      refine R_icmp_lt o 27 dX6_grey_18 (by decide) ?_ ?_
      · refine R_iconst (v := (-1)) o dX6_grey_27 (by decide) ?_
        exact T_some (fun p => rr _ _ _ _ dX6_grey_28 p)
      · refine R_iload_n o 3 dX6_grey_21 rfl rfl ?_
        refine R_bipush (v := 40) o dX6_grey_22 (by decide) ?_
        refine R_icmp_le o 29 dX6_grey_24 (by decide) ?_ ?_
        · refine R_iconst (v := (-1)) o dX6_grey_27 (by decide) ?_
          exact T_some (fun p => rr _ _ _ _ dX6_grey_28 p)
        · refine R_aload_n o 0 dX6_grey_29 rfl rfl ?_
          refine R_aload_n o 0 dX6_grey_30 rfl rfl ?_
          refine R_getR (a2 := 3) o dX6_grey_31 fl_X6_20 sh_0 (by decide) rfl rf_0_2 ?_
          refine R_iload_n o 1 dX6_grey_34 rfl rfl ?_
          refine R_aald o dX6_grey_35 sh_3 (Or.inr (Or.inl rfl)) (fun q35 => ?_)
          refine R_aload_n o 0 dX6_grey_36 rfl rfl ?_
          refine R_getR (a2 := 1) o dX6_grey_37 fl_X6_11 sh_0 (by decide) rfl rf_0_0 ?_
          refine R_iload_n o 2 dX6_grey_40 rfl rfl ?_
          refine R_aald o dX6_grey_41 sh_1 (Or.inl rfl) (fun q41 => ?_)
          refine R_iload o 4 dX6_grey_42 rfl ?_
          refine R_if_eq o 51 dX6_grey_44 (by decide) ?_ ?_
          · refine R_iconst (v := 1) o dX6_grey_51 (by decide) ?_
            refine R_iload_n o 3 dX6_grey_52 rfl rfl ?_
            refine K_ih (callV' (As := [rA g (rf 3 x1.toNatClampNeg), rA g (rf 1 x2.toNatClampNeg), .int 1, .int x3]) (rest := []) o dX6_grey_53 lk_X6_127 rfl sh_0 rfl rfl rfl rfl (Nat.le_of_ble_eq_true rfl)) (c_X6_drawn g l h (rf 3 x1.toNatClampNeg) (rf 1 x2.toNatClampNeg) 1 x3 (sh_el14 sh_3 q35) (sh_el13 sh_1 q41)) (fun r53 h53 => ?_)
            exact T_some (fun p => rr _ _ _ _ dX6_grey_56 p)
          · refine R_iconst (v := 2) o dX6_grey_47 (by decide) ?_
            refine R_goto o 52 dX6_grey_48 (by decide) ?_
            refine R_iload_n o 3 dX6_grey_52 rfl rfl ?_
            refine K_ih (callV' (As := [rA g (rf 3 x1.toNatClampNeg), rA g (rf 1 x2.toNatClampNeg), .int 2, .int x3]) (rest := []) o dX6_grey_53 lk_X6_127 rfl sh_0 rfl rfl rfl rfl (Nat.le_of_ble_eq_true rfl)) (c_X6_drawn g l h (rf 3 x1.toNatClampNeg) (rf 1 x2.toNatClampNeg) 2 x3 (sh_el14 sh_3 q35) (sh_el13 sh_1 q41)) (fun r53 h53 => ?_)
            exact T_some (fun p => rr _ _ _ _ dX6_grey_56 p)
    · refine R_iconst (v := (-1)) o dX6_grey_27 (by decide) ?_
      exact T_some (fun p => rr _ _ _ _ dX6_grey_28 p)
  · refine R_iconst (v := (-1)) o dX6_grey_27 (by decide) ?_
    exact T_some (fun p => rr _ _ _ _ dX6_grey_28 p)
theorem c_X6_grey (g : Gx) (l : Launch) (h : MH) (x1 : Int32) (x2 : Int32) (x3 : Int32) (x4 : Int32) (r : (Int32 × MH)) (e : f_X6_grey h x1 x2 x3 x4 = some r) : Ctr g l yX6_grey cX6_grey 5 (some .int) 4 93 0 [rA g 0, .int x1, .int x2, .int x3, .int x4] h (some (.int r.1)) r.2 := mkCi (plainFor_of_name (by decide)) (Nat.le_of_ble_eq_true rfl) (fun V Rt o rr p => b_X6_grey o rr h x1 x2 x3 x4  r e p)
/-! X6_areChoices -/
noncomputable def f_X6_areChoices_B14 (h : MH) (a0 : Nat) (a1 : Nat) (x2 : Int32) : Option ((Int32) ⊕ ((Unit) ⊕ (Bool))) :=
  (if x2 < (h.1 a0 1) then Option.bind (f_X5_get h a0 x2) (fun r24 => (if r24 < 0 then some (.inr (.inr false)) else Option.bind (f_X5_get h a0 x2) (fun r32 => Option.bind (f_X5_get h a1 x2) (fun r37 => (if r32 < r37 then some (.inl (x2 + 1)) else some (.inr (.inr false))))))) else some (.inr (.inl ())))
set_option maxRecDepth 100000 in
set_option maxHeartbeats 4000000 in
theorem t_X6_areChoices_B14 {g : Gx} {l : Launch} {V : VT} {Rt : Option Value → MH → Prop} (o : Ok g l RX6 cX6_areChoices 3 2 42 0 V) (rr : ORz cX6_areChoices V Rt) (h : MH) (a0 : Nat) (a1 : Nat) (x2 : Int32) (ha0 : shp a0 = (5, 0)) (ha1 : shp a1 = (5, 0)) : T (Sum.elim (fun s => V 14 [(0, rA g a0), (1, rA g a1), (2, .int s)] [] h) (Sum.elim (fun b => V 51 [] [] h) (fun r => Rt (some (.int (b2i r))) h))) (f_X6_areChoices_B14  h a0 a1 x2) (V 14 [(0, rA g a0), (1, rA g a1), (2, .int x2)] [] h) := by
  unfold f_X6_areChoices_B14
  refine R_iload_n o 2 dX6_areChoices_14 rfl rfl ?_
  refine R_aload_n o 0 dX6_areChoices_15 rfl rfl ?_
  refine R_getI o dX6_areChoices_16 fl_X6_114 ha0 (by decide) rfl ?_
  refine R_icmp_ge o 51 dX6_areChoices_19 (by decide) ?_ ?_
  · refine R_aload_n o 0 dX6_areChoices_22 rfl rfl ?_
    refine R_iload_n o 2 dX6_areChoices_23 rfl rfl ?_
    refine K_i (callV' (As := [.int x2]) (rest := []) o dX6_areChoices_24 lk_X6_92 rfl ha0 rfl rfl rfl rfl (Nat.le_of_ble_eq_true rfl)) (c_X5_get g l h a0 x2 ha0) (fun r24 => ?_)
    refine R_if_lt o 43 dX6_areChoices_27 (by decide) ?_ ?_
    · refine R_iconst (v := 0) o dX6_areChoices_43 (by decide) ?_
      exact T_some (fun p => rr _ _ false _ dX6_areChoices_44 p)
    · refine R_aload_n o 0 dX6_areChoices_30 rfl rfl ?_
      refine R_iload_n o 2 dX6_areChoices_31 rfl rfl ?_
      refine K_i (callV' (As := [.int x2]) (rest := []) o dX6_areChoices_32 lk_X6_92 rfl ha0 rfl rfl rfl rfl (Nat.le_of_ble_eq_true rfl)) (c_X5_get g l h a0 x2 ha0) (fun r32 => ?_)
      refine R_aload_n o 1 dX6_areChoices_35 rfl rfl ?_
      refine R_iload_n o 2 dX6_areChoices_36 rfl rfl ?_
      refine K_i (callV' (As := [.int x2]) (rest := [.int r32]) o dX6_areChoices_37 lk_X6_92 rfl ha1 rfl rfl rfl rfl (Nat.le_of_ble_eq_true rfl)) (c_X5_get g l h a1 x2 ha1) (fun r37 => ?_)
      refine R_icmp_lt o 45 dX6_areChoices_40 (by decide) ?_ ?_
      · refine R_iinc (v := (x2 + 1)) (lv2 := [(0, rA g a0), (1, rA g a1), (2, .int (x2 + 1))]) o 2 dX6_areChoices_45 rfl rfl (by decide) rfl ?_
        refine R_goto o 14 dX6_areChoices_48 (by decide) ?_
        exact T_some (fun p => p)
      · refine R_iconst (v := 0) o dX6_areChoices_43 (by decide) ?_
        exact T_some (fun p => rr _ _ false _ dX6_areChoices_44 p)
  · refine R_drop (lv2 := []) o [] rfl ?_
    exact T_some (fun p => p)
noncomputable def f_X6_areChoices_L14 (h : MH) (a0 : Nat) (a1 : Nat) (x2 : Int32) : Option ((Unit) ⊕ (Bool)) :=
  lpo (fun s : Int32 => f_X6_areChoices_B14 h a0 a1 s) x2
theorem t_X6_areChoices_L14 {g : Gx} {l : Launch} {V : VT} {Rt : Option Value → MH → Prop} (o : Ok g l RX6 cX6_areChoices 3 2 42 0 V) (rr : ORz cX6_areChoices V Rt) (h : MH) (a0 : Nat) (a1 : Nat) (x2 : Int32) (ha0 : shp a0 = (5, 0)) (ha1 : shp a1 = (5, 0)) : T (Sum.elim (fun b => V 51 [] [] h) (fun r => Rt (some (.int (b2i r))) h)) (f_X6_areChoices_L14 h a0 a1 x2) (V 14 [(0, rA g a0), (1, rA g a1), (2, .int x2)] [] h) := T_loop (head := fun s : Int32 => V 14 [(0, rA g a0), (1, rA g a1), (2, .int s)] [] h) (fun s => t_X6_areChoices_B14 o rr h a0 a1 s ha0 ha1) x2
noncomputable def f_X6_areChoices (h : MH) (a0 : Nat) (a1 : Nat) : Option Bool :=
  Option.bind (f_X5_isWithin h a1 1 9) (fun r4 => (if r4 = true then Option.bind (f_X6_areChoices_L14 h a0 a1 0) (Sum.elim (fun b14 => some true) (fun r => some r)) else some false))
set_option maxRecDepth 100000 in
set_option maxHeartbeats 4000000 in
theorem b_X6_areChoices {g : Gx} {l : Launch} {V : VT} {Rt : Option Value → MH → Prop} (o : Ok g l RX6 cX6_areChoices 3 2 42 0 V) (rr : ORz cX6_areChoices V Rt) (h : MH) (a0 : Nat) (a1 : Nat) (ha0 : shp a0 = (5, 0)) (ha1 : shp a1 = (5, 0)) : T (fun r => Rt (some (.int (b2i r))) h) (f_X6_areChoices h a0 a1) (V 0 [(0, rA g a0), (1, rA g a1)] [] h) := by
  unfold f_X6_areChoices
  refine R_aload_n o 1 dX6_areChoices_0 rfl rfl ?_
  refine R_iconst (v := 1) o dX6_areChoices_1 (by decide) ?_
  refine R_bipush (v := 9) o dX6_areChoices_2 (by decide) ?_
  refine K_z (callV' (As := [.int 1, .int 9]) (rest := []) o dX6_areChoices_4 lk_X6_373 rfl ha1 rfl rfl rfl rfl (Nat.le_of_ble_eq_true rfl)) (c_X5_isWithin g l h a1 1 9 ha1) (fun r4 => ?_)
  refine R_bif_ne o 12 dX6_areChoices_7 (by decide) ?_ ?_
  · refine R_iconst (v := 0) o dX6_areChoices_12 (by decide) ?_
    refine R_istore_n (lv2 := [(0, rA g a0), (1, rA g a1), (2, .int 0)]) o dX6_areChoices_13 rfl (by decide) rfl ?_
    refine T_bind2 (t_X6_areChoices_L14 o rr h a0 a1 0 ha0 ha1) (fun b14 => ?_) (fun r => ?_)
    · refine R_iconst (v := 1) o dX6_areChoices_51 (by decide) ?_
      exact T_some (fun p => rr _ _ true _ dX6_areChoices_52 p)
    · exact T_some (fun p => p)
  · refine R_iconst (v := 0) o dX6_areChoices_10 (by decide) ?_
    exact T_some (fun p => rr _ _ false _ dX6_areChoices_11 p)
theorem c_X6_areChoices (g : Gx) (l : Launch) (h : MH) (a0 : Nat) (a1 : Nat) (ha0 : shp a0 = (5, 0)) (ha1 : shp a1 = (5, 0)) (r : Bool) (e : f_X6_areChoices h a0 a1 = some r) : Ctr g l yX6_areChoices cX6_areChoices 3 (some .boolean) 2 42 0 [rA g a0, rA g a1] h (some (.int (b2i r))) h := mkCz (plainFor_of_name (by decide)) (Nat.le_of_ble_eq_true rfl) (fun V Rt o rr p => b_X6_areChoices o rr h a0 a1 ha0 ha1 r e p)
/-! X6_wordy -/
noncomputable def f_X6_wordy (h : MH) (x1 : Int32) (x2 : Int32) (x3 : Int32) : Option (Int32 × MH) :=
  Option.bind (f_X6_isCover h x1) (fun r2 => (if r2 = true then Option.bind (f_X6_isRow h x2) (fun r10 => (if r10 = true then Option.bind (f_X6_isRow h x3) (fun r18 => (if r18 = true then gd (ix x2 6) (gd (ix x3 6) (Option.bind (f_X5_isMissing h (rf 1 x2.toNatClampNeg)) (fun r44 => (if r44 = true then bnd2 (f_X6_found h 1) (fun r60 h60 => some (r60, h60)) else Option.bind (f_X5_isMissing h (rf 1 x3.toNatClampNeg)) (fun r52 => (if r52 = true then bnd2 (f_X6_found h 1) (fun r60 h60 => some (r60, h60)) else (if (h.1 (rf 1 x2.toNatClampNeg) 1) < 1 then bnd2 (f_X6_found h 5) (fun r88 h88 => some (r88, h88)) else (if (h.1 (rf 1 x2.toNatClampNeg) 1) = (h.1 (rf 1 x3.toNatClampNeg) 1) then Option.bind (f_X6_areChoices h (rf 1 x2.toNatClampNeg) (rf 1 x3.toNatClampNeg)) (fun r96 => (if r96 = true then gd (ix x1 6) (Option.bind (f_X1_renew h (rf 3 x1.toNatClampNeg) (rf 1 x2.toNatClampNeg) 3 0) (fun h118 => gd (ix x1 6) (Option.bind (f_X1_takeChoices h118 (rf 3 x1.toNatClampNeg) (rf 1 x3.toNatClampNeg)) (fun h129 => some ((h129.1 (rf 1 x2.toNatClampNeg) 1), h129))))) else bnd2 (f_X6_found h 3) (fun r104 h104 => some (r104, h104)))) else bnd2 (f_X6_found h 5) (fun r88 h88 => some (r88, h88)))))))))) else some ((-1), h))) else some ((-1), h))) else some ((-1), h)))
set_option maxRecDepth 100000 in
set_option maxHeartbeats 4000000 in
theorem b_X6_wordy {g : Gx} {l : Launch} {V : VT} {Rt : Option Value → MH → Prop} (o : Ok g l RX6 cX6_wordy 6 3 69 0 V) (rr : ORi cX6_wordy V Rt) (h : MH) (x1 : Int32) (x2 : Int32) (x3 : Int32) : T (fun r => Rt (some (.int r.1)) r.2) (f_X6_wordy h x1 x2 x3) (V 0 [(0, rA g 0), (1, .int x1), (2, .int x2), (3, .int x3)] [] h) := by
  unfold f_X6_wordy
  refine R_aload_n o 0 dX6_wordy_0 rfl rfl ?_
  refine R_iload_n o 1 dX6_wordy_1 rfl rfl ?_
  refine K_z (callV' (As := [.int x1]) (rest := []) o dX6_wordy_2 lk_X6_124 rfl sh_0 rfl rfl rfl rfl (Nat.le_of_ble_eq_true rfl)) (c_X6_isCover g l h x1) (fun r2 => ?_)
  refine R_bif_eq o 24 dX6_wordy_5 (by decide) ?_ ?_
  · refine R_aload_n o 0 dX6_wordy_8 rfl rfl ?_
    refine R_iload_n o 2 dX6_wordy_9 rfl rfl ?_
    refine K_z (callV' (As := [.int x2]) (rest := []) o dX6_wordy_10 lk_X6_73 rfl sh_0 rfl rfl rfl rfl (Nat.le_of_ble_eq_true rfl)) (c_X6_isRow g l h x2) (fun r10 => ?_)
    refine R_bif_eq o 24 dX6_wordy_13 (by decide) ?_ ?_
    · refine R_aload_n o 0 dX6_wordy_16 rfl rfl ?_
      refine R_iload_n o 3 dX6_wordy_17 rfl rfl ?_
      refine K_z (callV' (As := [.int x3]) (rest := []) o dX6_wordy_18 lk_X6_73 rfl sh_0 rfl rfl rfl rfl (Nat.le_of_ble_eq_true rfl)) (c_X6_isRow g l h x3) (fun r18 => ?_)
      refine R_bif_ne o 26 dX6_wordy_21 (by decide) ?_ ?_
      · refine R_aload_n o 0 dX6_wordy_26 rfl rfl ?_
        refine R_getR (a2 := 1) o dX6_wordy_27 fl_X6_11 sh_0 (by decide) rfl rf_0_0 ?_
        refine R_iload_n o 2 dX6_wordy_30 rfl rfl ?_
        refine R_aald o dX6_wordy_31 sh_1 (Or.inl rfl) (fun q31 => ?_)
        refine R_astore (lv2 := [(0, rA g 0), (1, .int x1), (2, .int x2), (3, .int x3), (4, rA g (rf 1 x2.toNatClampNeg))]) o dX6_wordy_32 (by decide) rfl ?_
        refine R_aload_n o 0 dX6_wordy_34 rfl rfl ?_
        refine R_getR (a2 := 1) o dX6_wordy_35 fl_X6_11 sh_0 (by decide) rfl rf_0_0 ?_
        refine R_iload_n o 3 dX6_wordy_38 rfl rfl ?_
        refine R_aald o dX6_wordy_39 sh_1 (Or.inl rfl) (fun q39 => ?_)
        refine R_astore (lv2 := [(0, rA g 0), (1, .int x1), (2, .int x2), (3, .int x3), (4, rA g (rf 1 x2.toNatClampNeg)), (5, rA g (rf 1 x3.toNatClampNeg))]) o dX6_wordy_40 (by decide) rfl ?_
        refine R_aload o 4 dX6_wordy_42 rfl ?_
        refine K_z (callV' (As := []) (rest := []) o dX6_wordy_44 lk_X6_85 rfl (sh_el13 sh_1 q31) rfl rfl rfl rfl (Nat.le_of_ble_eq_true rfl)) (c_X5_isMissing g l h (rf 1 x2.toNatClampNeg) (sh_el13 sh_1 q31)) (fun r44 => ?_)
        refine R_bif_ne o 58 dX6_wordy_47 (by decide) ?_ ?_
        · refine R_aload_n o 0 dX6_wordy_58 rfl rfl ?_
          refine R_iconst (v := 1) o dX6_wordy_59 (by decide) ?_
          refine K_ih (callV' (As := [.int 1]) (rest := []) o dX6_wordy_60 lk_X6_77 rfl sh_0 rfl rfl rfl rfl (Nat.le_of_ble_eq_true rfl)) (c_X6_found g l h 1) (fun r60 h60 => ?_)
          exact T_some (fun p => rr _ _ _ _ dX6_wordy_63 p)
        · refine R_aload o 5 dX6_wordy_50 rfl ?_
          refine K_z (callV' (As := []) (rest := []) o dX6_wordy_52 lk_X6_85 rfl (sh_el13 sh_1 q39) rfl rfl rfl rfl (Nat.le_of_ble_eq_true rfl)) (c_X5_isMissing g l h (rf 1 x3.toNatClampNeg) (sh_el13 sh_1 q39)) (fun r52 => ?_)
          refine R_bif_eq o 64 dX6_wordy_55 (by decide) ?_ ?_
          · refine R_aload_n o 0 dX6_wordy_58 rfl rfl ?_
            refine R_iconst (v := 1) o dX6_wordy_59 (by decide) ?_
            refine K_ih (callV' (As := [.int 1]) (rest := []) o dX6_wordy_60 lk_X6_77 rfl sh_0 rfl rfl rfl rfl (Nat.le_of_ble_eq_true rfl)) (c_X6_found g l h 1) (fun r60 h60 => ?_)
            exact T_some (fun p => rr _ _ _ _ dX6_wordy_63 p)
          · refine R_aload o 4 dX6_wordy_64 rfl ?_
            refine R_getI o dX6_wordy_66 fl_X6_114 (sh_el13 sh_1 q31) (by decide) rfl ?_
            refine R_iconst (v := 1) o dX6_wordy_69 (by decide) ?_
            refine R_icmp_lt o 86 dX6_wordy_70 (by decide) ?_ ?_
            · refine R_aload_n o 0 dX6_wordy_86 rfl rfl ?_
              refine R_iconst (v := 5) o dX6_wordy_87 (by decide) ?_
              refine K_ih (callV' (As := [.int 5]) (rest := []) o dX6_wordy_88 lk_X6_77 rfl sh_0 rfl rfl rfl rfl (Nat.le_of_ble_eq_true rfl)) (c_X6_found g l h 5) (fun r88 h88 => ?_)
              exact T_some (fun p => rr _ _ _ _ dX6_wordy_91 p)
            · refine R_aload o 4 dX6_wordy_73 rfl ?_
              refine R_getI o dX6_wordy_75 fl_X6_114 (sh_el13 sh_1 q31) (by decide) rfl ?_
              refine R_aload o 5 dX6_wordy_78 rfl ?_
              refine R_getI o dX6_wordy_80 fl_X6_114 (sh_el13 sh_1 q39) (by decide) rfl ?_
              refine R_icmp_eq o 92 dX6_wordy_83 (by decide) ?_ ?_
              · refine R_aload o 4 dX6_wordy_92 rfl ?_
                refine R_aload o 5 dX6_wordy_94 rfl ?_
                refine K_z (callS' (av := [rA g (rf 1 x2.toNatClampNeg), rA g (rf 1 x3.toNatClampNeg)]) (rest := []) o dX6_wordy_96 lk_X6_131 rfl rfl rfl (Nat.le_of_ble_eq_true rfl)) (c_X6_areChoices g l h (rf 1 x2.toNatClampNeg) (rf 1 x3.toNatClampNeg) (sh_el13 sh_1 q31) (sh_el13 sh_1 q39)) (fun r96 => ?_)
                refine R_bif_ne o 108 dX6_wordy_99 (by decide) ?_ ?_
                · refine R_aload_n o 0 dX6_wordy_108 rfl rfl ?_
                  refine R_getR (a2 := 3) o dX6_wordy_109 fl_X6_20 sh_0 (by decide) rfl rf_0_2 ?_
                  refine R_iload_n o 1 dX6_wordy_112 rfl rfl ?_
                  refine R_aald o dX6_wordy_113 sh_3 (Or.inr (Or.inl rfl)) (fun q113 => ?_)
                  refine R_aload o 4 dX6_wordy_114 rfl ?_
                  refine R_iconst (v := 3) o dX6_wordy_116 (by decide) ?_
                  refine R_iconst (v := 0) o dX6_wordy_117 (by decide) ?_
                  refine K_vh (callV' (As := [rA g (rf 1 x2.toNatClampNeg), .int 3, .int 0]) (rest := []) o dX6_wordy_118 lk_X6_135 rfl (sh_el14 sh_3 q113) rfl rfl rfl rfl (Nat.le_of_ble_eq_true rfl)) (c_X1_renew g l h (rf 3 x1.toNatClampNeg) (rf 1 x2.toNatClampNeg) 3 0 (sh_el14 sh_3 q113) (sh_el13 sh_1 q31)) (fun h118 => ?_)
                  refine R_aload_n o 0 dX6_wordy_121 rfl rfl ?_
                  refine R_getR (a2 := 3) o dX6_wordy_122 fl_X6_20 sh_0 (by decide) rfl rf_0_2 ?_
                  refine R_iload_n o 1 dX6_wordy_125 rfl rfl ?_
                  refine R_aald o dX6_wordy_126 sh_3 (Or.inr (Or.inl rfl)) (fun q126 => ?_)
                  refine R_aload o 5 dX6_wordy_127 rfl ?_
                  refine K_vh (callV' (As := [rA g (rf 1 x3.toNatClampNeg)]) (rest := []) o dX6_wordy_129 lk_X6_138 rfl (sh_el14 sh_3 q126) rfl rfl rfl rfl (Nat.le_of_ble_eq_true rfl)) (c_X1_takeChoices g l h118 (rf 3 x1.toNatClampNeg) (rf 1 x3.toNatClampNeg) (sh_el14 sh_3 q126) (sh_el13 sh_1 q39)) (fun h129 => ?_)
                  refine R_aload o 4 dX6_wordy_132 rfl ?_
                  refine R_getI o dX6_wordy_134 fl_X6_114 (sh_el13 sh_1 q31) (by decide) rfl ?_
                  exact T_some (fun p => rr _ _ _ _ dX6_wordy_137 p)
                · refine R_aload_n o 0 dX6_wordy_102 rfl rfl ?_
                  refine R_iconst (v := 3) o dX6_wordy_103 (by decide) ?_
                  refine K_ih (callV' (As := [.int 3]) (rest := []) o dX6_wordy_104 lk_X6_77 rfl sh_0 rfl rfl rfl rfl (Nat.le_of_ble_eq_true rfl)) (c_X6_found g l h 3) (fun r104 h104 => ?_)
                  exact T_some (fun p => rr _ _ _ _ dX6_wordy_107 p)
              · refine R_aload_n o 0 dX6_wordy_86 rfl rfl ?_
                refine R_iconst (v := 5) o dX6_wordy_87 (by decide) ?_
                refine K_ih (callV' (As := [.int 5]) (rest := []) o dX6_wordy_88 lk_X6_77 rfl sh_0 rfl rfl rfl rfl (Nat.le_of_ble_eq_true rfl)) (c_X6_found g l h 5) (fun r88 h88 => ?_)
                exact T_some (fun p => rr _ _ _ _ dX6_wordy_91 p)
      · refine R_iconst (v := (-1)) o dX6_wordy_24 (by decide) ?_
        exact T_some (fun p => rr _ _ _ _ dX6_wordy_25 p)
    · refine R_iconst (v := (-1)) o dX6_wordy_24 (by decide) ?_
      exact T_some (fun p => rr _ _ _ _ dX6_wordy_25 p)
  · refine R_iconst (v := (-1)) o dX6_wordy_24 (by decide) ?_
    exact T_some (fun p => rr _ _ _ _ dX6_wordy_25 p)
theorem c_X6_wordy (g : Gx) (l : Launch) (h : MH) (x1 : Int32) (x2 : Int32) (x3 : Int32) (r : (Int32 × MH)) (e : f_X6_wordy h x1 x2 x3 = some r) : Ctr g l yX6_wordy cX6_wordy 6 (some .int) 3 69 0 [rA g 0, .int x1, .int x2, .int x3] h (some (.int r.1)) r.2 := mkCi (plainFor_of_name (by decide)) (Nat.le_of_ble_eq_true rfl) (fun V Rt o rr p => b_X6_wordy o rr h x1 x2 x3  r e p)
/-! X6_wet -/
noncomputable def f_X6_wet (h : MH) (x1 : Int32) (x2 : Int32) : Option (Int32 × MH) :=
  Option.bind (f_X6_isCover h x1) (fun r2 => (if r2 = true then (if x2 < 0 then some ((-1), h) else gd (ix x1 6) (Option.bind (f_X1_isMissing h (rf 3 x1.toNatClampNeg)) (fun r22 => (if r22 = true then bnd2 (f_X6_found h 1) (fun r30 h30 => some (r30, h30)) else nm (uI h (rf 3 x1.toNatClampNeg) 5 x2) (fun h36 => Option.bind (f_X1_countWet h36 (rf 3 x1.toNatClampNeg)) (fun r40 => some (r40, h36))))))) else some ((-1), h)))
set_option maxRecDepth 100000 in
set_option maxHeartbeats 4000000 in
theorem b_X6_wet {g : Gx} {l : Launch} {V : VT} {Rt : Option Value → MH → Prop} (o : Ok g l RX6 cX6_wet 4 4 85 0 V) (rr : ORi cX6_wet V Rt) (h : MH) (x1 : Int32) (x2 : Int32) : T (fun r => Rt (some (.int r.1)) r.2) (f_X6_wet h x1 x2) (V 0 [(0, rA g 0), (1, .int x1), (2, .int x2)] [] h) := by
  unfold f_X6_wet
  refine R_aload_n o 0 dX6_wet_0 rfl rfl ?_
  refine R_iload_n o 1 dX6_wet_1 rfl rfl ?_
  refine K_z (callV' (As := [.int x1]) (rest := []) o dX6_wet_2 lk_X6_124 rfl sh_0 rfl rfl rfl rfl (Nat.le_of_ble_eq_true rfl)) (c_X6_isCover g l h x1) (fun r2 => ?_)
  refine R_bif_eq o 12 dX6_wet_5 (by decide) ?_ ?_
  · refine R_iload_n o 2 dX6_wet_8 rfl rfl ?_
    refine R_if_ge o 14 dX6_wet_9 (by decide) ?_ ?_
    · refine R_iconst (v := (-1)) o dX6_wet_12 (by decide) ?_
      exact T_some (fun p => rr _ _ _ _ dX6_wet_13 p)
    · refine R_aload_n o 0 dX6_wet_14 rfl rfl ?_
      refine R_getR (a2 := 3) o dX6_wet_15 fl_X6_20 sh_0 (by decide) rfl rf_0_2 ?_
      refine R_iload_n o 1 dX6_wet_18 rfl rfl ?_
      refine R_aald o dX6_wet_19 sh_3 (Or.inr (Or.inl rfl)) (fun q19 => ?_)
      refine R_astore_n (lv2 := [(0, rA g 0), (1, .int x1), (2, .int x2), (3, rA g (rf 3 x1.toNatClampNeg))]) o dX6_wet_20 rfl (by decide) rfl ?_
      refine R_aload_n o 3 dX6_wet_21 rfl rfl ?_
      refine K_z (callV' (As := []) (rest := []) o dX6_wet_22 lk_X6_142 rfl (sh_el14 sh_3 q19) rfl rfl rfl rfl (Nat.le_of_ble_eq_true rfl)) (c_X1_isMissing g l h (rf 3 x1.toNatClampNeg) (sh_el14 sh_3 q19)) (fun r22 => ?_)
      refine R_bif_eq o 34 dX6_wet_25 (by decide) ?_ ?_
      · refine R_aload_n o 0 dX6_wet_28 rfl rfl ?_
        refine R_iconst (v := 1) o dX6_wet_29 (by decide) ?_
        refine K_ih (callV' (As := [.int 1]) (rest := []) o dX6_wet_30 lk_X6_77 rfl sh_0 rfl rfl rfl rfl (Nat.le_of_ble_eq_true rfl)) (c_X6_found g l h 1) (fun r30 h30 => ?_)
        exact T_some (fun p => rr _ _ _ _ dX6_wet_33 p)
      · refine R_aload_n o 3 dX6_wet_34 rfl rfl ?_
        refine R_iload_n o 2 dX6_wet_35 rfl rfl ?_
        refine R_putI o dX6_wet_36 fp_X6_143 (sh_el14 sh_3 q19) (by decide) rfl ?_
        refine R_nmH (fun h36 => ?_)
        refine R_aload_n o 3 dX6_wet_39 rfl rfl ?_
        refine K_i (callV' (As := []) (rest := []) o dX6_wet_40 lk_X6_146 rfl (sh_el14 sh_3 q19) rfl rfl rfl rfl (Nat.le_of_ble_eq_true rfl)) (c_X1_countWet g l h36 (rf 3 x1.toNatClampNeg) (sh_el14 sh_3 q19)) (fun r40 => ?_)
        exact T_some (fun p => rr _ _ _ _ dX6_wet_43 p)
  · refine R_iconst (v := (-1)) o dX6_wet_12 (by decide) ?_
    exact T_some (fun p => rr _ _ _ _ dX6_wet_13 p)
theorem c_X6_wet (g : Gx) (l : Launch) (h : MH) (x1 : Int32) (x2 : Int32) (r : (Int32 × MH)) (e : f_X6_wet h x1 x2 = some r) : Ctr g l yX6_wet cX6_wet 4 (some .int) 4 85 0 [rA g 0, .int x1, .int x2] h (some (.int r.1)) r.2 := mkCi (plainFor_of_name (by decide)) (Nat.le_of_ble_eq_true rfl) (fun V Rt o rr p => b_X6_wet o rr h x1 x2  r e p)
/-! X6_drop -/
noncomputable def f_X6_drop (h : MH) (x1 : Int32) : Option (Int32 × MH) :=
  Option.bind (f_X6_isCover h x1) (fun r2 => (if r2 = true then gd (ix x1 6) (Option.bind (f_X1_isMissing h (rf 3 x1.toNatClampNeg)) (fun r16 => (if r16 = true then bnd2 (f_X6_found h 1) (fun r24 h24 => some (r24, h24)) else gd (ix x1 6) (Option.bind (f_X1_lose h (rf 3 x1.toNatClampNeg)) (fun h34 => some (1, h34)))))) else some ((-1), h)))
set_option maxRecDepth 100000 in
set_option maxHeartbeats 4000000 in
theorem b_X6_drop {g : Gx} {l : Launch} {V : VT} {Rt : Option Value → MH → Prop} (o : Ok g l RX6 cX6_drop 2 1 21 0 V) (rr : ORi cX6_drop V Rt) (h : MH) (x1 : Int32) : T (fun r => Rt (some (.int r.1)) r.2) (f_X6_drop h x1) (V 0 [(0, rA g 0), (1, .int x1)] [] h) := by
  unfold f_X6_drop
  refine R_aload_n o 0 dX6_drop_0 rfl rfl ?_
  refine R_iload_n o 1 dX6_drop_1 rfl rfl ?_
  refine K_z (callV' (As := [.int x1]) (rest := []) o dX6_drop_2 lk_X6_124 rfl sh_0 rfl rfl rfl rfl (Nat.le_of_ble_eq_true rfl)) (c_X6_isCover g l h x1) (fun r2 => ?_)
  refine R_bif_ne o 10 dX6_drop_5 (by decide) ?_ ?_
  · refine R_aload_n o 0 dX6_drop_10 rfl rfl ?_
    refine R_getR (a2 := 3) o dX6_drop_11 fl_X6_20 sh_0 (by decide) rfl rf_0_2 ?_
    refine R_iload_n o 1 dX6_drop_14 rfl rfl ?_
    refine R_aald o dX6_drop_15 sh_3 (Or.inr (Or.inl rfl)) (fun q15 => ?_)
    refine K_z (callV' (As := []) (rest := []) o dX6_drop_16 lk_X6_142 rfl (sh_el14 sh_3 q15) rfl rfl rfl rfl (Nat.le_of_ble_eq_true rfl)) (c_X1_isMissing g l h (rf 3 x1.toNatClampNeg) (sh_el14 sh_3 q15)) (fun r16 => ?_)
    refine R_bif_eq o 28 dX6_drop_19 (by decide) ?_ ?_
    · refine R_aload_n o 0 dX6_drop_22 rfl rfl ?_
      refine R_iconst (v := 1) o dX6_drop_23 (by decide) ?_
      refine K_ih (callV' (As := [.int 1]) (rest := []) o dX6_drop_24 lk_X6_77 rfl sh_0 rfl rfl rfl rfl (Nat.le_of_ble_eq_true rfl)) (c_X6_found g l h 1) (fun r24 h24 => ?_)
      exact T_some (fun p => rr _ _ _ _ dX6_drop_27 p)
    · refine R_aload_n o 0 dX6_drop_28 rfl rfl ?_
      refine R_getR (a2 := 3) o dX6_drop_29 fl_X6_20 sh_0 (by decide) rfl rf_0_2 ?_
      refine R_iload_n o 1 dX6_drop_32 rfl rfl ?_
      refine R_aald o dX6_drop_33 sh_3 (Or.inr (Or.inl rfl)) (fun q33 => ?_)
      refine K_vh (callV' (As := []) (rest := []) o dX6_drop_34 lk_X6_150 rfl (sh_el14 sh_3 q33) rfl rfl rfl rfl (Nat.le_of_ble_eq_true rfl)) (c_X1_lose g l h (rf 3 x1.toNatClampNeg) (sh_el14 sh_3 q33)) (fun h34 => ?_)
      refine R_iconst (v := 1) o dX6_drop_37 (by decide) ?_
      exact T_some (fun p => rr _ _ _ _ dX6_drop_38 p)
  · refine R_iconst (v := (-1)) o dX6_drop_8 (by decide) ?_
    exact T_some (fun p => rr _ _ _ _ dX6_drop_9 p)
theorem c_X6_drop (g : Gx) (l : Launch) (h : MH) (x1 : Int32) (r : (Int32 × MH)) (e : f_X6_drop h x1 = some r) : Ctr g l yX6_drop cX6_drop 2 (some .int) 1 21 0 [rA g 0, .int x1] h (some (.int r.1)) r.2 := mkCi (plainFor_of_name (by decide)) (Nat.le_of_ble_eq_true rfl) (fun V Rt o rr p => b_X6_drop o rr h x1  r e p)
/-! X6_dots -/
noncomputable def f_X6_dots_B59 (h : MH) (a3 : Nat) (a4 : Nat) (x5 : Int32) : Option ((Int32 × MH) ⊕ (MH)) :=
  (if x5 < (h.1 a3 3) then Option.bind (f_X1_dotAt h a3 x5) (fun r75 => Option.bind (f_X5_set h a4 x5 r75) (fun h78 => some (.inl ((x5 + 1), h78)))) else some (.inr h))
set_option maxRecDepth 100000 in
set_option maxHeartbeats 4000000 in
theorem t_X6_dots_B59 {g : Gx} {l : Launch} {V : VT} {Rt : Option Value → MH → Prop} (o : Ok g l RX6 cX6_dots 6 3 68 0 V) (rr : ORi cX6_dots V Rt) (h : MH) (a3 : Nat) (a4 : Nat) (x5 : Int32) (ha3 : shp a3 = (1, 0)) (ha4 : shp a4 = (5, 0)) : T (Sum.elim (fun s => V 59 [(3, rA g a3), (4, rA g a4), (5, .int s.1)] [] s.2) (fun b => V 87 [(3, rA g a3)] [] b)) (f_X6_dots_B59  h a3 a4 x5) (V 59 [(3, rA g a3), (4, rA g a4), (5, .int x5)] [] h) := by
  unfold f_X6_dots_B59
  refine R_iload o 2 dX6_dots_59 rfl ?_
  refine R_aload_n o 0 dX6_dots_61 rfl rfl ?_
  refine R_getI o dX6_dots_62 fl_X6_151 ha3 (by decide) rfl ?_
  refine R_icmp_ge o 87 dX6_dots_65 (by decide) ?_ ?_
  · refine R_aload o 1 dX6_dots_68 rfl ?_
    refine R_iload o 2 dX6_dots_70 rfl ?_
    refine R_aload_n o 0 dX6_dots_72 rfl rfl ?_
    refine R_iload o 2 dX6_dots_73 rfl ?_
    refine K_i (callV' (As := [.int x5]) (rest := [.int x5, rA g a4]) o dX6_dots_75 lk_X6_152 rfl ha3 rfl rfl rfl rfl (Nat.le_of_ble_eq_true rfl)) (c_X1_dotAt g l h a3 x5 ha3) (fun r75 => ?_)
    refine K_vh (callV' (As := [.int x5, .int r75]) (rest := []) o dX6_dots_78 lk_X6_95 rfl ha4 rfl rfl rfl rfl (Nat.le_of_ble_eq_true rfl)) (c_X5_set g l h a4 x5 r75 ha4) (fun h78 => ?_)
    refine R_iinc (v := (x5 + 1)) (lv2 := [(3, rA g a3), (4, rA g a4), (5, .int (x5 + 1))]) o 2 dX6_dots_81 rfl rfl (by decide) rfl ?_
    refine R_goto o 59 dX6_dots_84 (by decide) ?_
    exact T_some (fun p => p)
  · refine R_drop (lv2 := [(3, rA g a3)]) o [0] rfl ?_
    exact T_some (fun p => p)
noncomputable def f_X6_dots_L59 (h : MH) (a3 : Nat) (a4 : Nat) (x5 : Int32) : Option (MH) :=
  lpo (fun s : Int32 × MH => f_X6_dots_B59 s.2 a3 a4 s.1) (x5, h)
theorem t_X6_dots_L59 {g : Gx} {l : Launch} {V : VT} {Rt : Option Value → MH → Prop} (o : Ok g l RX6 cX6_dots 6 3 68 0 V) (rr : ORi cX6_dots V Rt) (h : MH) (a3 : Nat) (a4 : Nat) (x5 : Int32) (ha3 : shp a3 = (1, 0)) (ha4 : shp a4 = (5, 0)) : T (fun b => V 87 [(3, rA g a3)] [] b) (f_X6_dots_L59 h a3 a4 x5) (V 59 [(3, rA g a3), (4, rA g a4), (5, .int x5)] [] h) := T_loop (head := fun s : Int32 × MH => V 59 [(3, rA g a3), (4, rA g a4), (5, .int s.1)] [] s.2) (fun s => t_X6_dots_B59 o rr s.2 a3 a4 s.1 ha3 ha4) (x5, h)
noncomputable def f_X6_dots (h : MH) (x1 : Int32) (x2 : Int32) : Option (Int32 × MH) :=
  Option.bind (f_X6_isCover h x1) (fun r2 => (if r2 = true then Option.bind (f_X6_isRow h x2) (fun r10 => (if r10 = true then gd (ix x1 6) (Option.bind (f_X1_isMissing h (rf 3 x1.toNatClampNeg)) (fun r26 => (if r26 = true then bnd2 (f_X6_found h 1) (fun r34 h34 => some (r34, h34)) else gd (ix x2 6) (Option.bind (f_X5_renew h (rf 1 x2.toNatClampNeg) (h.1 (rf 3 x1.toNatClampNeg) 3) 0) (fun h53 => Option.bind (f_X6_dots_L59 h53 (rf 3 x1.toNatClampNeg) (rf 1 x2.toNatClampNeg) 0) (fun b59 => some ((b59.1 (rf 3 x1.toNatClampNeg) 3), b59))))))) else some ((-1), h))) else some ((-1), h)))
set_option maxRecDepth 100000 in
set_option maxHeartbeats 4000000 in
theorem b_X6_dots {g : Gx} {l : Launch} {V : VT} {Rt : Option Value → MH → Prop} (o : Ok g l RX6 cX6_dots 6 3 68 0 V) (rr : ORi cX6_dots V Rt) (h : MH) (x1 : Int32) (x2 : Int32) : T (fun r => Rt (some (.int r.1)) r.2) (f_X6_dots h x1 x2) (V 0 [(0, rA g 0), (1, .int x1), (2, .int x2)] [] h) := by
  unfold f_X6_dots
  refine R_aload_n o 0 dX6_dots_0 rfl rfl ?_
  refine R_iload_n o 1 dX6_dots_1 rfl rfl ?_
  refine K_z (callV' (As := [.int x1]) (rest := []) o dX6_dots_2 lk_X6_124 rfl sh_0 rfl rfl rfl rfl (Nat.le_of_ble_eq_true rfl)) (c_X6_isCover g l h x1) (fun r2 => ?_)
  refine R_bif_eq o 16 dX6_dots_5 (by decide) ?_ ?_
  · refine R_aload_n o 0 dX6_dots_8 rfl rfl ?_
    refine R_iload_n o 2 dX6_dots_9 rfl rfl ?_
    refine K_z (callV' (As := [.int x2]) (rest := []) o dX6_dots_10 lk_X6_73 rfl sh_0 rfl rfl rfl rfl (Nat.le_of_ble_eq_true rfl)) (c_X6_isRow g l h x2) (fun r10 => ?_)
    refine R_bif_ne o 18 dX6_dots_13 (by decide) ?_ ?_
    · refine R_aload_n o 0 dX6_dots_18 rfl rfl ?_
      refine R_getR (a2 := 3) o dX6_dots_19 fl_X6_20 sh_0 (by decide) rfl rf_0_2 ?_
      refine R_iload_n o 1 dX6_dots_22 rfl rfl ?_
      refine R_aald o dX6_dots_23 sh_3 (Or.inr (Or.inl rfl)) (fun q23 => ?_)
      refine R_astore_n (lv2 := [(0, rA g 0), (1, .int x1), (2, .int x2), (3, rA g (rf 3 x1.toNatClampNeg))]) o dX6_dots_24 rfl (by decide) rfl ?_
      refine R_aload_n o 3 dX6_dots_25 rfl rfl ?_
      refine K_z (callV' (As := []) (rest := []) o dX6_dots_26 lk_X6_142 rfl (sh_el14 sh_3 q23) rfl rfl rfl rfl (Nat.le_of_ble_eq_true rfl)) (c_X1_isMissing g l h (rf 3 x1.toNatClampNeg) (sh_el14 sh_3 q23)) (fun r26 => ?_)
      refine R_bif_eq o 38 dX6_dots_29 (by decide) ?_ ?_
      · refine R_aload_n o 0 dX6_dots_32 rfl rfl ?_
        refine R_iconst (v := 1) o dX6_dots_33 (by decide) ?_
        refine K_ih (callV' (As := [.int 1]) (rest := []) o dX6_dots_34 lk_X6_77 rfl sh_0 rfl rfl rfl rfl (Nat.le_of_ble_eq_true rfl)) (c_X6_found g l h 1) (fun r34 h34 => ?_)
        exact T_some (fun p => rr _ _ _ _ dX6_dots_37 p)
      · refine R_aload_n o 0 dX6_dots_38 rfl rfl ?_
        refine R_getR (a2 := 1) o dX6_dots_39 fl_X6_11 sh_0 (by decide) rfl rf_0_0 ?_
        refine R_iload_n o 2 dX6_dots_42 rfl rfl ?_
        refine R_aald o dX6_dots_43 sh_1 (Or.inl rfl) (fun q43 => ?_)
        refine R_astore (lv2 := [(0, rA g 0), (1, .int x1), (2, .int x2), (3, rA g (rf 3 x1.toNatClampNeg)), (4, rA g (rf 1 x2.toNatClampNeg))]) o dX6_dots_44 (by decide) rfl ?_
        refine R_aload o 4 dX6_dots_46 rfl ?_
        refine R_aload_n o 3 dX6_dots_48 rfl rfl ?_
        refine R_getI o dX6_dots_49 fl_X6_151 (sh_el14 sh_3 q23) (by decide) rfl ?_
        refine R_iconst (v := 0) o dX6_dots_52 (by decide) ?_
        refine K_vh (callV' (As := [.int (h.1 (rf 3 x1.toNatClampNeg) 3), .int 0]) (rest := []) o dX6_dots_53 lk_X6_81 rfl (sh_el13 sh_1 q43) rfl rfl rfl rfl (Nat.le_of_ble_eq_true rfl)) (c_X5_renew g l h (rf 1 x2.toNatClampNeg) (h.1 (rf 3 x1.toNatClampNeg) 3) 0 (sh_el13 sh_1 q43)) (fun h53 => ?_)
        refine R_iconst (v := 0) o dX6_dots_56 (by decide) ?_
        refine R_istore (lv2 := [(0, rA g 0), (1, .int x1), (2, .int x2), (3, rA g (rf 3 x1.toNatClampNeg)), (4, rA g (rf 1 x2.toNatClampNeg)), (5, .int 0)]) o dX6_dots_57 (by decide) rfl ?_
        refine R_drop (lv2 := [(3, rA g (rf 3 x1.toNatClampNeg)), (4, rA g (rf 1 x2.toNatClampNeg)), (5, .int 0)]) o [3, 4, 5] rfl ?_
        refine T_bind (t_X6_dots_L59 o rr h53 (rf 3 x1.toNatClampNeg) (rf 1 x2.toNatClampNeg) 0 (sh_el14 sh_3 q23) (sh_el13 sh_1 q43)) (fun b59 => ?_)
        refine R_aload_n o 0 dX6_dots_87 rfl rfl ?_
        refine R_getI o dX6_dots_88 fl_X6_151 (sh_el14 sh_3 q23) (by decide) rfl ?_
        exact T_some (fun p => rr _ _ _ _ dX6_dots_91 p)
    · refine R_iconst (v := (-1)) o dX6_dots_16 (by decide) ?_
      exact T_some (fun p => rr _ _ _ _ dX6_dots_17 p)
  · refine R_iconst (v := (-1)) o dX6_dots_16 (by decide) ?_
    exact T_some (fun p => rr _ _ _ _ dX6_dots_17 p)
theorem c_X6_dots (g : Gx) (l : Launch) (h : MH) (x1 : Int32) (x2 : Int32) (r : (Int32 × MH)) (e : f_X6_dots h x1 x2 = some r) : Ctr g l yX6_dots cX6_dots 6 (some .int) 3 68 0 [rA g 0, .int x1, .int x2] h (some (.int r.1)) r.2 := mkCi (plainFor_of_name (by decide)) (Nat.le_of_ble_eq_true rfl) (fun V Rt o rr p => b_X6_dots o rr h x1 x2  r e p)
/-! X6_dot -/
noncomputable def f_X6_dot (h : MH) (x1 : Int32) (x2 : Int32) (x3 : Int32) : Option (Int32 × MH) :=
  Option.bind (f_X6_isCover h x1) (fun r2 => (if r2 = true then (if x3 < 0 then some ((-1), h) else (if 4 < x3 then some ((-1), h) else gd (ix x1 6) (Option.bind (f_X1_isMissing h (rf 3 x1.toNatClampNeg)) (fun r29 => (if r29 = true then bnd2 (f_X6_found h 1) (fun r37 h37 => some (r37, h37)) else Option.bind (f_X1_has h (rf 3 x1.toNatClampNeg) x2) (fun r44 => (if r44 = true then Option.bind (f_X1_tellPlace h (rf 3 x1.toNatClampNeg) x2 x3) (fun r61 => nm (uI h 0 9 r61) (fun h64 => some (1, h64))) else bnd2 (f_X6_found h 2) (fun r52 h52 => some (r52, h52))))))))) else some ((-1), h)))
set_option maxRecDepth 100000 in
set_option maxHeartbeats 4000000 in
theorem b_X6_dot {g : Gx} {l : Launch} {V : VT} {Rt : Option Value → MH → Prop} (o : Ok g l RX6 cX6_dot 5 5 110 0 V) (rr : ORi cX6_dot V Rt) (h : MH) (x1 : Int32) (x2 : Int32) (x3 : Int32) : T (fun r => Rt (some (.int r.1)) r.2) (f_X6_dot h x1 x2 x3) (V 0 [(0, rA g 0), (1, .int x1), (2, .int x2), (3, .int x3)] [] h) := by
  unfold f_X6_dot
  refine R_aload_n o 0 dX6_dot_0 rfl rfl ?_
  refine R_iload_n o 1 dX6_dot_1 rfl rfl ?_
  refine K_z (callV' (As := [.int x1]) (rest := []) o dX6_dot_2 lk_X6_124 rfl sh_0 rfl rfl rfl rfl (Nat.le_of_ble_eq_true rfl)) (c_X6_isCover g l h x1) (fun r2 => ?_)
  refine R_bif_eq o 17 dX6_dot_5 (by decide) ?_ ?_
  · refine R_iload_n o 3 dX6_dot_8 rfl rfl ?_
    refine R_if_lt o 17 dX6_dot_9 (by decide) ?_ ?_
    · refine R_iconst (v := (-1)) o dX6_dot_17 (by decide) ?_
      exact T_some (fun p => rr _ _ _ _ dX6_dot_18 p)
    · refine R_iload_n o 3 dX6_dot_12 rfl rfl ?_
      refine R_iconst (v := 4) o dX6_dot_13 (by decide) ?_
      refine R_icmp_le o 19 dX6_dot_14 (by decide) ?_ ?_
      · refine R_iconst (v := (-1)) o dX6_dot_17 (by decide) ?_
        exact T_some (fun p => rr _ _ _ _ dX6_dot_18 p)
      · refine R_aload_n o 0 dX6_dot_19 rfl rfl ?_
        refine R_getR (a2 := 3) o dX6_dot_20 fl_X6_20 sh_0 (by decide) rfl rf_0_2 ?_
        refine R_iload_n o 1 dX6_dot_23 rfl rfl ?_
        refine R_aald o dX6_dot_24 sh_3 (Or.inr (Or.inl rfl)) (fun q24 => ?_)
        refine R_astore (lv2 := [(0, rA g 0), (1, .int x1), (2, .int x2), (3, .int x3), (4, rA g (rf 3 x1.toNatClampNeg))]) o dX6_dot_25 (by decide) rfl ?_
        refine R_aload o 4 dX6_dot_27 rfl ?_
        refine K_z (callV' (As := []) (rest := []) o dX6_dot_29 lk_X6_142 rfl (sh_el14 sh_3 q24) rfl rfl rfl rfl (Nat.le_of_ble_eq_true rfl)) (c_X1_isMissing g l h (rf 3 x1.toNatClampNeg) (sh_el14 sh_3 q24)) (fun r29 => ?_)
        refine R_bif_eq o 41 dX6_dot_32 (by decide) ?_ ?_
        · refine R_aload_n o 0 dX6_dot_35 rfl rfl ?_
          refine R_iconst (v := 1) o dX6_dot_36 (by decide) ?_
          refine K_ih (callV' (As := [.int 1]) (rest := []) o dX6_dot_37 lk_X6_77 rfl sh_0 rfl rfl rfl rfl (Nat.le_of_ble_eq_true rfl)) (c_X6_found g l h 1) (fun r37 h37 => ?_)
          exact T_some (fun p => rr _ _ _ _ dX6_dot_40 p)
        · refine R_aload o 4 dX6_dot_41 rfl ?_
          refine R_iload_n o 2 dX6_dot_43 rfl rfl ?_
          refine K_z (callV' (As := [.int x2]) (rest := []) o dX6_dot_44 lk_X6_155 rfl (sh_el14 sh_3 q24) rfl rfl rfl rfl (Nat.le_of_ble_eq_true rfl)) (c_X1_has g l h (rf 3 x1.toNatClampNeg) x2 (sh_el14 sh_3 q24)) (fun r44 => ?_)
          refine R_bif_ne o 56 dX6_dot_47 (by decide) ?_ ?_
          · refine R_aload_n o 0 dX6_dot_56 rfl rfl ?_
            refine R_aload o 4 dX6_dot_57 rfl ?_
            refine R_iload_n o 2 dX6_dot_59 rfl rfl ?_
            refine R_iload_n o 3 dX6_dot_60 rfl rfl ?_
            refine K_i (callV' (As := [.int x2, .int x3]) (rest := [rA g 0]) o dX6_dot_61 lk_X6_156 rfl (sh_el14 sh_3 q24) rfl rfl rfl rfl (Nat.le_of_ble_eq_true rfl)) (c_X1_tellPlace g l h (rf 3 x1.toNatClampNeg) x2 x3 (sh_el14 sh_3 q24)) (fun r61 => ?_)
            refine R_putI o dX6_dot_64 fp_X6_61 sh_0 (by decide) rfl ?_
            refine R_nmH (fun h64 => ?_)
            refine R_iconst (v := 1) o dX6_dot_67 (by decide) ?_
            exact T_some (fun p => rr _ _ _ _ dX6_dot_68 p)
          · refine R_aload_n o 0 dX6_dot_50 rfl rfl ?_
            refine R_iconst (v := 2) o dX6_dot_51 (by decide) ?_
            refine K_ih (callV' (As := [.int 2]) (rest := []) o dX6_dot_52 lk_X6_77 rfl sh_0 rfl rfl rfl rfl (Nat.le_of_ble_eq_true rfl)) (c_X6_found g l h 2) (fun r52 h52 => ?_)
            exact T_some (fun p => rr _ _ _ _ dX6_dot_55 p)
  · refine R_iconst (v := (-1)) o dX6_dot_17 (by decide) ?_
    exact T_some (fun p => rr _ _ _ _ dX6_dot_18 p)
theorem c_X6_dot (g : Gx) (l : Launch) (h : MH) (x1 : Int32) (x2 : Int32) (x3 : Int32) (r : (Int32 × MH)) (e : f_X6_dot h x1 x2 x3 = some r) : Ctr g l yX6_dot cX6_dot 5 (some .int) 5 110 0 [rA g 0, .int x1, .int x2, .int x3] h (some (.int r.1)) r.2 := mkCi (plainFor_of_name (by decide)) (Nat.le_of_ble_eq_true rfl) (fun V Rt o rr p => b_X6_dot o rr h x1 x2 x3  r e p)
/-! X6_kind -/
noncomputable def f_X6_kind (h : MH) (x1 : Int32) : Option (Int32 × MH) :=
  Option.bind (f_X6_isCover h x1) (fun r2 => (if r2 = true then gd (ix x1 6) (Option.bind (f_X1_isMissing h (rf 3 x1.toNatClampNeg)) (fun r16 => (if r16 = true then bnd2 (f_X6_found h 1) (fun r24 h24 => some (r24, h24)) else gd (ix x1 6) (some ((h.1 (rf 3 x1.toNatClampNeg) 2), h))))) else some ((-1), h)))
set_option maxRecDepth 100000 in
set_option maxHeartbeats 4000000 in
theorem b_X6_kind {g : Gx} {l : Launch} {V : VT} {Rt : Option Value → MH → Prop} (o : Ok g l RX6 cX6_kind 2 1 21 0 V) (rr : ORi cX6_kind V Rt) (h : MH) (x1 : Int32) : T (fun r => Rt (some (.int r.1)) r.2) (f_X6_kind h x1) (V 0 [(0, rA g 0), (1, .int x1)] [] h) := by
  unfold f_X6_kind
  refine R_aload_n o 0 dX6_kind_0 rfl rfl ?_
  refine R_iload_n o 1 dX6_kind_1 rfl rfl ?_
  refine K_z (callV' (As := [.int x1]) (rest := []) o dX6_kind_2 lk_X6_124 rfl sh_0 rfl rfl rfl rfl (Nat.le_of_ble_eq_true rfl)) (c_X6_isCover g l h x1) (fun r2 => ?_)
  refine R_bif_ne o 10 dX6_kind_5 (by decide) ?_ ?_
  · refine R_aload_n o 0 dX6_kind_10 rfl rfl ?_
    refine R_getR (a2 := 3) o dX6_kind_11 fl_X6_20 sh_0 (by decide) rfl rf_0_2 ?_
    refine R_iload_n o 1 dX6_kind_14 rfl rfl ?_
    refine R_aald o dX6_kind_15 sh_3 (Or.inr (Or.inl rfl)) (fun q15 => ?_)
    refine K_z (callV' (As := []) (rest := []) o dX6_kind_16 lk_X6_142 rfl (sh_el14 sh_3 q15) rfl rfl rfl rfl (Nat.le_of_ble_eq_true rfl)) (c_X1_isMissing g l h (rf 3 x1.toNatClampNeg) (sh_el14 sh_3 q15)) (fun r16 => ?_)
    refine R_bif_eq o 30 dX6_kind_19 (by decide) ?_ ?_
    · refine R_aload_n o 0 dX6_kind_22 rfl rfl ?_
      refine R_iconst (v := 1) o dX6_kind_23 (by decide) ?_
      refine K_ih (callV' (As := [.int 1]) (rest := []) o dX6_kind_24 lk_X6_77 rfl sh_0 rfl rfl rfl rfl (Nat.le_of_ble_eq_true rfl)) (c_X6_found g l h 1) (fun r24 h24 => ?_)
      refine R_goto o 39 dX6_kind_27 (by decide) ?_
      exact T_some (fun p => rr _ _ _ _ dX6_kind_39 p)
    · refine R_aload_n o 0 dX6_kind_30 rfl rfl ?_
      refine R_getR (a2 := 3) o dX6_kind_31 fl_X6_20 sh_0 (by decide) rfl rf_0_2 ?_
      refine R_iload_n o 1 dX6_kind_34 rfl rfl ?_
      refine R_aald o dX6_kind_35 sh_3 (Or.inr (Or.inl rfl)) (fun q35 => ?_)
      refine R_getI o dX6_kind_36 fl_X6_160 (sh_el14 sh_3 q35) (by decide) rfl ?_
      exact T_some (fun p => rr _ _ _ _ dX6_kind_39 p)
  · refine R_iconst (v := (-1)) o dX6_kind_8 (by decide) ?_
    exact T_some (fun p => rr _ _ _ _ dX6_kind_9 p)
theorem c_X6_kind (g : Gx) (l : Launch) (h : MH) (x1 : Int32) (r : (Int32 × MH)) (e : f_X6_kind h x1 = some r) : Ctr g l yX6_kind cX6_kind 2 (some .int) 1 21 0 [rA g 0, .int x1] h (some (.int r.1)) r.2 := mkCi (plainFor_of_name (by decide)) (Nat.le_of_ble_eq_true rfl) (fun V Rt o rr p => b_X6_kind o rr h x1  r e p)
/-! X6_mark -/
noncomputable def f_X6_mark (h : MH) (x1 : Int32) (x2 : Int32) : Option (Int32 × MH) :=
  Option.bind (f_X6_isCover h x1) (fun r2 => (if r2 = true then (if x2 < 1 then some ((-1), h) else (if 4 < x2 then some ((-1), h) else gd (ix x1 6) (Option.bind (f_X1_isMissing h (rf 3 x1.toNatClampNeg)) (fun r28 => (if r28 = true then bnd2 (f_X6_found h 1) (fun r36 h36 => some (r36, h36)) else Option.bind (f_X1_isOfKind h (rf 3 x1.toNatClampNeg) x2) (fun r42 => (if r42 = true then sw x2 1 [Option.bind (f_X1_countLines h (rf 3 x1.toNatClampNeg)) (fun r81 => some (r81, h)), Option.bind (f_X1_countBright h (rf 3 x1.toNatClampNeg)) (fun r86 => some (r86, h)), Option.bind (f_X1_countChoices h (rf 3 x1.toNatClampNeg)) (fun r91 => some (r91, h))] (Option.bind (f_X1_countFalls h (rf 3 x1.toNatClampNeg)) (fun r96 => some (r96, h))) else bnd2 (f_X6_found h 3) (fun r50 h50 => some (r50, h50))))))))) else some ((-1), h)))
set_option maxRecDepth 100000 in
set_option maxHeartbeats 4000000 in
theorem b_X6_mark {g : Gx} {l : Launch} {V : VT} {Rt : Option Value → MH → Prop} (o : Ok g l RX6 cX6_mark 4 1 22 0 V) (rr : ORi cX6_mark V Rt) (h : MH) (x1 : Int32) (x2 : Int32) : T (fun r => Rt (some (.int r.1)) r.2) (f_X6_mark h x1 x2) (V 0 [(0, rA g 0), (1, .int x1), (2, .int x2)] [] h) := by
  unfold f_X6_mark
  refine R_aload_n o 0 dX6_mark_0 rfl rfl ?_
  refine R_iload_n o 1 dX6_mark_1 rfl rfl ?_
  refine K_z (callV' (As := [.int x1]) (rest := []) o dX6_mark_2 lk_X6_124 rfl sh_0 rfl rfl rfl rfl (Nat.le_of_ble_eq_true rfl)) (c_X6_isCover g l h x1) (fun r2 => ?_)
  refine R_bif_eq o 18 dX6_mark_5 (by decide) ?_ ?_
  · refine R_iload_n o 2 dX6_mark_8 rfl rfl ?_
    refine R_iconst (v := 1) o dX6_mark_9 (by decide) ?_
    refine R_icmp_lt o 18 dX6_mark_10 (by decide) ?_ ?_
    · refine R_iconst (v := (-1)) o dX6_mark_18 (by decide) ?_
      exact T_some (fun p => rr _ _ _ _ dX6_mark_19 p)
    · refine R_iload_n o 2 dX6_mark_13 rfl rfl ?_
      refine R_iconst (v := 4) o dX6_mark_14 (by decide) ?_
      refine R_icmp_le o 20 dX6_mark_15 (by decide) ?_ ?_
      · refine R_iconst (v := (-1)) o dX6_mark_18 (by decide) ?_
        exact T_some (fun p => rr _ _ _ _ dX6_mark_19 p)
      · refine R_aload_n o 0 dX6_mark_20 rfl rfl ?_
        refine R_getR (a2 := 3) o dX6_mark_21 fl_X6_20 sh_0 (by decide) rfl rf_0_2 ?_
        refine R_iload_n o 1 dX6_mark_24 rfl rfl ?_
        refine R_aald o dX6_mark_25 sh_3 (Or.inr (Or.inl rfl)) (fun q25 => ?_)
        refine R_astore_n (lv2 := [(0, rA g 0), (1, .int x1), (2, .int x2), (3, rA g (rf 3 x1.toNatClampNeg))]) o dX6_mark_26 rfl (by decide) rfl ?_
        refine R_aload_n o 3 dX6_mark_27 rfl rfl ?_
        refine K_z (callV' (As := []) (rest := []) o dX6_mark_28 lk_X6_142 rfl (sh_el14 sh_3 q25) rfl rfl rfl rfl (Nat.le_of_ble_eq_true rfl)) (c_X1_isMissing g l h (rf 3 x1.toNatClampNeg) (sh_el14 sh_3 q25)) (fun r28 => ?_)
        refine R_bif_eq o 40 dX6_mark_31 (by decide) ?_ ?_
        · refine R_aload_n o 0 dX6_mark_34 rfl rfl ?_
          refine R_iconst (v := 1) o dX6_mark_35 (by decide) ?_
          refine K_ih (callV' (As := [.int 1]) (rest := []) o dX6_mark_36 lk_X6_77 rfl sh_0 rfl rfl rfl rfl (Nat.le_of_ble_eq_true rfl)) (c_X6_found g l h 1) (fun r36 h36 => ?_)
          exact T_some (fun p => rr _ _ _ _ dX6_mark_39 p)
        · refine R_aload_n o 3 dX6_mark_40 rfl rfl ?_
          refine R_iload_n o 2 dX6_mark_41 rfl rfl ?_
          refine K_z (callV' (As := [.int x2]) (rest := []) o dX6_mark_42 lk_X6_163 rfl (sh_el14 sh_3 q25) rfl rfl rfl rfl (Nat.le_of_ble_eq_true rfl)) (c_X1_isOfKind g l h (rf 3 x1.toNatClampNeg) x2 (sh_el14 sh_3 q25)) (fun r42 => ?_)
          refine R_bif_ne o 54 dX6_mark_45 (by decide) ?_ ?_
          · refine R_iload_n o 2 dX6_mark_54 rfl rfl ?_
            refine R_tsw (lo0 := 1) (hi0 := 3) (N := 3) o dX6_mark_55 rfl (by decide) rfl [80, 85, 90] 95 (by decide +kernel) (by decide) ?_ ?_
            · intro j X tj hX hj
              match j, hX, hj with
              | 0, hX, hj =>
                cases hX
                cases hj
                refine R_aload_n o 3 dX6_mark_80 rfl rfl ?_
                refine K_i (callV' (As := []) (rest := []) o dX6_mark_81 lk_X6_166 rfl (sh_el14 sh_3 q25) rfl rfl rfl rfl (Nat.le_of_ble_eq_true rfl)) (c_X1_countLines g l h (rf 3 x1.toNatClampNeg) (sh_el14 sh_3 q25)) (fun r81 => ?_)
                exact T_some (fun p => rr _ _ _ _ dX6_mark_84 p)
              | 1, hX, hj =>
                cases hX
                cases hj
                refine R_aload_n o 3 dX6_mark_85 rfl rfl ?_
                refine K_i (callV' (As := []) (rest := []) o dX6_mark_86 lk_X6_169 rfl (sh_el14 sh_3 q25) rfl rfl rfl rfl (Nat.le_of_ble_eq_true rfl)) (c_X1_countBright g l h (rf 3 x1.toNatClampNeg) (sh_el14 sh_3 q25)) (fun r86 => ?_)
                exact T_some (fun p => rr _ _ _ _ dX6_mark_89 p)
              | 2, hX, hj =>
                cases hX
                cases hj
                refine R_aload_n o 3 dX6_mark_90 rfl rfl ?_
                refine K_i (callV' (As := []) (rest := []) o dX6_mark_91 lk_X6_172 rfl (sh_el14 sh_3 q25) rfl rfl rfl rfl (Nat.le_of_ble_eq_true rfl)) (c_X1_countChoices g l h (rf 3 x1.toNatClampNeg) (sh_el14 sh_3 q25)) (fun r91 => ?_)
                exact T_some (fun p => rr _ _ _ _ dX6_mark_94 p)
              | j + 3, hX, _ => simp at hX
            · refine R_aload_n o 3 dX6_mark_95 rfl rfl ?_
              refine K_i (callV' (As := []) (rest := []) o dX6_mark_96 lk_X6_175 rfl (sh_el14 sh_3 q25) rfl rfl rfl rfl (Nat.le_of_ble_eq_true rfl)) (c_X1_countFalls g l h (rf 3 x1.toNatClampNeg) (sh_el14 sh_3 q25)) (fun r96 => ?_)
              exact T_some (fun p => rr _ _ _ _ dX6_mark_99 p)
          · refine R_aload_n o 0 dX6_mark_48 rfl rfl ?_
            refine R_iconst (v := 3) o dX6_mark_49 (by decide) ?_
            refine K_ih (callV' (As := [.int 3]) (rest := []) o dX6_mark_50 lk_X6_77 rfl sh_0 rfl rfl rfl rfl (Nat.le_of_ble_eq_true rfl)) (c_X6_found g l h 3) (fun r50 h50 => ?_)
            exact T_some (fun p => rr _ _ _ _ dX6_mark_53 p)
  · refine R_iconst (v := (-1)) o dX6_mark_18 (by decide) ?_
    exact T_some (fun p => rr _ _ _ _ dX6_mark_19 p)
theorem c_X6_mark (g : Gx) (l : Launch) (h : MH) (x1 : Int32) (x2 : Int32) (r : (Int32 × MH)) (e : f_X6_mark h x1 x2 = some r) : Ctr g l yX6_mark cX6_mark 4 (some .int) 1 22 0 [rA g 0, .int x1, .int x2] h (some (.int r.1)) r.2 := mkCi (plainFor_of_name (by decide)) (Nat.le_of_ble_eq_true rfl) (fun V Rt o rr p => b_X6_mark o rr h x1 x2  r e p)
/-! X6_place -/
noncomputable def f_X6_place (h : MH) (x1 : Int32) (x2 : Int32) (x3 : Int32) : Option (Int32 × MH) :=
  Option.bind (f_X6_isCover h x1) (fun r2 => (if r2 = true then gd (ix x1 6) (Option.bind (f_X1_isMissing h (rf 3 x1.toNatClampNeg)) (fun r20 => (if r20 = true then bnd2 (f_X6_found h 1) (fun r28 h28 => some (r28, h28)) else Option.bind (f_X1_has h (rf 3 x1.toNatClampNeg) x3) (fun r35 => (if r35 = true then Option.bind (f_X3_orderBy h x2 (h.1 (rf 3 x1.toNatClampNeg) 3)) (fun h57 => Option.bind (f_X3_placeAt h57 x3) (fun r65 => some (r65, h57))) else bnd2 (f_X6_found h 2) (fun r43 h43 => some (r43, h43))))))) else some ((-1), h)))
set_option maxRecDepth 100000 in
set_option maxHeartbeats 4000000 in
theorem b_X6_place {g : Gx} {l : Launch} {V : VT} {Rt : Option Value → MH → Prop} (o : Ok g l RX6 cX6_place 5 2 48 0 V) (rr : ORi cX6_place V Rt) (h : MH) (x1 : Int32) (x2 : Int32) (x3 : Int32) : T (fun r => Rt (some (.int r.1)) r.2) (f_X6_place h x1 x2 x3) (V 0 [(0, rA g 0), (1, .int x1), (2, .int x2), (3, .int x3)] [] h) := by
  unfold f_X6_place
  refine R_aload_n o 0 dX6_place_0 rfl rfl ?_
  refine R_iload_n o 1 dX6_place_1 rfl rfl ?_
  refine K_z (callV' (As := [.int x1]) (rest := []) o dX6_place_2 lk_X6_124 rfl sh_0 rfl rfl rfl rfl (Nat.le_of_ble_eq_true rfl)) (c_X6_isCover g l h x1) (fun r2 => ?_)
  refine R_bif_ne o 10 dX6_place_5 (by decide) ?_ ?_
  · refine R_aload_n o 0 dX6_place_10 rfl rfl ?_
    refine R_getR (a2 := 3) o dX6_place_11 fl_X6_20 sh_0 (by decide) rfl rf_0_2 ?_
    refine R_iload_n o 1 dX6_place_14 rfl rfl ?_
    refine R_aald o dX6_place_15 sh_3 (Or.inr (Or.inl rfl)) (fun q15 => ?_)
    refine R_astore (lv2 := [(0, rA g 0), (1, .int x1), (2, .int x2), (3, .int x3), (4, rA g (rf 3 x1.toNatClampNeg))]) o dX6_place_16 (by decide) rfl ?_
    refine R_aload o 4 dX6_place_18 rfl ?_
    refine K_z (callV' (As := []) (rest := []) o dX6_place_20 lk_X6_142 rfl (sh_el14 sh_3 q15) rfl rfl rfl rfl (Nat.le_of_ble_eq_true rfl)) (c_X1_isMissing g l h (rf 3 x1.toNatClampNeg) (sh_el14 sh_3 q15)) (fun r20 => ?_)
    refine R_bif_eq o 32 dX6_place_23 (by decide) ?_ ?_
    · refine R_aload_n o 0 dX6_place_26 rfl rfl ?_
      refine R_iconst (v := 1) o dX6_place_27 (by decide) ?_
      refine K_ih (callV' (As := [.int 1]) (rest := []) o dX6_place_28 lk_X6_77 rfl sh_0 rfl rfl rfl rfl (Nat.le_of_ble_eq_true rfl)) (c_X6_found g l h 1) (fun r28 h28 => ?_)
      exact T_some (fun p => rr _ _ _ _ dX6_place_31 p)
    · refine R_aload o 4 dX6_place_32 rfl ?_
      refine R_iload_n o 3 dX6_place_34 rfl rfl ?_
      refine K_z (callV' (As := [.int x3]) (rest := []) o dX6_place_35 lk_X6_155 rfl (sh_el14 sh_3 q15) rfl rfl rfl rfl (Nat.le_of_ble_eq_true rfl)) (c_X1_has g l h (rf 3 x1.toNatClampNeg) x3 (sh_el14 sh_3 q15)) (fun r35 => ?_)
      refine R_bif_ne o 47 dX6_place_38 (by decide) ?_ ?_
      · refine R_aload_n o 0 dX6_place_47 rfl rfl ?_
        refine R_getR (a2 := 9) o dX6_place_48 fl_X6_43 sh_0 (by decide) rfl rf_0_6 ?_
        refine R_iload_n o 2 dX6_place_51 rfl rfl ?_
        refine R_aload o 4 dX6_place_52 rfl ?_
        refine R_getI o dX6_place_54 fl_X6_151 (sh_el14 sh_3 q15) (by decide) rfl ?_
        refine K_vh (callV' (As := [.int x2, .int (h.1 (rf 3 x1.toNatClampNeg) 3)]) (rest := []) o dX6_place_57 lk_X6_178 rfl sh_9 rfl rfl rfl rfl (Nat.le_of_ble_eq_true rfl)) (c_X3_orderBy g l h x2 (h.1 (rf 3 x1.toNatClampNeg) 3)) (fun h57 => ?_)
        refine R_aload_n o 0 dX6_place_60 rfl rfl ?_
        refine R_getR (a2 := 9) o dX6_place_61 fl_X6_43 sh_0 (by decide) rfl rf_0_6 ?_
        refine R_iload_n o 3 dX6_place_64 rfl rfl ?_
        refine K_i (callV' (As := [.int x3]) (rest := []) o dX6_place_65 lk_X6_181 rfl sh_9 rfl rfl rfl rfl (Nat.le_of_ble_eq_true rfl)) (c_X3_placeAt g l h57 x3) (fun r65 => ?_)
        exact T_some (fun p => rr _ _ _ _ dX6_place_68 p)
      · refine R_aload_n o 0 dX6_place_41 rfl rfl ?_
        refine R_iconst (v := 2) o dX6_place_42 (by decide) ?_
        refine K_ih (callV' (As := [.int 2]) (rest := []) o dX6_place_43 lk_X6_77 rfl sh_0 rfl rfl rfl rfl (Nat.le_of_ble_eq_true rfl)) (c_X6_found g l h 2) (fun r43 h43 => ?_)
        exact T_some (fun p => rr _ _ _ _ dX6_place_46 p)
  · refine R_iconst (v := (-1)) o dX6_place_8 (by decide) ?_
    exact T_some (fun p => rr _ _ _ _ dX6_place_9 p)
theorem c_X6_place (g : Gx) (l : Launch) (h : MH) (x1 : Int32) (x2 : Int32) (x3 : Int32) (r : (Int32 × MH)) (e : f_X6_place h x1 x2 x3 = some r) : Ctr g l yX6_place cX6_place 5 (some .int) 2 48 0 [rA g 0, .int x1, .int x2, .int x3] h (some (.int r.1)) r.2 := mkCi (plainFor_of_name (by decide)) (Nat.le_of_ble_eq_true rfl) (fun V Rt o rr p => b_X6_place o rr h x1 x2 x3  r e p)
