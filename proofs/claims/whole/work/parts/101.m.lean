/-! X0_isMissing -/
noncomputable def f_X0_isMissing (h : MH) (a0 : Nat) : Option Bool :=
  (if (h.1 a0 1) < 1 then some true else (if (h.1 a0 2) < 1 then some true else some false))
set_option maxRecDepth 100000 in
set_option maxHeartbeats 4000000 in
theorem b_X0_isMissing {g : Gx} {l : Launch} {V : VT} {Rt : Option Value → MH → Prop} (o : Ok g l RX0 cX0_isMissing 1 0 0 0 V) (rr : ORz cX0_isMissing V Rt) (h : MH) (a0 : Nat) (ha0 : shp a0 = (0, 0)) : T (fun r => Rt (some (.int (b2i r))) h) (f_X0_isMissing h a0) (V 0 [(0, rA g a0)] [] h) := by
  unfold f_X0_isMissing
  refine R_aload_n o 0 dX0_isMissing_0 rfl rfl ?_
  refine R_getI o dX0_isMissing_1 fl_X0_15 ha0 (by decide) rfl ?_
  refine R_iconst (v := 1) o dX0_isMissing_4 (by decide) ?_
  refine R_icmp_lt o 16 dX0_isMissing_5 (by decide) ?_ ?_
  · refine R_iconst (v := 1) o dX0_isMissing_16 (by decide) ?_
    refine R_goto o 21 dX0_isMissing_17 (by decide) ?_
    exact T_some (fun p => rr _ _ true _ dX0_isMissing_21 p)
  · refine R_aload_n o 0 dX0_isMissing_8 rfl rfl ?_
    refine R_getI o dX0_isMissing_9 fl_X0_19 ha0 (by decide) rfl ?_
    refine R_iconst (v := 1) o dX0_isMissing_12 (by decide) ?_
    refine R_icmp_ge o 20 dX0_isMissing_13 (by decide) ?_ ?_
    · refine R_iconst (v := 1) o dX0_isMissing_16 (by decide) ?_
      refine R_goto o 21 dX0_isMissing_17 (by decide) ?_
      exact T_some (fun p => rr _ _ true _ dX0_isMissing_21 p)
    · refine R_iconst (v := 0) o dX0_isMissing_20 (by decide) ?_
      exact T_some (fun p => rr _ _ false _ dX0_isMissing_21 p)
theorem c_X0_isMissing (g : Gx) (l : Launch) (h : MH) (a0 : Nat) (ha0 : shp a0 = (0, 0)) (r : Bool) (e : f_X0_isMissing h a0 = some r) : Ctr g l yX0_isMissing cX0_isMissing 1 (some .boolean) 0 0 0 [rA g a0] h (some (.int (b2i r))) h := mkCz (plainFor_of_name (by decide)) (Nat.le_of_ble_eq_true rfl) (fun V Rt o rr p => b_X0_isMissing o rr h a0 ha0 r e p)
/-! X0_has -/
noncomputable def f_X0_has (h : MH) (a0 : Nat) (x1 : Int32) : Option Bool :=
  (if x1 < 0 then some false else (if x1 < (h.1 a0 1) then (if x1 < 6 then some true else some false) else some false))
set_option maxRecDepth 100000 in
set_option maxHeartbeats 4000000 in
theorem b_X0_has {g : Gx} {l : Launch} {V : VT} {Rt : Option Value → MH → Prop} (o : Ok g l RX0 cX0_has 2 0 0 0 V) (rr : ORz cX0_has V Rt) (h : MH) (a0 : Nat) (x1 : Int32) (ha0 : shp a0 = (0, 0)) : T (fun r => Rt (some (.int (b2i r))) h) (f_X0_has h a0 x1) (V 0 [(0, rA g a0), (1, .int x1)] [] h) := by
  unfold f_X0_has
  refine R_iload_n o 1 dX0_has_0 rfl rfl ?_
  refine R_if_lt o 25 dX0_has_1 (by decide) ?_ ?_
  · refine R_iconst (v := 0) o dX0_has_25 (by decide) ?_
    exact T_some (fun p => rr _ _ false _ dX0_has_26 p)
  · refine R_iload_n o 1 dX0_has_4 rfl rfl ?_
    refine R_aload_n o 0 dX0_has_5 rfl rfl ?_
    refine R_getI o dX0_has_6 fl_X0_15 ha0 (by decide) rfl ?_
    refine R_icmp_ge o 25 dX0_has_9 (by decide) ?_ ?_
    · refine R_iload_n o 1 dX0_has_12 rfl rfl ?_
      refine R_aload_n o 0 dX0_has_13 rfl rfl ?_
      refine R_getR o dX0_has_14 fl_X0_9 ha0 (by decide) rfl rfl ?_
      refine R_alenI (v := 6) o dX0_has_17 (sh_Code_0 ha0) (Or.inl rfl) rfl ?_
      refine R_icmp_ge o 25 dX0_has_18 (by decide) ?_ ?_
      · refine R_iconst (v := 1) o dX0_has_21 (by decide) ?_
        refine R_goto o 26 dX0_has_22 (by decide) ?_
        exact T_some (fun p => rr _ _ true _ dX0_has_26 p)
      · refine R_iconst (v := 0) o dX0_has_25 (by decide) ?_
        exact T_some (fun p => rr _ _ false _ dX0_has_26 p)
    · refine R_iconst (v := 0) o dX0_has_25 (by decide) ?_
      exact T_some (fun p => rr _ _ false _ dX0_has_26 p)
theorem c_X0_has (g : Gx) (l : Launch) (h : MH) (a0 : Nat) (x1 : Int32) (ha0 : shp a0 = (0, 0)) (r : Bool) (e : f_X0_has h a0 x1 = some r) : Ctr g l yX0_has cX0_has 2 (some .boolean) 0 0 0 [rA g a0, .int x1] h (some (.int (b2i r))) h := mkCz (plainFor_of_name (by decide)) (Nat.le_of_ble_eq_true rfl) (fun V Rt o rr p => b_X0_has o rr h a0 x1 ha0 r e p)
/-! X0_lineAt -/
noncomputable def f_X0_lineAt (h : MH) (a0 : Nat) (x1 : Int32) : Option Int32 :=
  Option.bind (f_X0_has h a0 x1) (fun r2 => (if r2 = true then gd (ix x1 6) (some (h.1 (rf a0 0) x1.toNatClampNeg)) else some 0))
set_option maxRecDepth 100000 in
set_option maxHeartbeats 4000000 in
theorem b_X0_lineAt {g : Gx} {l : Launch} {V : VT} {Rt : Option Value → MH → Prop} (o : Ok g l RX0 cX0_lineAt 2 1 21 0 V) (rr : ORi cX0_lineAt V Rt) (h : MH) (a0 : Nat) (x1 : Int32) (ha0 : shp a0 = (0, 0)) : T (fun r => Rt (some (.int r)) h) (f_X0_lineAt h a0 x1) (V 0 [(0, rA g a0), (1, .int x1)] [] h) := by
  unfold f_X0_lineAt
  refine R_aload_n o 0 dX0_lineAt_0 rfl rfl ?_
  refine R_iload_n o 1 dX0_lineAt_1 rfl rfl ?_
  refine K_z (callV' (As := [.int x1]) (rest := []) o dX0_lineAt_2 lk_X0_22 rfl ha0 rfl rfl rfl rfl (Nat.le_of_ble_eq_true rfl)) (c_X0_has g l h a0 x1 ha0) (fun r2 => ?_)
  refine R_bif_eq o 17 dX0_lineAt_5 (by decide) ?_ ?_
  · refine R_aload_n o 0 dX0_lineAt_8 rfl rfl ?_
    refine R_getR o dX0_lineAt_9 fl_X0_9 ha0 (by decide) rfl rfl ?_
    refine R_iload_n o 1 dX0_lineAt_12 rfl rfl ?_
    refine R_iald o dX0_lineAt_13 (sh_Code_0 ha0) ?_
    refine R_goto o 18 dX0_lineAt_14 (by decide) ?_
    exact T_some (fun p => rr _ _ _ _ dX0_lineAt_18 p)
  · refine R_iconst (v := 0) o dX0_lineAt_17 (by decide) ?_
    exact T_some (fun p => rr _ _ _ _ dX0_lineAt_18 p)
theorem c_X0_lineAt (g : Gx) (l : Launch) (h : MH) (a0 : Nat) (x1 : Int32) (ha0 : shp a0 = (0, 0)) (r : Int32) (e : f_X0_lineAt h a0 x1 = some r) : Ctr g l yX0_lineAt cX0_lineAt 2 (some .int) 1 21 0 [rA g a0, .int x1] h (some (.int r)) h := mkCi (plainFor_of_name (by decide)) (Nat.le_of_ble_eq_true rfl) (fun V Rt o rr p => b_X0_lineAt o rr h a0 x1 ha0 r e p)
/-! X0_countBlocks -/
noncomputable def f_X0_countBlocks (h : MH) (a0 : Nat) (a1 : Nat) : Option Int32 :=
  (if (h.1 a0 2) < 1 then some 0 else gd (nz (h.1 a0 2)) (some ((h.1 a1 3) / (h.1 a0 2))))
set_option maxRecDepth 100000 in
set_option maxHeartbeats 4000000 in
theorem b_X0_countBlocks {g : Gx} {l : Launch} {V : VT} {Rt : Option Value → MH → Prop} (o : Ok g l RX0 cX0_countBlocks 2 0 0 0 V) (rr : ORi cX0_countBlocks V Rt) (h : MH) (a0 : Nat) (a1 : Nat) (ha0 : shp a0 = (0, 0)) (ha1 : shp a1 = (1, 0)) : T (fun r => Rt (some (.int r)) h) (f_X0_countBlocks h a0 a1) (V 0 [(0, rA g a0), (1, rA g a1)] [] h) := by
  unfold f_X0_countBlocks
  refine R_aload_n o 0 dX0_countBlocks_0 rfl rfl ?_
  refine R_getI o dX0_countBlocks_1 fl_X0_19 ha0 (by decide) rfl ?_
  refine R_iconst (v := 1) o dX0_countBlocks_4 (by decide) ?_
  refine R_icmp_ge o 12 dX0_countBlocks_5 (by decide) ?_ ?_
  · refine R_iconst (v := 0) o dX0_countBlocks_8 (by decide) ?_
    refine R_goto o 21 dX0_countBlocks_9 (by decide) ?_
    exact T_some (fun p => rr _ _ _ _ dX0_countBlocks_21 p)
  · refine R_aload_n o 1 dX0_countBlocks_12 rfl rfl ?_
    refine R_getI o dX0_countBlocks_13 fl_X0_26 ha1 (by decide) rfl ?_
    refine R_aload_n o 0 dX0_countBlocks_16 rfl rfl ?_
    refine R_getI o dX0_countBlocks_17 fl_X0_19 ha0 (by decide) rfl ?_
    refine R_idiv o dX0_countBlocks_20 ?_
    exact T_some (fun p => rr _ _ _ _ dX0_countBlocks_21 p)
theorem c_X0_countBlocks (g : Gx) (l : Launch) (h : MH) (a0 : Nat) (a1 : Nat) (ha0 : shp a0 = (0, 0)) (ha1 : shp a1 = (1, 0)) (r : Int32) (e : f_X0_countBlocks h a0 a1 = some r) : Ctr g l yX0_countBlocks cX0_countBlocks 2 (some .int) 0 0 0 [rA g a0, rA g a1] h (some (.int r)) h := mkCi (plainFor_of_name (by decide)) (Nat.le_of_ble_eq_true rfl) (fun V Rt o rr p => b_X0_countBlocks o rr h a0 a1 ha0 ha1 r e p)
/-! X0_columnAt -/
noncomputable def f_X0_columnAt_B4 (h : MH) (a0 : Nat) (x1 : Int32) (x2 : Int32) (x3 : Int32) : Option ((Int32 × Int32) ⊕ (Int32)) :=
  (if x3 < (h.1 a0 1) then Option.bind (f_X0_lineAt h a0 x3) (fun r15 => nm (x2 ||| (shl ((shr r15 x1) &&& 1) x3)) (fun v25 => some (.inl (v25, (x3 + 1))))) else some (.inr x2))
set_option maxRecDepth 100000 in
set_option maxHeartbeats 4000000 in
theorem t_X0_columnAt_B4 {g : Gx} {l : Launch} {V : VT} {Rt : Option Value → MH → Prop} (o : Ok g l RX0 cX0_columnAt 4 2 42 0 V) (rr : ORi cX0_columnAt V Rt) (h : MH) (a0 : Nat) (x1 : Int32) (x2 : Int32) (x3 : Int32) (ha0 : shp a0 = (0, 0)) : T (Sum.elim (fun s => V 4 [(0, rA g a0), (1, .int x1), (2, .int s.1), (3, .int s.2)] [] h) (fun b => V 32 [(2, .int b)] [] h)) (f_X0_columnAt_B4  h a0 x1 x2 x3) (V 4 [(0, rA g a0), (1, .int x1), (2, .int x2), (3, .int x3)] [] h) := by
  unfold f_X0_columnAt_B4
  refine R_iload_n o 3 dX0_columnAt_4 rfl rfl ?_
  refine R_aload_n o 0 dX0_columnAt_5 rfl rfl ?_
  refine R_getI o dX0_columnAt_6 fl_X0_15 ha0 (by decide) rfl ?_
  refine R_icmp_ge o 32 dX0_columnAt_9 (by decide) ?_ ?_
  · refine R_iload_n o 2 dX0_columnAt_12 rfl rfl ?_
    refine R_aload_n o 0 dX0_columnAt_13 rfl rfl ?_
    refine R_iload_n o 3 dX0_columnAt_14 rfl rfl ?_
    refine K_i (callV' (As := [.int x3]) (rest := [.int x2]) o dX0_columnAt_15 lk_X0_31 rfl ha0 rfl rfl rfl rfl (Nat.le_of_ble_eq_true rfl)) (c_X0_lineAt g l h a0 x3 ha0) (fun r15 => ?_)
    refine R_iload_n o 1 dX0_columnAt_18 rfl rfl ?_
    refine R_ishr o dX0_columnAt_19 ?_
    refine R_iconst (v := 1) o dX0_columnAt_20 (by decide) ?_
    refine R_iand o dX0_columnAt_21 ?_
    refine R_iload_n o 3 dX0_columnAt_22 rfl rfl ?_
    refine R_ishl o dX0_columnAt_23 ?_
    refine R_ior o dX0_columnAt_24 ?_
    refine R_nmI (fun v25 => ?_)
    refine R_istore_n (lv2 := [(0, rA g a0), (1, .int x1), (2, .int v25), (3, .int x3)]) o dX0_columnAt_25 rfl (by decide) rfl ?_
    refine R_iinc (v := (x3 + 1)) (lv2 := [(0, rA g a0), (1, .int x1), (2, .int v25), (3, .int (x3 + 1))]) o 3 dX0_columnAt_26 rfl rfl (by decide) rfl ?_
    refine R_goto o 4 dX0_columnAt_29 (by decide) ?_
    exact T_some (fun p => p)
  · refine R_drop (lv2 := [(2, .int x2)]) o [2] rfl ?_
    exact T_some (fun p => p)
noncomputable def f_X0_columnAt_L4 (h : MH) (a0 : Nat) (x1 : Int32) (x2 : Int32) (x3 : Int32) : Option (Int32) :=
  lpo (fun s : Int32 × Int32 => f_X0_columnAt_B4 h a0 x1 s.1 s.2) (x2, x3)
theorem t_X0_columnAt_L4 {g : Gx} {l : Launch} {V : VT} {Rt : Option Value → MH → Prop} (o : Ok g l RX0 cX0_columnAt 4 2 42 0 V) (rr : ORi cX0_columnAt V Rt) (h : MH) (a0 : Nat) (x1 : Int32) (x2 : Int32) (x3 : Int32) (ha0 : shp a0 = (0, 0)) : T (fun b => V 32 [(2, .int b)] [] h) (f_X0_columnAt_L4 h a0 x1 x2 x3) (V 4 [(0, rA g a0), (1, .int x1), (2, .int x2), (3, .int x3)] [] h) := T_loop (head := fun s : Int32 × Int32 => V 4 [(0, rA g a0), (1, .int x1), (2, .int s.1), (3, .int s.2)] [] h) (fun s => t_X0_columnAt_B4 o rr h a0 x1 s.1 s.2 ha0) (x2, x3)
noncomputable def f_X0_columnAt (h : MH) (a0 : Nat) (x1 : Int32) : Option Int32 :=
  Option.bind (f_X0_columnAt_L4 h a0 x1 0 0) (fun b4 => some b4)
set_option maxRecDepth 100000 in
set_option maxHeartbeats 4000000 in
theorem b_X0_columnAt {g : Gx} {l : Launch} {V : VT} {Rt : Option Value → MH → Prop} (o : Ok g l RX0 cX0_columnAt 4 2 42 0 V) (rr : ORi cX0_columnAt V Rt) (h : MH) (a0 : Nat) (x1 : Int32) (ha0 : shp a0 = (0, 0)) : T (fun r => Rt (some (.int r)) h) (f_X0_columnAt h a0 x1) (V 0 [(0, rA g a0), (1, .int x1)] [] h) := by
  unfold f_X0_columnAt
  refine R_iconst (v := 0) o dX0_columnAt_0 (by decide) ?_
  refine R_istore_n (lv2 := [(0, rA g a0), (1, .int x1), (2, .int 0)]) o dX0_columnAt_1 rfl (by decide) rfl ?_
  refine R_iconst (v := 0) o dX0_columnAt_2 (by decide) ?_
  refine R_istore_n (lv2 := [(0, rA g a0), (1, .int x1), (2, .int 0), (3, .int 0)]) o dX0_columnAt_3 rfl (by decide) rfl ?_
  refine T_bind (t_X0_columnAt_L4 o rr h a0 x1 0 0 ha0) (fun b4 => ?_)
  refine R_iload_n o 0 dX0_columnAt_32 rfl rfl ?_
  exact T_some (fun p => rr _ _ _ _ dX0_columnAt_33 p)
theorem c_X0_columnAt (g : Gx) (l : Launch) (h : MH) (a0 : Nat) (x1 : Int32) (ha0 : shp a0 = (0, 0)) (r : Int32) (e : f_X0_columnAt h a0 x1 = some r) : Ctr g l yX0_columnAt cX0_columnAt 4 (some .int) 2 42 0 [rA g a0, .int x1] h (some (.int r)) h := mkCi (plainFor_of_name (by decide)) (Nat.le_of_ble_eq_true rfl) (fun V Rt o rr p => b_X0_columnAt o rr h a0 x1 ha0 r e p)
/-! X0_take -/
noncomputable def f_X0_take (h : MH) (a0 : Nat) (a1 : Nat) : Option MH :=
  nm (uI h a0 1 (h.1 a1 1)) (fun h5 => nm (uI h5 a0 2 (h5.1 a1 2)) (fun h13 => gd (acp 0 0 6 6 6) (nm (uA h13 (rf a0 0) (va_cpy (h13.1 (rf a1 0)) (h13.1 (rf a0 0)) (0 : Int32).toNatClampNeg (0 : Int32).toNatClampNeg (6 : Int32).toNatClampNeg)) (fun h31 => some h31))))
set_option maxRecDepth 100000 in
set_option maxHeartbeats 4000000 in
theorem b_X0_take {g : Gx} {l : Launch} {V : VT} {Rt : Option Value → MH → Prop} (o : Ok g l RX0 cX0_take 2 1 26 0 V) (rr : ORv cX0_take V Rt) (h : MH) (a0 : Nat) (a1 : Nat) (ha0 : shp a0 = (0, 0)) (ha1 : shp a1 = (0, 0)) : T (fun r => Rt none r) (f_X0_take h a0 a1) (V 0 [(0, rA g a0), (1, rA g a1)] [] h) := by
  unfold f_X0_take
  refine R_aload_n o 0 dX0_take_0 rfl rfl ?_
  refine R_aload_n o 1 dX0_take_1 rfl rfl ?_
  refine R_getI o dX0_take_2 fl_X0_15 ha1 (by decide) rfl ?_
  refine R_putI o dX0_take_5 fp_X0_15 ha0 (by decide) rfl ?_
  refine R_nmH (fun h5 => ?_)
  refine R_aload_n o 0 dX0_take_8 rfl rfl ?_
  refine R_aload_n o 1 dX0_take_9 rfl rfl ?_
  refine R_getI o dX0_take_10 fl_X0_19 ha1 (by decide) rfl ?_
  refine R_putI o dX0_take_13 fp_X0_19 ha0 (by decide) rfl ?_
  refine R_nmH (fun h13 => ?_)
  refine R_aload_n o 1 dX0_take_16 rfl rfl ?_
  refine R_getR o dX0_take_17 fl_X0_9 ha1 (by decide) rfl rfl ?_
  refine R_iconst (v := 0) o dX0_take_20 (by decide) ?_
  refine R_aload_n o 0 dX0_take_21 rfl rfl ?_
  refine R_getR o dX0_take_22 fl_X0_9 ha0 (by decide) rfl rfl ?_
  refine R_iconst (v := 0) o dX0_take_25 (by decide) ?_
  refine R_aload_n o 0 dX0_take_26 rfl rfl ?_
  refine R_getR o dX0_take_27 fl_X0_9 ha0 (by decide) rfl rfl ?_
  refine R_alenI (v := 6) o dX0_take_30 (sh_Code_0 ha0) (Or.inl rfl) rfl ?_
  refine R_acopy o dX0_take_31 la_X0_35 (sh_Code_0 ha1) (sh_Code_0 ha0) (by decide) ?_
  refine R_nmH (fun h31 => ?_)
  exact T_some (fun p => rr _ _ _ dX0_take_34 p)
theorem c_X0_take (g : Gx) (l : Launch) (h : MH) (a0 : Nat) (a1 : Nat) (ha0 : shp a0 = (0, 0)) (ha1 : shp a1 = (0, 0)) (r : MH) (e : f_X0_take h a0 a1 = some r) : Ctr g l yX0_take cX0_take 2 none 1 26 0 [rA g a0, rA g a1] h none r := mkCv (plainFor_of_name (by decide)) (Nat.le_of_ble_eq_true rfl) (fun V Rt o rr p => b_X0_take o rr h a0 a1 ha0 ha1 r e p)
/-! X5_has -/
noncomputable def f_X5_has (h : MH) (a0 : Nat) (x1 : Int32) : Option Bool :=
  (if x1 < 0 then some false else (if x1 < (h.1 a0 1) then some true else some false))
set_option maxRecDepth 100000 in
set_option maxHeartbeats 4000000 in
theorem b_X5_has {g : Gx} {l : Launch} {V : VT} {Rt : Option Value → MH → Prop} (o : Ok g l RX5 cX5_has 2 0 0 0 V) (rr : ORz cX5_has V Rt) (h : MH) (a0 : Nat) (x1 : Int32) (ha0 : shp a0 = (5, 0)) : T (fun r => Rt (some (.int (b2i r))) h) (f_X5_has h a0 x1) (V 0 [(0, rA g a0), (1, .int x1)] [] h) := by
  unfold f_X5_has
  refine R_iload_n o 1 dX5_has_0 rfl rfl ?_
  refine R_if_lt o 16 dX5_has_1 (by decide) ?_ ?_
  · refine R_iconst (v := 0) o dX5_has_16 (by decide) ?_
    exact T_some (fun p => rr _ _ false _ dX5_has_17 p)
  · refine R_iload_n o 1 dX5_has_4 rfl rfl ?_
    refine R_aload_n o 0 dX5_has_5 rfl rfl ?_
    refine R_getI o dX5_has_6 fl_X5_15 ha0 (by decide) rfl ?_
    refine R_icmp_ge o 16 dX5_has_9 (by decide) ?_ ?_
    · refine R_iconst (v := 1) o dX5_has_12 (by decide) ?_
      refine R_goto o 17 dX5_has_13 (by decide) ?_
      exact T_some (fun p => rr _ _ true _ dX5_has_17 p)
    · refine R_iconst (v := 0) o dX5_has_16 (by decide) ?_
      exact T_some (fun p => rr _ _ false _ dX5_has_17 p)
theorem c_X5_has (g : Gx) (l : Launch) (h : MH) (a0 : Nat) (x1 : Int32) (ha0 : shp a0 = (5, 0)) (r : Bool) (e : f_X5_has h a0 x1 = some r) : Ctr g l yX5_has cX5_has 2 (some .boolean) 0 0 0 [rA g a0, .int x1] h (some (.int (b2i r))) h := mkCz (plainFor_of_name (by decide)) (Nat.le_of_ble_eq_true rfl) (fun V Rt o rr p => b_X5_has o rr h a0 x1 ha0 r e p)
/-! X5_get -/
noncomputable def f_X5_get (h : MH) (a0 : Nat) (x1 : Int32) : Option Int32 :=
  Option.bind (f_X5_has h a0 x1) (fun r2 => (if r2 = true then gd (ix x1 60) (some (h.1 (rf a0 0) x1.toNatClampNeg)) else some 0))
set_option maxRecDepth 100000 in
set_option maxHeartbeats 4000000 in
theorem b_X5_get {g : Gx} {l : Launch} {V : VT} {Rt : Option Value → MH → Prop} (o : Ok g l RX5 cX5_get 2 1 21 0 V) (rr : ORi cX5_get V Rt) (h : MH) (a0 : Nat) (x1 : Int32) (ha0 : shp a0 = (5, 0)) : T (fun r => Rt (some (.int r)) h) (f_X5_get h a0 x1) (V 0 [(0, rA g a0), (1, .int x1)] [] h) := by
  unfold f_X5_get
  refine R_aload_n o 0 dX5_get_0 rfl rfl ?_
  refine R_iload_n o 1 dX5_get_1 rfl rfl ?_
  refine K_z (callV' (As := [.int x1]) (rest := []) o dX5_get_2 lk_X5_19 rfl ha0 rfl rfl rfl rfl (Nat.le_of_ble_eq_true rfl)) (c_X5_has g l h a0 x1 ha0) (fun r2 => ?_)
  refine R_bif_eq o 17 dX5_get_5 (by decide) ?_ ?_
  · refine R_aload_n o 0 dX5_get_8 rfl rfl ?_
    refine R_getR o dX5_get_9 fl_X5_9 ha0 (by decide) rfl rfl ?_
    refine R_iload_n o 1 dX5_get_12 rfl rfl ?_
    refine R_iald o dX5_get_13 (sh_Row_0 ha0) ?_
    refine R_goto o 18 dX5_get_14 (by decide) ?_
    exact T_some (fun p => rr _ _ _ _ dX5_get_18 p)
  · refine R_iconst (v := 0) o dX5_get_17 (by decide) ?_
    exact T_some (fun p => rr _ _ _ _ dX5_get_18 p)
theorem c_X5_get (g : Gx) (l : Launch) (h : MH) (a0 : Nat) (x1 : Int32) (ha0 : shp a0 = (5, 0)) (r : Int32) (e : f_X5_get h a0 x1 = some r) : Ctr g l yX5_get cX5_get 2 (some .int) 1 21 0 [rA g a0, .int x1] h (some (.int r)) h := mkCi (plainFor_of_name (by decide)) (Nat.le_of_ble_eq_true rfl) (fun V Rt o rr p => b_X5_get o rr h a0 x1 ha0 r e p)
/-! X0_behindBlanks -/
noncomputable def f_X0_behindBlanks_B2 (h : MH) (a0 : Nat) (x2 : Int32) : Option ((Int32) ⊕ (Int32)) :=
  (if x2 < (h.1 a0 1) then Option.bind (f_X5_get h a0 x2) (fun r12 => (if r12 = 32 then some (.inl (x2 + 1)) else some (.inr x2))) else some (.inr x2))
set_option maxRecDepth 100000 in
set_option maxHeartbeats 4000000 in
theorem t_X0_behindBlanks_B2 {g : Gx} {l : Launch} {V : VT} {Rt : Option Value → MH → Prop} (o : Ok g l RX0 cX0_behindBlanks 3 2 42 0 V) (rr : ORi cX0_behindBlanks V Rt) (h : MH) (a0 : Nat) (x2 : Int32) (ha0 : shp a0 = (5, 0)) : T (Sum.elim (fun s => V 2 [(0, rA g a0), (2, .int s)] [] h) (fun b => V 26 [(2, .int b)] [] h)) (f_X0_behindBlanks_B2  h a0 x2) (V 2 [(0, rA g a0), (2, .int x2)] [] h) := by
  unfold f_X0_behindBlanks_B2
  refine R_iload_n o 1 dX0_behindBlanks_2 rfl rfl ?_
  refine R_aload_n o 0 dX0_behindBlanks_3 rfl rfl ?_
  refine R_getI o dX0_behindBlanks_4 fl_X0_57 ha0 (by decide) rfl ?_
  refine R_icmp_ge o 26 dX0_behindBlanks_7 (by decide) ?_ ?_
  · refine R_aload_n o 0 dX0_behindBlanks_10 rfl rfl ?_
    refine R_iload_n o 1 dX0_behindBlanks_11 rfl rfl ?_
    refine K_i (callV' (As := [.int x2]) (rest := []) o dX0_behindBlanks_12 lk_X0_52 rfl ha0 rfl rfl rfl rfl (Nat.le_of_ble_eq_true rfl)) (c_X5_get g l h a0 x2 ha0) (fun r12 => ?_)
    refine R_bipush (v := 32) o dX0_behindBlanks_15 (by decide) ?_
    refine R_icmp_ne o 26 dX0_behindBlanks_17 (by decide) ?_ ?_
    · refine R_iinc (v := (x2 + 1)) (lv2 := [(0, rA g a0), (2, .int (x2 + 1))]) o 1 dX0_behindBlanks_20 rfl rfl (by decide) rfl ?_
      refine R_goto o 2 dX0_behindBlanks_23 (by decide) ?_
      exact T_some (fun p => p)
    · refine R_drop (lv2 := [(2, .int x2)]) o [1] rfl ?_
      exact T_some (fun p => p)
  · refine R_drop (lv2 := [(2, .int x2)]) o [1] rfl ?_
    exact T_some (fun p => p)
noncomputable def f_X0_behindBlanks_L2 (h : MH) (a0 : Nat) (x2 : Int32) : Option (Int32) :=
  lpo (fun s : Int32 => f_X0_behindBlanks_B2 h a0 s) x2
theorem t_X0_behindBlanks_L2 {g : Gx} {l : Launch} {V : VT} {Rt : Option Value → MH → Prop} (o : Ok g l RX0 cX0_behindBlanks 3 2 42 0 V) (rr : ORi cX0_behindBlanks V Rt) (h : MH) (a0 : Nat) (x2 : Int32) (ha0 : shp a0 = (5, 0)) : T (fun b => V 26 [(2, .int b)] [] h) (f_X0_behindBlanks_L2 h a0 x2) (V 2 [(0, rA g a0), (2, .int x2)] [] h) := T_loop (head := fun s : Int32 => V 2 [(0, rA g a0), (2, .int s)] [] h) (fun s => t_X0_behindBlanks_B2 o rr h a0 s ha0) x2
noncomputable def f_X0_behindBlanks (h : MH) (a0 : Nat) (x1 : Int32) : Option Int32 :=
  Option.bind (f_X0_behindBlanks_L2 h a0 x1) (fun b2 => some b2)
set_option maxRecDepth 100000 in
set_option maxHeartbeats 4000000 in
theorem b_X0_behindBlanks {g : Gx} {l : Launch} {V : VT} {Rt : Option Value → MH → Prop} (o : Ok g l RX0 cX0_behindBlanks 3 2 42 0 V) (rr : ORi cX0_behindBlanks V Rt) (h : MH) (a0 : Nat) (x1 : Int32) (ha0 : shp a0 = (5, 0)) : T (fun r => Rt (some (.int r)) h) (f_X0_behindBlanks h a0 x1) (V 0 [(0, rA g a0), (1, .int x1)] [] h) := by
  unfold f_X0_behindBlanks
  refine R_iload_n o 1 dX0_behindBlanks_0 rfl rfl ?_
  refine R_istore_n (lv2 := [(0, rA g a0), (1, .int x1), (2, .int x1)]) o dX0_behindBlanks_1 rfl (by decide) rfl ?_
  refine R_drop (lv2 := [(0, rA g a0), (2, .int x1)]) o [0, 2] rfl ?_
  refine T_bind (t_X0_behindBlanks_L2 o rr h a0 x1 ha0) (fun b2 => ?_)
  refine R_iload_n o 0 dX0_behindBlanks_26 rfl rfl ?_
  exact T_some (fun p => rr _ _ _ _ dX0_behindBlanks_27 p)
theorem c_X0_behindBlanks (g : Gx) (l : Launch) (h : MH) (a0 : Nat) (x1 : Int32) (ha0 : shp a0 = (5, 0)) (r : Int32) (e : f_X0_behindBlanks h a0 x1 = some r) : Ctr g l yX0_behindBlanks cX0_behindBlanks 3 (some .int) 2 42 0 [rA g a0, .int x1] h (some (.int r)) h := mkCi (plainFor_of_name (by decide)) (Nat.le_of_ble_eq_true rfl) (fun V Rt o rr p => b_X0_behindBlanks o rr h a0 x1 ha0 r e p)
/-! X0_isSign -/
noncomputable def f_X0_isSign (x0 : Int32) : Option Bool :=
  (if x0 = 48 then some true else (if x0 = 49 then some true else some false))
set_option maxRecDepth 100000 in
set_option maxHeartbeats 4000000 in
theorem b_X0_isSign {g : Gx} {l : Launch} {V : VT} {Rt : Option Value → MH → Prop} (o : Ok g l RX0 cX0_isSign 1 0 0 0 V) (rr : ORz cX0_isSign V Rt) (h : MH) (x0 : Int32) : T (fun r => Rt (some (.int (b2i r))) h) (f_X0_isSign  x0) (V 0 [(0, .int x0)] [] h) := by
  unfold f_X0_isSign
  refine R_iload_n o 0 dX0_isSign_0 rfl rfl ?_
  refine R_bipush (v := 48) o dX0_isSign_1 (by decide) ?_
  refine R_icmp_eq o 12 dX0_isSign_3 (by decide) ?_ ?_
  · refine R_iconst (v := 1) o dX0_isSign_12 (by decide) ?_
    refine R_goto o 17 dX0_isSign_13 (by decide) ?_
    exact T_some (fun p => rr _ _ true _ dX0_isSign_17 p)
  · refine R_iload_n o 0 dX0_isSign_6 rfl rfl ?_
    refine R_bipush (v := 49) o dX0_isSign_7 (by decide) ?_
    refine R_icmp_ne o 16 dX0_isSign_9 (by decide) ?_ ?_
    · refine R_iconst (v := 1) o dX0_isSign_12 (by decide) ?_
      refine R_goto o 17 dX0_isSign_13 (by decide) ?_
      exact T_some (fun p => rr _ _ true _ dX0_isSign_17 p)
    · refine R_iconst (v := 0) o dX0_isSign_16 (by decide) ?_
      exact T_some (fun p => rr _ _ false _ dX0_isSign_17 p)
theorem c_X0_isSign (g : Gx) (l : Launch) (h : MH) (x0 : Int32) (r : Bool) (e : f_X0_isSign  x0 = some r) : Ctr g l yX0_isSign cX0_isSign 1 (some .boolean) 0 0 0 [.int x0] h (some (.int (b2i r))) h := mkCz (plainFor_of_name (by decide)) (Nat.le_of_ble_eq_true rfl) (fun V Rt o rr p => b_X0_isSign o rr h x0  r e p)
/-! X0_behindLine -/
noncomputable def f_X0_behindLine_B20 (h : MH) (a1 : Nat) (x2 : Int32) (x3 : Int32) (x4 : Int32) : Option ((Int32) ⊕ (Int32)) :=
  (if x4 < (h.1 a1 1) then (if x4 < (x2 + x3) then Option.bind (f_X5_get h a1 x4) (fun r40 => Option.bind (f_X0_isSign r40) (fun r43 => (if r43 = true then some (.inl (x4 + 1)) else some (.inr x4)))) else some (.inr x4)) else some (.inr x4))
set_option maxRecDepth 100000 in
set_option maxHeartbeats 4000000 in
theorem t_X0_behindLine_B20 {g : Gx} {l : Launch} {V : VT} {Rt : Option Value → MH → Prop} (o : Ok g l RX0 cX0_behindLine 5 2 42 0 V) (rr : ORi cX0_behindLine V Rt) (h : MH) (a1 : Nat) (x2 : Int32) (x3 : Int32) (x4 : Int32) (ha1 : shp a1 = (5, 0)) : T (Sum.elim (fun s => V 20 [(1, rA g a1), (2, .int x2), (3, .int x3), (4, .int s)] [] h) (fun b => V 55 [(4, .int b)] [] h)) (f_X0_behindLine_B20  h a1 x2 x3 x4) (V 20 [(1, rA g a1), (2, .int x2), (3, .int x3), (4, .int x4)] [] h) := by
  unfold f_X0_behindLine_B20
  refine R_iload o 3 dX0_behindLine_20 rfl ?_
  refine R_aload_n o 0 dX0_behindLine_22 rfl rfl ?_
  refine R_getI o dX0_behindLine_23 fl_X0_57 ha1 (by decide) rfl ?_
  refine R_icmp_ge o 55 dX0_behindLine_26 (by decide) ?_ ?_
  · refine R_iload o 3 dX0_behindLine_29 rfl ?_
    refine R_iload_n o 1 dX0_behindLine_31 rfl rfl ?_
    refine R_iload_n o 2 dX0_behindLine_32 rfl rfl ?_
    refine R_iadd o dX0_behindLine_33 ?_
    refine R_icmp_ge o 55 dX0_behindLine_34 (by decide) ?_ ?_
    · refine R_aload_n o 0 dX0_behindLine_37 rfl rfl ?_
      refine R_iload o 3 dX0_behindLine_38 rfl ?_
      refine K_i (callV' (As := [.int x4]) (rest := []) o dX0_behindLine_40 lk_X0_52 rfl ha1 rfl rfl rfl rfl (Nat.le_of_ble_eq_true rfl)) (c_X5_get g l h a1 x4 ha1) (fun r40 => ?_)
      refine K_z (callS' (av := [.int r40]) (rest := []) o dX0_behindLine_43 lk_X0_58 rfl rfl rfl (Nat.le_of_ble_eq_true rfl)) (c_X0_isSign g l h r40) (fun r43 => ?_)
      refine R_bif_eq o 55 dX0_behindLine_46 (by decide) ?_ ?_
      · refine R_iinc (v := (x4 + 1)) (lv2 := [(1, rA g a1), (2, .int x2), (3, .int x3), (4, .int (x4 + 1))]) o 3 dX0_behindLine_49 rfl rfl (by decide) rfl ?_
        refine R_goto o 20 dX0_behindLine_52 (by decide) ?_
        exact T_some (fun p => p)
      · refine R_drop (lv2 := [(4, .int x4)]) o [3] rfl ?_
        exact T_some (fun p => p)
    · refine R_drop (lv2 := [(4, .int x4)]) o [3] rfl ?_
      exact T_some (fun p => p)
  · refine R_drop (lv2 := [(4, .int x4)]) o [3] rfl ?_
    exact T_some (fun p => p)
noncomputable def f_X0_behindLine_L20 (h : MH) (a1 : Nat) (x2 : Int32) (x3 : Int32) (x4 : Int32) : Option (Int32) :=
  lpo (fun s : Int32 => f_X0_behindLine_B20 h a1 x2 x3 s) x4
theorem t_X0_behindLine_L20 {g : Gx} {l : Launch} {V : VT} {Rt : Option Value → MH → Prop} (o : Ok g l RX0 cX0_behindLine 5 2 42 0 V) (rr : ORi cX0_behindLine V Rt) (h : MH) (a1 : Nat) (x2 : Int32) (x3 : Int32) (x4 : Int32) (ha1 : shp a1 = (5, 0)) : T (fun b => V 55 [(4, .int b)] [] h) (f_X0_behindLine_L20 h a1 x2 x3 x4) (V 20 [(1, rA g a1), (2, .int x2), (3, .int x3), (4, .int x4)] [] h) := T_loop (head := fun s : Int32 => V 20 [(1, rA g a1), (2, .int x2), (3, .int x3), (4, .int s)] [] h) (fun s => t_X0_behindLine_B20 o rr h a1 x2 x3 s ha1) x4
noncomputable def f_X0_behindLine_J16 (h : MH) (a1 : Nat) (x2 : Int32) (s0 : Int32) : Option Int32 :=
  Option.bind (f_X0_behindLine_L20 h a1 x2 s0 x2) (fun b20 => some b20)
set_option maxRecDepth 100000 in
set_option maxHeartbeats 4000000 in
theorem t_X0_behindLine_J16 {g : Gx} {l : Launch} {V : VT} {Rt : Option Value → MH → Prop} (o : Ok g l RX0 cX0_behindLine 5 2 42 0 V) (rr : ORi cX0_behindLine V Rt) (h : MH) (a1 : Nat) (x2 : Int32) (s0 : Int32) (ha1 : shp a1 = (5, 0)) : T (fun r => Rt (some (.int r)) h) (f_X0_behindLine_J16  h a1 x2 s0) (V 16 [(1, rA g a1), (2, .int x2)] [.int s0] h) := by
  unfold f_X0_behindLine_J16
  refine R_istore_n (lv2 := [(1, rA g a1), (2, .int x2), (3, .int s0)]) o dX0_behindLine_16 rfl (by decide) rfl ?_
  refine R_iload_n o 1 dX0_behindLine_17 rfl rfl ?_
  refine R_istore (lv2 := [(1, rA g a1), (2, .int x2), (3, .int s0), (4, .int x2)]) o dX0_behindLine_18 (by decide) rfl ?_
  refine T_bind (t_X0_behindLine_L20 o rr h a1 x2 s0 x2 ha1) (fun b20 => ?_)
  refine R_iload o 0 dX0_behindLine_55 rfl ?_
  exact T_some (fun p => rr _ _ _ _ dX0_behindLine_57 p)
noncomputable def f_X0_behindLine (h : MH) (a0 : Nat) (a1 : Nat) (x2 : Int32) : Option Int32 :=
  (if (h.1 a0 1) = 0 then f_X0_behindLine_J16 h a1 x2 12 else f_X0_behindLine_J16 h a1 x2 (h.1 a0 2))
set_option maxRecDepth 100000 in
set_option maxHeartbeats 4000000 in
theorem b_X0_behindLine {g : Gx} {l : Launch} {V : VT} {Rt : Option Value → MH → Prop} (o : Ok g l RX0 cX0_behindLine 5 2 42 0 V) (rr : ORi cX0_behindLine V Rt) (h : MH) (a0 : Nat) (a1 : Nat) (x2 : Int32) (ha0 : shp a0 = (0, 0)) (ha1 : shp a1 = (5, 0)) : T (fun r => Rt (some (.int r)) h) (f_X0_behindLine h a0 a1 x2) (V 0 [(0, rA g a0), (1, rA g a1), (2, .int x2)] [] h) := by
  unfold f_X0_behindLine
  refine R_aload_n o 0 dX0_behindLine_0 rfl rfl ?_
  refine R_getI o dX0_behindLine_1 fl_X0_15 ha0 (by decide) rfl ?_
  refine R_if_ne o 12 dX0_behindLine_4 (by decide) ?_ ?_
  · refine R_bipush (v := 12) o dX0_behindLine_7 (by decide) ?_
    refine R_goto o 16 dX0_behindLine_9 (by decide) ?_
    refine R_drop (lv2 := [(1, rA g a1), (2, .int x2)]) o [1, 2] rfl ?_
    exact t_X0_behindLine_J16 o rr h a1 x2 12 ha1
  · refine R_aload_n o 0 dX0_behindLine_12 rfl rfl ?_
    refine R_getI o dX0_behindLine_13 fl_X0_19 ha0 (by decide) rfl ?_
    refine R_drop (lv2 := [(1, rA g a1), (2, .int x2)]) o [1, 2] rfl ?_
    exact t_X0_behindLine_J16 o rr h a1 x2 (h.1 a0 2) ha1
theorem c_X0_behindLine (g : Gx) (l : Launch) (h : MH) (a0 : Nat) (a1 : Nat) (x2 : Int32) (ha0 : shp a0 = (0, 0)) (ha1 : shp a1 = (5, 0)) (r : Int32) (e : f_X0_behindLine h a0 a1 x2 = some r) : Ctr g l yX0_behindLine cX0_behindLine 5 (some .int) 2 42 0 [rA g a0, rA g a1, .int x2] h (some (.int r)) h := mkCi (plainFor_of_name (by decide)) (Nat.le_of_ble_eq_true rfl) (fun V Rt o rr p => b_X0_behindLine o rr h a0 a1 x2 ha0 ha1 r e p)
/-! X0_takeLine -/
noncomputable def f_X0_takeLine_B47 (h : MH) (a0 : Nat) (a1 : Nat) (x2 : Int32) (x4 : Int32) (x5 : Int32) (x6 : Int32) : Option ((Int32 × Int32) ⊕ (Int32)) :=
  (if x6 < x4 then Option.bind (f_X5_get h a1 (x2 + x6)) (fun r59 => (if r59 = 49 then nm (x5 ||| (shl 1 x6)) (fun v74 => some (.inl (v74, (x6 + 1)))) else some (.inl (x5, (x6 + 1))))) else some (.inr x5))
set_option maxRecDepth 100000 in
set_option maxHeartbeats 4000000 in
theorem t_X0_takeLine_B47 {g : Gx} {l : Launch} {V : VT} {Rt : Option Value → MH → Prop} (o : Ok g l RX0 cX0_takeLine 7 2 42 0 V) (rr : ORz cX0_takeLine V Rt) (h : MH) (a0 : Nat) (a1 : Nat) (x2 : Int32) (x4 : Int32) (x5 : Int32) (x6 : Int32) (ha0 : shp a0 = (0, 0)) (ha1 : shp a1 = (5, 0)) : T (Sum.elim (fun s => V 47 [(0, rA g a0), (1, rA g a1), (2, .int x2), (4, .int x4), (5, .int s.1), (6, .int s.2)] [] h) (fun b => V 82 [(0, rA g a0), (4, .int x4), (5, .int b)] [] h)) (f_X0_takeLine_B47  h a0 a1 x2 x4 x5 x6) (V 47 [(0, rA g a0), (1, rA g a1), (2, .int x2), (4, .int x4), (5, .int x5), (6, .int x6)] [] h) := by
  unfold f_X0_takeLine_B47
  refine R_iload o 5 dX0_takeLine_47 rfl ?_
  refine R_iload o 3 dX0_takeLine_49 rfl ?_
  refine R_icmp_ge o 82 dX0_takeLine_51 (by decide) ?_ ?_
  · refine R_aload_n o 1 dX0_takeLine_54 rfl rfl ?_
    refine R_iload_n o 2 dX0_takeLine_55 rfl rfl ?_
    refine R_iload o 5 dX0_takeLine_56 rfl ?_
    refine R_iadd o dX0_takeLine_58 ?_
    refine K_i (callV' (As := [.int (x2 + x6)]) (rest := []) o dX0_takeLine_59 lk_X0_52 rfl ha1 rfl rfl rfl rfl (Nat.le_of_ble_eq_true rfl)) (c_X5_get g l h a1 (x2 + x6) ha1) (fun r59 => ?_)
    refine R_bipush (v := 49) o dX0_takeLine_62 (by decide) ?_
    refine R_icmp_ne o 76 dX0_takeLine_64 (by decide) ?_ ?_
    · refine R_iload o 4 dX0_takeLine_67 rfl ?_
      refine R_iconst (v := 1) o dX0_takeLine_69 (by decide) ?_
      refine R_iload o 5 dX0_takeLine_70 rfl ?_
      refine R_ishl o dX0_takeLine_72 ?_
      refine R_ior o dX0_takeLine_73 ?_
      refine R_nmI (fun v74 => ?_)
      refine R_istore (lv2 := [(0, rA g a0), (1, rA g a1), (2, .int x2), (4, .int x4), (5, .int v74), (6, .int x6)]) o dX0_takeLine_74 (by decide) rfl ?_
      refine R_iinc (v := (x6 + 1)) (lv2 := [(0, rA g a0), (1, rA g a1), (2, .int x2), (4, .int x4), (5, .int v74), (6, .int (x6 + 1))]) o 5 dX0_takeLine_76 rfl rfl (by decide) rfl ?_
      refine R_goto o 47 dX0_takeLine_79 (by decide) ?_
      exact T_some (fun p => p)
    · refine R_iinc (v := (x6 + 1)) (lv2 := [(0, rA g a0), (1, rA g a1), (2, .int x2), (4, .int x4), (5, .int x5), (6, .int (x6 + 1))]) o 5 dX0_takeLine_76 rfl rfl (by decide) rfl ?_
      refine R_goto o 47 dX0_takeLine_79 (by decide) ?_
      exact T_some (fun p => p)
  · refine R_drop (lv2 := [(0, rA g a0), (4, .int x4), (5, .int x5)]) o [0, 3, 4] rfl ?_
    exact T_some (fun p => p)
noncomputable def f_X0_takeLine_L47 (h : MH) (a0 : Nat) (a1 : Nat) (x2 : Int32) (x4 : Int32) (x5 : Int32) (x6 : Int32) : Option (Int32) :=
  lpo (fun s : Int32 × Int32 => f_X0_takeLine_B47 h a0 a1 x2 x4 s.1 s.2) (x5, x6)
theorem t_X0_takeLine_L47 {g : Gx} {l : Launch} {V : VT} {Rt : Option Value → MH → Prop} (o : Ok g l RX0 cX0_takeLine 7 2 42 0 V) (rr : ORz cX0_takeLine V Rt) (h : MH) (a0 : Nat) (a1 : Nat) (x2 : Int32) (x4 : Int32) (x5 : Int32) (x6 : Int32) (ha0 : shp a0 = (0, 0)) (ha1 : shp a1 = (5, 0)) : T (fun b => V 82 [(0, rA g a0), (4, .int x4), (5, .int b)] [] h) (f_X0_takeLine_L47 h a0 a1 x2 x4 x5 x6) (V 47 [(0, rA g a0), (1, rA g a1), (2, .int x2), (4, .int x4), (5, .int x5), (6, .int x6)] [] h) := T_loop (head := fun s : Int32 × Int32 => V 47 [(0, rA g a0), (1, rA g a1), (2, .int x2), (4, .int x4), (5, .int s.1), (6, .int s.2)] [] h) (fun s => t_X0_takeLine_B47 o rr h a0 a1 x2 x4 s.1 s.2 ha0 ha1) (x5, x6)
noncomputable def f_X0_takeLine_J41 (h : MH) (a0 : Nat) (a1 : Nat) (x2 : Int32) (x4 : Int32) : Option (Bool × MH) :=
  Option.bind (f_X0_takeLine_L47 h a0 a1 x2 x4 0 0) (fun b47 => gd (ix (h.1 a0 1) 6) (nm (uI h (rf a0 0) (h.1 a0 1).toNatClampNeg b47) (fun h92 => nm (uI h92 a0 1 ((h92.1 a0 1) + 1)) (fun h100 => nm (uI h100 a0 2 x4) (fun h106 => some (true, h106))))))
set_option maxRecDepth 100000 in
set_option maxHeartbeats 4000000 in
theorem t_X0_takeLine_J41 {g : Gx} {l : Launch} {V : VT} {Rt : Option Value → MH → Prop} (o : Ok g l RX0 cX0_takeLine 7 2 42 0 V) (rr : ORz cX0_takeLine V Rt) (h : MH) (a0 : Nat) (a1 : Nat) (x2 : Int32) (x4 : Int32) (ha0 : shp a0 = (0, 0)) (ha1 : shp a1 = (5, 0)) : T (fun r => Rt (some (.int (b2i r.1))) r.2) (f_X0_takeLine_J41  h a0 a1 x2 x4) (V 41 [(0, rA g a0), (1, rA g a1), (2, .int x2), (4, .int x4)] [] h) := by
  unfold f_X0_takeLine_J41
  refine R_iconst (v := 0) o dX0_takeLine_41 (by decide) ?_
  refine R_istore (lv2 := [(0, rA g a0), (1, rA g a1), (2, .int x2), (4, .int x4), (5, .int 0)]) o dX0_takeLine_42 (by decide) rfl ?_
  refine R_iconst (v := 0) o dX0_takeLine_44 (by decide) ?_
  refine R_istore (lv2 := [(0, rA g a0), (1, rA g a1), (2, .int x2), (4, .int x4), (5, .int 0), (6, .int 0)]) o dX0_takeLine_45 (by decide) rfl ?_
  refine T_bind (t_X0_takeLine_L47 o rr h a0 a1 x2 x4 0 0 ha0 ha1) (fun b47 => ?_)
  refine R_aload_n o 0 dX0_takeLine_82 rfl rfl ?_
  refine R_getR o dX0_takeLine_83 fl_X0_9 ha0 (by decide) rfl rfl ?_
  refine R_aload_n o 0 dX0_takeLine_86 rfl rfl ?_
  refine R_getI o dX0_takeLine_87 fl_X0_15 ha0 (by decide) rfl ?_
  refine R_iload o 2 dX0_takeLine_90 rfl ?_
  refine R_iast o dX0_takeLine_92 (sh_Code_0 ha0) ?_
  refine R_nmH (fun h92 => ?_)
  refine R_aload_n o 0 dX0_takeLine_93 rfl rfl ?_
  refine R_dup o dX0_takeLine_94 rfl ?_
  refine R_getI o dX0_takeLine_95 fl_X0_15 ha0 (by decide) rfl ?_
  refine R_iconst (v := 1) o dX0_takeLine_98 (by decide) ?_
  refine R_iadd o dX0_takeLine_99 ?_
  refine R_putI o dX0_takeLine_100 fp_X0_15 ha0 (by decide) rfl ?_
  refine R_nmH (fun h100 => ?_)
  refine R_aload_n o 0 dX0_takeLine_103 rfl rfl ?_
  refine R_iload o 1 dX0_takeLine_104 rfl ?_
  refine R_putI o dX0_takeLine_106 fp_X0_19 ha0 (by decide) rfl ?_
  refine R_nmH (fun h106 => ?_)
  refine R_iconst (v := 1) o dX0_takeLine_109 (by decide) ?_
  exact T_some (fun p => rr _ _ true _ dX0_takeLine_110 p)
noncomputable def f_X0_takeLine (h : MH) (a0 : Nat) (a1 : Nat) (x2 : Int32) (x3 : Int32) : Option (Bool × MH) :=
  nm (x3 - x2) (fun v3 => (if (h.1 a0 1) < 6 then (if v3 < 1 then some (false, h) else (if 0 < (h.1 a0 1) then (if v3 < (h.1 a0 2) then some (false, h) else f_X0_takeLine_J41 h a0 a1 x2 v3) else f_X0_takeLine_J41 h a0 a1 x2 v3)) else some (false, h)))
set_option maxRecDepth 100000 in
set_option maxHeartbeats 4000000 in
theorem b_X0_takeLine {g : Gx} {l : Launch} {V : VT} {Rt : Option Value → MH → Prop} (o : Ok g l RX0 cX0_takeLine 7 2 42 0 V) (rr : ORz cX0_takeLine V Rt) (h : MH) (a0 : Nat) (a1 : Nat) (x2 : Int32) (x3 : Int32) (ha0 : shp a0 = (0, 0)) (ha1 : shp a1 = (5, 0)) : T (fun r => Rt (some (.int (b2i r.1))) r.2) (f_X0_takeLine h a0 a1 x2 x3) (V 0 [(0, rA g a0), (1, rA g a1), (2, .int x2), (3, .int x3)] [] h) := by
  unfold f_X0_takeLine
  refine R_iload_n o 3 dX0_takeLine_0 rfl rfl ?_
  refine R_iload_n o 2 dX0_takeLine_1 rfl rfl ?_
  refine R_isub o dX0_takeLine_2 ?_
  refine R_nmI (fun v3 => ?_)
  refine R_istore (lv2 := [(0, rA g a0), (1, rA g a1), (2, .int x2), (3, .int x3), (4, .int v3)]) o dX0_takeLine_3 (by decide) rfl ?_
  refine R_aload_n o 0 dX0_takeLine_5 rfl rfl ?_
  refine R_getI o dX0_takeLine_6 fl_X0_15 ha0 (by decide) rfl ?_
  refine R_aload_n o 0 dX0_takeLine_9 rfl rfl ?_
  refine R_getR o dX0_takeLine_10 fl_X0_9 ha0 (by decide) rfl rfl ?_
  refine R_alenI (v := 6) o dX0_takeLine_13 (sh_Code_0 ha0) (Or.inl rfl) rfl ?_
  refine R_icmp_ge o 39 dX0_takeLine_14 (by decide) ?_ ?_
  · refine R_iload o 4 dX0_takeLine_17 rfl ?_
    refine R_iconst (v := 1) o dX0_takeLine_19 (by decide) ?_
    refine R_icmp_lt o 39 dX0_takeLine_20 (by decide) ?_ ?_
    · refine R_iconst (v := 0) o dX0_takeLine_39 (by decide) ?_
      exact T_some (fun p => rr _ _ false _ dX0_takeLine_40 p)
    · refine R_aload_n o 0 dX0_takeLine_23 rfl rfl ?_
      refine R_getI o dX0_takeLine_24 fl_X0_15 ha0 (by decide) rfl ?_
      refine R_if_le o 41 dX0_takeLine_27 (by decide) ?_ ?_
      · refine R_iload o 4 dX0_takeLine_30 rfl ?_
        refine R_aload_n o 0 dX0_takeLine_32 rfl rfl ?_
        refine R_getI o dX0_takeLine_33 fl_X0_19 ha0 (by decide) rfl ?_
        refine R_icmp_ge o 41 dX0_takeLine_36 (by decide) ?_ ?_
        · refine R_iconst (v := 0) o dX0_takeLine_39 (by decide) ?_
          exact T_some (fun p => rr _ _ false _ dX0_takeLine_40 p)
        · refine R_drop (lv2 := [(0, rA g a0), (1, rA g a1), (2, .int x2), (4, .int v3)]) o [0, 1, 2, 4] rfl ?_
          exact t_X0_takeLine_J41 o rr h a0 a1 x2 v3 ha0 ha1
      · refine R_drop (lv2 := [(0, rA g a0), (1, rA g a1), (2, .int x2), (4, .int v3)]) o [0, 1, 2, 4] rfl ?_
        exact t_X0_takeLine_J41 o rr h a0 a1 x2 v3 ha0 ha1
  · refine R_iconst (v := 0) o dX0_takeLine_39 (by decide) ?_
    exact T_some (fun p => rr _ _ false _ dX0_takeLine_40 p)
theorem c_X0_takeLine (g : Gx) (l : Launch) (h : MH) (a0 : Nat) (a1 : Nat) (x2 : Int32) (x3 : Int32) (ha0 : shp a0 = (0, 0)) (ha1 : shp a1 = (5, 0)) (r : (Bool × MH)) (e : f_X0_takeLine h a0 a1 x2 x3 = some r) : Ctr g l yX0_takeLine cX0_takeLine 7 (some .boolean) 2 42 0 [rA g a0, rA g a1, .int x2, .int x3] h (some (.int (b2i r.1))) r.2 := mkCz (plainFor_of_name (by decide)) (Nat.le_of_ble_eq_true rfl) (fun V Rt o rr p => b_X0_takeLine o rr h a0 a1 x2 x3 ha0 ha1 r e p)
/-! X0_readFrom -/
noncomputable def f_X0_readFrom_J35_18 (h : MH) (a0 : Nat) (a1 : Nat) (x3 : Int32) (s0 : Int32) : Option ((Int32 × Int32 × MH) ⊕ ((Int32 × MH) ⊕ ((Int32 × MH)))) :=
  Option.bind (f_X0_behindLine h a0 a1 s0) (fun r41 => bnd2 (f_X0_takeLine h a0 a1 s0 r41) (fun r50 h50 => (if r50 = true then Option.bind (f_X5_get h50 a1 r41) (fun r60 => (if r60 = 47 then some (.inl (r41, (x3 + 1), h50)) else some (.inr (.inl (r41, h50))))) else some (.inr (.inr (r41, h50))))))
set_option maxRecDepth 100000 in
set_option maxHeartbeats 4000000 in
theorem t_X0_readFrom_J35_18 {g : Gx} {l : Launch} {V : VT} {Rt : Option Value → MH → Prop} (o : Ok g l RX0 cX0_readFrom 5 3 68 0 V) (rr : ORi cX0_readFrom V Rt) (h : MH) (a0 : Nat) (a1 : Nat) (x3 : Int32) (s0 : Int32) (ha0 : shp a0 = (0, 0)) (ha1 : shp a1 = (5, 0)) : T (Sum.elim (fun s => V 18 [(0, rA g a0), (1, rA g a1), (2, .int s.1), (3, .int s.2.1)] [] s.2.2) (Sum.elim (fun b => V 77 [(1, rA g a1), (2, .int b.1)] [] b.2) (fun r => Rt (some (.int r.1)) r.2))) (f_X0_readFrom_J35_18  h a0 a1 x3 s0) (V 35 [(0, rA g a0), (1, rA g a1), (3, .int x3)] [.int s0] h) := by
  unfold f_X0_readFrom_J35_18
  refine R_istore (lv2 := [(0, rA g a0), (1, rA g a1), (3, .int x3), (4, .int s0)]) o dX0_readFrom_35 (by decide) rfl ?_
  refine R_aload_n o 0 dX0_readFrom_37 rfl rfl ?_
  refine R_aload_n o 1 dX0_readFrom_38 rfl rfl ?_
  refine R_iload o 3 dX0_readFrom_39 rfl ?_
  refine K_i (callV' (As := [rA g a1, .int s0]) (rest := []) o dX0_readFrom_41 lk_X0_45 rfl ha0 rfl rfl rfl rfl (Nat.le_of_ble_eq_true rfl)) (c_X0_behindLine g l h a0 a1 s0 ha0 ha1) (fun r41 => ?_)
  refine R_istore_n (lv2 := [(0, rA g a0), (1, rA g a1), (2, .int r41), (3, .int x3), (4, .int s0)]) o dX0_readFrom_44 rfl (by decide) rfl ?_
  refine R_aload_n o 0 dX0_readFrom_45 rfl rfl ?_
  refine R_aload_n o 1 dX0_readFrom_46 rfl rfl ?_
  refine R_iload o 4 dX0_readFrom_47 rfl ?_
  refine R_iload_n o 2 dX0_readFrom_49 rfl rfl ?_
  refine K_zh (callV' (As := [rA g a1, .int s0, .int r41]) (rest := []) o dX0_readFrom_50 lk_X0_48 rfl ha0 rfl rfl rfl rfl (Nat.le_of_ble_eq_true rfl)) (c_X0_takeLine g l h a0 a1 s0 r41 ha0 ha1) (fun r50 h50 => ?_)
  refine R_bif_ne o 58 dX0_readFrom_53 (by decide) ?_ ?_
  · refine R_aload_n o 1 dX0_readFrom_58 rfl rfl ?_
    refine R_iload_n o 2 dX0_readFrom_59 rfl rfl ?_
    refine K_i (callV' (As := [.int r41]) (rest := []) o dX0_readFrom_60 lk_X0_52 rfl ha1 rfl rfl rfl rfl (Nat.le_of_ble_eq_true rfl)) (c_X5_get g l h50 a1 r41 ha1) (fun r60 => ?_)
    refine R_bipush (v := 47) o dX0_readFrom_63 (by decide) ?_
    refine R_icmp_eq o 71 dX0_readFrom_65 (by decide) ?_ ?_
    · refine R_iinc (v := (x3 + 1)) (lv2 := [(0, rA g a0), (1, rA g a1), (2, .int r41), (3, .int (x3 + 1)), (4, .int s0)]) o 3 dX0_readFrom_71 rfl rfl (by decide) rfl ?_
      refine R_goto o 18 dX0_readFrom_74 (by decide) ?_
      refine R_drop (lv2 := [(0, rA g a0), (1, rA g a1), (2, .int r41), (3, .int (x3 + 1))]) o [0, 1, 2, 3] rfl ?_
      exact T_some (fun p => p)
    · refine R_goto o 77 dX0_readFrom_68 (by decide) ?_
      refine R_drop (lv2 := [(1, rA g a1), (2, .int r41)]) o [1, 2] rfl ?_
      exact T_some (fun p => p)
  · refine R_iload_n o 2 dX0_readFrom_56 rfl rfl ?_
    exact T_some (fun p => rr _ _ _ _ dX0_readFrom_57 p)
noncomputable def f_X0_readFrom_B18 (h : MH) (a0 : Nat) (a1 : Nat) (x2 : Int32) (x3 : Int32) : Option ((Int32 × Int32 × MH) ⊕ ((Int32 × MH) ⊕ ((Int32 × MH)))) :=
  (if x3 < 6 then (if x3 = 0 then f_X0_readFrom_J35_18 h a0 a1 x3 x2 else f_X0_readFrom_J35_18 h a0 a1 x3 (x2 + 1)) else some (.inr (.inl (x2, h))))
set_option maxRecDepth 100000 in
set_option maxHeartbeats 4000000 in
theorem t_X0_readFrom_B18 {g : Gx} {l : Launch} {V : VT} {Rt : Option Value → MH → Prop} (o : Ok g l RX0 cX0_readFrom 5 3 68 0 V) (rr : ORi cX0_readFrom V Rt) (h : MH) (a0 : Nat) (a1 : Nat) (x2 : Int32) (x3 : Int32) (ha0 : shp a0 = (0, 0)) (ha1 : shp a1 = (5, 0)) : T (Sum.elim (fun s => V 18 [(0, rA g a0), (1, rA g a1), (2, .int s.1), (3, .int s.2.1)] [] s.2.2) (Sum.elim (fun b => V 77 [(1, rA g a1), (2, .int b.1)] [] b.2) (fun r => Rt (some (.int r.1)) r.2))) (f_X0_readFrom_B18  h a0 a1 x2 x3) (V 18 [(0, rA g a0), (1, rA g a1), (2, .int x2), (3, .int x3)] [] h) := by
  unfold f_X0_readFrom_B18
  refine R_iload_n o 3 dX0_readFrom_18 rfl rfl ?_
  refine R_bipush (v := 6) o dX0_readFrom_19 (by decide) ?_
  refine R_icmp_ge o 77 dX0_readFrom_21 (by decide) ?_ ?_
  · refine R_iload_n o 3 dX0_readFrom_24 rfl rfl ?_
    refine R_if_ne o 32 dX0_readFrom_25 (by decide) ?_ ?_
    · refine R_iload_n o 2 dX0_readFrom_28 rfl rfl ?_
      refine R_goto o 35 dX0_readFrom_29 (by decide) ?_
      refine R_drop (lv2 := [(0, rA g a0), (1, rA g a1), (3, .int x3)]) o [0, 1, 3] rfl ?_
      exact t_X0_readFrom_J35_18 o rr h a0 a1 x3 x2 ha0 ha1
    · refine R_iload_n o 2 dX0_readFrom_32 rfl rfl ?_
      refine R_iconst (v := 1) o dX0_readFrom_33 (by decide) ?_
      refine R_iadd o dX0_readFrom_34 ?_
      refine R_drop (lv2 := [(0, rA g a0), (1, rA g a1), (3, .int x3)]) o [0, 1, 3] rfl ?_
      exact t_X0_readFrom_J35_18 o rr h a0 a1 x3 (x2 + 1) ha0 ha1
  · refine R_drop (lv2 := [(1, rA g a1), (2, .int x2)]) o [1, 2] rfl ?_
    exact T_some (fun p => p)
noncomputable def f_X0_readFrom_L18 (h : MH) (a0 : Nat) (a1 : Nat) (x2 : Int32) (x3 : Int32) : Option ((Int32 × MH) ⊕ ((Int32 × MH))) :=
  lpo (fun s : Int32 × Int32 × MH => f_X0_readFrom_B18 s.2.2 a0 a1 s.1 s.2.1) (x2, x3, h)
theorem t_X0_readFrom_L18 {g : Gx} {l : Launch} {V : VT} {Rt : Option Value → MH → Prop} (o : Ok g l RX0 cX0_readFrom 5 3 68 0 V) (rr : ORi cX0_readFrom V Rt) (h : MH) (a0 : Nat) (a1 : Nat) (x2 : Int32) (x3 : Int32) (ha0 : shp a0 = (0, 0)) (ha1 : shp a1 = (5, 0)) : T (Sum.elim (fun b => V 77 [(1, rA g a1), (2, .int b.1)] [] b.2) (fun r => Rt (some (.int r.1)) r.2)) (f_X0_readFrom_L18 h a0 a1 x2 x3) (V 18 [(0, rA g a0), (1, rA g a1), (2, .int x2), (3, .int x3)] [] h) := T_loop (head := fun s : Int32 × Int32 × MH => V 18 [(0, rA g a0), (1, rA g a1), (2, .int s.1), (3, .int s.2.1)] [] s.2.2) (fun s => t_X0_readFrom_B18 o rr s.2.2 a0 a1 s.1 s.2.1 ha0 ha1) (x2, x3, h)
noncomputable def f_X0_readFrom_J77 (h : MH) (a1 : Nat) (x2 : Int32) : Option (Int32 × MH) :=
  Option.bind (f_X0_behindBlanks h a1 x2) (fun r79 => (if r79 = (h.1 a1 1) then some ((-9), h) else some (r79, h)))
set_option maxRecDepth 100000 in
set_option maxHeartbeats 4000000 in
theorem t_X0_readFrom_J77 {g : Gx} {l : Launch} {V : VT} {Rt : Option Value → MH → Prop} (o : Ok g l RX0 cX0_readFrom 5 3 68 0 V) (rr : ORi cX0_readFrom V Rt) (h : MH) (a1 : Nat) (x2 : Int32) (ha1 : shp a1 = (5, 0)) : T (fun r => Rt (some (.int r.1)) r.2) (f_X0_readFrom_J77  h a1 x2) (V 77 [(1, rA g a1), (2, .int x2)] [] h) := by
  unfold f_X0_readFrom_J77
  refine R_aload_n o 0 dX0_readFrom_77 rfl rfl ?_
  refine R_iload_n o 1 dX0_readFrom_78 rfl rfl ?_
  refine K_i (callS' (av := [rA g a1, .int x2]) (rest := []) o dX0_readFrom_79 lk_X0_41 rfl rfl rfl (Nat.le_of_ble_eq_true rfl)) (c_X0_behindBlanks g l h a1 x2 ha1) (fun r79 => ?_)
  refine R_istore_n (lv2 := [(1, rA g a1), (2, .int r79)]) o dX0_readFrom_82 rfl (by decide) rfl ?_
  refine R_iload_n o 1 dX0_readFrom_83 rfl rfl ?_
  refine R_aload_n o 0 dX0_readFrom_84 rfl rfl ?_
  refine R_getI o dX0_readFrom_85 fl_X0_57 ha1 (by decide) rfl ?_
  refine R_icmp_ne o 96 dX0_readFrom_88 (by decide) ?_ ?_
  · refine R_bipush (v := (-9)) o dX0_readFrom_91 (by decide) ?_
    refine R_goto o 97 dX0_readFrom_93 (by decide) ?_
    exact T_some (fun p => rr _ _ _ _ dX0_readFrom_97 p)
  · refine R_iload_n o 1 dX0_readFrom_96 rfl rfl ?_
    exact T_some (fun p => rr _ _ _ _ dX0_readFrom_97 p)
noncomputable def f_X0_readFrom (h : MH) (a0 : Nat) (a1 : Nat) : Option (Int32 × MH) :=
  nm (uI h a0 1 0) (fun h2 => nm (uI h2 a0 2 0) (fun h7 => Option.bind (f_X0_behindBlanks h7 a1 0) (fun r12 => Option.bind (f_X0_readFrom_L18 h7 a0 a1 r12 0) (Sum.elim (fun b18 => f_X0_readFrom_J77 b18.2 a1 b18.1) (fun r => some r)))))
set_option maxRecDepth 100000 in
set_option maxHeartbeats 4000000 in
theorem b_X0_readFrom {g : Gx} {l : Launch} {V : VT} {Rt : Option Value → MH → Prop} (o : Ok g l RX0 cX0_readFrom 5 3 68 0 V) (rr : ORi cX0_readFrom V Rt) (h : MH) (a0 : Nat) (a1 : Nat) (ha0 : shp a0 = (0, 0)) (ha1 : shp a1 = (5, 0)) : T (fun r => Rt (some (.int r.1)) r.2) (f_X0_readFrom h a0 a1) (V 0 [(0, rA g a0), (1, rA g a1)] [] h) := by
  unfold f_X0_readFrom
  refine R_aload_n o 0 dX0_readFrom_0 rfl rfl ?_
  refine R_iconst (v := 0) o dX0_readFrom_1 (by decide) ?_
  refine R_putI o dX0_readFrom_2 fp_X0_15 ha0 (by decide) rfl ?_
  refine R_nmH (fun h2 => ?_)
  refine R_aload_n o 0 dX0_readFrom_5 rfl rfl ?_
  refine R_iconst (v := 0) o dX0_readFrom_6 (by decide) ?_
  refine R_putI o dX0_readFrom_7 fp_X0_19 ha0 (by decide) rfl ?_
  refine R_nmH (fun h7 => ?_)
  refine R_aload_n o 1 dX0_readFrom_10 rfl rfl ?_
  refine R_iconst (v := 0) o dX0_readFrom_11 (by decide) ?_
  refine K_i (callS' (av := [rA g a1, .int 0]) (rest := []) o dX0_readFrom_12 lk_X0_41 rfl rfl rfl (Nat.le_of_ble_eq_true rfl)) (c_X0_behindBlanks g l h7 a1 0 ha1) (fun r12 => ?_)
  refine R_istore_n (lv2 := [(0, rA g a0), (1, rA g a1), (2, .int r12)]) o dX0_readFrom_15 rfl (by decide) rfl ?_
  refine R_iconst (v := 0) o dX0_readFrom_16 (by decide) ?_
  refine R_istore_n (lv2 := [(0, rA g a0), (1, rA g a1), (2, .int r12), (3, .int 0)]) o dX0_readFrom_17 rfl (by decide) rfl ?_
  refine T_bind2 (t_X0_readFrom_L18 o rr h7 a0 a1 r12 0 ha0 ha1) (fun b18 => ?_) (fun r => ?_)
  · exact t_X0_readFrom_J77 o rr b18.2 a1 b18.1 ha1
  · exact T_some (fun p => p)
theorem c_X0_readFrom (g : Gx) (l : Launch) (h : MH) (a0 : Nat) (a1 : Nat) (ha0 : shp a0 = (0, 0)) (ha1 : shp a1 = (5, 0)) (r : (Int32 × MH)) (e : f_X0_readFrom h a0 a1 = some r) : Ctr g l yX0_readFrom cX0_readFrom 5 (some .int) 3 68 0 [rA g a0, rA g a1] h (some (.int r.1)) r.2 := mkCi (plainFor_of_name (by decide)) (Nat.le_of_ble_eq_true rfl) (fun V Rt o rr p => b_X0_readFrom o rr h a0 a1 ha0 ha1 r e p)
/-! X0_digestFrom -/
noncomputable def f_X0_digestFrom_B40 (h : MH) (a0 : Nat) (l3 : Int64) (x5 : Int32) : Option ((Int64 × Int32) ⊕ (Int64)) :=
  (if x5 < (h.1 a0 1) then Option.bind (f_X0_lineAt h a0 x5) (fun r57 => nm ((31 * l3) + (Int32.toInt64 r57)) (fun v62 => some (.inl (v62, (x5 + 1))))) else some (.inr l3))
set_option maxRecDepth 100000 in
set_option maxHeartbeats 4000000 in
theorem t_X0_digestFrom_B40 {g : Gx} {l : Launch} {V : VT} {Rt : Option Value → MH → Prop} (o : Ok g l RX0 cX0_digestFrom 6 2 42 0 V) (rr : ORl cX0_digestFrom V Rt) (h : MH) (a0 : Nat) (l3 : Int64) (x5 : Int32) (ha0 : shp a0 = (0, 0)) : T (Sum.elim (fun s => V 40 [(0, rA g a0), (3, .long s.1), (5, .int s.2)] [] h) (fun b => V 69 [(3, .long b)] [] h)) (f_X0_digestFrom_B40  h a0 l3 x5) (V 40 [(0, rA g a0), (3, .long l3), (5, .int x5)] [] h) := by
  unfold f_X0_digestFrom_B40
  refine R_iload o 2 dX0_digestFrom_40 rfl ?_
  refine R_aload_n o 0 dX0_digestFrom_42 rfl rfl ?_
  refine R_getI o dX0_digestFrom_43 fl_X0_15 ha0 (by decide) rfl ?_
  refine R_icmp_ge o 69 dX0_digestFrom_46 (by decide) ?_ ?_
  · refine R_ldc2 (v := 31) o dX0_digestFrom_49 kc_X0_65 ?_
    refine R_lload_n o 1 dX0_digestFrom_52 rfl rfl ?_
    refine R_lmul o dX0_digestFrom_53 ?_
    refine R_aload_n o 0 dX0_digestFrom_54 rfl rfl ?_
    refine R_iload o 2 dX0_digestFrom_55 rfl ?_
    refine K_i (callV' (As := [.int x5]) (rest := [.long (31 * l3)]) o dX0_digestFrom_57 lk_X0_31 rfl ha0 rfl rfl rfl rfl (Nat.le_of_ble_eq_true rfl)) (c_X0_lineAt g l h a0 x5 ha0) (fun r57 => ?_)
    refine R_i2l o dX0_digestFrom_60 ?_
    refine R_ladd o dX0_digestFrom_61 ?_
    refine R_nmL (fun v62 => ?_)
    refine R_lstore_n (lv2 := [(0, rA g a0), (3, .long v62), (5, .int x5)]) o dX0_digestFrom_62 rfl (by decide) rfl ?_
    refine R_iinc (v := (x5 + 1)) (lv2 := [(0, rA g a0), (3, .long v62), (5, .int (x5 + 1))]) o 2 dX0_digestFrom_63 rfl rfl (by decide) rfl ?_
    refine R_goto o 40 dX0_digestFrom_66 (by decide) ?_
    exact T_some (fun p => p)
  · refine R_drop (lv2 := [(3, .long l3)]) o [1] rfl ?_
    exact T_some (fun p => p)
noncomputable def f_X0_digestFrom_L40 (h : MH) (a0 : Nat) (l3 : Int64) (x5 : Int32) : Option (Int64) :=
  lpo (fun s : Int64 × Int32 => f_X0_digestFrom_B40 h a0 s.1 s.2) (l3, x5)
theorem t_X0_digestFrom_L40 {g : Gx} {l : Launch} {V : VT} {Rt : Option Value → MH → Prop} (o : Ok g l RX0 cX0_digestFrom 6 2 42 0 V) (rr : ORl cX0_digestFrom V Rt) (h : MH) (a0 : Nat) (l3 : Int64) (x5 : Int32) (ha0 : shp a0 = (0, 0)) : T (fun b => V 69 [(3, .long b)] [] h) (f_X0_digestFrom_L40 h a0 l3 x5) (V 40 [(0, rA g a0), (3, .long l3), (5, .int x5)] [] h) := T_loop (head := fun s : Int64 × Int32 => V 40 [(0, rA g a0), (3, .long s.1), (5, .int s.2)] [] h) (fun s => t_X0_digestFrom_B40 o rr h a0 s.1 s.2 ha0) (l3, x5)
noncomputable def f_X0_digestFrom (h : MH) (a0 : Nat) (l1 : Int64) : Option Int64 :=
  Option.bind (f_X0_isMissing h a0) (fun r1 => (if r1 = true then some ((31 * l1) - 1) else nm ((31 * ((31 * l1) + (Int32.toInt64 (h.1 a0 1)))) + (Int32.toInt64 (h.1 a0 2))) (fun v36 => Option.bind (f_X0_digestFrom_L40 h a0 v36 0) (fun b40 => some b40))))
set_option maxRecDepth 100000 in
set_option maxHeartbeats 4000000 in
theorem b_X0_digestFrom {g : Gx} {l : Launch} {V : VT} {Rt : Option Value → MH → Prop} (o : Ok g l RX0 cX0_digestFrom 6 2 42 0 V) (rr : ORl cX0_digestFrom V Rt) (h : MH) (a0 : Nat) (l1 : Int64) (ha0 : shp a0 = (0, 0)) : T (fun r => Rt (some (.long r)) h) (f_X0_digestFrom h a0 l1) (V 0 [(0, rA g a0), (1, .long l1)] [] h) := by
  unfold f_X0_digestFrom
  refine R_aload_n o 0 dX0_digestFrom_0 rfl rfl ?_
  refine K_z (callV' (As := []) (rest := []) o dX0_digestFrom_1 lk_X0_61 rfl ha0 rfl rfl rfl rfl (Nat.le_of_ble_eq_true rfl)) (c_X0_isMissing g l h a0 ha0) (fun r1 => ?_)
  refine R_bif_eq o 15 dX0_digestFrom_4 (by decide) ?_ ?_
  · refine R_ldc2 (v := 31) o dX0_digestFrom_7 kc_X0_65 ?_
    refine R_lload_n o 1 dX0_digestFrom_10 rfl rfl ?_
    refine R_lmul o dX0_digestFrom_11 ?_
    refine R_lconst (v := 1) o dX0_digestFrom_12 (by decide) ?_
    refine R_lsub o dX0_digestFrom_13 ?_
    exact T_some (fun p => rr _ _ _ _ dX0_digestFrom_14 p)
  · refine R_ldc2 (v := 31) o dX0_digestFrom_15 kc_X0_65 ?_
    refine R_ldc2 (v := 31) o dX0_digestFrom_18 kc_X0_65 ?_
    refine R_lload_n o 1 dX0_digestFrom_21 rfl rfl ?_
    refine R_lmul o dX0_digestFrom_22 ?_
    refine R_aload_n o 0 dX0_digestFrom_23 rfl rfl ?_
    refine R_getI o dX0_digestFrom_24 fl_X0_15 ha0 (by decide) rfl ?_
    refine R_i2l o dX0_digestFrom_27 ?_
    refine R_ladd o dX0_digestFrom_28 ?_
    refine R_lmul o dX0_digestFrom_29 ?_
    refine R_aload_n o 0 dX0_digestFrom_30 rfl rfl ?_
    refine R_getI o dX0_digestFrom_31 fl_X0_19 ha0 (by decide) rfl ?_
    refine R_i2l o dX0_digestFrom_34 ?_
    refine R_ladd o dX0_digestFrom_35 ?_
    refine R_nmL (fun v36 => ?_)
    refine R_lstore_n (lv2 := [(0, rA g a0), (1, .long l1), (3, .long v36)]) o dX0_digestFrom_36 rfl (by decide) rfl ?_
    refine R_iconst (v := 0) o dX0_digestFrom_37 (by decide) ?_
    refine R_istore (lv2 := [(0, rA g a0), (1, .long l1), (3, .long v36), (5, .int 0)]) o dX0_digestFrom_38 (by decide) rfl ?_
    refine R_drop (lv2 := [(0, rA g a0), (3, .long v36), (5, .int 0)]) o [0, 2, 3] rfl ?_
    refine T_bind (t_X0_digestFrom_L40 o rr h a0 v36 0 ha0) (fun b40 => ?_)
    refine R_lload_n o 0 dX0_digestFrom_69 rfl rfl ?_
    exact T_some (fun p => rr _ _ _ _ dX0_digestFrom_70 p)
theorem c_X0_digestFrom (g : Gx) (l : Launch) (h : MH) (a0 : Nat) (l1 : Int64) (ha0 : shp a0 = (0, 0)) (r : Int64) (e : f_X0_digestFrom h a0 l1 = some r) : Ctr g l yX0_digestFrom cX0_digestFrom 6 (some .long) 2 42 0 [rA g a0, .long l1] h (some (.long r)) h := mkCl (plainFor_of_name (by decide)) (Nat.le_of_ble_eq_true rfl) (fun V Rt o rr p => b_X0_digestFrom o rr h a0 l1 ha0 r e p)
/-! X1_isMissing -/
noncomputable def f_X1_isMissing (h : MH) (a0 : Nat) : Option Bool :=
  (if (h.1 a0 3) < 1 then some true else some false)
set_option maxRecDepth 100000 in
set_option maxHeartbeats 4000000 in
theorem b_X1_isMissing {g : Gx} {l : Launch} {V : VT} {Rt : Option Value → MH → Prop} (o : Ok g l RX1 cX1_isMissing 1 0 0 0 V) (rr : ORz cX1_isMissing V Rt) (h : MH) (a0 : Nat) (ha0 : shp a0 = (1, 0)) : T (fun r => Rt (some (.int (b2i r))) h) (f_X1_isMissing h a0) (V 0 [(0, rA g a0)] [] h) := by
  unfold f_X1_isMissing
  refine R_aload_n o 0 dX1_isMissing_0 rfl rfl ?_
  refine R_getI o dX1_isMissing_1 fl_X1_22 ha0 (by decide) rfl ?_
  refine R_iconst (v := 1) o dX1_isMissing_4 (by decide) ?_
  refine R_icmp_ge o 12 dX1_isMissing_5 (by decide) ?_ ?_
  · refine R_iconst (v := 1) o dX1_isMissing_8 (by decide) ?_
    refine R_goto o 13 dX1_isMissing_9 (by decide) ?_
    exact T_some (fun p => rr _ _ true _ dX1_isMissing_13 p)
  · refine R_iconst (v := 0) o dX1_isMissing_12 (by decide) ?_
    exact T_some (fun p => rr _ _ false _ dX1_isMissing_13 p)
theorem c_X1_isMissing (g : Gx) (l : Launch) (h : MH) (a0 : Nat) (ha0 : shp a0 = (1, 0)) (r : Bool) (e : f_X1_isMissing h a0 = some r) : Ctr g l yX1_isMissing cX1_isMissing 1 (some .boolean) 0 0 0 [rA g a0] h (some (.int (b2i r))) h := mkCz (plainFor_of_name (by decide)) (Nat.le_of_ble_eq_true rfl) (fun V Rt o rr p => b_X1_isMissing o rr h a0 ha0 r e p)
/-! X1_has -/
noncomputable def f_X1_has (h : MH) (a0 : Nat) (x1 : Int32) : Option Bool :=
  (if x1 < 0 then some false else (if x1 < (h.1 a0 3) then some true else some false))
set_option maxRecDepth 100000 in
set_option maxHeartbeats 4000000 in
theorem b_X1_has {g : Gx} {l : Launch} {V : VT} {Rt : Option Value → MH → Prop} (o : Ok g l RX1 cX1_has 2 0 0 0 V) (rr : ORz cX1_has V Rt) (h : MH) (a0 : Nat) (x1 : Int32) (ha0 : shp a0 = (1, 0)) : T (fun r => Rt (some (.int (b2i r))) h) (f_X1_has h a0 x1) (V 0 [(0, rA g a0), (1, .int x1)] [] h) := by
  unfold f_X1_has
  refine R_iload_n o 1 dX1_has_0 rfl rfl ?_
  refine R_if_lt o 16 dX1_has_1 (by decide) ?_ ?_
  · refine R_iconst (v := 0) o dX1_has_16 (by decide) ?_
    exact T_some (fun p => rr _ _ false _ dX1_has_17 p)
  · refine R_iload_n o 1 dX1_has_4 rfl rfl ?_
    refine R_aload_n o 0 dX1_has_5 rfl rfl ?_
    refine R_getI o dX1_has_6 fl_X1_22 ha0 (by decide) rfl ?_
    refine R_icmp_ge o 16 dX1_has_9 (by decide) ?_ ?_
    · refine R_iconst (v := 1) o dX1_has_12 (by decide) ?_
      refine R_goto o 17 dX1_has_13 (by decide) ?_
      exact T_some (fun p => rr _ _ true _ dX1_has_17 p)
    · refine R_iconst (v := 0) o dX1_has_16 (by decide) ?_
      exact T_some (fun p => rr _ _ false _ dX1_has_17 p)
theorem c_X1_has (g : Gx) (l : Launch) (h : MH) (a0 : Nat) (x1 : Int32) (ha0 : shp a0 = (1, 0)) (r : Bool) (e : f_X1_has h a0 x1 = some r) : Ctr g l yX1_has cX1_has 2 (some .boolean) 0 0 0 [rA g a0, .int x1] h (some (.int (b2i r))) h := mkCz (plainFor_of_name (by decide)) (Nat.le_of_ble_eq_true rfl) (fun V Rt o rr p => b_X1_has o rr h a0 x1 ha0 r e p)
/-! X1_isOfKind -/
noncomputable def f_X1_isOfKind (h : MH) (a0 : Nat) (x1 : Int32) : Option Bool :=
  (if (h.1 a0 2) = x1 then some true else (if x1 = 1 then (if (h.1 a0 2) = 2 then some true else some false) else some false))
set_option maxRecDepth 100000 in
set_option maxHeartbeats 4000000 in
theorem b_X1_isOfKind {g : Gx} {l : Launch} {V : VT} {Rt : Option Value → MH → Prop} (o : Ok g l RX1 cX1_isOfKind 2 0 0 0 V) (rr : ORz cX1_isOfKind V Rt) (h : MH) (a0 : Nat) (x1 : Int32) (ha0 : shp a0 = (1, 0)) : T (fun r => Rt (some (.int (b2i r))) h) (f_X1_isOfKind h a0 x1) (V 0 [(0, rA g a0), (1, .int x1)] [] h) := by
  unfold f_X1_isOfKind
  refine R_aload_n o 0 dX1_isOfKind_0 rfl rfl ?_
  refine R_getI o dX1_isOfKind_1 fl_X1_18 ha0 (by decide) rfl ?_
  refine R_iload_n o 1 dX1_isOfKind_4 rfl rfl ?_
  refine R_icmp_eq o 21 dX1_isOfKind_5 (by decide) ?_ ?_
  · refine R_iconst (v := 1) o dX1_isOfKind_21 (by decide) ?_
    refine R_goto o 26 dX1_isOfKind_22 (by decide) ?_
    exact T_some (fun p => rr _ _ true _ dX1_isOfKind_26 p)
  · refine R_iload_n o 1 dX1_isOfKind_8 rfl rfl ?_
    refine R_iconst (v := 1) o dX1_isOfKind_9 (by decide) ?_
    refine R_icmp_ne o 25 dX1_isOfKind_10 (by decide) ?_ ?_
    · refine R_aload_n o 0 dX1_isOfKind_13 rfl rfl ?_
      refine R_getI o dX1_isOfKind_14 fl_X1_18 ha0 (by decide) rfl ?_
      refine R_iconst (v := 2) o dX1_isOfKind_17 (by decide) ?_
      refine R_icmp_ne o 25 dX1_isOfKind_18 (by decide) ?_ ?_
      · refine R_iconst (v := 1) o dX1_isOfKind_21 (by decide) ?_
        refine R_goto o 26 dX1_isOfKind_22 (by decide) ?_
        exact T_some (fun p => rr _ _ true _ dX1_isOfKind_26 p)
      · refine R_iconst (v := 0) o dX1_isOfKind_25 (by decide) ?_
        exact T_some (fun p => rr _ _ false _ dX1_isOfKind_26 p)
    · refine R_iconst (v := 0) o dX1_isOfKind_25 (by decide) ?_
      exact T_some (fun p => rr _ _ false _ dX1_isOfKind_26 p)
theorem c_X1_isOfKind (g : Gx) (l : Launch) (h : MH) (a0 : Nat) (x1 : Int32) (ha0 : shp a0 = (1, 0)) (r : Bool) (e : f_X1_isOfKind h a0 x1 = some r) : Ctr g l yX1_isOfKind cX1_isOfKind 2 (some .boolean) 0 0 0 [rA g a0, .int x1] h (some (.int (b2i r))) h := mkCz (plainFor_of_name (by decide)) (Nat.le_of_ble_eq_true rfl) (fun V Rt o rr p => b_X1_isOfKind o rr h a0 x1 ha0 r e p)
/-! X1_lose -/
noncomputable def f_X1_lose (h : MH) (a0 : Nat) : Option MH :=
  nm (uI h a0 3 0) (fun h2 => some h2)
set_option maxRecDepth 100000 in
set_option maxHeartbeats 4000000 in
theorem b_X1_lose {g : Gx} {l : Launch} {V : VT} {Rt : Option Value → MH → Prop} (o : Ok g l RX1 cX1_lose 1 0 0 0 V) (rr : ORv cX1_lose V Rt) (h : MH) (a0 : Nat) (ha0 : shp a0 = (1, 0)) : T (fun r => Rt none r) (f_X1_lose h a0) (V 0 [(0, rA g a0)] [] h) := by
  unfold f_X1_lose
  refine R_aload_n o 0 dX1_lose_0 rfl rfl ?_
  refine R_iconst (v := 0) o dX1_lose_1 (by decide) ?_
  refine R_putI o dX1_lose_2 fp_X1_22 ha0 (by decide) rfl ?_
  refine R_nmH (fun h2 => ?_)
  exact T_some (fun p => rr _ _ _ dX1_lose_5 p)
theorem c_X1_lose (g : Gx) (l : Launch) (h : MH) (a0 : Nat) (ha0 : shp a0 = (1, 0)) (r : MH) (e : f_X1_lose h a0 = some r) : Ctr g l yX1_lose cX1_lose 1 none 0 0 0 [rA g a0] h none r := mkCv (plainFor_of_name (by decide)) (Nat.le_of_ble_eq_true rfl) (fun V Rt o rr p => b_X1_lose o rr h a0 ha0 r e p)
/-! J9_min_7cf53 -/
noncomputable def f_J9_min_7cf53 (x0 : Int32) (x1 : Int32) : Option Int32 :=
  (if x1 < x0 then some x1 else some x0)
set_option maxRecDepth 100000 in
set_option maxHeartbeats 4000000 in
theorem b_J9_min_7cf53 {g : Gx} {l : Launch} {V : VT} {Rt : Option Value → MH → Prop} (o : Ok g l RJ9 cJ9_min_7cf53 2 0 0 0 V) (rr : ORi cJ9_min_7cf53 V Rt) (h : MH) (x0 : Int32) (x1 : Int32) : T (fun r => Rt (some (.int r)) h) (f_J9_min_7cf53  x0 x1) (V 0 [(0, .int x0), (1, .int x1)] [] h) := by
  unfold f_J9_min_7cf53
  refine R_iload_n o 0 dJ9_min_7cf53_0 rfl rfl ?_
  refine R_iload_n o 1 dJ9_min_7cf53_1 rfl rfl ?_
  refine R_icmp_gt o 9 dJ9_min_7cf53_2 (by decide) ?_ ?_
  · refine R_iload_n o 1 dJ9_min_7cf53_9 rfl rfl ?_
    exact T_some (fun p => rr _ _ _ _ dJ9_min_7cf53_10 p)
  · refine R_iload_n o 0 dJ9_min_7cf53_5 rfl rfl ?_
    refine R_goto o 10 dJ9_min_7cf53_6 (by decide) ?_
    exact T_some (fun p => rr _ _ _ _ dJ9_min_7cf53_10 p)
theorem c_J9_min_7cf53 (g : Gx) (l : Launch) (h : MH) (x0 : Int32) (x1 : Int32) (r : Int32) (e : f_J9_min_7cf53  x0 x1 = some r) : Ctr g l yJ9_min_7cf53 cJ9_min_7cf53 2 (some .int) 0 0 0 [.int x0, .int x1] h (some (.int r)) h := mkCi (by decide +kernel) (Nat.le_of_ble_eq_true rfl) (fun V Rt o rr p => b_J9_min_7cf53 o rr h x0 x1  r e p)
/-! J9_max_7cf53 -/
noncomputable def f_J9_max_7cf53 (x0 : Int32) (x1 : Int32) : Option Int32 :=
  (if x0 < x1 then some x1 else some x0)
set_option maxRecDepth 100000 in
set_option maxHeartbeats 4000000 in
theorem b_J9_max_7cf53 {g : Gx} {l : Launch} {V : VT} {Rt : Option Value → MH → Prop} (o : Ok g l RJ9 cJ9_max_7cf53 2 0 0 0 V) (rr : ORi cJ9_max_7cf53 V Rt) (h : MH) (x0 : Int32) (x1 : Int32) : T (fun r => Rt (some (.int r)) h) (f_J9_max_7cf53  x0 x1) (V 0 [(0, .int x0), (1, .int x1)] [] h) := by
  unfold f_J9_max_7cf53
  refine R_iload_n o 0 dJ9_max_7cf53_0 rfl rfl ?_
  refine R_iload_n o 1 dJ9_max_7cf53_1 rfl rfl ?_
  refine R_icmp_lt o 9 dJ9_max_7cf53_2 (by decide) ?_ ?_
  · refine R_iload_n o 1 dJ9_max_7cf53_9 rfl rfl ?_
    exact T_some (fun p => rr _ _ _ _ dJ9_max_7cf53_10 p)
  · refine R_iload_n o 0 dJ9_max_7cf53_5 rfl rfl ?_
    refine R_goto o 10 dJ9_max_7cf53_6 (by decide) ?_
    exact T_some (fun p => rr _ _ _ _ dJ9_max_7cf53_10 p)
theorem c_J9_max_7cf53 (g : Gx) (l : Launch) (h : MH) (x0 : Int32) (x1 : Int32) (r : Int32) (e : f_J9_max_7cf53  x0 x1 = some r) : Ctr g l yJ9_max_7cf53 cJ9_max_7cf53 2 (some .int) 0 0 0 [.int x0, .int x1] h (some (.int r)) h := mkCi (by decide +kernel) (Nat.le_of_ble_eq_true rfl) (fun V Rt o rr p => b_J9_max_7cf53 o rr h x0 x1  r e p)
/-! J7_fill_53178 -/
noncomputable def f_J7_fill_53178_B5 (h : MH) (a0 : Nat) (n0 : Nat) (x1 : Int32) (x2 : Int32) (x3 : Int32) : Option ((Int32 × MH) ⊕ (MH)) :=
  (if x2 < x3 then gd (ix x2 n0) (nm (uI h a0 x2.toNatClampNeg x1) (fun h13 => some (.inl ((x2 + 1), h13)))) else some (.inr h))
set_option maxRecDepth 100000 in
set_option maxHeartbeats 4000000 in
theorem t_J7_fill_53178_B5 {g : Gx} {l : Launch} {V : VT} {Rt : Option Value → MH → Prop} (o : Ok g l RJ7 cJ7_fill_53178 4 0 0 0 V) (rr : ORv cJ7_fill_53178 V Rt) (h : MH) (a0 : Nat) (n0 : Nat) (x1 : Int32) (x2 : Int32) (x3 : Int32) (ha0 : shp a0 = (10, n0)) : T (Sum.elim (fun s => V 5 [(0, rA g a0), (1, .int x1), (2, .int s.1), (3, .int x3)] [] s.2) (fun b => V 20 [] [] b)) (f_J7_fill_53178_B5  h a0 n0 x1 x2 x3) (V 5 [(0, rA g a0), (1, .int x1), (2, .int x2), (3, .int x3)] [] h) := by
  unfold f_J7_fill_53178_B5
  refine R_iload_n o 2 dJ7_fill_53178_5 rfl rfl ?_
  refine R_iload_n o 3 dJ7_fill_53178_6 rfl rfl ?_
  refine R_icmp_ge o 20 dJ7_fill_53178_7 (by decide) ?_ ?_
  · refine R_aload_n o 0 dJ7_fill_53178_10 rfl rfl ?_
    refine R_iload_n o 2 dJ7_fill_53178_11 rfl rfl ?_
    refine R_iload_n o 1 dJ7_fill_53178_12 rfl rfl ?_
    refine R_iast o dJ7_fill_53178_13 ha0 ?_
    refine R_nmH (fun h13 => ?_)
    refine R_iinc (v := (x2 + 1)) (lv2 := [(0, rA g a0), (1, .int x1), (2, .int (x2 + 1)), (3, .int x3)]) o 2 dJ7_fill_53178_14 rfl rfl (by decide) rfl ?_
    refine R_goto o 5 dJ7_fill_53178_17 (by decide) ?_
    exact T_some (fun p => p)
  · refine R_drop (lv2 := []) o [] rfl ?_
    exact T_some (fun p => p)
noncomputable def f_J7_fill_53178_L5 (h : MH) (a0 : Nat) (n0 : Nat) (x1 : Int32) (x2 : Int32) (x3 : Int32) : Option (MH) :=
  lpo (fun s : Int32 × MH => f_J7_fill_53178_B5 s.2 a0 n0 x1 s.1 x3) (x2, h)
theorem t_J7_fill_53178_L5 {g : Gx} {l : Launch} {V : VT} {Rt : Option Value → MH → Prop} (o : Ok g l RJ7 cJ7_fill_53178 4 0 0 0 V) (rr : ORv cJ7_fill_53178 V Rt) (h : MH) (a0 : Nat) (n0 : Nat) (x1 : Int32) (x2 : Int32) (x3 : Int32) (ha0 : shp a0 = (10, n0)) : T (fun b => V 20 [] [] b) (f_J7_fill_53178_L5 h a0 n0 x1 x2 x3) (V 5 [(0, rA g a0), (1, .int x1), (2, .int x2), (3, .int x3)] [] h) := T_loop (head := fun s : Int32 × MH => V 5 [(0, rA g a0), (1, .int x1), (2, .int s.1), (3, .int x3)] [] s.2) (fun s => t_J7_fill_53178_B5 o rr s.2 a0 n0 x1 s.1 x3 ha0) (x2, h)
noncomputable def f_J7_fill_53178 (h : MH) (a0 : Nat) (n0 : Nat) (x1 : Int32) : Option MH :=
  nm (nI n0) (fun v4 => Option.bind (f_J7_fill_53178_L5 h a0 n0 x1 0 v4) (fun b5 => some b5))
set_option maxRecDepth 100000 in
set_option maxHeartbeats 4000000 in
theorem b_J7_fill_53178 {g : Gx} {l : Launch} {V : VT} {Rt : Option Value → MH → Prop} (o : Ok g l RJ7 cJ7_fill_53178 4 0 0 0 V) (rr : ORv cJ7_fill_53178 V Rt) (h : MH) (a0 : Nat) (n0 : Nat) (x1 : Int32) (ha0 : shp a0 = (10, n0)) : T (fun r => Rt none r) (f_J7_fill_53178 h a0 n0 x1) (V 0 [(0, rA g a0), (1, .int x1)] [] h) := by
  unfold f_J7_fill_53178
  refine R_iconst (v := 0) o dJ7_fill_53178_0 (by decide) ?_
  refine R_istore_n (lv2 := [(0, rA g a0), (1, .int x1), (2, .int 0)]) o dJ7_fill_53178_1 rfl (by decide) rfl ?_
  refine R_aload_n o 0 dJ7_fill_53178_2 rfl rfl ?_
  refine R_alenI (v := (nI n0)) o dJ7_fill_53178_3 ha0 (Or.inl rfl) rfl ?_
  refine R_nmI (fun v4 => ?_)
  refine R_istore_n (lv2 := [(0, rA g a0), (1, .int x1), (2, .int 0), (3, .int v4)]) o dJ7_fill_53178_4 rfl (by decide) rfl ?_
  refine T_bind (t_J7_fill_53178_L5 o rr h a0 n0 x1 0 v4 ha0) (fun b5 => ?_)
  exact T_some (fun p => rr _ _ _ dJ7_fill_53178_20 p)
theorem c_J7_fill_53178 (g : Gx) (l : Launch) (h : MH) (a0 : Nat) (n0 : Nat) (x1 : Int32) (ha0 : shp a0 = (10, n0)) (r : MH) (e : f_J7_fill_53178 h a0 n0 x1 = some r) : Ctr g l yJ7_fill_53178 cJ7_fill_53178 4 none 0 0 0 [rA g a0, .int x1] h none r := mkCv (plainFor_of_name (by decide)) (Nat.le_of_ble_eq_true rfl) (fun V Rt o rr p => b_J7_fill_53178 o rr h a0 n0 x1 ha0 r e p)
/-! X1_become -/
noncomputable def f_X1_become (h : MH) (a0 : Nat) (x1 : Int32) (x2 : Int32) (x3 : Int32) : Option MH :=
  nm (uI h a0 2 x1) (fun h2 => nm (uI h2 a0 4 x2) (fun h7 => Option.bind (f_J9_min_7cf53 x3 40) (fun r18 => Option.bind (f_J9_max_7cf53 0 r18) (fun r21 => nm (uI h7 a0 3 r21) (fun h24 => nm (uI h24 a0 5 0) (fun h29 => Option.bind (f_J7_fill_53178 h29 (rf a0 1) 40 0) (fun h37 => some h37)))))))
set_option maxRecDepth 100000 in
set_option maxHeartbeats 4000000 in
theorem b_X1_become {g : Gx} {l : Launch} {V : VT} {Rt : Option Value → MH → Prop} (o : Ok g l RX1 cX1_become 4 1 23 0 V) (rr : ORv cX1_become V Rt) (h : MH) (a0 : Nat) (x1 : Int32) (x2 : Int32) (x3 : Int32) (ha0 : shp a0 = (1, 0)) : T (fun r => Rt none r) (f_X1_become h a0 x1 x2 x3) (V 0 [(0, rA g a0), (1, .int x1), (2, .int x2), (3, .int x3)] [] h) := by
  unfold f_X1_become
  refine R_aload_n o 0 dX1_become_0 rfl rfl ?_
  refine R_iload_n o 1 dX1_become_1 rfl rfl ?_
  refine R_putI o dX1_become_2 fp_X1_18 ha0 (by decide) rfl ?_
  refine R_nmH (fun h2 => ?_)
  refine R_aload_n o 0 dX1_become_5 rfl rfl ?_
  refine R_iload_n o 2 dX1_become_6 rfl rfl ?_
  refine R_putI o dX1_become_7 fp_X1_25 ha0 (by decide) rfl ?_
  refine R_nmH (fun h7 => ?_)
  refine R_aload_n o 0 dX1_become_10 rfl rfl ?_
  refine R_iconst (v := 0) o dX1_become_11 (by decide) ?_
  refine R_iload_n o 3 dX1_become_12 rfl rfl ?_
  refine R_aload_n o 0 dX1_become_13 rfl rfl ?_
  refine R_getR o dX1_become_14 fl_X1_9 ha0 (by decide) rfl rfl ?_
  refine R_alenI (v := 40) o dX1_become_17 (sh_Cover_0 ha0) (Or.inl rfl) rfl ?_
  refine K_i (callS' (av := [.int x3, .int 40]) (rest := [.int 0, rA g a0]) o dX1_become_18 lk_X1_47 rfl rfl rfl (Nat.le_of_ble_eq_true rfl)) (c_J9_min_7cf53 g l h7 x3 40) (fun r18 => ?_)
  refine K_i (callS' (av := [.int 0, .int r18]) (rest := [rA g a0]) o dX1_become_21 lk_X1_53 rfl rfl rfl (Nat.le_of_ble_eq_true rfl)) (c_J9_max_7cf53 g l h7 0 r18) (fun r21 => ?_)
  refine R_putI o dX1_become_24 fp_X1_22 ha0 (by decide) rfl ?_
  refine R_nmH (fun h24 => ?_)
  refine R_aload_n o 0 dX1_become_27 rfl rfl ?_
  refine R_iconst (v := 0) o dX1_become_28 (by decide) ?_
  refine R_putI o dX1_become_29 fp_X1_28 ha0 (by decide) rfl ?_
  refine R_nmH (fun h29 => ?_)
  refine R_aload_n o 0 dX1_become_32 rfl rfl ?_
  refine R_getR o dX1_become_33 fl_X1_15 ha0 (by decide) rfl rfl ?_
  refine R_iconst (v := 0) o dX1_become_36 (by decide) ?_
  refine K_vh (callS' (av := [rA g (rf a0 1), .int 0]) (rest := []) o dX1_become_37 lk_X1_56 rfl rfl rfl (Nat.le_of_ble_eq_true rfl)) (c_J7_fill_53178 g l h29 (rf a0 1) 40 0 (sh_Cover_1 ha0)) (fun h37 => ?_)
  exact T_some (fun p => rr _ _ _ dX1_become_40 p)
theorem c_X1_become (g : Gx) (l : Launch) (h : MH) (a0 : Nat) (x1 : Int32) (x2 : Int32) (x3 : Int32) (ha0 : shp a0 = (1, 0)) (r : MH) (e : f_X1_become h a0 x1 x2 x3 = some r) : Ctr g l yX1_become cX1_become 4 none 1 23 0 [rA g a0, .int x1, .int x2, .int x3] h none r := mkCv (plainFor_of_name (by decide)) (Nat.le_of_ble_eq_true rfl) (fun V Rt o rr p => b_X1_become o rr h a0 x1 x2 x3 ha0 r e p)
/-! X1_renew -/
noncomputable def f_X1_renew (h : MH) (a0 : Nat) (a1 : Nat) (x2 : Int32) (x3 : Int32) : Option MH :=
  gd (acp 0 0 40 60 40) (nm (uA h (rf a0 0) (va_cpy (h.1 (rf a1 0)) (h.1 (rf a0 0)) (0 : Int32).toNatClampNeg (0 : Int32).toNatClampNeg (40 : Int32).toNatClampNeg)) (fun h15 => Option.bind (f_X1_become h15 a0 x2 x3 (h15.1 a1 1)) (fun h25 => some h25)))
set_option maxRecDepth 100000 in
set_option maxHeartbeats 4000000 in
theorem b_X1_renew {g : Gx} {l : Launch} {V : VT} {Rt : Option Value → MH → Prop} (o : Ok g l RX1 cX1_renew 4 2 46 0 V) (rr : ORv cX1_renew V Rt) (h : MH) (a0 : Nat) (a1 : Nat) (x2 : Int32) (x3 : Int32) (ha0 : shp a0 = (1, 0)) (ha1 : shp a1 = (5, 0)) : T (fun r => Rt none r) (f_X1_renew h a0 a1 x2 x3) (V 0 [(0, rA g a0), (1, rA g a1), (2, .int x2), (3, .int x3)] [] h) := by
  unfold f_X1_renew
  refine R_aload_n o 1 dX1_renew_0 rfl rfl ?_
  refine R_getR o dX1_renew_1 fl_X1_31 ha1 (by decide) rfl rfl ?_
  refine R_iconst (v := 0) o dX1_renew_4 (by decide) ?_
  refine R_aload_n o 0 dX1_renew_5 rfl rfl ?_
  refine R_getR o dX1_renew_6 fl_X1_9 ha0 (by decide) rfl rfl ?_
  refine R_iconst (v := 0) o dX1_renew_9 (by decide) ?_
  refine R_aload_n o 0 dX1_renew_10 rfl rfl ?_
  refine R_getR o dX1_renew_11 fl_X1_9 ha0 (by decide) rfl rfl ?_
  refine R_alenI (v := 40) o dX1_renew_14 (sh_Cover_0 ha0) (Or.inl rfl) rfl ?_
  refine R_acopy o dX1_renew_15 la_X1_36 (sh_Row_0 ha1) (sh_Cover_0 ha0) (by decide) ?_
  refine R_nmH (fun h15 => ?_)
  refine R_aload_n o 0 dX1_renew_18 rfl rfl ?_
  refine R_iload_n o 2 dX1_renew_19 rfl rfl ?_
  refine R_iload_n o 3 dX1_renew_20 rfl rfl ?_
  refine R_aload_n o 1 dX1_renew_21 rfl rfl ?_
  refine R_getI o dX1_renew_22 fl_X1_42 ha1 (by decide) rfl ?_
  refine K_vh (callV' (As := [.int x2, .int x3, .int (h15.1 a1 1)]) (rest := []) o dX1_renew_25 lk_X1_43 rfl ha0 rfl rfl rfl rfl (Nat.le_of_ble_eq_true rfl)) (c_X1_become g l h15 a0 x2 x3 (h15.1 a1 1) ha0) (fun h25 => ?_)
  exact T_some (fun p => rr _ _ _ dX1_renew_28 p)
theorem c_X1_renew (g : Gx) (l : Launch) (h : MH) (a0 : Nat) (a1 : Nat) (x2 : Int32) (x3 : Int32) (ha0 : shp a0 = (1, 0)) (ha1 : shp a1 = (5, 0)) (r : MH) (e : f_X1_renew h a0 a1 x2 x3 = some r) : Ctr g l yX1_renew cX1_renew 4 none 2 46 0 [rA g a0, rA g a1, .int x2, .int x3] h none r := mkCv (plainFor_of_name (by decide)) (Nat.le_of_ble_eq_true rfl) (fun V Rt o rr p => b_X1_renew o rr h a0 a1 x2 x3 ha0 ha1 r e p)
/-! X1_takeChoices -/
noncomputable def f_X1_takeChoices (h : MH) (a0 : Nat) (a1 : Nat) : Option MH :=
  gd (acp 0 0 40 60 40) (nm (uA h (rf a0 1) (va_cpy (h.1 (rf a1 0)) (h.1 (rf a0 1)) (0 : Int32).toNatClampNeg (0 : Int32).toNatClampNeg (40 : Int32).toNatClampNeg)) (fun h15 => some h15))
set_option maxRecDepth 100000 in
set_option maxHeartbeats 4000000 in
theorem b_X1_takeChoices {g : Gx} {l : Launch} {V : VT} {Rt : Option Value → MH → Prop} (o : Ok g l RX1 cX1_takeChoices 2 1 26 0 V) (rr : ORv cX1_takeChoices V Rt) (h : MH) (a0 : Nat) (a1 : Nat) (ha0 : shp a0 = (1, 0)) (ha1 : shp a1 = (5, 0)) : T (fun r => Rt none r) (f_X1_takeChoices h a0 a1) (V 0 [(0, rA g a0), (1, rA g a1)] [] h) := by
  unfold f_X1_takeChoices
  refine R_aload_n o 1 dX1_takeChoices_0 rfl rfl ?_
  refine R_getR o dX1_takeChoices_1 fl_X1_31 ha1 (by decide) rfl rfl ?_
  refine R_iconst (v := 0) o dX1_takeChoices_4 (by decide) ?_
  refine R_aload_n o 0 dX1_takeChoices_5 rfl rfl ?_
  refine R_getR o dX1_takeChoices_6 fl_X1_15 ha0 (by decide) rfl rfl ?_
  refine R_iconst (v := 0) o dX1_takeChoices_9 (by decide) ?_
  refine R_aload_n o 0 dX1_takeChoices_10 rfl rfl ?_
  refine R_getR o dX1_takeChoices_11 fl_X1_15 ha0 (by decide) rfl rfl ?_
  refine R_alenI (v := 40) o dX1_takeChoices_14 (sh_Cover_1 ha0) (Or.inl rfl) rfl ?_
  refine R_acopy o dX1_takeChoices_15 la_X1_36 (sh_Row_0 ha1) (sh_Cover_1 ha0) (by decide) ?_
  refine R_nmH (fun h15 => ?_)
  exact T_some (fun p => rr _ _ _ dX1_takeChoices_18 p)
theorem c_X1_takeChoices (g : Gx) (l : Launch) (h : MH) (a0 : Nat) (a1 : Nat) (ha0 : shp a0 = (1, 0)) (ha1 : shp a1 = (5, 0)) (r : MH) (e : f_X1_takeChoices h a0 a1 = some r) : Ctr g l yX1_takeChoices cX1_takeChoices 2 none 1 26 0 [rA g a0, rA g a1] h none r := mkCv (plainFor_of_name (by decide)) (Nat.le_of_ble_eq_true rfl) (fun V Rt o rr p => b_X1_takeChoices o rr h a0 a1 ha0 ha1 r e p)
/-! X1_takeSpan -/
noncomputable def f_X1_takeSpan (h : MH) (a0 : Nat) (a1 : Nat) (x2 : Int32) (x3 : Int32) : Option MH :=
  (if x2 < 0 then some h else (if x3 < 1 then some h else (if (h.1 a1 3) < x3 then some h else (if ((h.1 a1 3) - x3) < x2 then some h else gd (acp x2 0 x3 40 40) (nm (uA h (rf a0 0) (va_cpy (h.1 (rf a1 0)) (h.1 (rf a0 0)) x2.toNatClampNeg (0 : Int32).toNatClampNeg x3.toNatClampNeg)) (fun h39 => Option.bind (f_X1_become h39 a0 0 0 x3) (fun h46 => some h46)))))))
set_option maxRecDepth 100000 in
set_option maxHeartbeats 4000000 in
theorem b_X1_takeSpan {g : Gx} {l : Launch} {V : VT} {Rt : Option Value → MH → Prop} (o : Ok g l RX1 cX1_takeSpan 4 2 46 0 V) (rr : ORv cX1_takeSpan V Rt) (h : MH) (a0 : Nat) (a1 : Nat) (x2 : Int32) (x3 : Int32) (ha0 : shp a0 = (1, 0)) (ha1 : shp a1 = (1, 0)) : T (fun r => Rt none r) (f_X1_takeSpan h a0 a1 x2 x3) (V 0 [(0, rA g a0), (1, rA g a1), (2, .int x2), (3, .int x3)] [] h) := by
  unfold f_X1_takeSpan
  refine R_iload_n o 2 dX1_takeSpan_0 rfl rfl ?_
  refine R_if_lt o 27 dX1_takeSpan_1 (by decide) ?_ ?_
  · exact T_some (fun p => rr _ _ _ dX1_takeSpan_27 p)
  · refine R_iload_n o 3 dX1_takeSpan_4 rfl rfl ?_
    refine R_iconst (v := 1) o dX1_takeSpan_5 (by decide) ?_
    refine R_icmp_lt o 27 dX1_takeSpan_6 (by decide) ?_ ?_
    · exact T_some (fun p => rr _ _ _ dX1_takeSpan_27 p)
    · refine R_iload_n o 3 dX1_takeSpan_9 rfl rfl ?_
      refine R_aload_n o 1 dX1_takeSpan_10 rfl rfl ?_
      refine R_getI o dX1_takeSpan_11 fl_X1_22 ha1 (by decide) rfl ?_
      refine R_icmp_gt o 27 dX1_takeSpan_14 (by decide) ?_ ?_
      · exact T_some (fun p => rr _ _ _ dX1_takeSpan_27 p)
      · refine R_iload_n o 2 dX1_takeSpan_17 rfl rfl ?_
        refine R_aload_n o 1 dX1_takeSpan_18 rfl rfl ?_
        refine R_getI o dX1_takeSpan_19 fl_X1_22 ha1 (by decide) rfl ?_
        refine R_iload_n o 3 dX1_takeSpan_22 rfl rfl ?_
        refine R_isub o dX1_takeSpan_23 ?_
        refine R_icmp_le o 28 dX1_takeSpan_24 (by decide) ?_ ?_
        · exact T_some (fun p => rr _ _ _ dX1_takeSpan_27 p)
        · refine R_aload_n o 1 dX1_takeSpan_28 rfl rfl ?_
          refine R_getR o dX1_takeSpan_29 fl_X1_9 ha1 (by decide) rfl rfl ?_
          refine R_iload_n o 2 dX1_takeSpan_32 rfl rfl ?_
          refine R_aload_n o 0 dX1_takeSpan_33 rfl rfl ?_
          refine R_getR o dX1_takeSpan_34 fl_X1_9 ha0 (by decide) rfl rfl ?_
          refine R_iconst (v := 0) o dX1_takeSpan_37 (by decide) ?_
          refine R_iload_n o 3 dX1_takeSpan_38 rfl rfl ?_
          refine R_acopy o dX1_takeSpan_39 la_X1_36 (sh_Cover_0 ha1) (sh_Cover_0 ha0) (by decide) ?_
          refine R_nmH (fun h39 => ?_)
          refine R_aload_n o 0 dX1_takeSpan_42 rfl rfl ?_
          refine R_iconst (v := 0) o dX1_takeSpan_43 (by decide) ?_
          refine R_iconst (v := 0) o dX1_takeSpan_44 (by decide) ?_
          refine R_iload_n o 3 dX1_takeSpan_45 rfl rfl ?_
          refine K_vh (callV' (As := [.int 0, .int 0, .int x3]) (rest := []) o dX1_takeSpan_46 lk_X1_43 rfl ha0 rfl rfl rfl rfl (Nat.le_of_ble_eq_true rfl)) (c_X1_become g l h39 a0 0 0 x3 ha0) (fun h46 => ?_)
          exact T_some (fun p => rr _ _ _ dX1_takeSpan_49 p)
theorem c_X1_takeSpan (g : Gx) (l : Launch) (h : MH) (a0 : Nat) (a1 : Nat) (x2 : Int32) (x3 : Int32) (ha0 : shp a0 = (1, 0)) (ha1 : shp a1 = (1, 0)) (r : MH) (e : f_X1_takeSpan h a0 a1 x2 x3 = some r) : Ctr g l yX1_takeSpan cX1_takeSpan 4 none 2 46 0 [rA g a0, rA g a1, .int x2, .int x3] h none r := mkCv (plainFor_of_name (by decide)) (Nat.le_of_ble_eq_true rfl) (fun V Rt o rr p => b_X1_takeSpan o rr h a0 a1 x2 x3 ha0 ha1 r e p)
/-! X1_dotAt -/
noncomputable def f_X1_dotAt (h : MH) (a0 : Nat) (x1 : Int32) : Option Int32 :=
  Option.bind (f_X1_has h a0 x1) (fun r2 => (if r2 = true then gd (ix x1 40) (some (h.1 (rf a0 0) x1.toNatClampNeg)) else some 0))
set_option maxRecDepth 100000 in
set_option maxHeartbeats 4000000 in
theorem b_X1_dotAt {g : Gx} {l : Launch} {V : VT} {Rt : Option Value → MH → Prop} (o : Ok g l RX1 cX1_dotAt 2 1 21 0 V) (rr : ORi cX1_dotAt V Rt) (h : MH) (a0 : Nat) (x1 : Int32) (ha0 : shp a0 = (1, 0)) : T (fun r => Rt (some (.int r)) h) (f_X1_dotAt h a0 x1) (V 0 [(0, rA g a0), (1, .int x1)] [] h) := by
  unfold f_X1_dotAt
  refine R_aload_n o 0 dX1_dotAt_0 rfl rfl ?_
  refine R_iload_n o 1 dX1_dotAt_1 rfl rfl ?_
  refine K_z (callV' (As := [.int x1]) (rest := []) o dX1_dotAt_2 lk_X1_62 rfl ha0 rfl rfl rfl rfl (Nat.le_of_ble_eq_true rfl)) (c_X1_has g l h a0 x1 ha0) (fun r2 => ?_)
  refine R_bif_eq o 17 dX1_dotAt_5 (by decide) ?_ ?_
  · refine R_aload_n o 0 dX1_dotAt_8 rfl rfl ?_
    refine R_getR o dX1_dotAt_9 fl_X1_9 ha0 (by decide) rfl rfl ?_
    refine R_iload_n o 1 dX1_dotAt_12 rfl rfl ?_
    refine R_iald o dX1_dotAt_13 (sh_Cover_0 ha0) ?_
    refine R_goto o 18 dX1_dotAt_14 (by decide) ?_
    exact T_some (fun p => rr _ _ _ _ dX1_dotAt_18 p)
  · refine R_iconst (v := 0) o dX1_dotAt_17 (by decide) ?_
    exact T_some (fun p => rr _ _ _ _ dX1_dotAt_18 p)
theorem c_X1_dotAt (g : Gx) (l : Launch) (h : MH) (a0 : Nat) (x1 : Int32) (ha0 : shp a0 = (1, 0)) (r : Int32) (e : f_X1_dotAt h a0 x1 = some r) : Ctr g l yX1_dotAt cX1_dotAt 2 (some .int) 1 21 0 [rA g a0, .int x1] h (some (.int r)) h := mkCi (plainFor_of_name (by decide)) (Nat.le_of_ble_eq_true rfl) (fun V Rt o rr p => b_X1_dotAt o rr h a0 x1 ha0 r e p)
/-! X1_setDot -/
noncomputable def f_X1_setDot (h : MH) (a0 : Nat) (x1 : Int32) (x2 : Int32) : Option MH :=
  Option.bind (f_X1_has h a0 x1) (fun r2 => (if r2 = true then gd (ix x1 40) (nm (uI h (rf a0 0) x1.toNatClampNeg x2) (fun h14 => some h14)) else some h))
set_option maxRecDepth 100000 in
set_option maxHeartbeats 4000000 in
theorem b_X1_setDot {g : Gx} {l : Launch} {V : VT} {Rt : Option Value → MH → Prop} (o : Ok g l RX1 cX1_setDot 3 1 21 0 V) (rr : ORv cX1_setDot V Rt) (h : MH) (a0 : Nat) (x1 : Int32) (x2 : Int32) (ha0 : shp a0 = (1, 0)) : T (fun r => Rt none r) (f_X1_setDot h a0 x1 x2) (V 0 [(0, rA g a0), (1, .int x1), (2, .int x2)] [] h) := by
  unfold f_X1_setDot
  refine R_aload_n o 0 dX1_setDot_0 rfl rfl ?_
  refine R_iload_n o 1 dX1_setDot_1 rfl rfl ?_
  refine K_z (callV' (As := [.int x1]) (rest := []) o dX1_setDot_2 lk_X1_62 rfl ha0 rfl rfl rfl rfl (Nat.le_of_ble_eq_true rfl)) (c_X1_has g l h a0 x1 ha0) (fun r2 => ?_)
  refine R_bif_eq o 15 dX1_setDot_5 (by decide) ?_ ?_
  · refine R_aload_n o 0 dX1_setDot_8 rfl rfl ?_
    refine R_getR o dX1_setDot_9 fl_X1_9 ha0 (by decide) rfl rfl ?_
    refine R_iload_n o 1 dX1_setDot_12 rfl rfl ?_
    refine R_iload_n o 2 dX1_setDot_13 rfl rfl ?_
    refine R_iast o dX1_setDot_14 (sh_Cover_0 ha0) ?_
    refine R_nmH (fun h14 => ?_)
    exact T_some (fun p => rr _ _ _ dX1_setDot_15 p)
  · exact T_some (fun p => rr _ _ _ dX1_setDot_15 p)
theorem c_X1_setDot (g : Gx) (l : Launch) (h : MH) (a0 : Nat) (x1 : Int32) (x2 : Int32) (ha0 : shp a0 = (1, 0)) (r : MH) (e : f_X1_setDot h a0 x1 x2 = some r) : Ctr g l yX1_setDot cX1_setDot 3 none 1 21 0 [rA g a0, .int x1, .int x2] h none r := mkCv (plainFor_of_name (by decide)) (Nat.le_of_ble_eq_true rfl) (fun V Rt o rr p => b_X1_setDot o rr h a0 x1 x2 ha0 r e p)
/-! X1_choicesAt -/
noncomputable def f_X1_choicesAt (h : MH) (a0 : Nat) (x1 : Int32) : Option Int32 :=
  Option.bind (f_X1_has h a0 x1) (fun r2 => (if r2 = true then gd (ix x1 40) (some (h.1 (rf a0 1) x1.toNatClampNeg)) else some 0))
set_option maxRecDepth 100000 in
set_option maxHeartbeats 4000000 in
theorem b_X1_choicesAt {g : Gx} {l : Launch} {V : VT} {Rt : Option Value → MH → Prop} (o : Ok g l RX1 cX1_choicesAt 2 1 21 0 V) (rr : ORi cX1_choicesAt V Rt) (h : MH) (a0 : Nat) (x1 : Int32) (ha0 : shp a0 = (1, 0)) : T (fun r => Rt (some (.int r)) h) (f_X1_choicesAt h a0 x1) (V 0 [(0, rA g a0), (1, .int x1)] [] h) := by
  unfold f_X1_choicesAt
  refine R_aload_n o 0 dX1_choicesAt_0 rfl rfl ?_
  refine R_iload_n o 1 dX1_choicesAt_1 rfl rfl ?_
  refine K_z (callV' (As := [.int x1]) (rest := []) o dX1_choicesAt_2 lk_X1_62 rfl ha0 rfl rfl rfl rfl (Nat.le_of_ble_eq_true rfl)) (c_X1_has g l h a0 x1 ha0) (fun r2 => ?_)
  refine R_bif_eq o 17 dX1_choicesAt_5 (by decide) ?_ ?_
  · refine R_aload_n o 0 dX1_choicesAt_8 rfl rfl ?_
    refine R_getR o dX1_choicesAt_9 fl_X1_15 ha0 (by decide) rfl rfl ?_
    refine R_iload_n o 1 dX1_choicesAt_12 rfl rfl ?_
    refine R_iald o dX1_choicesAt_13 (sh_Cover_1 ha0) ?_
    refine R_goto o 18 dX1_choicesAt_14 (by decide) ?_
    exact T_some (fun p => rr _ _ _ _ dX1_choicesAt_18 p)
  · refine R_iconst (v := 0) o dX1_choicesAt_17 (by decide) ?_
    exact T_some (fun p => rr _ _ _ _ dX1_choicesAt_18 p)
theorem c_X1_choicesAt (g : Gx) (l : Launch) (h : MH) (a0 : Nat) (x1 : Int32) (ha0 : shp a0 = (1, 0)) (r : Int32) (e : f_X1_choicesAt h a0 x1 = some r) : Ctr g l yX1_choicesAt cX1_choicesAt 2 (some .int) 1 21 0 [rA g a0, .int x1] h (some (.int r)) h := mkCi (plainFor_of_name (by decide)) (Nat.le_of_ble_eq_true rfl) (fun V Rt o rr p => b_X1_choicesAt o rr h a0 x1 ha0 r e p)
/-! X1_bitAt -/
noncomputable def f_X1_bitAt (h : MH) (a0 : Nat) (x1 : Int32) : Option Int32 :=
  (if (h.1 a0 2) = 2 then Option.bind (f_X1_dotAt h a0 x1) (fun r10 => some ((shr r10 1) &&& 1)) else Option.bind (f_X1_dotAt h a0 x1) (fun r22 => some (r22 &&& 1)))
set_option maxRecDepth 100000 in
set_option maxHeartbeats 4000000 in
theorem b_X1_bitAt {g : Gx} {l : Launch} {V : VT} {Rt : Option Value → MH → Prop} (o : Ok g l RX1 cX1_bitAt 2 2 42 0 V) (rr : ORi cX1_bitAt V Rt) (h : MH) (a0 : Nat) (x1 : Int32) (ha0 : shp a0 = (1, 0)) : T (fun r => Rt (some (.int r)) h) (f_X1_bitAt h a0 x1) (V 0 [(0, rA g a0), (1, .int x1)] [] h) := by
  unfold f_X1_bitAt
  refine R_aload_n o 0 dX1_bitAt_0 rfl rfl ?_
  refine R_getI o dX1_bitAt_1 fl_X1_18 ha0 (by decide) rfl ?_
  refine R_iconst (v := 2) o dX1_bitAt_4 (by decide) ?_
  refine R_icmp_ne o 20 dX1_bitAt_5 (by decide) ?_ ?_
  · refine R_aload_n o 0 dX1_bitAt_8 rfl rfl ?_
    refine R_iload_n o 1 dX1_bitAt_9 rfl rfl ?_
    refine K_i (callV' (As := [.int x1]) (rest := []) o dX1_bitAt_10 lk_X1_66 rfl ha0 rfl rfl rfl rfl (Nat.le_of_ble_eq_true rfl)) (c_X1_dotAt g l h a0 x1 ha0) (fun r10 => ?_)
    refine R_iconst (v := 1) o dX1_bitAt_13 (by decide) ?_
    refine R_ishr o dX1_bitAt_14 ?_
    refine R_iconst (v := 1) o dX1_bitAt_15 (by decide) ?_
    refine R_iand o dX1_bitAt_16 ?_
    refine R_goto o 27 dX1_bitAt_17 (by decide) ?_
    exact T_some (fun p => rr _ _ _ _ dX1_bitAt_27 p)
  · refine R_aload_n o 0 dX1_bitAt_20 rfl rfl ?_
    refine R_iload_n o 1 dX1_bitAt_21 rfl rfl ?_
    refine K_i (callV' (As := [.int x1]) (rest := []) o dX1_bitAt_22 lk_X1_66 rfl ha0 rfl rfl rfl rfl (Nat.le_of_ble_eq_true rfl)) (c_X1_dotAt g l h a0 x1 ha0) (fun r22 => ?_)
    refine R_iconst (v := 1) o dX1_bitAt_25 (by decide) ?_
    refine R_iand o dX1_bitAt_26 ?_
    exact T_some (fun p => rr _ _ _ _ dX1_bitAt_27 p)
theorem c_X1_bitAt (g : Gx) (l : Launch) (h : MH) (a0 : Nat) (x1 : Int32) (ha0 : shp a0 = (1, 0)) (r : Int32) (e : f_X1_bitAt h a0 x1 = some r) : Ctr g l yX1_bitAt cX1_bitAt 2 (some .int) 2 42 0 [rA g a0, .int x1] h (some (.int r)) h := mkCi (plainFor_of_name (by decide)) (Nat.le_of_ble_eq_true rfl) (fun V Rt o rr p => b_X1_bitAt o rr h a0 x1 ha0 r e p)
/-! X1_flippedAt -/
noncomputable def f_X1_flippedAt (h : MH) (a0 : Nat) (x1 : Int32) : Option Int32 :=
  Option.bind (f_X1_dotAt h a0 x1) (fun r2 => (if (h.1 a0 2) = 2 then some (r2 ^^^ 2) else (if (h.1 a0 2) = 3 then Option.bind (f_X1_choicesAt h a0 x1) (fun r32 => (if r32 < 2 then some r2 else Option.bind (f_X1_choicesAt h a0 x1) (fun r46 => (if (r2 + 1) < r46 then some (r2 + 1) else some (r2 - 1))))) else some (r2 ^^^ 1))))
set_option maxRecDepth 100000 in
set_option maxHeartbeats 4000000 in
theorem b_X1_flippedAt {g : Gx} {l : Launch} {V : VT} {Rt : Option Value → MH → Prop} (o : Ok g l RX1 cX1_flippedAt 3 2 42 0 V) (rr : ORi cX1_flippedAt V Rt) (h : MH) (a0 : Nat) (x1 : Int32) (ha0 : shp a0 = (1, 0)) : T (fun r => Rt (some (.int r)) h) (f_X1_flippedAt h a0 x1) (V 0 [(0, rA g a0), (1, .int x1)] [] h) := by
  unfold f_X1_flippedAt
  refine R_aload_n o 0 dX1_flippedAt_0 rfl rfl ?_
  refine R_iload_n o 1 dX1_flippedAt_1 rfl rfl ?_
  refine K_i (callV' (As := [.int x1]) (rest := []) o dX1_flippedAt_2 lk_X1_66 rfl ha0 rfl rfl rfl rfl (Nat.le_of_ble_eq_true rfl)) (c_X1_dotAt g l h a0 x1 ha0) (fun r2 => ?_)
  refine R_istore_n (lv2 := [(0, rA g a0), (1, .int x1), (2, .int r2)]) o dX1_flippedAt_5 rfl (by decide) rfl ?_
  refine R_aload_n o 0 dX1_flippedAt_6 rfl rfl ?_
  refine R_getI o dX1_flippedAt_7 fl_X1_18 ha0 (by decide) rfl ?_
  refine R_iconst (v := 2) o dX1_flippedAt_10 (by decide) ?_
  refine R_icmp_ne o 18 dX1_flippedAt_11 (by decide) ?_ ?_
  · refine R_iload_n o 2 dX1_flippedAt_14 rfl rfl ?_
    refine R_iconst (v := 2) o dX1_flippedAt_15 (by decide) ?_
    refine R_ixor o dX1_flippedAt_16 ?_
    exact T_some (fun p => rr _ _ _ _ dX1_flippedAt_17 p)
  · refine R_aload_n o 0 dX1_flippedAt_18 rfl rfl ?_
    refine R_getI o dX1_flippedAt_19 fl_X1_18 ha0 (by decide) rfl ?_
    refine R_iconst (v := 3) o dX1_flippedAt_22 (by decide) ?_
    refine R_icmp_eq o 30 dX1_flippedAt_23 (by decide) ?_ ?_
    · refine R_aload_n o 0 dX1_flippedAt_30 rfl rfl ?_
      refine R_iload_n o 1 dX1_flippedAt_31 rfl rfl ?_
      refine K_i (callV' (As := [.int x1]) (rest := []) o dX1_flippedAt_32 lk_X1_70 rfl ha0 rfl rfl rfl rfl (Nat.le_of_ble_eq_true rfl)) (c_X1_choicesAt g l h a0 x1 ha0) (fun r32 => ?_)
      refine R_iconst (v := 2) o dX1_flippedAt_35 (by decide) ?_
      refine R_icmp_ge o 41 dX1_flippedAt_36 (by decide) ?_ ?_
      · refine R_iload_n o 2 dX1_flippedAt_39 rfl rfl ?_
        exact T_some (fun p => rr _ _ _ _ dX1_flippedAt_40 p)
      · refine R_iload_n o 2 dX1_flippedAt_41 rfl rfl ?_
        refine R_iconst (v := 1) o dX1_flippedAt_42 (by decide) ?_
        refine R_iadd o dX1_flippedAt_43 ?_
        refine R_aload_n o 0 dX1_flippedAt_44 rfl rfl ?_
        refine R_iload_n o 1 dX1_flippedAt_45 rfl rfl ?_
        refine K_i (callV' (As := [.int x1]) (rest := [.int (r2 + 1)]) o dX1_flippedAt_46 lk_X1_70 rfl ha0 rfl rfl rfl rfl (Nat.le_of_ble_eq_true rfl)) (c_X1_choicesAt g l h a0 x1 ha0) (fun r46 => ?_)
        refine R_icmp_ge o 58 dX1_flippedAt_49 (by decide) ?_ ?_
        · refine R_iload_n o 2 dX1_flippedAt_52 rfl rfl ?_
          refine R_iconst (v := 1) o dX1_flippedAt_53 (by decide) ?_
          refine R_iadd o dX1_flippedAt_54 ?_
          refine R_goto o 61 dX1_flippedAt_55 (by decide) ?_
          exact T_some (fun p => rr _ _ _ _ dX1_flippedAt_61 p)
        · refine R_iload_n o 2 dX1_flippedAt_58 rfl rfl ?_
          refine R_iconst (v := 1) o dX1_flippedAt_59 (by decide) ?_
          refine R_isub o dX1_flippedAt_60 ?_
          exact T_some (fun p => rr _ _ _ _ dX1_flippedAt_61 p)
    · refine R_iload_n o 2 dX1_flippedAt_26 rfl rfl ?_
      refine R_iconst (v := 1) o dX1_flippedAt_27 (by decide) ?_
      refine R_ixor o dX1_flippedAt_28 ?_
      exact T_some (fun p => rr _ _ _ _ dX1_flippedAt_29 p)
theorem c_X1_flippedAt (g : Gx) (l : Launch) (h : MH) (a0 : Nat) (x1 : Int32) (ha0 : shp a0 = (1, 0)) (r : Int32) (e : f_X1_flippedAt h a0 x1 = some r) : Ctr g l yX1_flippedAt cX1_flippedAt 3 (some .int) 2 42 0 [rA g a0, .int x1] h (some (.int r)) h := mkCi (plainFor_of_name (by decide)) (Nat.le_of_ble_eq_true rfl) (fun V Rt o rr p => b_X1_flippedAt o rr h a0 x1 ha0 r e p)
/-! X1_isWet -/
noncomputable def f_X1_isWet_J27 (h : MH) (a0 : Nat) (x1 : Int32) : Option Bool :=
  (if x1 < 0 then some false else (if 30 < x1 then some false else (if ((shr (h.1 a0 5) x1) &&& 1) = 0 then some false else some true)))
set_option maxRecDepth 100000 in
set_option maxHeartbeats 4000000 in
theorem t_X1_isWet_J27 {g : Gx} {l : Launch} {V : VT} {Rt : Option Value → MH → Prop} (o : Ok g l RX1 cX1_isWet 2 2 42 0 V) (rr : ORz cX1_isWet V Rt) (h : MH) (a0 : Nat) (x1 : Int32) (ha0 : shp a0 = (1, 0)) : T (fun r => Rt (some (.int (b2i r))) h) (f_X1_isWet_J27  h a0 x1) (V 27 [(0, rA g a0), (1, .int x1)] [] h) := by
  unfold f_X1_isWet_J27
  refine R_iload_n o 1 dX1_isWet_27 rfl rfl ?_
  refine R_if_lt o 52 dX1_isWet_28 (by decide) ?_ ?_
  · refine R_iconst (v := 0) o dX1_isWet_52 (by decide) ?_
    exact T_some (fun p => rr _ _ false _ dX1_isWet_53 p)
  · refine R_iload_n o 1 dX1_isWet_31 rfl rfl ?_
    refine R_bipush (v := 30) o dX1_isWet_32 (by decide) ?_
    refine R_icmp_gt o 52 dX1_isWet_34 (by decide) ?_ ?_
    · refine R_iconst (v := 0) o dX1_isWet_52 (by decide) ?_
      exact T_some (fun p => rr _ _ false _ dX1_isWet_53 p)
    · refine R_aload_n o 0 dX1_isWet_37 rfl rfl ?_
      refine R_getI o dX1_isWet_38 fl_X1_28 ha0 (by decide) rfl ?_
      refine R_iload_n o 1 dX1_isWet_41 rfl rfl ?_
      refine R_ishr o dX1_isWet_42 ?_
      refine R_iconst (v := 1) o dX1_isWet_43 (by decide) ?_
      refine R_iand o dX1_isWet_44 ?_
      refine R_if_eq o 52 dX1_isWet_45 (by decide) ?_ ?_
      · refine R_iconst (v := 0) o dX1_isWet_52 (by decide) ?_
        exact T_some (fun p => rr _ _ false _ dX1_isWet_53 p)
      · refine R_iconst (v := 1) o dX1_isWet_48 (by decide) ?_
        refine R_goto o 53 dX1_isWet_49 (by decide) ?_
        exact T_some (fun p => rr _ _ true _ dX1_isWet_53 p)
noncomputable def f_X1_isWet (h : MH) (a0 : Nat) (x1 : Int32) : Option Bool :=
  (if (h.1 a0 2) = 4 then some true else (if (h.1 a0 2) = 3 then Option.bind (f_X1_choicesAt h a0 x1) (fun r18 => (if r18 < 2 then some true else f_X1_isWet_J27 h a0 x1)) else f_X1_isWet_J27 h a0 x1))
set_option maxRecDepth 100000 in
set_option maxHeartbeats 4000000 in
theorem b_X1_isWet {g : Gx} {l : Launch} {V : VT} {Rt : Option Value → MH → Prop} (o : Ok g l RX1 cX1_isWet 2 2 42 0 V) (rr : ORz cX1_isWet V Rt) (h : MH) (a0 : Nat) (x1 : Int32) (ha0 : shp a0 = (1, 0)) : T (fun r => Rt (some (.int (b2i r))) h) (f_X1_isWet h a0 x1) (V 0 [(0, rA g a0), (1, .int x1)] [] h) := by
  unfold f_X1_isWet
  refine R_aload_n o 0 dX1_isWet_0 rfl rfl ?_
  refine R_getI o dX1_isWet_1 fl_X1_18 ha0 (by decide) rfl ?_
  refine R_iconst (v := 4) o dX1_isWet_4 (by decide) ?_
  refine R_icmp_eq o 25 dX1_isWet_5 (by decide) ?_ ?_
  · refine R_iconst (v := 1) o dX1_isWet_25 (by decide) ?_
    exact T_some (fun p => rr _ _ true _ dX1_isWet_26 p)
  · refine R_aload_n o 0 dX1_isWet_8 rfl rfl ?_
    refine R_getI o dX1_isWet_9 fl_X1_18 ha0 (by decide) rfl ?_
    refine R_iconst (v := 3) o dX1_isWet_12 (by decide) ?_
    refine R_icmp_ne o 27 dX1_isWet_13 (by decide) ?_ ?_
    · refine R_aload_n o 0 dX1_isWet_16 rfl rfl ?_
      refine R_iload_n o 1 dX1_isWet_17 rfl rfl ?_
      refine K_i (callV' (As := [.int x1]) (rest := []) o dX1_isWet_18 lk_X1_70 rfl ha0 rfl rfl rfl rfl (Nat.le_of_ble_eq_true rfl)) (c_X1_choicesAt g l h a0 x1 ha0) (fun r18 => ?_)
      refine R_iconst (v := 2) o dX1_isWet_21 (by decide) ?_
      refine R_icmp_ge o 27 dX1_isWet_22 (by decide) ?_ ?_
      · refine R_iconst (v := 1) o dX1_isWet_25 (by decide) ?_
        exact T_some (fun p => rr _ _ true _ dX1_isWet_26 p)
      · exact t_X1_isWet_J27 o rr h a0 x1 ha0
    · exact t_X1_isWet_J27 o rr h a0 x1 ha0
theorem c_X1_isWet (g : Gx) (l : Launch) (h : MH) (a0 : Nat) (x1 : Int32) (ha0 : shp a0 = (1, 0)) (r : Bool) (e : f_X1_isWet h a0 x1 = some r) : Ctr g l yX1_isWet cX1_isWet 2 (some .boolean) 2 42 0 [rA g a0, .int x1] h (some (.int (b2i r))) h := mkCz (plainFor_of_name (by decide)) (Nat.le_of_ble_eq_true rfl) (fun V Rt o rr p => b_X1_isWet o rr h a0 x1 ha0 r e p)
/-! X1_countWet -/
noncomputable def f_X1_countWet_B4 (h : MH) (a0 : Nat) (x1 : Int32) (x2 : Int32) : Option ((Int32 × Int32) ⊕ (Int32)) :=
  (if x2 < (h.1 a0 3) then Option.bind (f_X1_isWet h a0 x2) (fun r14 => (if r14 = true then some (.inl ((x1 + 1), (x2 + 1))) else some (.inl (x1, (x2 + 1))))) else some (.inr x1))
set_option maxRecDepth 100000 in
set_option maxHeartbeats 4000000 in
theorem t_X1_countWet_B4 {g : Gx} {l : Launch} {V : VT} {Rt : Option Value → MH → Prop} (o : Ok g l RX1 cX1_countWet 3 3 63 0 V) (rr : ORi cX1_countWet V Rt) (h : MH) (a0 : Nat) (x1 : Int32) (x2 : Int32) (ha0 : shp a0 = (1, 0)) : T (Sum.elim (fun s => V 4 [(0, rA g a0), (1, .int s.1), (2, .int s.2)] [] h) (fun b => V 29 [(1, .int b)] [] h)) (f_X1_countWet_B4  h a0 x1 x2) (V 4 [(0, rA g a0), (1, .int x1), (2, .int x2)] [] h) := by
  unfold f_X1_countWet_B4
  refine R_iload_n o 2 dX1_countWet_4 rfl rfl ?_
  refine R_aload_n o 0 dX1_countWet_5 rfl rfl ?_
  refine R_getI o dX1_countWet_6 fl_X1_22 ha0 (by decide) rfl ?_
  refine R_icmp_ge o 29 dX1_countWet_9 (by decide) ?_ ?_
  · refine R_aload_n o 0 dX1_countWet_12 rfl rfl ?_
    refine R_iload_n o 2 dX1_countWet_13 rfl rfl ?_
    refine K_z (callV' (As := [.int x2]) (rest := []) o dX1_countWet_14 lk_X1_73 rfl ha0 rfl rfl rfl rfl (Nat.le_of_ble_eq_true rfl)) (c_X1_isWet g l h a0 x2 ha0) (fun r14 => ?_)
    refine R_bif_eq o 23 dX1_countWet_17 (by decide) ?_ ?_
    · refine R_iinc (v := (x1 + 1)) (lv2 := [(0, rA g a0), (1, .int (x1 + 1)), (2, .int x2)]) o 1 dX1_countWet_20 rfl rfl (by decide) rfl ?_
      refine R_iinc (v := (x2 + 1)) (lv2 := [(0, rA g a0), (1, .int (x1 + 1)), (2, .int (x2 + 1))]) o 2 dX1_countWet_23 rfl rfl (by decide) rfl ?_
      refine R_goto o 4 dX1_countWet_26 (by decide) ?_
      exact T_some (fun p => p)
    · refine R_iinc (v := (x2 + 1)) (lv2 := [(0, rA g a0), (1, .int x1), (2, .int (x2 + 1))]) o 2 dX1_countWet_23 rfl rfl (by decide) rfl ?_
      refine R_goto o 4 dX1_countWet_26 (by decide) ?_
      exact T_some (fun p => p)
  · refine R_drop (lv2 := [(1, .int x1)]) o [1] rfl ?_
    exact T_some (fun p => p)
noncomputable def f_X1_countWet_L4 (h : MH) (a0 : Nat) (x1 : Int32) (x2 : Int32) : Option (Int32) :=
  lpo (fun s : Int32 × Int32 => f_X1_countWet_B4 h a0 s.1 s.2) (x1, x2)
theorem t_X1_countWet_L4 {g : Gx} {l : Launch} {V : VT} {Rt : Option Value → MH → Prop} (o : Ok g l RX1 cX1_countWet 3 3 63 0 V) (rr : ORi cX1_countWet V Rt) (h : MH) (a0 : Nat) (x1 : Int32) (x2 : Int32) (ha0 : shp a0 = (1, 0)) : T (fun b => V 29 [(1, .int b)] [] h) (f_X1_countWet_L4 h a0 x1 x2) (V 4 [(0, rA g a0), (1, .int x1), (2, .int x2)] [] h) := T_loop (head := fun s : Int32 × Int32 => V 4 [(0, rA g a0), (1, .int s.1), (2, .int s.2)] [] h) (fun s => t_X1_countWet_B4 o rr h a0 s.1 s.2 ha0) (x1, x2)
noncomputable def f_X1_countWet (h : MH) (a0 : Nat) : Option Int32 :=
  Option.bind (f_X1_countWet_L4 h a0 0 0) (fun b4 => some b4)
set_option maxRecDepth 100000 in
set_option maxHeartbeats 4000000 in
theorem b_X1_countWet {g : Gx} {l : Launch} {V : VT} {Rt : Option Value → MH → Prop} (o : Ok g l RX1 cX1_countWet 3 3 63 0 V) (rr : ORi cX1_countWet V Rt) (h : MH) (a0 : Nat) (ha0 : shp a0 = (1, 0)) : T (fun r => Rt (some (.int r)) h) (f_X1_countWet h a0) (V 0 [(0, rA g a0)] [] h) := by
  unfold f_X1_countWet
  refine R_iconst (v := 0) o dX1_countWet_0 (by decide) ?_
  refine R_istore_n (lv2 := [(0, rA g a0), (1, .int 0)]) o dX1_countWet_1 rfl (by decide) rfl ?_
  refine R_iconst (v := 0) o dX1_countWet_2 (by decide) ?_
  refine R_istore_n (lv2 := [(0, rA g a0), (1, .int 0), (2, .int 0)]) o dX1_countWet_3 rfl (by decide) rfl ?_
  refine T_bind (t_X1_countWet_L4 o rr h a0 0 0 ha0) (fun b4 => ?_)
  refine R_iload_n o 0 dX1_countWet_29 rfl rfl ?_
  exact T_some (fun p => rr _ _ _ _ dX1_countWet_30 p)
theorem c_X1_countWet (g : Gx) (l : Launch) (h : MH) (a0 : Nat) (ha0 : shp a0 = (1, 0)) (r : Int32) (e : f_X1_countWet h a0 = some r) : Ctr g l yX1_countWet cX1_countWet 3 (some .int) 3 63 0 [rA g a0] h (some (.int r)) h := mkCi (plainFor_of_name (by decide)) (Nat.le_of_ble_eq_true rfl) (fun V Rt o rr p => b_X1_countWet o rr h a0 ha0 r e p)
/-! J9_abs_0f7a4 -/
noncomputable def f_J9_abs_0f7a4 (x0 : Int32) : Option Int32 :=
  (if x0 < 0 then some (-x0) else some x0)
set_option maxRecDepth 100000 in
set_option maxHeartbeats 4000000 in
theorem b_J9_abs_0f7a4 {g : Gx} {l : Launch} {V : VT} {Rt : Option Value → MH → Prop} (o : Ok g l RJ9 cJ9_abs_0f7a4 1 0 0 0 V) (rr : ORi cJ9_abs_0f7a4 V Rt) (h : MH) (x0 : Int32) : T (fun r => Rt (some (.int r)) h) (f_J9_abs_0f7a4  x0) (V 0 [(0, .int x0)] [] h) := by
  unfold f_J9_abs_0f7a4
  refine R_iload_n o 0 dJ9_abs_0f7a4_0 rfl rfl ?_
  refine R_if_ge o 9 dJ9_abs_0f7a4_1 (by decide) ?_ ?_
  · refine R_iload_n o 0 dJ9_abs_0f7a4_4 rfl rfl ?_
    refine R_ineg o dJ9_abs_0f7a4_5 ?_
    refine R_goto o 10 dJ9_abs_0f7a4_6 (by decide) ?_
    exact T_some (fun p => rr _ _ _ _ dJ9_abs_0f7a4_10 p)
  · refine R_iload_n o 0 dJ9_abs_0f7a4_9 rfl rfl ?_
    exact T_some (fun p => rr _ _ _ _ dJ9_abs_0f7a4_10 p)
theorem c_J9_abs_0f7a4 (g : Gx) (l : Launch) (h : MH) (x0 : Int32) (r : Int32) (e : f_J9_abs_0f7a4  x0 = some r) : Ctr g l yJ9_abs_0f7a4 cJ9_abs_0f7a4 1 (some .int) 0 0 0 [.int x0] h (some (.int r)) h := mkCi (by decide +kernel) (Nat.le_of_ble_eq_true rfl) (fun V Rt o rr p => b_J9_abs_0f7a4 o rr h x0  r e p)
/-! X1_gapBetween -/
noncomputable def f_X1_gapBetween (h : MH) (a0 : Nat) (x1 : Int32) (x2 : Int32) : Option Int32 :=
  Option.bind (f_X1_has h a0 x1) (fun r2 => (if r2 = true then Option.bind (f_X1_has h a0 x2) (fun r10 => (if r10 = true then gd (ix x1 40) (gd (ix x2 40) (Option.bind (f_J9_abs_0f7a4 ((h.1 (rf a0 0) x1.toNatClampNeg) - (h.1 (rf a0 0) x2.toNatClampNeg))) (fun r29 => some r29))) else some 0)) else some 0))
set_option maxRecDepth 100000 in
set_option maxHeartbeats 4000000 in
theorem b_X1_gapBetween {g : Gx} {l : Launch} {V : VT} {Rt : Option Value → MH → Prop} (o : Ok g l RX1 cX1_gapBetween 3 1 21 0 V) (rr : ORi cX1_gapBetween V Rt) (h : MH) (a0 : Nat) (x1 : Int32) (x2 : Int32) (ha0 : shp a0 = (1, 0)) : T (fun r => Rt (some (.int r)) h) (f_X1_gapBetween h a0 x1 x2) (V 0 [(0, rA g a0), (1, .int x1), (2, .int x2)] [] h) := by
  unfold f_X1_gapBetween
  refine R_aload_n o 0 dX1_gapBetween_0 rfl rfl ?_
  refine R_iload_n o 1 dX1_gapBetween_1 rfl rfl ?_
  refine K_z (callV' (As := [.int x1]) (rest := []) o dX1_gapBetween_2 lk_X1_62 rfl ha0 rfl rfl rfl rfl (Nat.le_of_ble_eq_true rfl)) (c_X1_has g l h a0 x1 ha0) (fun r2 => ?_)
  refine R_bif_eq o 35 dX1_gapBetween_5 (by decide) ?_ ?_
  · refine R_aload_n o 0 dX1_gapBetween_8 rfl rfl ?_
    refine R_iload_n o 2 dX1_gapBetween_9 rfl rfl ?_
    refine K_z (callV' (As := [.int x2]) (rest := []) o dX1_gapBetween_10 lk_X1_62 rfl ha0 rfl rfl rfl rfl (Nat.le_of_ble_eq_true rfl)) (c_X1_has g l h a0 x2 ha0) (fun r10 => ?_)
    refine R_bif_eq o 35 dX1_gapBetween_13 (by decide) ?_ ?_
    · refine R_aload_n o 0 dX1_gapBetween_16 rfl rfl ?_
      refine R_getR o dX1_gapBetween_17 fl_X1_9 ha0 (by decide) rfl rfl ?_
      refine R_iload_n o 1 dX1_gapBetween_20 rfl rfl ?_
      refine R_iald o dX1_gapBetween_21 (sh_Cover_0 ha0) ?_
      refine R_aload_n o 0 dX1_gapBetween_22 rfl rfl ?_
      refine R_getR o dX1_gapBetween_23 fl_X1_9 ha0 (by decide) rfl rfl ?_
      refine R_iload_n o 2 dX1_gapBetween_26 rfl rfl ?_
      refine R_iald o dX1_gapBetween_27 (sh_Cover_0 ha0) ?_
      refine R_isub o dX1_gapBetween_28 ?_
      refine K_i (callS' (av := [.int ((h.1 (rf a0 0) x1.toNatClampNeg) - (h.1 (rf a0 0) x2.toNatClampNeg))]) (rest := []) o dX1_gapBetween_29 lk_X1_82 rfl rfl rfl (Nat.le_of_ble_eq_true rfl)) (c_J9_abs_0f7a4 g l h ((h.1 (rf a0 0) x1.toNatClampNeg) - (h.1 (rf a0 0) x2.toNatClampNeg))) (fun r29 => ?_)
      refine R_goto o 36 dX1_gapBetween_32 (by decide) ?_
      exact T_some (fun p => rr _ _ _ _ dX1_gapBetween_36 p)
    · refine R_iconst (v := 0) o dX1_gapBetween_35 (by decide) ?_
      exact T_some (fun p => rr _ _ _ _ dX1_gapBetween_36 p)
  · refine R_iconst (v := 0) o dX1_gapBetween_35 (by decide) ?_
    exact T_some (fun p => rr _ _ _ _ dX1_gapBetween_36 p)
theorem c_X1_gapBetween (g : Gx) (l : Launch) (h : MH) (a0 : Nat) (x1 : Int32) (x2 : Int32) (ha0 : shp a0 = (1, 0)) (r : Int32) (e : f_X1_gapBetween h a0 x1 x2 = some r) : Ctr g l yX1_gapBetween cX1_gapBetween 3 (some .int) 1 21 0 [rA g a0, .int x1, .int x2] h (some (.int r)) h := mkCi (plainFor_of_name (by decide)) (Nat.le_of_ble_eq_true rfl) (fun V Rt o rr p => b_X1_gapBetween o rr h a0 x1 x2 ha0 r e p)
/-! X1_roughnessAt -/
noncomputable def f_X1_roughnessAt_J58 (h : MH) (a0 : Nat) (x1 : Int32) (x2 : Int32) : Option Int32 :=
  Option.bind (f_X1_gapBetween h a0 x1 (x1 - (h.1 a0 4))) (fun r67 => Option.bind (f_X1_gapBetween h a0 x1 (x1 + (h.1 a0 4))) (fun r79 => some ((x2 + r67) + r79)))
set_option maxRecDepth 100000 in
set_option maxHeartbeats 4000000 in
theorem t_X1_roughnessAt_J58 {g : Gx} {l : Launch} {V : VT} {Rt : Option Value → MH → Prop} (o : Ok g l RX1 cX1_roughnessAt 3 2 43 0 V) (rr : ORi cX1_roughnessAt V Rt) (h : MH) (a0 : Nat) (x1 : Int32) (x2 : Int32) (ha0 : shp a0 = (1, 0)) : T (fun r => Rt (some (.int r)) h) (f_X1_roughnessAt_J58  h a0 x1 x2) (V 58 [(0, rA g a0), (1, .int x1), (2, .int x2)] [] h) := by
  unfold f_X1_roughnessAt_J58
  refine R_iload_n o 2 dX1_roughnessAt_58 rfl rfl ?_
  refine R_aload_n o 0 dX1_roughnessAt_59 rfl rfl ?_
  refine R_iload_n o 1 dX1_roughnessAt_60 rfl rfl ?_
  refine R_iload_n o 1 dX1_roughnessAt_61 rfl rfl ?_
  refine R_aload_n o 0 dX1_roughnessAt_62 rfl rfl ?_
  refine R_getI o dX1_roughnessAt_63 fl_X1_25 ha0 (by decide) rfl ?_
  refine R_isub o dX1_roughnessAt_66 ?_
  refine K_i (callV' (As := [.int x1, .int (x1 - (h.1 a0 4))]) (rest := [.int x2]) o dX1_roughnessAt_67 lk_X1_79 rfl ha0 rfl rfl rfl rfl (Nat.le_of_ble_eq_true rfl)) (c_X1_gapBetween g l h a0 x1 (x1 - (h.1 a0 4)) ha0) (fun r67 => ?_)
  refine R_iadd o dX1_roughnessAt_70 ?_
  refine R_aload_n o 0 dX1_roughnessAt_71 rfl rfl ?_
  refine R_iload_n o 1 dX1_roughnessAt_72 rfl rfl ?_
  refine R_iload_n o 1 dX1_roughnessAt_73 rfl rfl ?_
  refine R_aload_n o 0 dX1_roughnessAt_74 rfl rfl ?_
  refine R_getI o dX1_roughnessAt_75 fl_X1_25 ha0 (by decide) rfl ?_
  refine R_iadd o dX1_roughnessAt_78 ?_
  refine K_i (callV' (As := [.int x1, .int (x1 + (h.1 a0 4))]) (rest := [.int (x2 + r67)]) o dX1_roughnessAt_79 lk_X1_79 rfl ha0 rfl rfl rfl rfl (Nat.le_of_ble_eq_true rfl)) (c_X1_gapBetween g l h a0 x1 (x1 + (h.1 a0 4)) ha0) (fun r79 => ?_)
  refine R_iadd o dX1_roughnessAt_82 ?_
  exact T_some (fun p => rr _ _ _ _ dX1_roughnessAt_83 p)
noncomputable def f_X1_roughnessAt_J32 (h : MH) (a0 : Nat) (x1 : Int32) (x2 : Int32) : Option Int32 :=
  gd (nz (h.1 a0 4)) ((if (irm x1 (h.1 a0 4)) < ((h.1 a0 4) - 1) then Option.bind (f_X1_gapBetween h a0 x1 (x1 + 1)) (fun r53 => nm (x2 + r53) (fun v57 => f_X1_roughnessAt_J58 h a0 x1 v57)) else f_X1_roughnessAt_J58 h a0 x1 x2))
set_option maxRecDepth 100000 in
set_option maxHeartbeats 4000000 in
theorem t_X1_roughnessAt_J32 {g : Gx} {l : Launch} {V : VT} {Rt : Option Value → MH → Prop} (o : Ok g l RX1 cX1_roughnessAt 3 2 43 0 V) (rr : ORi cX1_roughnessAt V Rt) (h : MH) (a0 : Nat) (x1 : Int32) (x2 : Int32) (ha0 : shp a0 = (1, 0)) : T (fun r => Rt (some (.int r)) h) (f_X1_roughnessAt_J32  h a0 x1 x2) (V 32 [(0, rA g a0), (1, .int x1), (2, .int x2)] [] h) := by
  unfold f_X1_roughnessAt_J32
  refine R_iload_n o 1 dX1_roughnessAt_32 rfl rfl ?_
  refine R_aload_n o 0 dX1_roughnessAt_33 rfl rfl ?_
  refine R_getI o dX1_roughnessAt_34 fl_X1_25 ha0 (by decide) rfl ?_
  refine R_irem o dX1_roughnessAt_37 ?_
  refine R_aload_n o 0 dX1_roughnessAt_38 rfl rfl ?_
  refine R_getI o dX1_roughnessAt_39 fl_X1_25 ha0 (by decide) rfl ?_
  refine R_iconst (v := 1) o dX1_roughnessAt_42 (by decide) ?_
  refine R_isub o dX1_roughnessAt_43 ?_
  refine R_icmp_ge o 58 dX1_roughnessAt_44 (by decide) ?_ ?_
  · refine R_iload_n o 2 dX1_roughnessAt_47 rfl rfl ?_
    refine R_aload_n o 0 dX1_roughnessAt_48 rfl rfl ?_
    refine R_iload_n o 1 dX1_roughnessAt_49 rfl rfl ?_
    refine R_iload_n o 1 dX1_roughnessAt_50 rfl rfl ?_
    refine R_iconst (v := 1) o dX1_roughnessAt_51 (by decide) ?_
    refine R_iadd o dX1_roughnessAt_52 ?_
    refine K_i (callV' (As := [.int x1, .int (x1 + 1)]) (rest := [.int x2]) o dX1_roughnessAt_53 lk_X1_79 rfl ha0 rfl rfl rfl rfl (Nat.le_of_ble_eq_true rfl)) (c_X1_gapBetween g l h a0 x1 (x1 + 1) ha0) (fun r53 => ?_)
    refine R_iadd o dX1_roughnessAt_56 ?_
    refine R_nmI (fun v57 => ?_)
    refine R_istore_n (lv2 := [(0, rA g a0), (1, .int x1), (2, .int v57)]) o dX1_roughnessAt_57 rfl (by decide) rfl ?_
    exact t_X1_roughnessAt_J58 o rr h a0 x1 v57 ha0
  · exact t_X1_roughnessAt_J58 o rr h a0 x1 x2 ha0
noncomputable def f_X1_roughnessAt (h : MH) (a0 : Nat) (x1 : Int32) : Option Int32 :=
  (if (h.1 a0 4) < 1 then some 0 else gd (nz (h.1 a0 4)) ((if 0 < (irm x1 (h.1 a0 4)) then Option.bind (f_X1_gapBetween h a0 x1 (x1 - 1)) (fun r27 => nm (0 + r27) (fun v31 => f_X1_roughnessAt_J32 h a0 x1 v31)) else f_X1_roughnessAt_J32 h a0 x1 0)))
set_option maxRecDepth 100000 in
set_option maxHeartbeats 4000000 in
theorem b_X1_roughnessAt {g : Gx} {l : Launch} {V : VT} {Rt : Option Value → MH → Prop} (o : Ok g l RX1 cX1_roughnessAt 3 2 43 0 V) (rr : ORi cX1_roughnessAt V Rt) (h : MH) (a0 : Nat) (x1 : Int32) (ha0 : shp a0 = (1, 0)) : T (fun r => Rt (some (.int r)) h) (f_X1_roughnessAt h a0 x1) (V 0 [(0, rA g a0), (1, .int x1)] [] h) := by
  unfold f_X1_roughnessAt
  refine R_aload_n o 0 dX1_roughnessAt_0 rfl rfl ?_
  refine R_getI o dX1_roughnessAt_1 fl_X1_25 ha0 (by decide) rfl ?_
  refine R_iconst (v := 1) o dX1_roughnessAt_4 (by decide) ?_
  refine R_icmp_ge o 10 dX1_roughnessAt_5 (by decide) ?_ ?_
  · refine R_iconst (v := 0) o dX1_roughnessAt_8 (by decide) ?_
    exact T_some (fun p => rr _ _ _ _ dX1_roughnessAt_9 p)
  · refine R_iconst (v := 0) o dX1_roughnessAt_10 (by decide) ?_
    refine R_istore_n (lv2 := [(0, rA g a0), (1, .int x1), (2, .int 0)]) o dX1_roughnessAt_11 rfl (by decide) rfl ?_
    refine R_iload_n o 1 dX1_roughnessAt_12 rfl rfl ?_
    refine R_aload_n o 0 dX1_roughnessAt_13 rfl rfl ?_
    refine R_getI o dX1_roughnessAt_14 fl_X1_25 ha0 (by decide) rfl ?_
    refine R_irem o dX1_roughnessAt_17 ?_
    refine R_if_le o 32 dX1_roughnessAt_18 (by decide) ?_ ?_
    · refine R_iload_n o 2 dX1_roughnessAt_21 rfl rfl ?_
      refine R_aload_n o 0 dX1_roughnessAt_22 rfl rfl ?_
      refine R_iload_n o 1 dX1_roughnessAt_23 rfl rfl ?_
      refine R_iload_n o 1 dX1_roughnessAt_24 rfl rfl ?_
      refine R_iconst (v := 1) o dX1_roughnessAt_25 (by decide) ?_
      refine R_isub o dX1_roughnessAt_26 ?_
      refine K_i (callV' (As := [.int x1, .int (x1 - 1)]) (rest := [.int 0]) o dX1_roughnessAt_27 lk_X1_79 rfl ha0 rfl rfl rfl rfl (Nat.le_of_ble_eq_true rfl)) (c_X1_gapBetween g l h a0 x1 (x1 - 1) ha0) (fun r27 => ?_)
      refine R_iadd o dX1_roughnessAt_30 ?_
      refine R_nmI (fun v31 => ?_)
      refine R_istore_n (lv2 := [(0, rA g a0), (1, .int x1), (2, .int v31)]) o dX1_roughnessAt_31 rfl (by decide) rfl ?_
      exact t_X1_roughnessAt_J32 o rr h a0 x1 v31 ha0
    · exact t_X1_roughnessAt_J32 o rr h a0 x1 0 ha0
theorem c_X1_roughnessAt (g : Gx) (l : Launch) (h : MH) (a0 : Nat) (x1 : Int32) (ha0 : shp a0 = (1, 0)) (r : Int32) (e : f_X1_roughnessAt h a0 x1 = some r) : Ctr g l yX1_roughnessAt cX1_roughnessAt 3 (some .int) 2 43 0 [rA g a0, .int x1] h (some (.int r)) h := mkCi (plainFor_of_name (by decide)) (Nat.le_of_ble_eq_true rfl) (fun V Rt o rr p => b_X1_roughnessAt o rr h a0 x1 ha0 r e p)
/-! X1_priceAt -/
noncomputable def f_X1_priceAt (h : MH) (a0 : Nat) (x1 : Int32) : Option Int32 :=
  Option.bind (f_X1_choicesAt h a0 x1) (fun r2 => (if 0 < r2 then gd (nz r2) (some (12 / r2)) else (if (h.1 a0 4) < 1 then some 10 else Option.bind (f_X1_roughnessAt h a0 x1) (fun r32 => Option.bind (f_J9_max_7cf53 1 (1 + r32)) (fun r36 => gd (nz r36) (nm ((60 / r36) + 1) (fun v42 => (if (h.1 a0 2) = 2 then some (2 * v42) else some v42))))))))
set_option maxRecDepth 100000 in
set_option maxHeartbeats 4000000 in
theorem b_X1_priceAt {g : Gx} {l : Launch} {V : VT} {Rt : Option Value → MH → Prop} (o : Ok g l RX1 cX1_priceAt 4 3 65 0 V) (rr : ORi cX1_priceAt V Rt) (h : MH) (a0 : Nat) (x1 : Int32) (ha0 : shp a0 = (1, 0)) : T (fun r => Rt (some (.int r)) h) (f_X1_priceAt h a0 x1) (V 0 [(0, rA g a0), (1, .int x1)] [] h) := by
  unfold f_X1_priceAt
  refine R_aload_n o 0 dX1_priceAt_0 rfl rfl ?_
  refine R_iload_n o 1 dX1_priceAt_1 rfl rfl ?_
  refine K_i (callV' (As := [.int x1]) (rest := []) o dX1_priceAt_2 lk_X1_70 rfl ha0 rfl rfl rfl rfl (Nat.le_of_ble_eq_true rfl)) (c_X1_choicesAt g l h a0 x1 ha0) (fun r2 => ?_)
  refine R_istore_n (lv2 := [(0, rA g a0), (1, .int x1), (2, .int r2)]) o dX1_priceAt_5 rfl (by decide) rfl ?_
  refine R_iload_n o 2 dX1_priceAt_6 rfl rfl ?_
  refine R_if_le o 15 dX1_priceAt_7 (by decide) ?_ ?_
  · refine R_bipush (v := 12) o dX1_priceAt_10 (by decide) ?_
    refine R_iload_n o 2 dX1_priceAt_12 rfl rfl ?_
    refine R_idiv o dX1_priceAt_13 ?_
    exact T_some (fun p => rr _ _ _ _ dX1_priceAt_14 p)
  · refine R_aload_n o 0 dX1_priceAt_15 rfl rfl ?_
    refine R_getI o dX1_priceAt_16 fl_X1_25 ha0 (by decide) rfl ?_
    refine R_iconst (v := 1) o dX1_priceAt_19 (by decide) ?_
    refine R_icmp_ge o 26 dX1_priceAt_20 (by decide) ?_ ?_
    · refine R_bipush (v := 10) o dX1_priceAt_23 (by decide) ?_
      exact T_some (fun p => rr _ _ _ _ dX1_priceAt_25 p)
    · refine R_bipush (v := 60) o dX1_priceAt_26 (by decide) ?_
      refine R_iconst (v := 1) o dX1_priceAt_28 (by decide) ?_
      refine R_iconst (v := 1) o dX1_priceAt_29 (by decide) ?_
      refine R_aload_n o 0 dX1_priceAt_30 rfl rfl ?_
      refine R_iload_n o 1 dX1_priceAt_31 rfl rfl ?_
      refine K_i (callV' (As := [.int x1]) (rest := [.int 1, .int 1, .int 60]) o dX1_priceAt_32 lk_X1_76 rfl ha0 rfl rfl rfl rfl (Nat.le_of_ble_eq_true rfl)) (c_X1_roughnessAt g l h a0 x1 ha0) (fun r32 => ?_)
      refine R_iadd o dX1_priceAt_35 ?_
      refine K_i (callS' (av := [.int 1, .int (1 + r32)]) (rest := [.int 60]) o dX1_priceAt_36 lk_X1_53 rfl rfl rfl (Nat.le_of_ble_eq_true rfl)) (c_J9_max_7cf53 g l h 1 (1 + r32)) (fun r36 => ?_)
      refine R_idiv o dX1_priceAt_39 ?_
      refine R_iconst (v := 1) o dX1_priceAt_40 (by decide) ?_
      refine R_iadd o dX1_priceAt_41 ?_
      refine R_nmI (fun v42 => ?_)
      refine R_istore_n (lv2 := [(0, rA g a0), (1, .int x1), (2, .int r2), (3, .int v42)]) o dX1_priceAt_42 rfl (by decide) rfl ?_
      refine R_aload_n o 0 dX1_priceAt_43 rfl rfl ?_
      refine R_getI o dX1_priceAt_44 fl_X1_18 ha0 (by decide) rfl ?_
      refine R_iconst (v := 2) o dX1_priceAt_47 (by decide) ?_
      refine R_icmp_ne o 57 dX1_priceAt_48 (by decide) ?_ ?_
      · refine R_iconst (v := 2) o dX1_priceAt_51 (by decide) ?_
        refine R_iload_n o 3 dX1_priceAt_52 rfl rfl ?_
        refine R_imul o dX1_priceAt_53 ?_
        refine R_goto o 58 dX1_priceAt_54 (by decide) ?_
        exact T_some (fun p => rr _ _ _ _ dX1_priceAt_58 p)
      · refine R_iload_n o 3 dX1_priceAt_57 rfl rfl ?_
        exact T_some (fun p => rr _ _ _ _ dX1_priceAt_58 p)
theorem c_X1_priceAt (g : Gx) (l : Launch) (h : MH) (a0 : Nat) (x1 : Int32) (ha0 : shp a0 = (1, 0)) (r : Int32) (e : f_X1_priceAt h a0 x1 = some r) : Ctr g l yX1_priceAt cX1_priceAt 4 (some .int) 3 65 0 [rA g a0, .int x1] h (some (.int r)) h := mkCi (plainFor_of_name (by decide)) (Nat.le_of_ble_eq_true rfl) (fun V Rt o rr p => b_X1_priceAt o rr h a0 x1 ha0 r e p)
