/-! X1_tellPlace -/
noncomputable def f_X1_tellPlace (h : MH) (a0 : Nat) (x1 : Int32) (x2 : Int32) : Option Int32 :=
  sw x2 0 [Option.bind (f_X1_dotAt h a0 x1) (fun r34 => some r34), Option.bind (f_X1_bitAt h a0 x1) (fun r40 => some r40), Option.bind (f_X1_flippedAt h a0 x1) (fun r46 => some r46), Option.bind (f_X1_priceAt h a0 x1) (fun r52 => some r52)] (Option.bind (f_X1_isWet h a0 x1) (fun r58 => (if r58 = true then some 1 else some 0)))
set_option maxRecDepth 100000 in
set_option maxHeartbeats 4000000 in
theorem b_X1_tellPlace {g : Gx} {l : Launch} {V : VT} {Rt : Option Value → MH → Prop} (o : Ok g l RX1 cX1_tellPlace 3 4 88 0 V) (rr : ORi cX1_tellPlace V Rt) (h : MH) (a0 : Nat) (x1 : Int32) (x2 : Int32) (ha0 : shp a0 = (1, 0)) : T (fun r => Rt (some (.int r)) h) (f_X1_tellPlace h a0 x1 x2) (V 0 [(0, rA g a0), (1, .int x1), (2, .int x2)] [] h) := by
  unfold f_X1_tellPlace
  refine R_iload_n o 2 dX1_tellPlace_0 rfl rfl ?_
  refine R_tsw (lo0 := 0) (hi0 := 3) (N := 4) o dX1_tellPlace_1 rfl (by decide) rfl [32, 38, 44, 50] 56 (by decide +kernel) (by decide) ?_ ?_
  · intro j X tj hX hj
    match j, hX, hj with
    | 0, hX, hj =>
      cases hX
      cases hj
      refine R_aload_n o 0 dX1_tellPlace_32 rfl rfl ?_
      refine R_iload_n o 1 dX1_tellPlace_33 rfl rfl ?_
      refine K_i (callV' (As := [.int x1]) (rest := []) o dX1_tellPlace_34 lk_X1_66 rfl ha0 rfl rfl rfl rfl (Nat.le_of_ble_eq_true rfl)) (c_X1_dotAt g l h a0 x1 ha0) (fun r34 => ?_)
      exact T_some (fun p => rr _ _ _ _ dX1_tellPlace_37 p)
    | 1, hX, hj =>
      cases hX
      cases hj
      refine R_aload_n o 0 dX1_tellPlace_38 rfl rfl ?_
      refine R_iload_n o 1 dX1_tellPlace_39 rfl rfl ?_
      refine K_i (callV' (As := [.int x1]) (rest := []) o dX1_tellPlace_40 lk_X1_85 rfl ha0 rfl rfl rfl rfl (Nat.le_of_ble_eq_true rfl)) (c_X1_bitAt g l h a0 x1 ha0) (fun r40 => ?_)
      exact T_some (fun p => rr _ _ _ _ dX1_tellPlace_43 p)
    | 2, hX, hj =>
      cases hX
      cases hj
      refine R_aload_n o 0 dX1_tellPlace_44 rfl rfl ?_
      refine R_iload_n o 1 dX1_tellPlace_45 rfl rfl ?_
      refine K_i (callV' (As := [.int x1]) (rest := []) o dX1_tellPlace_46 lk_X1_88 rfl ha0 rfl rfl rfl rfl (Nat.le_of_ble_eq_true rfl)) (c_X1_flippedAt g l h a0 x1 ha0) (fun r46 => ?_)
      exact T_some (fun p => rr _ _ _ _ dX1_tellPlace_49 p)
    | 3, hX, hj =>
      cases hX
      cases hj
      refine R_aload_n o 0 dX1_tellPlace_50 rfl rfl ?_
      refine R_iload_n o 1 dX1_tellPlace_51 rfl rfl ?_
      refine K_i (callV' (As := [.int x1]) (rest := []) o dX1_tellPlace_52 lk_X1_91 rfl ha0 rfl rfl rfl rfl (Nat.le_of_ble_eq_true rfl)) (c_X1_priceAt g l h a0 x1 ha0) (fun r52 => ?_)
      exact T_some (fun p => rr _ _ _ _ dX1_tellPlace_55 p)
    | j + 4, hX, _ => simp at hX
  · refine R_aload_n o 0 dX1_tellPlace_56 rfl rfl ?_
    refine R_iload_n o 1 dX1_tellPlace_57 rfl rfl ?_
    refine K_z (callV' (As := [.int x1]) (rest := []) o dX1_tellPlace_58 lk_X1_73 rfl ha0 rfl rfl rfl rfl (Nat.le_of_ble_eq_true rfl)) (c_X1_isWet g l h a0 x1 ha0) (fun r58 => ?_)
    refine R_bif_eq o 68 dX1_tellPlace_61 (by decide) ?_ ?_
    · refine R_iconst (v := 1) o dX1_tellPlace_64 (by decide) ?_
      refine R_goto o 69 dX1_tellPlace_65 (by decide) ?_
      exact T_some (fun p => rr _ _ _ _ dX1_tellPlace_69 p)
    · refine R_iconst (v := 0) o dX1_tellPlace_68 (by decide) ?_
      exact T_some (fun p => rr _ _ _ _ dX1_tellPlace_69 p)
theorem c_X1_tellPlace (g : Gx) (l : Launch) (h : MH) (a0 : Nat) (x1 : Int32) (x2 : Int32) (ha0 : shp a0 = (1, 0)) (r : Int32) (e : f_X1_tellPlace h a0 x1 x2 = some r) : Ctr g l yX1_tellPlace cX1_tellPlace 3 (some .int) 4 88 0 [rA g a0, .int x1, .int x2] h (some (.int r)) h := mkCi (plainFor_of_name (by decide)) (Nat.le_of_ble_eq_true rfl) (fun V Rt o rr p => b_X1_tellPlace o rr h a0 x1 x2 ha0 r e p)
/-! X1_countLines -/
noncomputable def f_X1_countLines (h : MH) (a0 : Nat) : Option Int32 :=
  (if (h.1 a0 4) < 1 then some 0 else gd (nz (h.1 a0 4)) (some ((((h.1 a0 3) + (h.1 a0 4)) - 1) / (h.1 a0 4))))
set_option maxRecDepth 100000 in
set_option maxHeartbeats 4000000 in
theorem b_X1_countLines {g : Gx} {l : Launch} {V : VT} {Rt : Option Value → MH → Prop} (o : Ok g l RX1 cX1_countLines 1 0 0 0 V) (rr : ORi cX1_countLines V Rt) (h : MH) (a0 : Nat) (ha0 : shp a0 = (1, 0)) : T (fun r => Rt (some (.int r)) h) (f_X1_countLines h a0) (V 0 [(0, rA g a0)] [] h) := by
  unfold f_X1_countLines
  refine R_aload_n o 0 dX1_countLines_0 rfl rfl ?_
  refine R_getI o dX1_countLines_1 fl_X1_25 ha0 (by decide) rfl ?_
  refine R_iconst (v := 1) o dX1_countLines_4 (by decide) ?_
  refine R_icmp_ge o 12 dX1_countLines_5 (by decide) ?_ ?_
  · refine R_iconst (v := 0) o dX1_countLines_8 (by decide) ?_
    refine R_goto o 28 dX1_countLines_9 (by decide) ?_
    exact T_some (fun p => rr _ _ _ _ dX1_countLines_28 p)
  · refine R_aload_n o 0 dX1_countLines_12 rfl rfl ?_
    refine R_getI o dX1_countLines_13 fl_X1_22 ha0 (by decide) rfl ?_
    refine R_aload_n o 0 dX1_countLines_16 rfl rfl ?_
    refine R_getI o dX1_countLines_17 fl_X1_25 ha0 (by decide) rfl ?_
    refine R_iadd o dX1_countLines_20 ?_
    refine R_iconst (v := 1) o dX1_countLines_21 (by decide) ?_
    refine R_isub o dX1_countLines_22 ?_
    refine R_aload_n o 0 dX1_countLines_23 rfl rfl ?_
    refine R_getI o dX1_countLines_24 fl_X1_25 ha0 (by decide) rfl ?_
    refine R_idiv o dX1_countLines_27 ?_
    exact T_some (fun p => rr _ _ _ _ dX1_countLines_28 p)
theorem c_X1_countLines (g : Gx) (l : Launch) (h : MH) (a0 : Nat) (ha0 : shp a0 = (1, 0)) (r : Int32) (e : f_X1_countLines h a0 = some r) : Ctr g l yX1_countLines cX1_countLines 1 (some .int) 0 0 0 [rA g a0] h (some (.int r)) h := mkCi (plainFor_of_name (by decide)) (Nat.le_of_ble_eq_true rfl) (fun V Rt o rr p => b_X1_countLines o rr h a0 ha0 r e p)
/-! X1_countBright -/
noncomputable def f_X1_countBright_B4 (h : MH) (a0 : Nat) (x1 : Int32) (x2 : Int32) : Option ((Int32 × Int32) ⊕ (Int32)) :=
  (if x2 < (h.1 a0 3) then gd (ix x2 40) ((if 127 < (h.1 (rf a0 0) x2.toNatClampNeg) then some (.inl ((x1 + 1), (x2 + 1))) else some (.inl (x1, (x2 + 1))))) else some (.inr x1))
set_option maxRecDepth 100000 in
set_option maxHeartbeats 4000000 in
theorem t_X1_countBright_B4 {g : Gx} {l : Launch} {V : VT} {Rt : Option Value → MH → Prop} (o : Ok g l RX1 cX1_countBright 3 0 0 0 V) (rr : ORi cX1_countBright V Rt) (h : MH) (a0 : Nat) (x1 : Int32) (x2 : Int32) (ha0 : shp a0 = (1, 0)) : T (Sum.elim (fun s => V 4 [(0, rA g a0), (1, .int s.1), (2, .int s.2)] [] h) (fun b => V 32 [(1, .int b)] [] h)) (f_X1_countBright_B4  h a0 x1 x2) (V 4 [(0, rA g a0), (1, .int x1), (2, .int x2)] [] h) := by
  unfold f_X1_countBright_B4
  refine R_iload_n o 2 dX1_countBright_4 rfl rfl ?_
  refine R_aload_n o 0 dX1_countBright_5 rfl rfl ?_
  refine R_getI o dX1_countBright_6 fl_X1_22 ha0 (by decide) rfl ?_
  refine R_icmp_ge o 32 dX1_countBright_9 (by decide) ?_ ?_
  · refine R_aload_n o 0 dX1_countBright_12 rfl rfl ?_
    refine R_getR o dX1_countBright_13 fl_X1_9 ha0 (by decide) rfl rfl ?_
    refine R_iload_n o 2 dX1_countBright_16 rfl rfl ?_
    refine R_iald o dX1_countBright_17 (sh_Cover_0 ha0) ?_
    refine R_bipush (v := 127) o dX1_countBright_18 (by decide) ?_
    refine R_icmp_le o 26 dX1_countBright_20 (by decide) ?_ ?_
    · refine R_iinc (v := (x1 + 1)) (lv2 := [(0, rA g a0), (1, .int (x1 + 1)), (2, .int x2)]) o 1 dX1_countBright_23 rfl rfl (by decide) rfl ?_
      refine R_iinc (v := (x2 + 1)) (lv2 := [(0, rA g a0), (1, .int (x1 + 1)), (2, .int (x2 + 1))]) o 2 dX1_countBright_26 rfl rfl (by decide) rfl ?_
      refine R_goto o 4 dX1_countBright_29 (by decide) ?_
      exact T_some (fun p => p)
    · refine R_iinc (v := (x2 + 1)) (lv2 := [(0, rA g a0), (1, .int x1), (2, .int (x2 + 1))]) o 2 dX1_countBright_26 rfl rfl (by decide) rfl ?_
      refine R_goto o 4 dX1_countBright_29 (by decide) ?_
      exact T_some (fun p => p)
  · refine R_drop (lv2 := [(1, .int x1)]) o [1] rfl ?_
    exact T_some (fun p => p)
noncomputable def f_X1_countBright_L4 (h : MH) (a0 : Nat) (x1 : Int32) (x2 : Int32) : Option (Int32) :=
  lpo (fun s : Int32 × Int32 => f_X1_countBright_B4 h a0 s.1 s.2) (x1, x2)
theorem t_X1_countBright_L4 {g : Gx} {l : Launch} {V : VT} {Rt : Option Value → MH → Prop} (o : Ok g l RX1 cX1_countBright 3 0 0 0 V) (rr : ORi cX1_countBright V Rt) (h : MH) (a0 : Nat) (x1 : Int32) (x2 : Int32) (ha0 : shp a0 = (1, 0)) : T (fun b => V 32 [(1, .int b)] [] h) (f_X1_countBright_L4 h a0 x1 x2) (V 4 [(0, rA g a0), (1, .int x1), (2, .int x2)] [] h) := T_loop (head := fun s : Int32 × Int32 => V 4 [(0, rA g a0), (1, .int s.1), (2, .int s.2)] [] h) (fun s => t_X1_countBright_B4 o rr h a0 s.1 s.2 ha0) (x1, x2)
noncomputable def f_X1_countBright (h : MH) (a0 : Nat) : Option Int32 :=
  Option.bind (f_X1_countBright_L4 h a0 0 0) (fun b4 => some b4)
set_option maxRecDepth 100000 in
set_option maxHeartbeats 4000000 in
theorem b_X1_countBright {g : Gx} {l : Launch} {V : VT} {Rt : Option Value → MH → Prop} (o : Ok g l RX1 cX1_countBright 3 0 0 0 V) (rr : ORi cX1_countBright V Rt) (h : MH) (a0 : Nat) (ha0 : shp a0 = (1, 0)) : T (fun r => Rt (some (.int r)) h) (f_X1_countBright h a0) (V 0 [(0, rA g a0)] [] h) := by
  unfold f_X1_countBright
  refine R_iconst (v := 0) o dX1_countBright_0 (by decide) ?_
  refine R_istore_n (lv2 := [(0, rA g a0), (1, .int 0)]) o dX1_countBright_1 rfl (by decide) rfl ?_
  refine R_iconst (v := 0) o dX1_countBright_2 (by decide) ?_
  refine R_istore_n (lv2 := [(0, rA g a0), (1, .int 0), (2, .int 0)]) o dX1_countBright_3 rfl (by decide) rfl ?_
  refine T_bind (t_X1_countBright_L4 o rr h a0 0 0 ha0) (fun b4 => ?_)
  refine R_iload_n o 0 dX1_countBright_32 rfl rfl ?_
  exact T_some (fun p => rr _ _ _ _ dX1_countBright_33 p)
theorem c_X1_countBright (g : Gx) (l : Launch) (h : MH) (a0 : Nat) (ha0 : shp a0 = (1, 0)) (r : Int32) (e : f_X1_countBright h a0 = some r) : Ctr g l yX1_countBright cX1_countBright 3 (some .int) 0 0 0 [rA g a0] h (some (.int r)) h := mkCi (plainFor_of_name (by decide)) (Nat.le_of_ble_eq_true rfl) (fun V Rt o rr p => b_X1_countBright o rr h a0 ha0 r e p)
/-! X1_countChoices -/
noncomputable def f_X1_countChoices_B4 (h : MH) (a0 : Nat) (x1 : Int32) (x2 : Int32) : Option ((Int32 × Int32) ⊕ (Int32)) :=
  (if x2 < (h.1 a0 3) then gd (ix x2 40) (nm (x1 + (h.1 (rf a0 1) x2.toNatClampNeg)) (fun v20 => some (.inl (v20, (x2 + 1))))) else some (.inr x1))
set_option maxRecDepth 100000 in
set_option maxHeartbeats 4000000 in
theorem t_X1_countChoices_B4 {g : Gx} {l : Launch} {V : VT} {Rt : Option Value → MH → Prop} (o : Ok g l RX1 cX1_countChoices 3 0 0 0 V) (rr : ORi cX1_countChoices V Rt) (h : MH) (a0 : Nat) (x1 : Int32) (x2 : Int32) (ha0 : shp a0 = (1, 0)) : T (Sum.elim (fun s => V 4 [(0, rA g a0), (1, .int s.1), (2, .int s.2)] [] h) (fun b => V 27 [(1, .int b)] [] h)) (f_X1_countChoices_B4  h a0 x1 x2) (V 4 [(0, rA g a0), (1, .int x1), (2, .int x2)] [] h) := by
  unfold f_X1_countChoices_B4
  refine R_iload_n o 2 dX1_countChoices_4 rfl rfl ?_
  refine R_aload_n o 0 dX1_countChoices_5 rfl rfl ?_
  refine R_getI o dX1_countChoices_6 fl_X1_22 ha0 (by decide) rfl ?_
  refine R_icmp_ge o 27 dX1_countChoices_9 (by decide) ?_ ?_
  · refine R_iload_n o 1 dX1_countChoices_12 rfl rfl ?_
    refine R_aload_n o 0 dX1_countChoices_13 rfl rfl ?_
    refine R_getR o dX1_countChoices_14 fl_X1_15 ha0 (by decide) rfl rfl ?_
    refine R_iload_n o 2 dX1_countChoices_17 rfl rfl ?_
    refine R_iald o dX1_countChoices_18 (sh_Cover_1 ha0) ?_
    refine R_iadd o dX1_countChoices_19 ?_
    refine R_nmI (fun v20 => ?_)
    refine R_istore_n (lv2 := [(0, rA g a0), (1, .int v20), (2, .int x2)]) o dX1_countChoices_20 rfl (by decide) rfl ?_
    refine R_iinc (v := (x2 + 1)) (lv2 := [(0, rA g a0), (1, .int v20), (2, .int (x2 + 1))]) o 2 dX1_countChoices_21 rfl rfl (by decide) rfl ?_
    refine R_goto o 4 dX1_countChoices_24 (by decide) ?_
    exact T_some (fun p => p)
  · refine R_drop (lv2 := [(1, .int x1)]) o [1] rfl ?_
    exact T_some (fun p => p)
noncomputable def f_X1_countChoices_L4 (h : MH) (a0 : Nat) (x1 : Int32) (x2 : Int32) : Option (Int32) :=
  lpo (fun s : Int32 × Int32 => f_X1_countChoices_B4 h a0 s.1 s.2) (x1, x2)
theorem t_X1_countChoices_L4 {g : Gx} {l : Launch} {V : VT} {Rt : Option Value → MH → Prop} (o : Ok g l RX1 cX1_countChoices 3 0 0 0 V) (rr : ORi cX1_countChoices V Rt) (h : MH) (a0 : Nat) (x1 : Int32) (x2 : Int32) (ha0 : shp a0 = (1, 0)) : T (fun b => V 27 [(1, .int b)] [] h) (f_X1_countChoices_L4 h a0 x1 x2) (V 4 [(0, rA g a0), (1, .int x1), (2, .int x2)] [] h) := T_loop (head := fun s : Int32 × Int32 => V 4 [(0, rA g a0), (1, .int s.1), (2, .int s.2)] [] h) (fun s => t_X1_countChoices_B4 o rr h a0 s.1 s.2 ha0) (x1, x2)
noncomputable def f_X1_countChoices (h : MH) (a0 : Nat) : Option Int32 :=
  Option.bind (f_X1_countChoices_L4 h a0 0 0) (fun b4 => some b4)
set_option maxRecDepth 100000 in
set_option maxHeartbeats 4000000 in
theorem b_X1_countChoices {g : Gx} {l : Launch} {V : VT} {Rt : Option Value → MH → Prop} (o : Ok g l RX1 cX1_countChoices 3 0 0 0 V) (rr : ORi cX1_countChoices V Rt) (h : MH) (a0 : Nat) (ha0 : shp a0 = (1, 0)) : T (fun r => Rt (some (.int r)) h) (f_X1_countChoices h a0) (V 0 [(0, rA g a0)] [] h) := by
  unfold f_X1_countChoices
  refine R_iconst (v := 0) o dX1_countChoices_0 (by decide) ?_
  refine R_istore_n (lv2 := [(0, rA g a0), (1, .int 0)]) o dX1_countChoices_1 rfl (by decide) rfl ?_
  refine R_iconst (v := 0) o dX1_countChoices_2 (by decide) ?_
  refine R_istore_n (lv2 := [(0, rA g a0), (1, .int 0), (2, .int 0)]) o dX1_countChoices_3 rfl (by decide) rfl ?_
  refine T_bind (t_X1_countChoices_L4 o rr h a0 0 0 ha0) (fun b4 => ?_)
  refine R_iload_n o 0 dX1_countChoices_27 rfl rfl ?_
  exact T_some (fun p => rr _ _ _ _ dX1_countChoices_28 p)
theorem c_X1_countChoices (g : Gx) (l : Launch) (h : MH) (a0 : Nat) (ha0 : shp a0 = (1, 0)) (r : Int32) (e : f_X1_countChoices h a0 = some r) : Ctr g l yX1_countChoices cX1_countChoices 3 (some .int) 0 0 0 [rA g a0] h (some (.int r)) h := mkCi (plainFor_of_name (by decide)) (Nat.le_of_ble_eq_true rfl) (fun V Rt o rr p => b_X1_countChoices o rr h a0 ha0 r e p)
/-! X1_countFalls -/
noncomputable def f_X1_countFalls_B4 (h : MH) (a0 : Nat) (x1 : Int32) (x2 : Int32) : Option ((Int32 × Int32) ⊕ (Int32)) :=
  (if x2 < (h.1 a0 3) then gd (ix x2 40) (gd (ix (x2 - 1) 40) ((if (h.1 (rf a0 0) x2.toNatClampNeg) < (h.1 (rf a0 0) (x2 - 1).toNatClampNeg) then some (.inl ((x1 + 1), (x2 + 1))) else some (.inl (x1, (x2 + 1)))))) else some (.inr x1))
set_option maxRecDepth 100000 in
set_option maxHeartbeats 4000000 in
theorem t_X1_countFalls_B4 {g : Gx} {l : Launch} {V : VT} {Rt : Option Value → MH → Prop} (o : Ok g l RX1 cX1_countFalls 3 0 0 0 V) (rr : ORi cX1_countFalls V Rt) (h : MH) (a0 : Nat) (x1 : Int32) (x2 : Int32) (ha0 : shp a0 = (1, 0)) : T (Sum.elim (fun s => V 4 [(0, rA g a0), (1, .int s.1), (2, .int s.2)] [] h) (fun b => V 38 [(1, .int b)] [] h)) (f_X1_countFalls_B4  h a0 x1 x2) (V 4 [(0, rA g a0), (1, .int x1), (2, .int x2)] [] h) := by
  unfold f_X1_countFalls_B4
  refine R_iload_n o 2 dX1_countFalls_4 rfl rfl ?_
  refine R_aload_n o 0 dX1_countFalls_5 rfl rfl ?_
  refine R_getI o dX1_countFalls_6 fl_X1_22 ha0 (by decide) rfl ?_
  refine R_icmp_ge o 38 dX1_countFalls_9 (by decide) ?_ ?_
  · refine R_aload_n o 0 dX1_countFalls_12 rfl rfl ?_
    refine R_getR o dX1_countFalls_13 fl_X1_9 ha0 (by decide) rfl rfl ?_
    refine R_iload_n o 2 dX1_countFalls_16 rfl rfl ?_
    refine R_iald o dX1_countFalls_17 (sh_Cover_0 ha0) ?_
    refine R_aload_n o 0 dX1_countFalls_18 rfl rfl ?_
    refine R_getR o dX1_countFalls_19 fl_X1_9 ha0 (by decide) rfl rfl ?_
    refine R_iload_n o 2 dX1_countFalls_22 rfl rfl ?_
    refine R_iconst (v := 1) o dX1_countFalls_23 (by decide) ?_
    refine R_isub o dX1_countFalls_24 ?_
    refine R_iald o dX1_countFalls_25 (sh_Cover_0 ha0) ?_
    refine R_icmp_ge o 32 dX1_countFalls_26 (by decide) ?_ ?_
    · refine R_iinc (v := (x1 + 1)) (lv2 := [(0, rA g a0), (1, .int (x1 + 1)), (2, .int x2)]) o 1 dX1_countFalls_29 rfl rfl (by decide) rfl ?_
      refine R_iinc (v := (x2 + 1)) (lv2 := [(0, rA g a0), (1, .int (x1 + 1)), (2, .int (x2 + 1))]) o 2 dX1_countFalls_32 rfl rfl (by decide) rfl ?_
      refine R_goto o 4 dX1_countFalls_35 (by decide) ?_
      exact T_some (fun p => p)
    · refine R_iinc (v := (x2 + 1)) (lv2 := [(0, rA g a0), (1, .int x1), (2, .int (x2 + 1))]) o 2 dX1_countFalls_32 rfl rfl (by decide) rfl ?_
      refine R_goto o 4 dX1_countFalls_35 (by decide) ?_
      exact T_some (fun p => p)
  · refine R_drop (lv2 := [(1, .int x1)]) o [1] rfl ?_
    exact T_some (fun p => p)
noncomputable def f_X1_countFalls_L4 (h : MH) (a0 : Nat) (x1 : Int32) (x2 : Int32) : Option (Int32) :=
  lpo (fun s : Int32 × Int32 => f_X1_countFalls_B4 h a0 s.1 s.2) (x1, x2)
theorem t_X1_countFalls_L4 {g : Gx} {l : Launch} {V : VT} {Rt : Option Value → MH → Prop} (o : Ok g l RX1 cX1_countFalls 3 0 0 0 V) (rr : ORi cX1_countFalls V Rt) (h : MH) (a0 : Nat) (x1 : Int32) (x2 : Int32) (ha0 : shp a0 = (1, 0)) : T (fun b => V 38 [(1, .int b)] [] h) (f_X1_countFalls_L4 h a0 x1 x2) (V 4 [(0, rA g a0), (1, .int x1), (2, .int x2)] [] h) := T_loop (head := fun s : Int32 × Int32 => V 4 [(0, rA g a0), (1, .int s.1), (2, .int s.2)] [] h) (fun s => t_X1_countFalls_B4 o rr h a0 s.1 s.2 ha0) (x1, x2)
noncomputable def f_X1_countFalls (h : MH) (a0 : Nat) : Option Int32 :=
  Option.bind (f_X1_countFalls_L4 h a0 0 1) (fun b4 => some b4)
set_option maxRecDepth 100000 in
set_option maxHeartbeats 4000000 in
theorem b_X1_countFalls {g : Gx} {l : Launch} {V : VT} {Rt : Option Value → MH → Prop} (o : Ok g l RX1 cX1_countFalls 3 0 0 0 V) (rr : ORi cX1_countFalls V Rt) (h : MH) (a0 : Nat) (ha0 : shp a0 = (1, 0)) : T (fun r => Rt (some (.int r)) h) (f_X1_countFalls h a0) (V 0 [(0, rA g a0)] [] h) := by
  unfold f_X1_countFalls
  refine R_iconst (v := 0) o dX1_countFalls_0 (by decide) ?_
  refine R_istore_n (lv2 := [(0, rA g a0), (1, .int 0)]) o dX1_countFalls_1 rfl (by decide) rfl ?_
  refine R_iconst (v := 1) o dX1_countFalls_2 (by decide) ?_
  refine R_istore_n (lv2 := [(0, rA g a0), (1, .int 0), (2, .int 1)]) o dX1_countFalls_3 rfl (by decide) rfl ?_
  refine T_bind (t_X1_countFalls_L4 o rr h a0 0 1 ha0) (fun b4 => ?_)
  refine R_iload_n o 0 dX1_countFalls_38 rfl rfl ?_
  exact T_some (fun p => rr _ _ _ _ dX1_countFalls_39 p)
theorem c_X1_countFalls (g : Gx) (l : Launch) (h : MH) (a0 : Nat) (ha0 : shp a0 = (1, 0)) (r : Int32) (e : f_X1_countFalls h a0 = some r) : Ctr g l yX1_countFalls cX1_countFalls 3 (some .int) 0 0 0 [rA g a0] h (some (.int r)) h := mkCi (plainFor_of_name (by decide)) (Nat.le_of_ble_eq_true rfl) (fun V Rt o rr p => b_X1_countFalls o rr h a0 ha0 r e p)
/-! X1_totalOfDots -/
noncomputable def f_X1_totalOfDots_B4 (h : MH) (a0 : Nat) (x1 : Int32) (x2 : Int32) : Option ((Int32 × Int32) ⊕ (Int32)) :=
  (if x2 < (h.1 a0 3) then gd (ix x2 40) (nm (x1 + (h.1 (rf a0 0) x2.toNatClampNeg)) (fun v20 => some (.inl (v20, (x2 + 1))))) else some (.inr x1))
set_option maxRecDepth 100000 in
set_option maxHeartbeats 4000000 in
theorem t_X1_totalOfDots_B4 {g : Gx} {l : Launch} {V : VT} {Rt : Option Value → MH → Prop} (o : Ok g l RX1 cX1_totalOfDots 3 0 0 0 V) (rr : ORi cX1_totalOfDots V Rt) (h : MH) (a0 : Nat) (x1 : Int32) (x2 : Int32) (ha0 : shp a0 = (1, 0)) : T (Sum.elim (fun s => V 4 [(0, rA g a0), (1, .int s.1), (2, .int s.2)] [] h) (fun b => V 27 [(1, .int b)] [] h)) (f_X1_totalOfDots_B4  h a0 x1 x2) (V 4 [(0, rA g a0), (1, .int x1), (2, .int x2)] [] h) := by
  unfold f_X1_totalOfDots_B4
  refine R_iload_n o 2 dX1_totalOfDots_4 rfl rfl ?_
  refine R_aload_n o 0 dX1_totalOfDots_5 rfl rfl ?_
  refine R_getI o dX1_totalOfDots_6 fl_X1_22 ha0 (by decide) rfl ?_
  refine R_icmp_ge o 27 dX1_totalOfDots_9 (by decide) ?_ ?_
  · refine R_iload_n o 1 dX1_totalOfDots_12 rfl rfl ?_
    refine R_aload_n o 0 dX1_totalOfDots_13 rfl rfl ?_
    refine R_getR o dX1_totalOfDots_14 fl_X1_9 ha0 (by decide) rfl rfl ?_
    refine R_iload_n o 2 dX1_totalOfDots_17 rfl rfl ?_
    refine R_iald o dX1_totalOfDots_18 (sh_Cover_0 ha0) ?_
    refine R_iadd o dX1_totalOfDots_19 ?_
    refine R_nmI (fun v20 => ?_)
    refine R_istore_n (lv2 := [(0, rA g a0), (1, .int v20), (2, .int x2)]) o dX1_totalOfDots_20 rfl (by decide) rfl ?_
    refine R_iinc (v := (x2 + 1)) (lv2 := [(0, rA g a0), (1, .int v20), (2, .int (x2 + 1))]) o 2 dX1_totalOfDots_21 rfl rfl (by decide) rfl ?_
    refine R_goto o 4 dX1_totalOfDots_24 (by decide) ?_
    exact T_some (fun p => p)
  · refine R_drop (lv2 := [(1, .int x1)]) o [1] rfl ?_
    exact T_some (fun p => p)
noncomputable def f_X1_totalOfDots_L4 (h : MH) (a0 : Nat) (x1 : Int32) (x2 : Int32) : Option (Int32) :=
  lpo (fun s : Int32 × Int32 => f_X1_totalOfDots_B4 h a0 s.1 s.2) (x1, x2)
theorem t_X1_totalOfDots_L4 {g : Gx} {l : Launch} {V : VT} {Rt : Option Value → MH → Prop} (o : Ok g l RX1 cX1_totalOfDots 3 0 0 0 V) (rr : ORi cX1_totalOfDots V Rt) (h : MH) (a0 : Nat) (x1 : Int32) (x2 : Int32) (ha0 : shp a0 = (1, 0)) : T (fun b => V 27 [(1, .int b)] [] h) (f_X1_totalOfDots_L4 h a0 x1 x2) (V 4 [(0, rA g a0), (1, .int x1), (2, .int x2)] [] h) := T_loop (head := fun s : Int32 × Int32 => V 4 [(0, rA g a0), (1, .int s.1), (2, .int s.2)] [] h) (fun s => t_X1_totalOfDots_B4 o rr h a0 s.1 s.2 ha0) (x1, x2)
noncomputable def f_X1_totalOfDots (h : MH) (a0 : Nat) : Option Int32 :=
  Option.bind (f_X1_totalOfDots_L4 h a0 0 0) (fun b4 => some b4)
set_option maxRecDepth 100000 in
set_option maxHeartbeats 4000000 in
theorem b_X1_totalOfDots {g : Gx} {l : Launch} {V : VT} {Rt : Option Value → MH → Prop} (o : Ok g l RX1 cX1_totalOfDots 3 0 0 0 V) (rr : ORi cX1_totalOfDots V Rt) (h : MH) (a0 : Nat) (ha0 : shp a0 = (1, 0)) : T (fun r => Rt (some (.int r)) h) (f_X1_totalOfDots h a0) (V 0 [(0, rA g a0)] [] h) := by
  unfold f_X1_totalOfDots
  refine R_iconst (v := 0) o dX1_totalOfDots_0 (by decide) ?_
  refine R_istore_n (lv2 := [(0, rA g a0), (1, .int 0)]) o dX1_totalOfDots_1 rfl (by decide) rfl ?_
  refine R_iconst (v := 0) o dX1_totalOfDots_2 (by decide) ?_
  refine R_istore_n (lv2 := [(0, rA g a0), (1, .int 0), (2, .int 0)]) o dX1_totalOfDots_3 rfl (by decide) rfl ?_
  refine T_bind (t_X1_totalOfDots_L4 o rr h a0 0 0 ha0) (fun b4 => ?_)
  refine R_iload_n o 0 dX1_totalOfDots_27 rfl rfl ?_
  exact T_some (fun p => rr _ _ _ _ dX1_totalOfDots_28 p)
theorem c_X1_totalOfDots (g : Gx) (l : Launch) (h : MH) (a0 : Nat) (ha0 : shp a0 = (1, 0)) (r : Int32) (e : f_X1_totalOfDots h a0 = some r) : Ctr g l yX1_totalOfDots cX1_totalOfDots 3 (some .int) 0 0 0 [rA g a0] h (some (.int r)) h := mkCi (plainFor_of_name (by decide)) (Nat.le_of_ble_eq_true rfl) (fun V Rt o rr p => b_X1_totalOfDots o rr h a0 ha0 r e p)
/-! J7_rangeCheck_23922 -/
noncomputable def f_J7_rangeCheck_23922 (x0 : Int32) (x1 : Int32) (x2 : Int32) : Option Unit :=
  (if x2 < x1 then none else (if x1 < 0 then none else (if x0 < x2 then none else some ())))
set_option maxRecDepth 100000 in
set_option maxHeartbeats 4000000 in
theorem b_J7_rangeCheck_23922 {g : Gx} {l : Launch} {V : VT} {Rt : Option Value → MH → Prop} (o : Ok g l RJ7 cJ7_rangeCheck_23922 3 0 0 0 V) (rr : ORv cJ7_rangeCheck_23922 V Rt) (h : MH) (x0 : Int32) (x1 : Int32) (x2 : Int32) : T (fun _ => Rt none h) (f_J7_rangeCheck_23922  x0 x1 x2) (V 0 [(0, .int x0), (1, .int x1), (2, .int x2)] [] h) := by
  unfold f_J7_rangeCheck_23922
  refine R_iload_n o 1 dJ7_rangeCheck_23922_0 rfl rfl ?_
  refine R_iload_n o 2 dJ7_rangeCheck_23922_1 rfl rfl ?_
  refine R_icmp_le o 46 dJ7_rangeCheck_23922_2 (by decide) ?_ ?_
  · exact T_none
  · refine R_iload_n o 1 dJ7_rangeCheck_23922_46 rfl rfl ?_
    refine R_if_ge o 59 dJ7_rangeCheck_23922_47 (by decide) ?_ ?_
    · exact T_none
    · refine R_iload_n o 2 dJ7_rangeCheck_23922_59 rfl rfl ?_
      refine R_iload_n o 0 dJ7_rangeCheck_23922_60 rfl rfl ?_
      refine R_icmp_le o 73 dJ7_rangeCheck_23922_61 (by decide) ?_ ?_
      · exact T_none
      · exact T_some (fun p => rr _ _ _ dJ7_rangeCheck_23922_73 p)
theorem c_J7_rangeCheck_23922 (g : Gx) (l : Launch) (h : MH) (x0 : Int32) (x1 : Int32) (x2 : Int32) (r : Unit) (e : f_J7_rangeCheck_23922  x0 x1 x2 = some r) : Ctr g l yJ7_rangeCheck_23922 cJ7_rangeCheck_23922 3 none 0 0 0 [.int x0, .int x1, .int x2] h none h := mkCv (plainFor_of_name (by decide)) (Nat.le_of_ble_eq_true rfl) (fun V Rt o rr p => b_J7_rangeCheck_23922 o rr h x0 x1 x2  r e p)
/-! J7_fill_fda19 -/
noncomputable def f_J7_fill_fda19_B10 (h : MH) (a0 : Nat) (n0 : Nat) (x2 : Int32) (x3 : Int32) (x4 : Int32) : Option ((Int32 × MH) ⊕ (MH)) :=
  (if x4 < x2 then gd (ix x4 n0) (nm (uI h a0 x4.toNatClampNeg x3) (fun h20 => some (.inl ((x4 + 1), h20)))) else some (.inr h))
set_option maxRecDepth 100000 in
set_option maxHeartbeats 4000000 in
theorem t_J7_fill_fda19_B10 {g : Gx} {l : Launch} {V : VT} {Rt : Option Value → MH → Prop} (o : Ok g l RJ7 cJ7_fill_fda19 5 1 22 0 V) (rr : ORv cJ7_fill_fda19 V Rt) (h : MH) (a0 : Nat) (n0 : Nat) (x2 : Int32) (x3 : Int32) (x4 : Int32) (ha0 : shp a0 = (10, n0)) : T (Sum.elim (fun s => V 10 [(0, rA g a0), (2, .int x2), (3, .int x3), (4, .int s.1)] [] s.2) (fun b => V 27 [] [] b)) (f_J7_fill_fda19_B10  h a0 n0 x2 x3 x4) (V 10 [(0, rA g a0), (2, .int x2), (3, .int x3), (4, .int x4)] [] h) := by
  unfold f_J7_fill_fda19_B10
  refine R_iload o 3 dJ7_fill_fda19_10 rfl ?_
  refine R_iload_n o 1 dJ7_fill_fda19_12 rfl rfl ?_
  refine R_icmp_ge o 27 dJ7_fill_fda19_13 (by decide) ?_ ?_
  · refine R_aload_n o 0 dJ7_fill_fda19_16 rfl rfl ?_
    refine R_iload o 3 dJ7_fill_fda19_17 rfl ?_
    refine R_iload_n o 2 dJ7_fill_fda19_19 rfl rfl ?_
    refine R_iast o dJ7_fill_fda19_20 ha0 ?_
    refine R_nmH (fun h20 => ?_)
    refine R_iinc (v := (x4 + 1)) (lv2 := [(0, rA g a0), (2, .int x2), (3, .int x3), (4, .int (x4 + 1))]) o 3 dJ7_fill_fda19_21 rfl rfl (by decide) rfl ?_
    refine R_goto o 10 dJ7_fill_fda19_24 (by decide) ?_
    exact T_some (fun p => p)
  · refine R_drop (lv2 := []) o [] rfl ?_
    exact T_some (fun p => p)
noncomputable def f_J7_fill_fda19_L10 (h : MH) (a0 : Nat) (n0 : Nat) (x2 : Int32) (x3 : Int32) (x4 : Int32) : Option (MH) :=
  lpo (fun s : Int32 × MH => f_J7_fill_fda19_B10 s.2 a0 n0 x2 x3 s.1) (x4, h)
theorem t_J7_fill_fda19_L10 {g : Gx} {l : Launch} {V : VT} {Rt : Option Value → MH → Prop} (o : Ok g l RJ7 cJ7_fill_fda19 5 1 22 0 V) (rr : ORv cJ7_fill_fda19 V Rt) (h : MH) (a0 : Nat) (n0 : Nat) (x2 : Int32) (x3 : Int32) (x4 : Int32) (ha0 : shp a0 = (10, n0)) : T (fun b => V 27 [] [] b) (f_J7_fill_fda19_L10 h a0 n0 x2 x3 x4) (V 10 [(0, rA g a0), (2, .int x2), (3, .int x3), (4, .int x4)] [] h) := T_loop (head := fun s : Int32 × MH => V 10 [(0, rA g a0), (2, .int x2), (3, .int x3), (4, .int s.1)] [] s.2) (fun s => t_J7_fill_fda19_B10 o rr s.2 a0 n0 x2 x3 s.1 ha0) (x4, h)
noncomputable def f_J7_fill_fda19 (h : MH) (a0 : Nat) (n0 : Nat) (x1 : Int32) (x2 : Int32) (x3 : Int32) : Option MH :=
  Option.bind (f_J7_rangeCheck_23922 (nI n0) x1 x2) (fun r4 => Option.bind (f_J7_fill_fda19_L10 h a0 n0 x2 x3 x1) (fun b10 => some b10))
set_option maxRecDepth 100000 in
set_option maxHeartbeats 4000000 in
theorem b_J7_fill_fda19 {g : Gx} {l : Launch} {V : VT} {Rt : Option Value → MH → Prop} (o : Ok g l RJ7 cJ7_fill_fda19 5 1 22 0 V) (rr : ORv cJ7_fill_fda19 V Rt) (h : MH) (a0 : Nat) (n0 : Nat) (x1 : Int32) (x2 : Int32) (x3 : Int32) (ha0 : shp a0 = (10, n0)) : T (fun r => Rt none r) (f_J7_fill_fda19 h a0 n0 x1 x2 x3) (V 0 [(0, rA g a0), (1, .int x1), (2, .int x2), (3, .int x3)] [] h) := by
  unfold f_J7_fill_fda19
  refine R_aload_n o 0 dJ7_fill_fda19_0 rfl rfl ?_
  refine R_alenI (v := (nI n0)) o dJ7_fill_fda19_1 ha0 (Or.inl rfl) rfl ?_
  refine R_iload_n o 1 dJ7_fill_fda19_2 rfl rfl ?_
  refine R_iload_n o 2 dJ7_fill_fda19_3 rfl rfl ?_
  refine K_v (callS' (av := [.int (nI n0), .int x1, .int x2]) (rest := []) o dJ7_fill_fda19_4 lk_J7_13 rfl rfl rfl (Nat.le_of_ble_eq_true rfl)) (c_J7_rangeCheck_23922 g l h (nI n0) x1 x2) (fun r4 => ?_)
  refine R_iload_n o 1 dJ7_fill_fda19_7 rfl rfl ?_
  refine R_istore (lv2 := [(0, rA g a0), (1, .int x1), (2, .int x2), (3, .int x3), (4, .int x1)]) o dJ7_fill_fda19_8 (by decide) rfl ?_
  refine R_drop (lv2 := [(0, rA g a0), (2, .int x2), (3, .int x3), (4, .int x1)]) o [0, 2, 3, 4] rfl ?_
  refine T_bind (t_J7_fill_fda19_L10 o rr h a0 n0 x2 x3 x1 ha0) (fun b10 => ?_)
  exact T_some (fun p => rr _ _ _ dJ7_fill_fda19_27 p)
theorem c_J7_fill_fda19 (g : Gx) (l : Launch) (h : MH) (a0 : Nat) (n0 : Nat) (x1 : Int32) (x2 : Int32) (x3 : Int32) (ha0 : shp a0 = (10, n0)) (r : MH) (e : f_J7_fill_fda19 h a0 n0 x1 x2 x3 = some r) : Ctr g l yJ7_fill_fda19 cJ7_fill_fda19 5 none 1 22 0 [rA g a0, .int x1, .int x2, .int x3] h none r := mkCv (plainFor_of_name (by decide)) (Nat.le_of_ble_eq_true rfl) (fun V Rt o rr p => b_J7_fill_fda19 o rr h a0 n0 x1 x2 x3 ha0 r e p)
/-! X5_renew -/
noncomputable def f_X5_renew (h : MH) (a0 : Nat) (x1 : Int32) (x2 : Int32) : Option MH :=
  Option.bind (f_J9_min_7cf53 x1 60) (fun r8 => Option.bind (f_J9_max_7cf53 0 r8) (fun r11 => nm (uI h a0 1 r11) (fun h14 => Option.bind (f_J7_fill_fda19 h14 (rf a0 0) 60 0 (h14.1 a0 1) x2) (fun h27 => some h27))))
set_option maxRecDepth 100000 in
set_option maxHeartbeats 4000000 in
theorem b_X5_renew {g : Gx} {l : Launch} {V : VT} {Rt : Option Value → MH → Prop} (o : Ok g l RX5 cX5_renew 3 2 46 0 V) (rr : ORv cX5_renew V Rt) (h : MH) (a0 : Nat) (x1 : Int32) (x2 : Int32) (ha0 : shp a0 = (5, 0)) : T (fun r => Rt none r) (f_X5_renew h a0 x1 x2) (V 0 [(0, rA g a0), (1, .int x1), (2, .int x2)] [] h) := by
  unfold f_X5_renew
  refine R_aload_n o 0 dX5_renew_0 rfl rfl ?_
  refine R_iconst (v := 0) o dX5_renew_1 (by decide) ?_
  refine R_iload_n o 1 dX5_renew_2 rfl rfl ?_
  refine R_aload_n o 0 dX5_renew_3 rfl rfl ?_
  refine R_getR o dX5_renew_4 fl_X5_9 ha0 (by decide) rfl rfl ?_
  refine R_alenI (v := 60) o dX5_renew_7 (sh_Row_0 ha0) (Or.inl rfl) rfl ?_
  refine K_i (callS' (av := [.int x1, .int 60]) (rest := [.int 0, rA g a0]) o dX5_renew_8 lk_X5_23 rfl rfl rfl (Nat.le_of_ble_eq_true rfl)) (c_J9_min_7cf53 g l h x1 60) (fun r8 => ?_)
  refine K_i (callS' (av := [.int 0, .int r8]) (rest := [rA g a0]) o dX5_renew_11 lk_X5_29 rfl rfl rfl (Nat.le_of_ble_eq_true rfl)) (c_J9_max_7cf53 g l h 0 r8) (fun r11 => ?_)
  refine R_putI o dX5_renew_14 fp_X5_15 ha0 (by decide) rfl ?_
  refine R_nmH (fun h14 => ?_)
  refine R_aload_n o 0 dX5_renew_17 rfl rfl ?_
  refine R_getR o dX5_renew_18 fl_X5_9 ha0 (by decide) rfl rfl ?_
  refine R_iconst (v := 0) o dX5_renew_21 (by decide) ?_
  refine R_aload_n o 0 dX5_renew_22 rfl rfl ?_
  refine R_getI o dX5_renew_23 fl_X5_15 ha0 (by decide) rfl ?_
  refine R_iload_n o 2 dX5_renew_26 rfl rfl ?_
  refine K_vh (callS' (av := [rA g (rf a0 0), .int 0, .int (h14.1 a0 1), .int x2]) (rest := []) o dX5_renew_27 lk_X5_32 rfl rfl rfl (Nat.le_of_ble_eq_true rfl)) (c_J7_fill_fda19 g l h14 (rf a0 0) 60 0 (h14.1 a0 1) x2 (sh_Row_0 ha0)) (fun h27 => ?_)
  exact T_some (fun p => rr _ _ _ dX5_renew_30 p)
theorem c_X5_renew (g : Gx) (l : Launch) (h : MH) (a0 : Nat) (x1 : Int32) (x2 : Int32) (ha0 : shp a0 = (5, 0)) (r : MH) (e : f_X5_renew h a0 x1 x2 = some r) : Ctr g l yX5_renew cX5_renew 3 none 2 46 0 [rA g a0, .int x1, .int x2] h none r := mkCv (plainFor_of_name (by decide)) (Nat.le_of_ble_eq_true rfl) (fun V Rt o rr p => b_X5_renew o rr h a0 x1 x2 ha0 r e p)
/-! X5_set -/
noncomputable def f_X5_set (h : MH) (a0 : Nat) (x1 : Int32) (x2 : Int32) : Option MH :=
  Option.bind (f_X5_has h a0 x1) (fun r2 => (if r2 = true then gd (ix x1 60) (nm (uI h (rf a0 0) x1.toNatClampNeg x2) (fun h14 => some h14)) else some h))
set_option maxRecDepth 100000 in
set_option maxHeartbeats 4000000 in
theorem b_X5_set {g : Gx} {l : Launch} {V : VT} {Rt : Option Value → MH → Prop} (o : Ok g l RX5 cX5_set 3 1 21 0 V) (rr : ORv cX5_set V Rt) (h : MH) (a0 : Nat) (x1 : Int32) (x2 : Int32) (ha0 : shp a0 = (5, 0)) : T (fun r => Rt none r) (f_X5_set h a0 x1 x2) (V 0 [(0, rA g a0), (1, .int x1), (2, .int x2)] [] h) := by
  unfold f_X5_set
  refine R_aload_n o 0 dX5_set_0 rfl rfl ?_
  refine R_iload_n o 1 dX5_set_1 rfl rfl ?_
  refine K_z (callV' (As := [.int x1]) (rest := []) o dX5_set_2 lk_X5_19 rfl ha0 rfl rfl rfl rfl (Nat.le_of_ble_eq_true rfl)) (c_X5_has g l h a0 x1 ha0) (fun r2 => ?_)
  refine R_bif_eq o 15 dX5_set_5 (by decide) ?_ ?_
  · refine R_aload_n o 0 dX5_set_8 rfl rfl ?_
    refine R_getR o dX5_set_9 fl_X5_9 ha0 (by decide) rfl rfl ?_
    refine R_iload_n o 1 dX5_set_12 rfl rfl ?_
    refine R_iload_n o 2 dX5_set_13 rfl rfl ?_
    refine R_iast o dX5_set_14 (sh_Row_0 ha0) ?_
    refine R_nmH (fun h14 => ?_)
    exact T_some (fun p => rr _ _ _ dX5_set_15 p)
  · exact T_some (fun p => rr _ _ _ dX5_set_15 p)
theorem c_X5_set (g : Gx) (l : Launch) (h : MH) (a0 : Nat) (x1 : Int32) (x2 : Int32) (ha0 : shp a0 = (5, 0)) (r : MH) (e : f_X5_set h a0 x1 x2 = some r) : Ctr g l yX5_set cX5_set 3 none 1 21 0 [rA g a0, .int x1, .int x2] h none r := mkCv (plainFor_of_name (by decide)) (Nat.le_of_ble_eq_true rfl) (fun V Rt o rr p => b_X5_set o rr h a0 x1 x2 ha0 r e p)
/-! X1_countInto -/
noncomputable def f_X1_countInto_B9 (h : MH) (a0 : Nat) (a1 : Nat) (x2 : Int32) : Option ((Int32 × MH) ⊕ (MH)) :=
  (if x2 < (h.1 a0 3) then gd (ix x2 40) (nm ((h.1 (rf a0 0) x2.toNatClampNeg) &&& 7) (fun v26 => Option.bind (f_X5_get h a1 v26) (fun r31 => Option.bind (f_X5_set h a1 v26 (r31 + 1)) (fun h36 => some (.inl ((x2 + 1), h36)))))) else some (.inr h))
set_option maxRecDepth 100000 in
set_option maxHeartbeats 4000000 in
theorem t_X1_countInto_B9 {g : Gx} {l : Launch} {V : VT} {Rt : Option Value → MH → Prop} (o : Ok g l RX1 cX1_countInto 4 3 68 0 V) (rr : ORv cX1_countInto V Rt) (h : MH) (a0 : Nat) (a1 : Nat) (x2 : Int32) (ha0 : shp a0 = (1, 0)) (ha1 : shp a1 = (5, 0)) : T (Sum.elim (fun s => V 9 [(0, rA g a0), (1, rA g a1), (2, .int s.1)] [] s.2) (fun b => V 45 [] [] b)) (f_X1_countInto_B9  h a0 a1 x2) (V 9 [(0, rA g a0), (1, rA g a1), (2, .int x2)] [] h) := by
  unfold f_X1_countInto_B9
  refine R_iload_n o 2 dX1_countInto_9 rfl rfl ?_
  refine R_aload_n o 0 dX1_countInto_10 rfl rfl ?_
  refine R_getI o dX1_countInto_11 fl_X1_22 ha0 (by decide) rfl ?_
  refine R_icmp_ge o 45 dX1_countInto_14 (by decide) ?_ ?_
  · refine R_aload_n o 0 dX1_countInto_17 rfl rfl ?_
    refine R_getR o dX1_countInto_18 fl_X1_9 ha0 (by decide) rfl rfl ?_
    refine R_iload_n o 2 dX1_countInto_21 rfl rfl ?_
    refine R_iald o dX1_countInto_22 (sh_Cover_0 ha0) ?_
    refine R_bipush (v := 7) o dX1_countInto_23 (by decide) ?_
    refine R_iand o dX1_countInto_25 ?_
    refine R_nmI (fun v26 => ?_)
    refine R_istore_n (lv2 := [(0, rA g a0), (1, rA g a1), (2, .int x2), (3, .int v26)]) o dX1_countInto_26 rfl (by decide) rfl ?_
    refine R_aload_n o 1 dX1_countInto_27 rfl rfl ?_
    refine R_iload_n o 3 dX1_countInto_28 rfl rfl ?_
    refine R_aload_n o 1 dX1_countInto_29 rfl rfl ?_
    refine R_iload_n o 3 dX1_countInto_30 rfl rfl ?_
    refine K_i (callV' (As := [.int v26]) (rest := [.int v26, rA g a1]) o dX1_countInto_31 lk_X1_98 rfl ha1 rfl rfl rfl rfl (Nat.le_of_ble_eq_true rfl)) (c_X5_get g l h a1 v26 ha1) (fun r31 => ?_)
    refine R_iconst (v := 1) o dX1_countInto_34 (by decide) ?_
    refine R_iadd o dX1_countInto_35 ?_
    refine K_vh (callV' (As := [.int v26, .int (r31 + 1)]) (rest := []) o dX1_countInto_36 lk_X1_101 rfl ha1 rfl rfl rfl rfl (Nat.le_of_ble_eq_true rfl)) (c_X5_set g l h a1 v26 (r31 + 1) ha1) (fun h36 => ?_)
    refine R_iinc (v := (x2 + 1)) (lv2 := [(0, rA g a0), (1, rA g a1), (2, .int (x2 + 1)), (3, .int v26)]) o 2 dX1_countInto_39 rfl rfl (by decide) rfl ?_
    refine R_goto o 9 dX1_countInto_42 (by decide) ?_
    refine R_drop (lv2 := [(0, rA g a0), (1, rA g a1), (2, .int (x2 + 1))]) o [0, 1, 2] rfl ?_
    exact T_some (fun p => p)
  · refine R_drop (lv2 := []) o [] rfl ?_
    exact T_some (fun p => p)
noncomputable def f_X1_countInto_L9 (h : MH) (a0 : Nat) (a1 : Nat) (x2 : Int32) : Option (MH) :=
  lpo (fun s : Int32 × MH => f_X1_countInto_B9 s.2 a0 a1 s.1) (x2, h)
theorem t_X1_countInto_L9 {g : Gx} {l : Launch} {V : VT} {Rt : Option Value → MH → Prop} (o : Ok g l RX1 cX1_countInto 4 3 68 0 V) (rr : ORv cX1_countInto V Rt) (h : MH) (a0 : Nat) (a1 : Nat) (x2 : Int32) (ha0 : shp a0 = (1, 0)) (ha1 : shp a1 = (5, 0)) : T (fun b => V 45 [] [] b) (f_X1_countInto_L9 h a0 a1 x2) (V 9 [(0, rA g a0), (1, rA g a1), (2, .int x2)] [] h) := T_loop (head := fun s : Int32 × MH => V 9 [(0, rA g a0), (1, rA g a1), (2, .int s.1)] [] s.2) (fun s => t_X1_countInto_B9 o rr s.2 a0 a1 s.1 ha0 ha1) (x2, h)
noncomputable def f_X1_countInto (h : MH) (a0 : Nat) (a1 : Nat) : Option MH :=
  Option.bind (f_X5_renew h a1 8 0) (fun h4 => Option.bind (f_X1_countInto_L9 h4 a0 a1 0) (fun b9 => some b9))
set_option maxRecDepth 100000 in
set_option maxHeartbeats 4000000 in
theorem b_X1_countInto {g : Gx} {l : Launch} {V : VT} {Rt : Option Value → MH → Prop} (o : Ok g l RX1 cX1_countInto 4 3 68 0 V) (rr : ORv cX1_countInto V Rt) (h : MH) (a0 : Nat) (a1 : Nat) (ha0 : shp a0 = (1, 0)) (ha1 : shp a1 = (5, 0)) : T (fun r => Rt none r) (f_X1_countInto h a0 a1) (V 0 [(0, rA g a0), (1, rA g a1)] [] h) := by
  unfold f_X1_countInto
  refine R_aload_n o 1 dX1_countInto_0 rfl rfl ?_
  refine R_bipush (v := 8) o dX1_countInto_1 (by decide) ?_
  refine R_iconst (v := 0) o dX1_countInto_3 (by decide) ?_
  refine K_vh (callV' (As := [.int 8, .int 0]) (rest := []) o dX1_countInto_4 lk_X1_94 rfl ha1 rfl rfl rfl rfl (Nat.le_of_ble_eq_true rfl)) (c_X5_renew g l h a1 8 0 ha1) (fun h4 => ?_)
  refine R_iconst (v := 0) o dX1_countInto_7 (by decide) ?_
  refine R_istore_n (lv2 := [(0, rA g a0), (1, rA g a1), (2, .int 0)]) o dX1_countInto_8 rfl (by decide) rfl ?_
  refine T_bind (t_X1_countInto_L9 o rr h4 a0 a1 0 ha0 ha1) (fun b9 => ?_)
  exact T_some (fun p => rr _ _ _ dX1_countInto_45 p)
theorem c_X1_countInto (g : Gx) (l : Launch) (h : MH) (a0 : Nat) (a1 : Nat) (ha0 : shp a0 = (1, 0)) (ha1 : shp a1 = (5, 0)) (r : MH) (e : f_X1_countInto h a0 a1 = some r) : Ctr g l yX1_countInto cX1_countInto 4 none 3 68 0 [rA g a0, rA g a1] h none r := mkCv (plainFor_of_name (by decide)) (Nat.le_of_ble_eq_true rfl) (fun V Rt o rr p => b_X1_countInto o rr h a0 a1 ha0 ha1 r e p)
/-! X1_isFirstOfPair -/
noncomputable def f_X1_isFirstOfPair_B2 (h : MH) (a0 : Nat) (x1 : Int32) (x2 : Int32) : Option ((Int32) ⊕ ((Unit) ⊕ (Bool))) :=
  (if x2 < x1 then Option.bind (f_X1_dotAt h a0 x2) (fun r9 => Option.bind (f_X1_dotAt h a0 x1) (fun r16 => (if (shr r9 1) = (shr r16 1) then some (.inr (.inr false)) else some (.inl (x2 + 1))))) else some (.inr (.inl ())))
set_option maxRecDepth 100000 in
set_option maxHeartbeats 4000000 in
theorem t_X1_isFirstOfPair_B2 {g : Gx} {l : Launch} {V : VT} {Rt : Option Value → MH → Prop} (o : Ok g l RX1 cX1_isFirstOfPair 3 2 42 0 V) (rr : ORz cX1_isFirstOfPair V Rt) (h : MH) (a0 : Nat) (x1 : Int32) (x2 : Int32) (ha0 : shp a0 = (1, 0)) : T (Sum.elim (fun s => V 2 [(0, rA g a0), (1, .int x1), (2, .int s)] [] h) (Sum.elim (fun b => V 32 [] [] h) (fun r => Rt (some (.int (b2i r))) h))) (f_X1_isFirstOfPair_B2  h a0 x1 x2) (V 2 [(0, rA g a0), (1, .int x1), (2, .int x2)] [] h) := by
  unfold f_X1_isFirstOfPair_B2
  refine R_iload_n o 2 dX1_isFirstOfPair_2 rfl rfl ?_
  refine R_iload_n o 1 dX1_isFirstOfPair_3 rfl rfl ?_
  refine R_icmp_ge o 32 dX1_isFirstOfPair_4 (by decide) ?_ ?_
  · refine R_aload_n o 0 dX1_isFirstOfPair_7 rfl rfl ?_
    refine R_iload_n o 2 dX1_isFirstOfPair_8 rfl rfl ?_
    refine K_i (callV' (As := [.int x2]) (rest := []) o dX1_isFirstOfPair_9 lk_X1_66 rfl ha0 rfl rfl rfl rfl (Nat.le_of_ble_eq_true rfl)) (c_X1_dotAt g l h a0 x2 ha0) (fun r9 => ?_)
    refine R_iconst (v := 1) o dX1_isFirstOfPair_12 (by decide) ?_
    refine R_ishr o dX1_isFirstOfPair_13 ?_
    refine R_aload_n o 0 dX1_isFirstOfPair_14 rfl rfl ?_
    refine R_iload_n o 1 dX1_isFirstOfPair_15 rfl rfl ?_
    refine K_i (callV' (As := [.int x1]) (rest := [.int (shr r9 1)]) o dX1_isFirstOfPair_16 lk_X1_66 rfl ha0 rfl rfl rfl rfl (Nat.le_of_ble_eq_true rfl)) (c_X1_dotAt g l h a0 x1 ha0) (fun r16 => ?_)
    refine R_iconst (v := 1) o dX1_isFirstOfPair_19 (by decide) ?_
    refine R_ishr o dX1_isFirstOfPair_20 ?_
    refine R_icmp_ne o 26 dX1_isFirstOfPair_21 (by decide) ?_ ?_
    · refine R_iconst (v := 0) o dX1_isFirstOfPair_24 (by decide) ?_
      exact T_some (fun p => rr _ _ false _ dX1_isFirstOfPair_25 p)
    · refine R_iinc (v := (x2 + 1)) (lv2 := [(0, rA g a0), (1, .int x1), (2, .int (x2 + 1))]) o 2 dX1_isFirstOfPair_26 rfl rfl (by decide) rfl ?_
      refine R_goto o 2 dX1_isFirstOfPair_29 (by decide) ?_
      exact T_some (fun p => p)
  · refine R_drop (lv2 := []) o [] rfl ?_
    exact T_some (fun p => p)
noncomputable def f_X1_isFirstOfPair_L2 (h : MH) (a0 : Nat) (x1 : Int32) (x2 : Int32) : Option ((Unit) ⊕ (Bool)) :=
  lpo (fun s : Int32 => f_X1_isFirstOfPair_B2 h a0 x1 s) x2
theorem t_X1_isFirstOfPair_L2 {g : Gx} {l : Launch} {V : VT} {Rt : Option Value → MH → Prop} (o : Ok g l RX1 cX1_isFirstOfPair 3 2 42 0 V) (rr : ORz cX1_isFirstOfPair V Rt) (h : MH) (a0 : Nat) (x1 : Int32) (x2 : Int32) (ha0 : shp a0 = (1, 0)) : T (Sum.elim (fun b => V 32 [] [] h) (fun r => Rt (some (.int (b2i r))) h)) (f_X1_isFirstOfPair_L2 h a0 x1 x2) (V 2 [(0, rA g a0), (1, .int x1), (2, .int x2)] [] h) := T_loop (head := fun s : Int32 => V 2 [(0, rA g a0), (1, .int x1), (2, .int s)] [] h) (fun s => t_X1_isFirstOfPair_B2 o rr h a0 x1 s ha0) x2
noncomputable def f_X1_isFirstOfPair (h : MH) (a0 : Nat) (x1 : Int32) : Option Bool :=
  Option.bind (f_X1_isFirstOfPair_L2 h a0 x1 0) (Sum.elim (fun b2 => some true) (fun r => some r))
set_option maxRecDepth 100000 in
set_option maxHeartbeats 4000000 in
theorem b_X1_isFirstOfPair {g : Gx} {l : Launch} {V : VT} {Rt : Option Value → MH → Prop} (o : Ok g l RX1 cX1_isFirstOfPair 3 2 42 0 V) (rr : ORz cX1_isFirstOfPair V Rt) (h : MH) (a0 : Nat) (x1 : Int32) (ha0 : shp a0 = (1, 0)) : T (fun r => Rt (some (.int (b2i r))) h) (f_X1_isFirstOfPair h a0 x1) (V 0 [(0, rA g a0), (1, .int x1)] [] h) := by
  unfold f_X1_isFirstOfPair
  refine R_iconst (v := 0) o dX1_isFirstOfPair_0 (by decide) ?_
  refine R_istore_n (lv2 := [(0, rA g a0), (1, .int x1), (2, .int 0)]) o dX1_isFirstOfPair_1 rfl (by decide) rfl ?_
  refine T_bind2 (t_X1_isFirstOfPair_L2 o rr h a0 x1 0 ha0) (fun b2 => ?_) (fun r => ?_)
  · refine R_iconst (v := 1) o dX1_isFirstOfPair_32 (by decide) ?_
    exact T_some (fun p => rr _ _ true _ dX1_isFirstOfPair_33 p)
  · exact T_some (fun p => p)
theorem c_X1_isFirstOfPair (g : Gx) (l : Launch) (h : MH) (a0 : Nat) (x1 : Int32) (ha0 : shp a0 = (1, 0)) (r : Bool) (e : f_X1_isFirstOfPair h a0 x1 = some r) : Ctr g l yX1_isFirstOfPair cX1_isFirstOfPair 3 (some .boolean) 2 42 0 [rA g a0, .int x1] h (some (.int (b2i r))) h := mkCz (plainFor_of_name (by decide)) (Nat.le_of_ble_eq_true rfl) (fun V Rt o rr p => b_X1_isFirstOfPair o rr h a0 x1 ha0 r e p)
/-! X1_countDot -/
noncomputable def f_X1_countDot_B4 (h : MH) (a0 : Nat) (x1 : Int32) (x2 : Int32) (x3 : Int32) : Option ((Int32 × Int32) ⊕ (Int32)) :=
  (if x3 < (h.1 a0 3) then gd (ix x3 40) ((if (h.1 (rf a0 0) x3.toNatClampNeg) = x1 then some (.inl ((x2 + 1), (x3 + 1))) else some (.inl (x2, (x3 + 1))))) else some (.inr x2))
set_option maxRecDepth 100000 in
set_option maxHeartbeats 4000000 in
theorem t_X1_countDot_B4 {g : Gx} {l : Launch} {V : VT} {Rt : Option Value → MH → Prop} (o : Ok g l RX1 cX1_countDot 4 0 0 0 V) (rr : ORi cX1_countDot V Rt) (h : MH) (a0 : Nat) (x1 : Int32) (x2 : Int32) (x3 : Int32) (ha0 : shp a0 = (1, 0)) : T (Sum.elim (fun s => V 4 [(0, rA g a0), (1, .int x1), (2, .int s.1), (3, .int s.2)] [] h) (fun b => V 31 [(2, .int b)] [] h)) (f_X1_countDot_B4  h a0 x1 x2 x3) (V 4 [(0, rA g a0), (1, .int x1), (2, .int x2), (3, .int x3)] [] h) := by
  unfold f_X1_countDot_B4
  refine R_iload_n o 3 dX1_countDot_4 rfl rfl ?_
  refine R_aload_n o 0 dX1_countDot_5 rfl rfl ?_
  refine R_getI o dX1_countDot_6 fl_X1_22 ha0 (by decide) rfl ?_
  refine R_icmp_ge o 31 dX1_countDot_9 (by decide) ?_ ?_
  · refine R_aload_n o 0 dX1_countDot_12 rfl rfl ?_
    refine R_getR o dX1_countDot_13 fl_X1_9 ha0 (by decide) rfl rfl ?_
    refine R_iload_n o 3 dX1_countDot_16 rfl rfl ?_
    refine R_iald o dX1_countDot_17 (sh_Cover_0 ha0) ?_
    refine R_iload_n o 1 dX1_countDot_18 rfl rfl ?_
    refine R_icmp_ne o 25 dX1_countDot_19 (by decide) ?_ ?_
    · refine R_iinc (v := (x2 + 1)) (lv2 := [(0, rA g a0), (1, .int x1), (2, .int (x2 + 1)), (3, .int x3)]) o 2 dX1_countDot_22 rfl rfl (by decide) rfl ?_
      refine R_iinc (v := (x3 + 1)) (lv2 := [(0, rA g a0), (1, .int x1), (2, .int (x2 + 1)), (3, .int (x3 + 1))]) o 3 dX1_countDot_25 rfl rfl (by decide) rfl ?_
      refine R_goto o 4 dX1_countDot_28 (by decide) ?_
      exact T_some (fun p => p)
    · refine R_iinc (v := (x3 + 1)) (lv2 := [(0, rA g a0), (1, .int x1), (2, .int x2), (3, .int (x3 + 1))]) o 3 dX1_countDot_25 rfl rfl (by decide) rfl ?_
      refine R_goto o 4 dX1_countDot_28 (by decide) ?_
      exact T_some (fun p => p)
  · refine R_drop (lv2 := [(2, .int x2)]) o [2] rfl ?_
    exact T_some (fun p => p)
noncomputable def f_X1_countDot_L4 (h : MH) (a0 : Nat) (x1 : Int32) (x2 : Int32) (x3 : Int32) : Option (Int32) :=
  lpo (fun s : Int32 × Int32 => f_X1_countDot_B4 h a0 x1 s.1 s.2) (x2, x3)
theorem t_X1_countDot_L4 {g : Gx} {l : Launch} {V : VT} {Rt : Option Value → MH → Prop} (o : Ok g l RX1 cX1_countDot 4 0 0 0 V) (rr : ORi cX1_countDot V Rt) (h : MH) (a0 : Nat) (x1 : Int32) (x2 : Int32) (x3 : Int32) (ha0 : shp a0 = (1, 0)) : T (fun b => V 31 [(2, .int b)] [] h) (f_X1_countDot_L4 h a0 x1 x2 x3) (V 4 [(0, rA g a0), (1, .int x1), (2, .int x2), (3, .int x3)] [] h) := T_loop (head := fun s : Int32 × Int32 => V 4 [(0, rA g a0), (1, .int x1), (2, .int s.1), (3, .int s.2)] [] h) (fun s => t_X1_countDot_B4 o rr h a0 x1 s.1 s.2 ha0) (x2, x3)
noncomputable def f_X1_countDot (h : MH) (a0 : Nat) (x1 : Int32) : Option Int32 :=
  Option.bind (f_X1_countDot_L4 h a0 x1 0 0) (fun b4 => some b4)
set_option maxRecDepth 100000 in
set_option maxHeartbeats 4000000 in
theorem b_X1_countDot {g : Gx} {l : Launch} {V : VT} {Rt : Option Value → MH → Prop} (o : Ok g l RX1 cX1_countDot 4 0 0 0 V) (rr : ORi cX1_countDot V Rt) (h : MH) (a0 : Nat) (x1 : Int32) (ha0 : shp a0 = (1, 0)) : T (fun r => Rt (some (.int r)) h) (f_X1_countDot h a0 x1) (V 0 [(0, rA g a0), (1, .int x1)] [] h) := by
  unfold f_X1_countDot
  refine R_iconst (v := 0) o dX1_countDot_0 (by decide) ?_
  refine R_istore_n (lv2 := [(0, rA g a0), (1, .int x1), (2, .int 0)]) o dX1_countDot_1 rfl (by decide) rfl ?_
  refine R_iconst (v := 0) o dX1_countDot_2 (by decide) ?_
  refine R_istore_n (lv2 := [(0, rA g a0), (1, .int x1), (2, .int 0), (3, .int 0)]) o dX1_countDot_3 rfl (by decide) rfl ?_
  refine T_bind (t_X1_countDot_L4 o rr h a0 x1 0 0 ha0) (fun b4 => ?_)
  refine R_iload_n o 0 dX1_countDot_31 rfl rfl ?_
  exact T_some (fun p => rr _ _ _ _ dX1_countDot_32 p)
theorem c_X1_countDot (g : Gx) (l : Launch) (h : MH) (a0 : Nat) (x1 : Int32) (ha0 : shp a0 = (1, 0)) (r : Int32) (e : f_X1_countDot h a0 x1 = some r) : Ctr g l yX1_countDot cX1_countDot 4 (some .int) 0 0 0 [rA g a0, .int x1] h (some (.int r)) h := mkCi (plainFor_of_name (by decide)) (Nat.le_of_ble_eq_true rfl) (fun V Rt o rr p => b_X1_countDot o rr h a0 x1 ha0 r e p)
/-! X1_countLessBehind -/
noncomputable def f_X1_countLessBehind_B6 (h : MH) (a0 : Nat) (x1 : Int32) (x2 : Int32) (x3 : Int32) : Option ((Int32 × Int32) ⊕ (Int32)) :=
  (if x3 < (h.1 a0 3) then Option.bind (f_X1_dotAt h a0 x3) (fun r16 => Option.bind (f_X1_dotAt h a0 x1) (fun r21 => (if r16 < r21 then some (.inl ((x2 + 1), (x3 + 1))) else some (.inl (x2, (x3 + 1)))))) else some (.inr x2))
set_option maxRecDepth 100000 in
set_option maxHeartbeats 4000000 in
theorem t_X1_countLessBehind_B6 {g : Gx} {l : Launch} {V : VT} {Rt : Option Value → MH → Prop} (o : Ok g l RX1 cX1_countLessBehind 4 2 42 0 V) (rr : ORi cX1_countLessBehind V Rt) (h : MH) (a0 : Nat) (x1 : Int32) (x2 : Int32) (x3 : Int32) (ha0 : shp a0 = (1, 0)) : T (Sum.elim (fun s => V 6 [(0, rA g a0), (1, .int x1), (2, .int s.1), (3, .int s.2)] [] h) (fun b => V 36 [(2, .int b)] [] h)) (f_X1_countLessBehind_B6  h a0 x1 x2 x3) (V 6 [(0, rA g a0), (1, .int x1), (2, .int x2), (3, .int x3)] [] h) := by
  unfold f_X1_countLessBehind_B6
  refine R_iload_n o 3 dX1_countLessBehind_6 rfl rfl ?_
  refine R_aload_n o 0 dX1_countLessBehind_7 rfl rfl ?_
  refine R_getI o dX1_countLessBehind_8 fl_X1_22 ha0 (by decide) rfl ?_
  refine R_icmp_ge o 36 dX1_countLessBehind_11 (by decide) ?_ ?_
  · refine R_aload_n o 0 dX1_countLessBehind_14 rfl rfl ?_
    refine R_iload_n o 3 dX1_countLessBehind_15 rfl rfl ?_
    refine K_i (callV' (As := [.int x3]) (rest := []) o dX1_countLessBehind_16 lk_X1_66 rfl ha0 rfl rfl rfl rfl (Nat.le_of_ble_eq_true rfl)) (c_X1_dotAt g l h a0 x3 ha0) (fun r16 => ?_)
    refine R_aload_n o 0 dX1_countLessBehind_19 rfl rfl ?_
    refine R_iload_n o 1 dX1_countLessBehind_20 rfl rfl ?_
    refine K_i (callV' (As := [.int x1]) (rest := [.int r16]) o dX1_countLessBehind_21 lk_X1_66 rfl ha0 rfl rfl rfl rfl (Nat.le_of_ble_eq_true rfl)) (c_X1_dotAt g l h a0 x1 ha0) (fun r21 => ?_)
    refine R_icmp_ge o 30 dX1_countLessBehind_24 (by decide) ?_ ?_
    · refine R_iinc (v := (x2 + 1)) (lv2 := [(0, rA g a0), (1, .int x1), (2, .int (x2 + 1)), (3, .int x3)]) o 2 dX1_countLessBehind_27 rfl rfl (by decide) rfl ?_
      refine R_iinc (v := (x3 + 1)) (lv2 := [(0, rA g a0), (1, .int x1), (2, .int (x2 + 1)), (3, .int (x3 + 1))]) o 3 dX1_countLessBehind_30 rfl rfl (by decide) rfl ?_
      refine R_goto o 6 dX1_countLessBehind_33 (by decide) ?_
      exact T_some (fun p => p)
    · refine R_iinc (v := (x3 + 1)) (lv2 := [(0, rA g a0), (1, .int x1), (2, .int x2), (3, .int (x3 + 1))]) o 3 dX1_countLessBehind_30 rfl rfl (by decide) rfl ?_
      refine R_goto o 6 dX1_countLessBehind_33 (by decide) ?_
      exact T_some (fun p => p)
  · refine R_drop (lv2 := [(2, .int x2)]) o [2] rfl ?_
    exact T_some (fun p => p)
noncomputable def f_X1_countLessBehind_L6 (h : MH) (a0 : Nat) (x1 : Int32) (x2 : Int32) (x3 : Int32) : Option (Int32) :=
  lpo (fun s : Int32 × Int32 => f_X1_countLessBehind_B6 h a0 x1 s.1 s.2) (x2, x3)
theorem t_X1_countLessBehind_L6 {g : Gx} {l : Launch} {V : VT} {Rt : Option Value → MH → Prop} (o : Ok g l RX1 cX1_countLessBehind 4 2 42 0 V) (rr : ORi cX1_countLessBehind V Rt) (h : MH) (a0 : Nat) (x1 : Int32) (x2 : Int32) (x3 : Int32) (ha0 : shp a0 = (1, 0)) : T (fun b => V 36 [(2, .int b)] [] h) (f_X1_countLessBehind_L6 h a0 x1 x2 x3) (V 6 [(0, rA g a0), (1, .int x1), (2, .int x2), (3, .int x3)] [] h) := T_loop (head := fun s : Int32 × Int32 => V 6 [(0, rA g a0), (1, .int x1), (2, .int s.1), (3, .int s.2)] [] h) (fun s => t_X1_countLessBehind_B6 o rr h a0 x1 s.1 s.2 ha0) (x2, x3)
noncomputable def f_X1_countLessBehind (h : MH) (a0 : Nat) (x1 : Int32) : Option Int32 :=
  nm (x1 + 1) (fun v5 => Option.bind (f_X1_countLessBehind_L6 h a0 x1 0 v5) (fun b6 => some b6))
set_option maxRecDepth 100000 in
set_option maxHeartbeats 4000000 in
theorem b_X1_countLessBehind {g : Gx} {l : Launch} {V : VT} {Rt : Option Value → MH → Prop} (o : Ok g l RX1 cX1_countLessBehind 4 2 42 0 V) (rr : ORi cX1_countLessBehind V Rt) (h : MH) (a0 : Nat) (x1 : Int32) (ha0 : shp a0 = (1, 0)) : T (fun r => Rt (some (.int r)) h) (f_X1_countLessBehind h a0 x1) (V 0 [(0, rA g a0), (1, .int x1)] [] h) := by
  unfold f_X1_countLessBehind
  refine R_iconst (v := 0) o dX1_countLessBehind_0 (by decide) ?_
  refine R_istore_n (lv2 := [(0, rA g a0), (1, .int x1), (2, .int 0)]) o dX1_countLessBehind_1 rfl (by decide) rfl ?_
  refine R_iload_n o 1 dX1_countLessBehind_2 rfl rfl ?_
  refine R_iconst (v := 1) o dX1_countLessBehind_3 (by decide) ?_
  refine R_iadd o dX1_countLessBehind_4 ?_
  refine R_nmI (fun v5 => ?_)
  refine R_istore_n (lv2 := [(0, rA g a0), (1, .int x1), (2, .int 0), (3, .int v5)]) o dX1_countLessBehind_5 rfl (by decide) rfl ?_
  refine T_bind (t_X1_countLessBehind_L6 o rr h a0 x1 0 v5 ha0) (fun b6 => ?_)
  refine R_iload_n o 0 dX1_countLessBehind_36 rfl rfl ?_
  exact T_some (fun p => rr _ _ _ _ dX1_countLessBehind_37 p)
theorem c_X1_countLessBehind (g : Gx) (l : Launch) (h : MH) (a0 : Nat) (x1 : Int32) (ha0 : shp a0 = (1, 0)) (r : Int32) (e : f_X1_countLessBehind h a0 x1 = some r) : Ctr g l yX1_countLessBehind cX1_countLessBehind 4 (some .int) 2 42 0 [rA g a0, .int x1] h (some (.int r)) h := mkCi (plainFor_of_name (by decide)) (Nat.le_of_ble_eq_true rfl) (fun V Rt o rr p => b_X1_countLessBehind o rr h a0 x1 ha0 r e p)
/-! X1_bringForward -/
noncomputable def f_X1_bringForward (h : MH) (a0 : Nat) (x1 : Int32) (x2 : Int32) : Option MH :=
  Option.bind (f_X1_has h a0 x1) (fun r2 => (if r2 = true then Option.bind (f_X1_has h a0 x2) (fun r10 => (if r10 = true then (if x1 < x2 then some h else gd (ix x1 40) (nm (h.1 (rf a0 0) x1.toNatClampNeg) (fun v28 => gd (acp x2 (x2 + 1) (x1 - x2) 40 40) (nm (uA h (rf a0 0) (va_cpy (h.1 (rf a0 0)) (h.1 (rf a0 0)) x2.toNatClampNeg (x2 + 1).toNatClampNeg (x1 - x2).toNatClampNeg)) (fun h44 => gd (ix x2 40) (nm (uI h44 (rf a0 0) x2.toNatClampNeg v28) (fun h53 => some h53))))))) else some h)) else some h))
set_option maxRecDepth 100000 in
set_option maxHeartbeats 4000000 in
theorem b_X1_bringForward {g : Gx} {l : Launch} {V : VT} {Rt : Option Value → MH → Prop} (o : Ok g l RX1 cX1_bringForward 4 1 26 0 V) (rr : ORv cX1_bringForward V Rt) (h : MH) (a0 : Nat) (x1 : Int32) (x2 : Int32) (ha0 : shp a0 = (1, 0)) : T (fun r => Rt none r) (f_X1_bringForward h a0 x1 x2) (V 0 [(0, rA g a0), (1, .int x1), (2, .int x2)] [] h) := by
  unfold f_X1_bringForward
  refine R_aload_n o 0 dX1_bringForward_0 rfl rfl ?_
  refine R_iload_n o 1 dX1_bringForward_1 rfl rfl ?_
  refine K_z (callV' (As := [.int x1]) (rest := []) o dX1_bringForward_2 lk_X1_62 rfl ha0 rfl rfl rfl rfl (Nat.le_of_ble_eq_true rfl)) (c_X1_has g l h a0 x1 ha0) (fun r2 => ?_)
  refine R_bif_eq o 21 dX1_bringForward_5 (by decide) ?_ ?_
  · refine R_aload_n o 0 dX1_bringForward_8 rfl rfl ?_
    refine R_iload_n o 2 dX1_bringForward_9 rfl rfl ?_
    refine K_z (callV' (As := [.int x2]) (rest := []) o dX1_bringForward_10 lk_X1_62 rfl ha0 rfl rfl rfl rfl (Nat.le_of_ble_eq_true rfl)) (c_X1_has g l h a0 x2 ha0) (fun r10 => ?_)
    refine R_bif_eq o 21 dX1_bringForward_13 (by decide) ?_ ?_
    · refine R_iload_n o 2 dX1_bringForward_16 rfl rfl ?_
      refine R_iload_n o 1 dX1_bringForward_17 rfl rfl ?_
      refine R_icmp_le o 22 dX1_bringForward_18 (by decide) ?_ ?_
      · exact T_some (fun p => rr _ _ _ dX1_bringForward_21 p)
      · refine R_aload_n o 0 dX1_bringForward_22 rfl rfl ?_
        refine R_getR o dX1_bringForward_23 fl_X1_9 ha0 (by decide) rfl rfl ?_
        refine R_iload_n o 1 dX1_bringForward_26 rfl rfl ?_
        refine R_iald o dX1_bringForward_27 (sh_Cover_0 ha0) ?_
        refine R_nmI (fun v28 => ?_)
        refine R_istore_n (lv2 := [(0, rA g a0), (1, .int x1), (2, .int x2), (3, .int v28)]) o dX1_bringForward_28 rfl (by decide) rfl ?_
        refine R_aload_n o 0 dX1_bringForward_29 rfl rfl ?_
        refine R_getR o dX1_bringForward_30 fl_X1_9 ha0 (by decide) rfl rfl ?_
        refine R_iload_n o 2 dX1_bringForward_33 rfl rfl ?_
        refine R_aload_n o 0 dX1_bringForward_34 rfl rfl ?_
        refine R_getR o dX1_bringForward_35 fl_X1_9 ha0 (by decide) rfl rfl ?_
        refine R_iload_n o 2 dX1_bringForward_38 rfl rfl ?_
        refine R_iconst (v := 1) o dX1_bringForward_39 (by decide) ?_
        refine R_iadd o dX1_bringForward_40 ?_
        refine R_iload_n o 1 dX1_bringForward_41 rfl rfl ?_
        refine R_iload_n o 2 dX1_bringForward_42 rfl rfl ?_
        refine R_isub o dX1_bringForward_43 ?_
        refine R_acopy o dX1_bringForward_44 la_X1_36 (sh_Cover_0 ha0) (sh_Cover_0 ha0) (by decide) ?_
        refine R_nmH (fun h44 => ?_)
        refine R_aload_n o 0 dX1_bringForward_47 rfl rfl ?_
        refine R_getR o dX1_bringForward_48 fl_X1_9 ha0 (by decide) rfl rfl ?_
        refine R_iload_n o 2 dX1_bringForward_51 rfl rfl ?_
        refine R_iload_n o 3 dX1_bringForward_52 rfl rfl ?_
        refine R_iast o dX1_bringForward_53 (sh_Cover_0 ha0) ?_
        refine R_nmH (fun h53 => ?_)
        exact T_some (fun p => rr _ _ _ dX1_bringForward_54 p)
    · exact T_some (fun p => rr _ _ _ dX1_bringForward_21 p)
  · exact T_some (fun p => rr _ _ _ dX1_bringForward_21 p)
theorem c_X1_bringForward (g : Gx) (l : Launch) (h : MH) (a0 : Nat) (x1 : Int32) (x2 : Int32) (ha0 : shp a0 = (1, 0)) (r : MH) (e : f_X1_bringForward h a0 x1 x2 = some r) : Ctr g l yX1_bringForward cX1_bringForward 4 none 1 26 0 [rA g a0, .int x1, .int x2] h none r := mkCv (plainFor_of_name (by decide)) (Nat.le_of_ble_eq_true rfl) (fun V Rt o rr p => b_X1_bringForward o rr h a0 x1 x2 ha0 r e p)
/-! X1_sort -/
noncomputable def f_X1_sort_B14 (h : MH) (a0 : Nat) (x1 : Int32) (x2 : Int32) (x3 : Int32) : Option ((Int32 × Int32) ⊕ (Int32)) :=
  (if x3 < x1 then (if x2 = x1 then gd (ix x3 40) (gd (ix x1 40) ((if (h.1 (rf a0 0) x1.toNatClampNeg) < (h.1 (rf a0 0) x3.toNatClampNeg) then some (.inl (x3, (x3 + 1))) else some (.inl (x2, (x3 + 1)))))) else some (.inr x2)) else some (.inr x2))
set_option maxRecDepth 100000 in
set_option maxHeartbeats 4000000 in
theorem t_X1_sort_B14 {g : Gx} {l : Launch} {V : VT} {Rt : Option Value → MH → Prop} (o : Ok g l RX1 cX1_sort 4 2 49 0 V) (rr : ORv cX1_sort V Rt) (h : MH) (a0 : Nat) (x1 : Int32) (x2 : Int32) (x3 : Int32) (ha0 : shp a0 = (1, 0)) : T (Sum.elim (fun s => V 14 [(0, rA g a0), (1, .int x1), (2, .int s.1), (3, .int s.2)] [] h) (fun b => V 47 [(0, rA g a0), (1, .int x1), (2, .int b)] [] h)) (f_X1_sort_B14  h a0 x1 x2 x3) (V 14 [(0, rA g a0), (1, .int x1), (2, .int x2), (3, .int x3)] [] h) := by
  unfold f_X1_sort_B14
  refine R_iload_n o 3 dX1_sort_14 rfl rfl ?_
  refine R_iload_n o 1 dX1_sort_15 rfl rfl ?_
  refine R_icmp_ge o 47 dX1_sort_16 (by decide) ?_ ?_
  · refine R_iload_n o 2 dX1_sort_19 rfl rfl ?_
    refine R_iload_n o 1 dX1_sort_20 rfl rfl ?_
    refine R_icmp_ne o 47 dX1_sort_21 (by decide) ?_ ?_
    · refine R_aload_n o 0 dX1_sort_24 rfl rfl ?_
      refine R_getR o dX1_sort_25 fl_X1_9 ha0 (by decide) rfl rfl ?_
      refine R_iload_n o 3 dX1_sort_28 rfl rfl ?_
      refine R_iald o dX1_sort_29 (sh_Cover_0 ha0) ?_
      refine R_aload_n o 0 dX1_sort_30 rfl rfl ?_
      refine R_getR o dX1_sort_31 fl_X1_9 ha0 (by decide) rfl rfl ?_
      refine R_iload_n o 1 dX1_sort_34 rfl rfl ?_
      refine R_iald o dX1_sort_35 (sh_Cover_0 ha0) ?_
      refine R_icmp_le o 41 dX1_sort_36 (by decide) ?_ ?_
      · refine R_iload_n o 3 dX1_sort_39 rfl rfl ?_
        refine R_istore_n (lv2 := [(0, rA g a0), (1, .int x1), (2, .int x3), (3, .int x3)]) o dX1_sort_40 rfl (by decide) rfl ?_
        refine R_iinc (v := (x3 + 1)) (lv2 := [(0, rA g a0), (1, .int x1), (2, .int x3), (3, .int (x3 + 1))]) o 3 dX1_sort_41 rfl rfl (by decide) rfl ?_
        refine R_goto o 14 dX1_sort_44 (by decide) ?_
        exact T_some (fun p => p)
      · refine R_iinc (v := (x3 + 1)) (lv2 := [(0, rA g a0), (1, .int x1), (2, .int x2), (3, .int (x3 + 1))]) o 3 dX1_sort_41 rfl rfl (by decide) rfl ?_
        refine R_goto o 14 dX1_sort_44 (by decide) ?_
        exact T_some (fun p => p)
    · refine R_drop (lv2 := [(0, rA g a0), (1, .int x1), (2, .int x2)]) o [0, 1, 2] rfl ?_
      exact T_some (fun p => p)
  · refine R_drop (lv2 := [(0, rA g a0), (1, .int x1), (2, .int x2)]) o [0, 1, 2] rfl ?_
    exact T_some (fun p => p)
noncomputable def f_X1_sort_L14 (h : MH) (a0 : Nat) (x1 : Int32) (x2 : Int32) (x3 : Int32) : Option (Int32) :=
  lpo (fun s : Int32 × Int32 => f_X1_sort_B14 h a0 x1 s.1 s.2) (x2, x3)
theorem t_X1_sort_L14 {g : Gx} {l : Launch} {V : VT} {Rt : Option Value → MH → Prop} (o : Ok g l RX1 cX1_sort 4 2 49 0 V) (rr : ORv cX1_sort V Rt) (h : MH) (a0 : Nat) (x1 : Int32) (x2 : Int32) (x3 : Int32) (ha0 : shp a0 = (1, 0)) : T (fun b => V 47 [(0, rA g a0), (1, .int x1), (2, .int b)] [] h) (f_X1_sort_L14 h a0 x1 x2 x3) (V 14 [(0, rA g a0), (1, .int x1), (2, .int x2), (3, .int x3)] [] h) := T_loop (head := fun s : Int32 × Int32 => V 14 [(0, rA g a0), (1, .int x1), (2, .int s.1), (3, .int s.2)] [] h) (fun s => t_X1_sort_B14 o rr h a0 x1 s.1 s.2 ha0) (x2, x3)
noncomputable def f_X1_sort_B2 (h : MH) (a0 : Nat) (x1 : Int32) : Option ((Int32 × MH) ⊕ (MH)) :=
  (if x1 < (h.1 a0 3) then Option.bind (f_X1_sort_L14 h a0 x1 x1 0) (fun b14 => Option.bind (f_X1_bringForward h a0 x1 b14) (fun h50 => some (.inl ((x1 + 1), h50)))) else some (.inr h))
set_option maxRecDepth 100000 in
set_option maxHeartbeats 4000000 in
theorem t_X1_sort_B2 {g : Gx} {l : Launch} {V : VT} {Rt : Option Value → MH → Prop} (o : Ok g l RX1 cX1_sort 4 2 49 0 V) (rr : ORv cX1_sort V Rt) (h : MH) (a0 : Nat) (x1 : Int32) (ha0 : shp a0 = (1, 0)) : T (Sum.elim (fun s => V 2 [(0, rA g a0), (1, .int s.1)] [] s.2) (fun b => V 59 [] [] b)) (f_X1_sort_B2  h a0 x1) (V 2 [(0, rA g a0), (1, .int x1)] [] h) := by
  unfold f_X1_sort_B2
  refine R_iload_n o 1 dX1_sort_2 rfl rfl ?_
  refine R_aload_n o 0 dX1_sort_3 rfl rfl ?_
  refine R_getI o dX1_sort_4 fl_X1_22 ha0 (by decide) rfl ?_
  refine R_icmp_ge o 59 dX1_sort_7 (by decide) ?_ ?_
  · refine R_iload_n o 1 dX1_sort_10 rfl rfl ?_
    refine R_istore_n (lv2 := [(0, rA g a0), (1, .int x1), (2, .int x1)]) o dX1_sort_11 rfl (by decide) rfl ?_
    refine R_iconst (v := 0) o dX1_sort_12 (by decide) ?_
    refine R_istore_n (lv2 := [(0, rA g a0), (1, .int x1), (2, .int x1), (3, .int 0)]) o dX1_sort_13 rfl (by decide) rfl ?_
    refine T_bind (t_X1_sort_L14 o rr h a0 x1 x1 0 ha0) (fun b14 => ?_)
    refine R_aload_n o 0 dX1_sort_47 rfl rfl ?_
    refine R_iload_n o 1 dX1_sort_48 rfl rfl ?_
    refine R_iload_n o 2 dX1_sort_49 rfl rfl ?_
    refine K_vh (callV' (As := [.int x1, .int b14]) (rest := []) o dX1_sort_50 lk_X1_104 rfl ha0 rfl rfl rfl rfl (Nat.le_of_ble_eq_true rfl)) (c_X1_bringForward g l h a0 x1 b14 ha0) (fun h50 => ?_)
    refine R_iinc (v := (x1 + 1)) (lv2 := [(0, rA g a0), (1, .int (x1 + 1)), (2, .int b14)]) o 1 dX1_sort_53 rfl rfl (by decide) rfl ?_
    refine R_goto o 2 dX1_sort_56 (by decide) ?_
    refine R_drop (lv2 := [(0, rA g a0), (1, .int (x1 + 1))]) o [0, 1] rfl ?_
    exact T_some (fun p => p)
  · refine R_drop (lv2 := []) o [] rfl ?_
    exact T_some (fun p => p)
noncomputable def f_X1_sort_L2 (h : MH) (a0 : Nat) (x1 : Int32) : Option (MH) :=
  lpo (fun s : Int32 × MH => f_X1_sort_B2 s.2 a0 s.1) (x1, h)
theorem t_X1_sort_L2 {g : Gx} {l : Launch} {V : VT} {Rt : Option Value → MH → Prop} (o : Ok g l RX1 cX1_sort 4 2 49 0 V) (rr : ORv cX1_sort V Rt) (h : MH) (a0 : Nat) (x1 : Int32) (ha0 : shp a0 = (1, 0)) : T (fun b => V 59 [] [] b) (f_X1_sort_L2 h a0 x1) (V 2 [(0, rA g a0), (1, .int x1)] [] h) := T_loop (head := fun s : Int32 × MH => V 2 [(0, rA g a0), (1, .int s.1)] [] s.2) (fun s => t_X1_sort_B2 o rr s.2 a0 s.1 ha0) (x1, h)
noncomputable def f_X1_sort (h : MH) (a0 : Nat) : Option MH :=
  Option.bind (f_X1_sort_L2 h a0 1) (fun b2 => some b2)
set_option maxRecDepth 100000 in
set_option maxHeartbeats 4000000 in
theorem b_X1_sort {g : Gx} {l : Launch} {V : VT} {Rt : Option Value → MH → Prop} (o : Ok g l RX1 cX1_sort 4 2 49 0 V) (rr : ORv cX1_sort V Rt) (h : MH) (a0 : Nat) (ha0 : shp a0 = (1, 0)) : T (fun r => Rt none r) (f_X1_sort h a0) (V 0 [(0, rA g a0)] [] h) := by
  unfold f_X1_sort
  refine R_iconst (v := 1) o dX1_sort_0 (by decide) ?_
  refine R_istore_n (lv2 := [(0, rA g a0), (1, .int 1)]) o dX1_sort_1 rfl (by decide) rfl ?_
  refine T_bind (t_X1_sort_L2 o rr h a0 1 ha0) (fun b2 => ?_)
  exact T_some (fun p => rr _ _ _ dX1_sort_59 p)
theorem c_X1_sort (g : Gx) (l : Launch) (h : MH) (a0 : Nat) (ha0 : shp a0 = (1, 0)) (r : MH) (e : f_X1_sort h a0 = some r) : Ctr g l yX1_sort cX1_sort 4 none 2 49 0 [rA g a0] h none r := mkCv (plainFor_of_name (by decide)) (Nat.le_of_ble_eq_true rfl) (fun V Rt o rr p => b_X1_sort o rr h a0 ha0 r e p)
/-! X1_digestFrom -/
noncomputable def f_X1_digestFrom_B52 (h : MH) (a0 : Nat) (l3 : Int64) (x5 : Int32) (x6 : Int32) : Option ((Int64 × Int32) ⊕ (Int64)) :=
  (if 4 < x6 then some (.inr l3) else Option.bind (f_X1_tellPlace h a0 x5 x6) (fun r68 => nm ((31 * l3) + (Int32.toInt64 r68)) (fun v73 => some (.inl (v73, (x6 + 1))))))
set_option maxRecDepth 100000 in
set_option maxHeartbeats 4000000 in
theorem t_X1_digestFrom_B52 {g : Gx} {l : Launch} {V : VT} {Rt : Option Value → MH → Prop} (o : Ok g l RX1 cX1_digestFrom 7 5 110 0 V) (rr : ORl cX1_digestFrom V Rt) (h : MH) (a0 : Nat) (l3 : Int64) (x5 : Int32) (x6 : Int32) (ha0 : shp a0 = (1, 0)) : T (Sum.elim (fun s => V 52 [(0, rA g a0), (3, .long s.1), (5, .int x5), (6, .int s.2)] [] h) (fun b => V 80 [(0, rA g a0), (3, .long b), (5, .int x5)] [] h)) (f_X1_digestFrom_B52  h a0 l3 x5 x6) (V 52 [(0, rA g a0), (3, .long l3), (5, .int x5), (6, .int x6)] [] h) := by
  unfold f_X1_digestFrom_B52
  refine R_iload o 3 dX1_digestFrom_52 rfl ?_
  refine R_iconst (v := 4) o dX1_digestFrom_54 (by decide) ?_
  refine R_icmp_gt o 80 dX1_digestFrom_55 (by decide) ?_ ?_
  · refine R_drop (lv2 := [(0, rA g a0), (3, .long l3), (5, .int x5)]) o [0, 1, 2] rfl ?_
    exact T_some (fun p => p)
  · refine R_ldc2 (v := 31) o dX1_digestFrom_58 kc_X1_111 ?_
    refine R_lload_n o 1 dX1_digestFrom_61 rfl rfl ?_
    refine R_lmul o dX1_digestFrom_62 ?_
    refine R_aload_n o 0 dX1_digestFrom_63 rfl rfl ?_
    refine R_iload o 2 dX1_digestFrom_64 rfl ?_
    refine R_iload o 3 dX1_digestFrom_66 rfl ?_
    refine K_i (callV' (As := [.int x5, .int x6]) (rest := [.long (31 * l3)]) o dX1_digestFrom_68 lk_X1_113 rfl ha0 rfl rfl rfl rfl (Nat.le_of_ble_eq_true rfl)) (c_X1_tellPlace g l h a0 x5 x6 ha0) (fun r68 => ?_)
    refine R_i2l o dX1_digestFrom_71 ?_
    refine R_ladd o dX1_digestFrom_72 ?_
    refine R_nmL (fun v73 => ?_)
    refine R_lstore_n (lv2 := [(0, rA g a0), (3, .long v73), (5, .int x5), (6, .int x6)]) o dX1_digestFrom_73 rfl (by decide) rfl ?_
    refine R_iinc (v := (x6 + 1)) (lv2 := [(0, rA g a0), (3, .long v73), (5, .int x5), (6, .int (x6 + 1))]) o 3 dX1_digestFrom_74 rfl rfl (by decide) rfl ?_
    refine R_goto o 52 dX1_digestFrom_77 (by decide) ?_
    exact T_some (fun p => p)
noncomputable def f_X1_digestFrom_L52 (h : MH) (a0 : Nat) (l3 : Int64) (x5 : Int32) (x6 : Int32) : Option (Int64) :=
  lpo (fun s : Int64 × Int32 => f_X1_digestFrom_B52 h a0 s.1 x5 s.2) (l3, x6)
theorem t_X1_digestFrom_L52 {g : Gx} {l : Launch} {V : VT} {Rt : Option Value → MH → Prop} (o : Ok g l RX1 cX1_digestFrom 7 5 110 0 V) (rr : ORl cX1_digestFrom V Rt) (h : MH) (a0 : Nat) (l3 : Int64) (x5 : Int32) (x6 : Int32) (ha0 : shp a0 = (1, 0)) : T (fun b => V 80 [(0, rA g a0), (3, .long b), (5, .int x5)] [] h) (f_X1_digestFrom_L52 h a0 l3 x5 x6) (V 52 [(0, rA g a0), (3, .long l3), (5, .int x5), (6, .int x6)] [] h) := T_loop (head := fun s : Int64 × Int32 => V 52 [(0, rA g a0), (3, .long s.1), (5, .int x5), (6, .int s.2)] [] h) (fun s => t_X1_digestFrom_B52 o rr h a0 s.1 x5 s.2 ha0) (l3, x6)
noncomputable def f_X1_digestFrom_B40 (h : MH) (a0 : Nat) (l3 : Int64) (x5 : Int32) : Option ((Int64 × Int32) ⊕ (Int64)) :=
  (if x5 < (h.1 a0 3) then Option.bind (f_X1_digestFrom_L52 h a0 l3 x5 0) (fun b52 => some (.inl (b52, (x5 + 1)))) else some (.inr l3))
set_option maxRecDepth 100000 in
set_option maxHeartbeats 4000000 in
theorem t_X1_digestFrom_B40 {g : Gx} {l : Launch} {V : VT} {Rt : Option Value → MH → Prop} (o : Ok g l RX1 cX1_digestFrom 7 5 110 0 V) (rr : ORl cX1_digestFrom V Rt) (h : MH) (a0 : Nat) (l3 : Int64) (x5 : Int32) (ha0 : shp a0 = (1, 0)) : T (Sum.elim (fun s => V 40 [(0, rA g a0), (3, .long s.1), (5, .int s.2)] [] h) (fun b => V 86 [(3, .long b)] [] h)) (f_X1_digestFrom_B40  h a0 l3 x5) (V 40 [(0, rA g a0), (3, .long l3), (5, .int x5)] [] h) := by
  unfold f_X1_digestFrom_B40
  refine R_iload o 2 dX1_digestFrom_40 rfl ?_
  refine R_aload_n o 0 dX1_digestFrom_42 rfl rfl ?_
  refine R_getI o dX1_digestFrom_43 fl_X1_22 ha0 (by decide) rfl ?_
  refine R_icmp_ge o 86 dX1_digestFrom_46 (by decide) ?_ ?_
  · refine R_iconst (v := 0) o dX1_digestFrom_49 (by decide) ?_
    refine R_istore (lv2 := [(0, rA g a0), (3, .long l3), (5, .int x5), (6, .int 0)]) o dX1_digestFrom_50 (by decide) rfl ?_
    refine T_bind (t_X1_digestFrom_L52 o rr h a0 l3 x5 0 ha0) (fun b52 => ?_)
    refine R_iinc (v := (x5 + 1)) (lv2 := [(0, rA g a0), (3, .long b52), (5, .int (x5 + 1))]) o 2 dX1_digestFrom_80 rfl rfl (by decide) rfl ?_
    refine R_goto o 40 dX1_digestFrom_83 (by decide) ?_
    exact T_some (fun p => p)
  · refine R_drop (lv2 := [(3, .long l3)]) o [1] rfl ?_
    exact T_some (fun p => p)
noncomputable def f_X1_digestFrom_L40 (h : MH) (a0 : Nat) (l3 : Int64) (x5 : Int32) : Option (Int64) :=
  lpo (fun s : Int64 × Int32 => f_X1_digestFrom_B40 h a0 s.1 s.2) (l3, x5)
theorem t_X1_digestFrom_L40 {g : Gx} {l : Launch} {V : VT} {Rt : Option Value → MH → Prop} (o : Ok g l RX1 cX1_digestFrom 7 5 110 0 V) (rr : ORl cX1_digestFrom V Rt) (h : MH) (a0 : Nat) (l3 : Int64) (x5 : Int32) (ha0 : shp a0 = (1, 0)) : T (fun b => V 86 [(3, .long b)] [] h) (f_X1_digestFrom_L40 h a0 l3 x5) (V 40 [(0, rA g a0), (3, .long l3), (5, .int x5)] [] h) := T_loop (head := fun s : Int64 × Int32 => V 40 [(0, rA g a0), (3, .long s.1), (5, .int s.2)] [] h) (fun s => t_X1_digestFrom_B40 o rr h a0 s.1 s.2 ha0) (l3, x5)
noncomputable def f_X1_digestFrom (h : MH) (a0 : Nat) (l1 : Int64) : Option Int64 :=
  Option.bind (f_X1_isMissing h a0) (fun r1 => (if r1 = true then some ((31 * l1) - 1) else nm ((31 * ((31 * l1) + (Int32.toInt64 (h.1 a0 2)))) + (Int32.toInt64 (h.1 a0 3))) (fun v36 => Option.bind (f_X1_digestFrom_L40 h a0 v36 0) (fun b40 => some b40))))
set_option maxRecDepth 100000 in
set_option maxHeartbeats 4000000 in
theorem b_X1_digestFrom {g : Gx} {l : Launch} {V : VT} {Rt : Option Value → MH → Prop} (o : Ok g l RX1 cX1_digestFrom 7 5 110 0 V) (rr : ORl cX1_digestFrom V Rt) (h : MH) (a0 : Nat) (l1 : Int64) (ha0 : shp a0 = (1, 0)) : T (fun r => Rt (some (.long r)) h) (f_X1_digestFrom h a0 l1) (V 0 [(0, rA g a0), (1, .long l1)] [] h) := by
  unfold f_X1_digestFrom
  refine R_aload_n o 0 dX1_digestFrom_0 rfl rfl ?_
  refine K_z (callV' (As := []) (rest := []) o dX1_digestFrom_1 lk_X1_107 rfl ha0 rfl rfl rfl rfl (Nat.le_of_ble_eq_true rfl)) (c_X1_isMissing g l h a0 ha0) (fun r1 => ?_)
  refine R_bif_eq o 15 dX1_digestFrom_4 (by decide) ?_ ?_
  · refine R_ldc2 (v := 31) o dX1_digestFrom_7 kc_X1_111 ?_
    refine R_lload_n o 1 dX1_digestFrom_10 rfl rfl ?_
    refine R_lmul o dX1_digestFrom_11 ?_
    refine R_lconst (v := 1) o dX1_digestFrom_12 (by decide) ?_
    refine R_lsub o dX1_digestFrom_13 ?_
    exact T_some (fun p => rr _ _ _ _ dX1_digestFrom_14 p)
  · refine R_ldc2 (v := 31) o dX1_digestFrom_15 kc_X1_111 ?_
    refine R_ldc2 (v := 31) o dX1_digestFrom_18 kc_X1_111 ?_
    refine R_lload_n o 1 dX1_digestFrom_21 rfl rfl ?_
    refine R_lmul o dX1_digestFrom_22 ?_
    refine R_aload_n o 0 dX1_digestFrom_23 rfl rfl ?_
    refine R_getI o dX1_digestFrom_24 fl_X1_18 ha0 (by decide) rfl ?_
    refine R_i2l o dX1_digestFrom_27 ?_
    refine R_ladd o dX1_digestFrom_28 ?_
    refine R_lmul o dX1_digestFrom_29 ?_
    refine R_aload_n o 0 dX1_digestFrom_30 rfl rfl ?_
    refine R_getI o dX1_digestFrom_31 fl_X1_22 ha0 (by decide) rfl ?_
    refine R_i2l o dX1_digestFrom_34 ?_
    refine R_ladd o dX1_digestFrom_35 ?_
    refine R_nmL (fun v36 => ?_)
    refine R_lstore_n (lv2 := [(0, rA g a0), (1, .long l1), (3, .long v36)]) o dX1_digestFrom_36 rfl (by decide) rfl ?_
    refine R_iconst (v := 0) o dX1_digestFrom_37 (by decide) ?_
    refine R_istore (lv2 := [(0, rA g a0), (1, .long l1), (3, .long v36), (5, .int 0)]) o dX1_digestFrom_38 (by decide) rfl ?_
    refine R_drop (lv2 := [(0, rA g a0), (3, .long v36), (5, .int 0)]) o [0, 2, 3] rfl ?_
    refine T_bind (t_X1_digestFrom_L40 o rr h a0 v36 0 ha0) (fun b40 => ?_)
    refine R_lload_n o 0 dX1_digestFrom_86 rfl rfl ?_
    exact T_some (fun p => rr _ _ _ _ dX1_digestFrom_87 p)
theorem c_X1_digestFrom (g : Gx) (l : Launch) (h : MH) (a0 : Nat) (l1 : Int64) (ha0 : shp a0 = (1, 0)) (r : Int64) (e : f_X1_digestFrom h a0 l1 = some r) : Ctr g l yX1_digestFrom cX1_digestFrom 7 (some .long) 5 110 0 [rA g a0, .long l1] h (some (.long r)) h := mkCl (plainFor_of_name (by decide)) (Nat.le_of_ble_eq_true rfl) (fun V Rt o rr p => b_X1_digestFrom o rr h a0 l1 ha0 r e p)
/-! X2_commonDivisor -/
noncomputable def f_X2_commonDivisor_B9 (l4 : Int64) (l6 : Int64) (x8 : Int32) : Option ((Int64 × Int64 × Int32) ⊕ (Int64)) :=
  (if x8 < 100 then (if l6 = 0 then some (.inr l4) else gd (nzL l6) (nm (lrm l4 l6) (fun v28 => some (.inl (l6, v28, (x8 + 1)))))) else some (.inr l4))
set_option maxRecDepth 100000 in
set_option maxHeartbeats 4000000 in
theorem t_X2_commonDivisor_B9 {g : Gx} {l : Launch} {V : VT} {Rt : Option Value → MH → Prop} (o : Ok g l RX2 cX2_commonDivisor 11 0 0 0 V) (rr : ORl cX2_commonDivisor V Rt) (h : MH) (l4 : Int64) (l6 : Int64) (x8 : Int32) : T (Sum.elim (fun s => V 9 [(4, .long s.1), (6, .long s.2.1), (8, .int s.2.2)] [] h) (fun b => V 44 [(4, .long b)] [] h)) (f_X2_commonDivisor_B9  l4 l6 x8) (V 9 [(4, .long l4), (6, .long l6), (8, .int x8)] [] h) := by
  unfold f_X2_commonDivisor_B9
  refine R_iload o 2 dX2_commonDivisor_9 rfl ?_
  refine R_bipush (v := 100) o dX2_commonDivisor_11 (by decide) ?_
  refine R_icmp_ge o 44 dX2_commonDivisor_13 (by decide) ?_ ?_
  · refine R_lload o 1 dX2_commonDivisor_16 rfl ?_
    refine R_lconst (v := 0) o dX2_commonDivisor_18 (by decide) ?_
    refine R_lcmp_eq o 44 dX2_commonDivisor_19 dX2_commonDivisor_20 (by decide) ?_ ?_
    · refine R_drop (lv2 := [(4, .long l4)]) o [0] rfl ?_
      exact T_some (fun p => p)
    · refine R_lload o 0 dX2_commonDivisor_23 rfl ?_
      refine R_lload o 1 dX2_commonDivisor_25 rfl ?_
      refine R_lrem o dX2_commonDivisor_27 ?_
      refine R_nmL (fun v28 => ?_)
      refine R_lstore (lv2 := [(4, .long l4), (6, .long l6), (8, .int x8), (9, .long v28)]) o dX2_commonDivisor_28 (by decide) rfl ?_
      refine R_lload o 1 dX2_commonDivisor_30 rfl ?_
      refine R_lstore (lv2 := [(4, .long l6), (6, .long l6), (8, .int x8), (9, .long v28)]) o dX2_commonDivisor_32 (by decide) rfl ?_
      refine R_lload o 3 dX2_commonDivisor_34 rfl ?_
      refine R_lstore (lv2 := [(4, .long l6), (6, .long v28), (8, .int x8), (9, .long v28)]) o dX2_commonDivisor_36 (by decide) rfl ?_
      refine R_iinc (v := (x8 + 1)) (lv2 := [(4, .long l6), (6, .long v28), (8, .int (x8 + 1)), (9, .long v28)]) o 2 dX2_commonDivisor_38 rfl rfl (by decide) rfl ?_
      refine R_goto o 9 dX2_commonDivisor_41 (by decide) ?_
      refine R_drop (lv2 := [(4, .long l6), (6, .long v28), (8, .int (x8 + 1))]) o [0, 1, 2] rfl ?_
      exact T_some (fun p => p)
  · refine R_drop (lv2 := [(4, .long l4)]) o [0] rfl ?_
    exact T_some (fun p => p)
noncomputable def f_X2_commonDivisor_L9 (l4 : Int64) (l6 : Int64) (x8 : Int32) : Option (Int64) :=
  lpo (fun s : Int64 × Int64 × Int32 => f_X2_commonDivisor_B9  s.1 s.2.1 s.2.2) (l4, l6, x8)
theorem t_X2_commonDivisor_L9 {g : Gx} {l : Launch} {V : VT} {Rt : Option Value → MH → Prop} (o : Ok g l RX2 cX2_commonDivisor 11 0 0 0 V) (rr : ORl cX2_commonDivisor V Rt) (h : MH) (l4 : Int64) (l6 : Int64) (x8 : Int32) : T (fun b => V 44 [(4, .long b)] [] h) (f_X2_commonDivisor_L9 l4 l6 x8) (V 9 [(4, .long l4), (6, .long l6), (8, .int x8)] [] h) := T_loop (head := fun s : Int64 × Int64 × Int32 => V 9 [(4, .long s.1), (6, .long s.2.1), (8, .int s.2.2)] [] h) (fun s => t_X2_commonDivisor_B9 o rr h s.1 s.2.1 s.2.2 ) (l4, l6, x8)
noncomputable def f_X2_commonDivisor (l0 : Int64) (l2 : Int64) : Option Int64 :=
  Option.bind (f_X2_commonDivisor_L9 l0 l2 0) (fun b9 => some b9)
set_option maxRecDepth 100000 in
set_option maxHeartbeats 4000000 in
theorem b_X2_commonDivisor {g : Gx} {l : Launch} {V : VT} {Rt : Option Value → MH → Prop} (o : Ok g l RX2 cX2_commonDivisor 11 0 0 0 V) (rr : ORl cX2_commonDivisor V Rt) (h : MH) (l0 : Int64) (l2 : Int64) : T (fun r => Rt (some (.long r)) h) (f_X2_commonDivisor  l0 l2) (V 0 [(0, .long l0), (2, .long l2)] [] h) := by
  unfold f_X2_commonDivisor
  refine R_lload_n o 0 dX2_commonDivisor_0 rfl rfl ?_
  refine R_lstore (lv2 := [(0, .long l0), (2, .long l2), (4, .long l0)]) o dX2_commonDivisor_1 (by decide) rfl ?_
  refine R_lload_n o 1 dX2_commonDivisor_3 rfl rfl ?_
  refine R_lstore (lv2 := [(0, .long l0), (2, .long l2), (4, .long l0), (6, .long l2)]) o dX2_commonDivisor_4 (by decide) rfl ?_
  refine R_iconst (v := 0) o dX2_commonDivisor_6 (by decide) ?_
  refine R_istore (lv2 := [(0, .long l0), (2, .long l2), (4, .long l0), (6, .long l2), (8, .int 0)]) o dX2_commonDivisor_7 (by decide) rfl ?_
  refine R_drop (lv2 := [(4, .long l0), (6, .long l2), (8, .int 0)]) o [2, 3, 4] rfl ?_
  refine T_bind (t_X2_commonDivisor_L9 o rr h l0 l2 0) (fun b9 => ?_)
  refine R_lload o 0 dX2_commonDivisor_44 rfl ?_
  exact T_some (fun p => rr _ _ _ _ dX2_commonDivisor_46 p)
theorem c_X2_commonDivisor (g : Gx) (l : Launch) (h : MH) (l0 : Int64) (l2 : Int64) (r : Int64) (e : f_X2_commonDivisor  l0 l2 = some r) : Ctr g l yX2_commonDivisor cX2_commonDivisor 11 (some .long) 0 0 0 [.long l0, .long l2] h (some (.long r)) h := mkCl (plainFor_of_name (by decide)) (Nat.le_of_ble_eq_true rfl) (fun V Rt o rr p => b_X2_commonDivisor o rr h l0 l2  r e p)
/-! X2_become -/
noncomputable def f_X2_become (h : MH) (l1 : Int64) (l3 : Int64) : Option MH :=
  Option.bind (f_X2_commonDivisor l1 l3) (fun r2 => (if r2 < 1 then some h else gd (nzL r2) (nm (uL h 16 0 (l1 / r2)) (fun h20 => gd (nzL r2) (nm (uL h20 16 1 (l3 / r2)) (fun h28 => some h28))))))
set_option maxRecDepth 100000 in
set_option maxHeartbeats 4000000 in
theorem b_X2_become {g : Gx} {l : Launch} {V : VT} {Rt : Option Value → MH → Prop} (o : Ok g l RX2 cX2_become 7 1 30 0 V) (rr : ORv cX2_become V Rt) (h : MH) (l1 : Int64) (l3 : Int64) : T (fun r => Rt none r) (f_X2_become h l1 l3) (V 0 [(0, rA g 16), (1, .long l1), (3, .long l3)] [] h) := by
  unfold f_X2_become
  refine R_lload_n o 1 dX2_become_0 rfl rfl ?_
  refine R_lload_n o 2 dX2_become_1 rfl rfl ?_
  refine K_l (callS' (av := [.long l1, .long l3]) (rest := []) o dX2_become_2 lk_X2_16 rfl rfl rfl (Nat.le_of_ble_eq_true rfl)) (c_X2_commonDivisor g l h l1 l3) (fun r2 => ?_)
  refine R_lstore (lv2 := [(0, rA g 16), (1, .long l1), (3, .long l3), (5, .long r2)]) o dX2_become_5 (by decide) rfl ?_
  refine R_lload o 3 dX2_become_7 rfl ?_
  refine R_lconst (v := 1) o dX2_become_9 (by decide) ?_
  refine R_lcmp_ge o 15 dX2_become_10 dX2_become_11 (by decide) ?_ ?_
  · exact T_some (fun p => rr _ _ _ dX2_become_14 p)
  · refine R_aload_n o 0 dX2_become_15 rfl rfl ?_
    refine R_lload_n o 1 dX2_become_16 rfl rfl ?_
    refine R_lload o 3 dX2_become_17 rfl ?_
    refine R_ldiv o dX2_become_19 ?_
    refine R_putL o dX2_become_20 fp_X2_7 sh_16 (by decide) rfl ?_
    refine R_nmH (fun h20 => ?_)
    refine R_aload_n o 0 dX2_become_23 rfl rfl ?_
    refine R_lload_n o 2 dX2_become_24 rfl rfl ?_
    refine R_lload o 3 dX2_become_25 rfl ?_
    refine R_ldiv o dX2_become_27 ?_
    refine R_putL o dX2_become_28 fp_X2_13 sh_16 (by decide) rfl ?_
    refine R_nmH (fun h28 => ?_)
    exact T_some (fun p => rr _ _ _ dX2_become_31 p)
theorem c_X2_become (g : Gx) (l : Launch) (h : MH) (l1 : Int64) (l3 : Int64) (r : MH) (e : f_X2_become h l1 l3 = some r) : Ctr g l yX2_become cX2_become 7 none 1 30 0 [rA g 16, .long l1, .long l3] h none r := mkCv (plainFor_of_name (by decide)) (Nat.le_of_ble_eq_true rfl) (fun V Rt o rr p => b_X2_become o rr h l1 l3  r e p)
/-! X2_add -/
noncomputable def f_X2_add (h : MH) (l1 : Int64) (l3 : Int64) : Option MH :=
  Option.bind (f_X2_become h (((h.2.1 16 0) * l3) + (l1 * (h.2.1 16 1))) ((h.2.1 16 1) * l3)) (fun h20 => some h20)
set_option maxRecDepth 100000 in
set_option maxHeartbeats 4000000 in
theorem b_X2_add {g : Gx} {l : Launch} {V : VT} {Rt : Option Value → MH → Prop} (o : Ok g l RX2 cX2_add 5 2 56 0 V) (rr : ORv cX2_add V Rt) (h : MH) (l1 : Int64) (l3 : Int64) : T (fun r => Rt none r) (f_X2_add h l1 l3) (V 0 [(0, rA g 16), (1, .long l1), (3, .long l3)] [] h) := by
  unfold f_X2_add
  refine R_aload_n o 0 dX2_add_0 rfl rfl ?_
  refine R_aload_n o 0 dX2_add_1 rfl rfl ?_
  refine R_getL o dX2_add_2 fl_X2_7 sh_16 (by decide) rfl ?_
  refine R_lload_n o 2 dX2_add_5 rfl rfl ?_
  refine R_lmul o dX2_add_6 ?_
  refine R_lload_n o 1 dX2_add_7 rfl rfl ?_
  refine R_aload_n o 0 dX2_add_8 rfl rfl ?_
  refine R_getL o dX2_add_9 fl_X2_13 sh_16 (by decide) rfl ?_
  refine R_lmul o dX2_add_12 ?_
  refine R_ladd o dX2_add_13 ?_
  refine R_aload_n o 0 dX2_add_14 rfl rfl ?_
  refine R_getL o dX2_add_15 fl_X2_13 sh_16 (by decide) rfl ?_
  refine R_lload_n o 2 dX2_add_18 rfl rfl ?_
  refine R_lmul o dX2_add_19 ?_
  refine K_vh (callV' (As := [.long (((h.2.1 16 0) * l3) + (l1 * (h.2.1 16 1))), .long ((h.2.1 16 1) * l3)]) (rest := []) o dX2_add_20 lk_X2_20 rfl sh_16 rfl rfl rfl rfl (Nat.le_of_ble_eq_true rfl)) (c_X2_become g l h (((h.2.1 16 0) * l3) + (l1 * (h.2.1 16 1))) ((h.2.1 16 1) * l3)) (fun h20 => ?_)
  exact T_some (fun p => rr _ _ _ dX2_add_23 p)
theorem c_X2_add (g : Gx) (l : Launch) (h : MH) (l1 : Int64) (l3 : Int64) (r : MH) (e : f_X2_add h l1 l3 = some r) : Ctr g l yX2_add cX2_add 5 none 2 56 0 [rA g 16, .long l1, .long l3] h none r := mkCv (plainFor_of_name (by decide)) (Nat.le_of_ble_eq_true rfl) (fun V Rt o rr p => b_X2_add o rr h l1 l3  r e p)
/-! X6_nextOfKey -/
noncomputable def f_X6_nextOfKey (x0 : Int32) : Option Int32 :=
  some ((x0 * 1103515245) + 12345)
set_option maxRecDepth 100000 in
set_option maxHeartbeats 4000000 in
theorem b_X6_nextOfKey {g : Gx} {l : Launch} {V : VT} {Rt : Option Value → MH → Prop} (o : Ok g l RX6 cX6_nextOfKey 1 0 0 0 V) (rr : ORi cX6_nextOfKey V Rt) (h : MH) (x0 : Int32) : T (fun r => Rt (some (.int r)) h) (f_X6_nextOfKey  x0) (V 0 [(0, .int x0)] [] h) := by
  unfold f_X6_nextOfKey
  refine R_iload_n o 0 dX6_nextOfKey_0 rfl rfl ?_
  refine R_ldcw (v := 1103515245) o dX6_nextOfKey_1 kc_X6_379 ?_
  refine R_imul o dX6_nextOfKey_4 ?_
  refine R_sipush (v := 12345) o dX6_nextOfKey_5 (by decide) ?_
  refine R_iadd o dX6_nextOfKey_8 ?_
  exact T_some (fun p => rr _ _ _ _ dX6_nextOfKey_9 p)
theorem c_X6_nextOfKey (g : Gx) (l : Launch) (h : MH) (x0 : Int32) (r : Int32) (e : f_X6_nextOfKey  x0 = some r) : Ctr g l yX6_nextOfKey cX6_nextOfKey 1 (some .int) 0 0 0 [.int x0] h (some (.int r)) h := mkCi (plainFor_of_name (by decide)) (Nat.le_of_ble_eq_true rfl) (fun V Rt o rr p => b_X6_nextOfKey o rr h x0  r e p)
/-! X6_bitsOfKey -/
noncomputable def f_X6_bitsOfKey (x0 : Int32) : Option Int32 :=
  some ((ushr x0 16) &&& 32767)
set_option maxRecDepth 100000 in
set_option maxHeartbeats 4000000 in
theorem b_X6_bitsOfKey {g : Gx} {l : Launch} {V : VT} {Rt : Option Value → MH → Prop} (o : Ok g l RX6 cX6_bitsOfKey 1 0 0 0 V) (rr : ORi cX6_bitsOfKey V Rt) (h : MH) (x0 : Int32) : T (fun r => Rt (some (.int r)) h) (f_X6_bitsOfKey  x0) (V 0 [(0, .int x0)] [] h) := by
  unfold f_X6_bitsOfKey
  refine R_iload_n o 0 dX6_bitsOfKey_0 rfl rfl ?_
  refine R_bipush (v := 16) o dX6_bitsOfKey_1 (by decide) ?_
  refine R_iushr o dX6_bitsOfKey_3 ?_
  refine R_sipush (v := 32767) o dX6_bitsOfKey_4 (by decide) ?_
  refine R_iand o dX6_bitsOfKey_7 ?_
  exact T_some (fun p => rr _ _ _ _ dX6_bitsOfKey_8 p)
theorem c_X6_bitsOfKey (g : Gx) (l : Launch) (h : MH) (x0 : Int32) (r : Int32) (e : f_X6_bitsOfKey  x0 = some r) : Ctr g l yX6_bitsOfKey cX6_bitsOfKey 1 (some .int) 0 0 0 [.int x0] h (some (.int r)) h := mkCi (plainFor_of_name (by decide)) (Nat.le_of_ble_eq_true rfl) (fun V Rt o rr p => b_X6_bitsOfKey o rr h x0  r e p)
/-! X3_orderBy -/
noncomputable def f_X3_orderBy_B13 (h : MH) (x1 : Int32) (x3 : Int32) (x4 : Int32) : Option ((Int32 × MH) ⊕ (MH)) :=
  (if x4 < x3 then gd (ix x4 40) (nm (uI h 10 x4.toNatClampNeg x4) (fun h27 => some (.inl ((x4 + 1), h27)))) else some (.inr h))
set_option maxRecDepth 100000 in
set_option maxHeartbeats 4000000 in
theorem t_X3_orderBy_B13 {g : Gx} {l : Launch} {V : VT} {Rt : Option Value → MH → Prop} (o : Ok g l RX3 cX3_orderBy 8 1 21 0 V) (rr : ORv cX3_orderBy V Rt) (h : MH) (x1 : Int32) (x3 : Int32) (x4 : Int32) : T (Sum.elim (fun s => V 13 [(0, rA g 9), (1, .int x1), (3, .int x3), (4, .int s.1)] [] s.2) (fun b => V 34 [(0, rA g 9), (1, .int x1), (3, .int x3)] [] b)) (f_X3_orderBy_B13  h x1 x3 x4) (V 13 [(0, rA g 9), (1, .int x1), (3, .int x3), (4, .int x4)] [] h) := by
  unfold f_X3_orderBy_B13
  refine R_iload o 3 dX3_orderBy_13 rfl ?_
  refine R_iload_n o 2 dX3_orderBy_15 rfl rfl ?_
  refine R_icmp_ge o 34 dX3_orderBy_16 (by decide) ?_ ?_
  · refine R_aload_n o 0 dX3_orderBy_19 rfl rfl ?_
    refine R_getR (a2 := 10) o dX3_orderBy_20 fl_X3_9 sh_9 (by decide) rfl rf_9_0 ?_
    refine R_iload o 3 dX3_orderBy_23 rfl ?_
    refine R_iload o 3 dX3_orderBy_25 rfl ?_
    refine R_iast o dX3_orderBy_27 sh_10 ?_
    refine R_nmH (fun h27 => ?_)
    refine R_iinc (v := (x4 + 1)) (lv2 := [(0, rA g 9), (1, .int x1), (3, .int x3), (4, .int (x4 + 1))]) o 3 dX3_orderBy_28 rfl rfl (by decide) rfl ?_
    refine R_goto o 13 dX3_orderBy_31 (by decide) ?_
    exact T_some (fun p => p)
  · refine R_drop (lv2 := [(0, rA g 9), (1, .int x1), (3, .int x3)]) o [0, 1, 2] rfl ?_
    exact T_some (fun p => p)
noncomputable def f_X3_orderBy_L13 (h : MH) (x1 : Int32) (x3 : Int32) (x4 : Int32) : Option (MH) :=
  lpo (fun s : Int32 × MH => f_X3_orderBy_B13 s.2 x1 x3 s.1) (x4, h)
theorem t_X3_orderBy_L13 {g : Gx} {l : Launch} {V : VT} {Rt : Option Value → MH → Prop} (o : Ok g l RX3 cX3_orderBy 8 1 21 0 V) (rr : ORv cX3_orderBy V Rt) (h : MH) (x1 : Int32) (x3 : Int32) (x4 : Int32) : T (fun b => V 34 [(0, rA g 9), (1, .int x1), (3, .int x3)] [] b) (f_X3_orderBy_L13 h x1 x3 x4) (V 13 [(0, rA g 9), (1, .int x1), (3, .int x3), (4, .int x4)] [] h) := T_loop (head := fun s : Int32 × MH => V 13 [(0, rA g 9), (1, .int x1), (3, .int x3), (4, .int s.1)] [] s.2) (fun s => t_X3_orderBy_B13 o rr s.2 x1 x3 s.1 ) (x4, h)
noncomputable def f_X3_orderBy_B42 (h : MH) (x4 : Int32) (x5 : Int32) : Option ((Int32 × Int32 × MH) ⊕ (MH)) :=
  (if x5 < 1 then some (.inr h) else Option.bind (f_X6_nextOfKey x4) (fun r50 => Option.bind (f_X6_bitsOfKey r50) (fun r57 => gd (nz (x5 + 1)) (nm (irm r57 (x5 + 1)) (fun v65 => gd (ix x5 40) (nm (h.1 10 x5.toNatClampNeg) (fun v74 => gd (ix v65 40) (gd (ix x5 40) (nm (uI h 10 x5.toNatClampNeg (h.1 10 v65.toNatClampNeg)) (fun h89 => gd (ix v65 40) (nm (uI h89 10 v65.toNatClampNeg v74) (fun h98 => some (.inl (r50, (x5 + (-1)), h98))))))))))))))
set_option maxRecDepth 100000 in
set_option maxHeartbeats 4000000 in
theorem t_X3_orderBy_B42 {g : Gx} {l : Launch} {V : VT} {Rt : Option Value → MH → Prop} (o : Ok g l RX3 cX3_orderBy 8 1 21 0 V) (rr : ORv cX3_orderBy V Rt) (h : MH) (x4 : Int32) (x5 : Int32) : T (Sum.elim (fun s => V 42 [(0, rA g 9), (4, .int s.1), (5, .int s.2.1)] [] s.2.2) (fun b => V 105 [] [] b)) (f_X3_orderBy_B42  h x4 x5) (V 42 [(0, rA g 9), (4, .int x4), (5, .int x5)] [] h) := by
  unfold f_X3_orderBy_B42
  refine R_iload o 2 dX3_orderBy_42 rfl ?_
  refine R_iconst (v := 1) o dX3_orderBy_44 (by decide) ?_
  refine R_icmp_lt o 105 dX3_orderBy_45 (by decide) ?_ ?_
  · refine R_drop (lv2 := []) o [] rfl ?_
    exact T_some (fun p => p)
  · refine R_iload o 1 dX3_orderBy_48 rfl ?_
    refine K_i (callSN' (av := [.int x4]) (rest := []) o dX3_orderBy_50 lk_X3_34 rfl rfl rfl (Nat.le_of_ble_eq_true rfl)) (c_X6_nextOfKey g l h x4) (fun r50 => ?_)
    refine R_istore (lv2 := [(0, rA g 9), (4, .int r50), (5, .int x5)]) o dX3_orderBy_53 (by decide) rfl ?_
    refine R_iload o 1 dX3_orderBy_55 rfl ?_
    refine K_i (callSN' (av := [.int r50]) (rest := []) o dX3_orderBy_57 lk_X3_38 rfl rfl rfl (Nat.le_of_ble_eq_true rfl)) (c_X6_bitsOfKey g l h r50) (fun r57 => ?_)
    refine R_iload o 2 dX3_orderBy_60 rfl ?_
    refine R_iconst (v := 1) o dX3_orderBy_62 (by decide) ?_
    refine R_iadd o dX3_orderBy_63 ?_
    refine R_irem o dX3_orderBy_64 ?_
    refine R_nmI (fun v65 => ?_)
    refine R_istore (lv2 := [(0, rA g 9), (4, .int r50), (5, .int x5), (6, .int v65)]) o dX3_orderBy_65 (by decide) rfl ?_
    refine R_aload_n o 0 dX3_orderBy_67 rfl rfl ?_
    refine R_getR (a2 := 10) o dX3_orderBy_68 fl_X3_9 sh_9 (by decide) rfl rf_9_0 ?_
    refine R_iload o 2 dX3_orderBy_71 rfl ?_
    refine R_iald o dX3_orderBy_73 sh_10 ?_
    refine R_nmI (fun v74 => ?_)
    refine R_istore (lv2 := [(0, rA g 9), (4, .int r50), (5, .int x5), (6, .int v65), (7, .int v74)]) o dX3_orderBy_74 (by decide) rfl ?_
    refine R_aload_n o 0 dX3_orderBy_76 rfl rfl ?_
    refine R_getR (a2 := 10) o dX3_orderBy_77 fl_X3_9 sh_9 (by decide) rfl rf_9_0 ?_
    refine R_iload o 2 dX3_orderBy_80 rfl ?_
    refine R_aload_n o 0 dX3_orderBy_82 rfl rfl ?_
    refine R_getR (a2 := 10) o dX3_orderBy_83 fl_X3_9 sh_9 (by decide) rfl rf_9_0 ?_
    refine R_iload o 3 dX3_orderBy_86 rfl ?_
    refine R_iald o dX3_orderBy_88 sh_10 ?_
    refine R_iast o dX3_orderBy_89 sh_10 ?_
    refine R_nmH (fun h89 => ?_)
    refine R_aload_n o 0 dX3_orderBy_90 rfl rfl ?_
    refine R_getR (a2 := 10) o dX3_orderBy_91 fl_X3_9 sh_9 (by decide) rfl rf_9_0 ?_
    refine R_iload o 3 dX3_orderBy_94 rfl ?_
    refine R_iload o 4 dX3_orderBy_96 rfl ?_
    refine R_iast o dX3_orderBy_98 sh_10 ?_
    refine R_nmH (fun h98 => ?_)
    refine R_iinc (v := (x5 + (-1))) (lv2 := [(0, rA g 9), (4, .int r50), (5, .int (x5 + (-1))), (6, .int v65), (7, .int v74)]) o 2 dX3_orderBy_99 rfl rfl (by decide) rfl ?_
    refine R_goto o 42 dX3_orderBy_102 (by decide) ?_
    refine R_drop (lv2 := [(0, rA g 9), (4, .int r50), (5, .int (x5 + (-1)))]) o [0, 1, 2] rfl ?_
    exact T_some (fun p => p)
noncomputable def f_X3_orderBy_L42 (h : MH) (x4 : Int32) (x5 : Int32) : Option (MH) :=
  lpo (fun s : Int32 × Int32 × MH => f_X3_orderBy_B42 s.2.2 s.1 s.2.1) (x4, x5, h)
theorem t_X3_orderBy_L42 {g : Gx} {l : Launch} {V : VT} {Rt : Option Value → MH → Prop} (o : Ok g l RX3 cX3_orderBy 8 1 21 0 V) (rr : ORv cX3_orderBy V Rt) (h : MH) (x4 : Int32) (x5 : Int32) : T (fun b => V 105 [] [] b) (f_X3_orderBy_L42 h x4 x5) (V 42 [(0, rA g 9), (4, .int x4), (5, .int x5)] [] h) := T_loop (head := fun s : Int32 × Int32 × MH => V 42 [(0, rA g 9), (4, .int s.1), (5, .int s.2.1)] [] s.2.2) (fun s => t_X3_orderBy_B42 o rr s.2.2 s.1 s.2.1 ) (x4, x5, h)
noncomputable def f_X3_orderBy (h : MH) (x1 : Int32) (x2 : Int32) : Option MH :=
  Option.bind (f_J9_min_7cf53 x2 40) (fun r6 => Option.bind (f_X3_orderBy_L13 h x1 r6 0) (fun b13 => nm (r6 - 1) (fun v40 => Option.bind (f_X3_orderBy_L42 b13 x1 v40) (fun b42 => some b42))))
set_option maxRecDepth 100000 in
set_option maxHeartbeats 4000000 in
theorem b_X3_orderBy {g : Gx} {l : Launch} {V : VT} {Rt : Option Value → MH → Prop} (o : Ok g l RX3 cX3_orderBy 8 1 21 0 V) (rr : ORv cX3_orderBy V Rt) (h : MH) (x1 : Int32) (x2 : Int32) : T (fun r => Rt none r) (f_X3_orderBy h x1 x2) (V 0 [(0, rA g 9), (1, .int x1), (2, .int x2)] [] h) := by
  unfold f_X3_orderBy
  refine R_iload_n o 2 dX3_orderBy_0 rfl rfl ?_
  refine R_aload_n o 0 dX3_orderBy_1 rfl rfl ?_
  refine R_getR (a2 := 10) o dX3_orderBy_2 fl_X3_9 sh_9 (by decide) rfl rf_9_0 ?_
  refine R_alenI (v := 40) o dX3_orderBy_5 sh_10 (Or.inl rfl) rfl ?_
  refine K_i (callS' (av := [.int x2, .int 40]) (rest := []) o dX3_orderBy_6 lk_X3_28 rfl rfl rfl (Nat.le_of_ble_eq_true rfl)) (c_J9_min_7cf53 g l h x2 40) (fun r6 => ?_)
  refine R_istore_n (lv2 := [(0, rA g 9), (1, .int x1), (2, .int x2), (3, .int r6)]) o dX3_orderBy_9 rfl (by decide) rfl ?_
  refine R_iconst (v := 0) o dX3_orderBy_10 (by decide) ?_
  refine R_istore (lv2 := [(0, rA g 9), (1, .int x1), (2, .int x2), (3, .int r6), (4, .int 0)]) o dX3_orderBy_11 (by decide) rfl ?_
  refine R_drop (lv2 := [(0, rA g 9), (1, .int x1), (3, .int r6), (4, .int 0)]) o [0, 1, 3, 4] rfl ?_
  refine T_bind (t_X3_orderBy_L13 o rr h x1 r6 0) (fun b13 => ?_)
  refine R_iload_n o 1 dX3_orderBy_34 rfl rfl ?_
  refine R_istore (lv2 := [(0, rA g 9), (1, .int x1), (3, .int r6), (4, .int x1)]) o dX3_orderBy_35 (by decide) rfl ?_
  refine R_iload_n o 2 dX3_orderBy_37 rfl rfl ?_
  refine R_iconst (v := 1) o dX3_orderBy_38 (by decide) ?_
  refine R_isub o dX3_orderBy_39 ?_
  refine R_nmI (fun v40 => ?_)
  refine R_istore (lv2 := [(0, rA g 9), (1, .int x1), (3, .int r6), (4, .int x1), (5, .int v40)]) o dX3_orderBy_40 (by decide) rfl ?_
  refine R_drop (lv2 := [(0, rA g 9), (4, .int x1), (5, .int v40)]) o [0, 3, 4] rfl ?_
  refine T_bind (t_X3_orderBy_L42 o rr b13 x1 v40) (fun b42 => ?_)
  exact T_some (fun p => rr _ _ _ dX3_orderBy_105 p)
theorem c_X3_orderBy (g : Gx) (l : Launch) (h : MH) (x1 : Int32) (x2 : Int32) (r : MH) (e : f_X3_orderBy h x1 x2 = some r) : Ctr g l yX3_orderBy cX3_orderBy 8 none 1 21 0 [rA g 9, .int x1, .int x2] h none r := mkCv (plainFor_of_name (by decide)) (Nat.le_of_ble_eq_true rfl) (fun V Rt o rr p => b_X3_orderBy o rr h x1 x2  r e p)
/-! X3_placeAt -/
noncomputable def f_X3_placeAt (h : MH) (x1 : Int32) : Option Int32 :=
  (if x1 < 0 then some 0 else (if x1 < 40 then gd (ix x1 40) (some (h.1 10 x1.toNatClampNeg)) else some 0))
set_option maxRecDepth 100000 in
set_option maxHeartbeats 4000000 in
theorem b_X3_placeAt {g : Gx} {l : Launch} {V : VT} {Rt : Option Value → MH → Prop} (o : Ok g l RX3 cX3_placeAt 2 0 0 0 V) (rr : ORi cX3_placeAt V Rt) (h : MH) (x1 : Int32) : T (fun r => Rt (some (.int r)) h) (f_X3_placeAt h x1) (V 0 [(0, rA g 9), (1, .int x1)] [] h) := by
  unfold f_X3_placeAt
  refine R_iload_n o 1 dX3_placeAt_0 rfl rfl ?_
  refine R_if_lt o 22 dX3_placeAt_1 (by decide) ?_ ?_
  · refine R_iconst (v := 0) o dX3_placeAt_22 (by decide) ?_
    exact T_some (fun p => rr _ _ _ _ dX3_placeAt_23 p)
  · refine R_iload_n o 1 dX3_placeAt_4 rfl rfl ?_
    refine R_aload_n o 0 dX3_placeAt_5 rfl rfl ?_
    refine R_getR (a2 := 10) o dX3_placeAt_6 fl_X3_9 sh_9 (by decide) rfl rf_9_0 ?_
    refine R_alenI (v := 40) o dX3_placeAt_9 sh_10 (Or.inl rfl) rfl ?_
    refine R_icmp_ge o 22 dX3_placeAt_10 (by decide) ?_ ?_
    · refine R_aload_n o 0 dX3_placeAt_13 rfl rfl ?_
      refine R_getR (a2 := 10) o dX3_placeAt_14 fl_X3_9 sh_9 (by decide) rfl rf_9_0 ?_
      refine R_iload_n o 1 dX3_placeAt_17 rfl rfl ?_
      refine R_iald o dX3_placeAt_18 sh_10 ?_
      refine R_goto o 23 dX3_placeAt_19 (by decide) ?_
      exact T_some (fun p => rr _ _ _ _ dX3_placeAt_23 p)
    · refine R_iconst (v := 0) o dX3_placeAt_22 (by decide) ?_
      exact T_some (fun p => rr _ _ _ _ dX3_placeAt_23 p)
theorem c_X3_placeAt (g : Gx) (l : Launch) (h : MH) (x1 : Int32) (r : Int32) (e : f_X3_placeAt h x1 = some r) : Ctr g l yX3_placeAt cX3_placeAt 2 (some .int) 0 0 0 [rA g 9, .int x1] h (some (.int r)) h := mkCi (plainFor_of_name (by decide)) (Nat.le_of_ble_eq_true rfl) (fun V Rt o rr p => b_X3_placeAt o rr h x1  r e p)
/-! X3_bitsHeld -/
noncomputable def f_X3_bitsHeld_B6 (h : MH) (a1 : Nat) (a2 : Nat) (x3 : Int32) (x4 : Int32) (x5 : Int32) : Option ((Int32 × Int32) ⊕ (Int32)) :=
  (if x5 < (h.1 a2 2) then Option.bind (f_X3_placeAt h ((x3 * (h.1 a2 2)) + x5)) (fun r26 => Option.bind (f_X1_bitAt h a1 r26) (fun r29 => (if r29 = 1 then Option.bind (f_X0_columnAt h a2 x5) (fun r41 => nm (x4 ^^^ r41) (fun v45 => some (.inl (v45, (x5 + 1))))) else some (.inl (x4, (x5 + 1)))))) else some (.inr x4))
set_option maxRecDepth 100000 in
set_option maxHeartbeats 4000000 in
theorem t_X3_bitsHeld_B6 {g : Gx} {l : Launch} {V : VT} {Rt : Option Value → MH → Prop} (o : Ok g l RX3 cX3_bitsHeld 6 3 65 0 V) (rr : ORi cX3_bitsHeld V Rt) (h : MH) (a1 : Nat) (a2 : Nat) (x3 : Int32) (x4 : Int32) (x5 : Int32) (ha1 : shp a1 = (1, 0)) (ha2 : shp a2 = (0, 0)) : T (Sum.elim (fun s => V 6 [(0, rA g 9), (1, rA g a1), (2, rA g a2), (3, .int x3), (4, .int s.1), (5, .int s.2)] [] h) (fun b => V 53 [(4, .int b)] [] h)) (f_X3_bitsHeld_B6  h a1 a2 x3 x4 x5) (V 6 [(0, rA g 9), (1, rA g a1), (2, rA g a2), (3, .int x3), (4, .int x4), (5, .int x5)] [] h) := by
  unfold f_X3_bitsHeld_B6
  refine R_iload o 5 dX3_bitsHeld_6 rfl ?_
  refine R_aload_n o 2 dX3_bitsHeld_8 rfl rfl ?_
  refine R_getI o dX3_bitsHeld_9 fl_X3_41 ha2 (by decide) rfl ?_
  refine R_icmp_ge o 53 dX3_bitsHeld_12 (by decide) ?_ ?_
  · refine R_aload_n o 1 dX3_bitsHeld_15 rfl rfl ?_
    refine R_aload_n o 0 dX3_bitsHeld_16 rfl rfl ?_
    refine R_iload_n o 3 dX3_bitsHeld_17 rfl rfl ?_
    refine R_aload_n o 2 dX3_bitsHeld_18 rfl rfl ?_
    refine R_getI o dX3_bitsHeld_19 fl_X3_41 ha2 (by decide) rfl ?_
    refine R_imul o dX3_bitsHeld_22 ?_
    refine R_iload o 5 dX3_bitsHeld_23 rfl ?_
    refine R_iadd o dX3_bitsHeld_25 ?_
    refine K_i (callV' (As := [.int ((x3 * (h.1 a2 2)) + x5)]) (rest := [rA g a1]) o dX3_bitsHeld_26 lk_X3_46 rfl sh_9 rfl rfl rfl rfl (Nat.le_of_ble_eq_true rfl)) (c_X3_placeAt g l h ((x3 * (h.1 a2 2)) + x5)) (fun r26 => ?_)
    refine K_i (callV' (As := [.int r26]) (rest := []) o dX3_bitsHeld_29 lk_X3_49 rfl ha1 rfl rfl rfl rfl (Nat.le_of_ble_eq_true rfl)) (c_X1_bitAt g l h a1 r26 ha1) (fun r29 => ?_)
    refine R_iconst (v := 1) o dX3_bitsHeld_32 (by decide) ?_
    refine R_icmp_ne o 47 dX3_bitsHeld_33 (by decide) ?_ ?_
    · refine R_iload o 4 dX3_bitsHeld_36 rfl ?_
      refine R_aload_n o 2 dX3_bitsHeld_38 rfl rfl ?_
      refine R_iload o 5 dX3_bitsHeld_39 rfl ?_
      refine K_i (callV' (As := [.int x5]) (rest := [.int x4]) o dX3_bitsHeld_41 lk_X3_54 rfl ha2 rfl rfl rfl rfl (Nat.le_of_ble_eq_true rfl)) (c_X0_columnAt g l h a2 x5 ha2) (fun r41 => ?_)
      refine R_ixor o dX3_bitsHeld_44 ?_
      refine R_nmI (fun v45 => ?_)
      refine R_istore (lv2 := [(0, rA g 9), (1, rA g a1), (2, rA g a2), (3, .int x3), (4, .int v45), (5, .int x5)]) o dX3_bitsHeld_45 (by decide) rfl ?_
      refine R_iinc (v := (x5 + 1)) (lv2 := [(0, rA g 9), (1, rA g a1), (2, rA g a2), (3, .int x3), (4, .int v45), (5, .int (x5 + 1))]) o 5 dX3_bitsHeld_47 rfl rfl (by decide) rfl ?_
      refine R_goto o 6 dX3_bitsHeld_50 (by decide) ?_
      exact T_some (fun p => p)
    · refine R_iinc (v := (x5 + 1)) (lv2 := [(0, rA g 9), (1, rA g a1), (2, rA g a2), (3, .int x3), (4, .int x4), (5, .int (x5 + 1))]) o 5 dX3_bitsHeld_47 rfl rfl (by decide) rfl ?_
      refine R_goto o 6 dX3_bitsHeld_50 (by decide) ?_
      exact T_some (fun p => p)
  · refine R_drop (lv2 := [(4, .int x4)]) o [4] rfl ?_
    exact T_some (fun p => p)
noncomputable def f_X3_bitsHeld_L6 (h : MH) (a1 : Nat) (a2 : Nat) (x3 : Int32) (x4 : Int32) (x5 : Int32) : Option (Int32) :=
  lpo (fun s : Int32 × Int32 => f_X3_bitsHeld_B6 h a1 a2 x3 s.1 s.2) (x4, x5)
theorem t_X3_bitsHeld_L6 {g : Gx} {l : Launch} {V : VT} {Rt : Option Value → MH → Prop} (o : Ok g l RX3 cX3_bitsHeld 6 3 65 0 V) (rr : ORi cX3_bitsHeld V Rt) (h : MH) (a1 : Nat) (a2 : Nat) (x3 : Int32) (x4 : Int32) (x5 : Int32) (ha1 : shp a1 = (1, 0)) (ha2 : shp a2 = (0, 0)) : T (fun b => V 53 [(4, .int b)] [] h) (f_X3_bitsHeld_L6 h a1 a2 x3 x4 x5) (V 6 [(0, rA g 9), (1, rA g a1), (2, rA g a2), (3, .int x3), (4, .int x4), (5, .int x5)] [] h) := T_loop (head := fun s : Int32 × Int32 => V 6 [(0, rA g 9), (1, rA g a1), (2, rA g a2), (3, .int x3), (4, .int s.1), (5, .int s.2)] [] h) (fun s => t_X3_bitsHeld_B6 o rr h a1 a2 x3 s.1 s.2 ha1 ha2) (x4, x5)
noncomputable def f_X3_bitsHeld (h : MH) (a1 : Nat) (a2 : Nat) (x3 : Int32) : Option Int32 :=
  Option.bind (f_X3_bitsHeld_L6 h a1 a2 x3 0 0) (fun b6 => some b6)
set_option maxRecDepth 100000 in
set_option maxHeartbeats 4000000 in
theorem b_X3_bitsHeld {g : Gx} {l : Launch} {V : VT} {Rt : Option Value → MH → Prop} (o : Ok g l RX3 cX3_bitsHeld 6 3 65 0 V) (rr : ORi cX3_bitsHeld V Rt) (h : MH) (a1 : Nat) (a2 : Nat) (x3 : Int32) (ha1 : shp a1 = (1, 0)) (ha2 : shp a2 = (0, 0)) : T (fun r => Rt (some (.int r)) h) (f_X3_bitsHeld h a1 a2 x3) (V 0 [(0, rA g 9), (1, rA g a1), (2, rA g a2), (3, .int x3)] [] h) := by
  unfold f_X3_bitsHeld
  refine R_iconst (v := 0) o dX3_bitsHeld_0 (by decide) ?_
  refine R_istore (lv2 := [(0, rA g 9), (1, rA g a1), (2, rA g a2), (3, .int x3), (4, .int 0)]) o dX3_bitsHeld_1 (by decide) rfl ?_
  refine R_iconst (v := 0) o dX3_bitsHeld_3 (by decide) ?_
  refine R_istore (lv2 := [(0, rA g 9), (1, rA g a1), (2, rA g a2), (3, .int x3), (4, .int 0), (5, .int 0)]) o dX3_bitsHeld_4 (by decide) rfl ?_
  refine T_bind (t_X3_bitsHeld_L6 o rr h a1 a2 x3 0 0 ha1 ha2) (fun b6 => ?_)
  refine R_iload o 0 dX3_bitsHeld_53 rfl ?_
  exact T_some (fun p => rr _ _ _ _ dX3_bitsHeld_55 p)
theorem c_X3_bitsHeld (g : Gx) (l : Launch) (h : MH) (a1 : Nat) (a2 : Nat) (x3 : Int32) (ha1 : shp a1 = (1, 0)) (ha2 : shp a2 = (0, 0)) (r : Int32) (e : f_X3_bitsHeld h a1 a2 x3 = some r) : Ctr g l yX3_bitsHeld cX3_bitsHeld 6 (some .int) 3 65 0 [rA g 9, rA g a1, rA g a2, .int x3] h (some (.int r)) h := mkCi (plainFor_of_name (by decide)) (Nat.le_of_ble_eq_true rfl) (fun V Rt o rr p => b_X3_bitsHeld o rr h a1 a2 x3 ha1 ha2 r e p)
/-! X3_bitsWanted -/
noncomputable def f_X3_bitsWanted_B5 (h : MH) (a0 : Nat) (a1 : Nat) (x2 : Int32) (x3 : Int32) (x4 : Int32) : Option ((Int32 × Int32) ⊕ (Int32)) :=
  (if x4 < (h.1 a0 1) then Option.bind (f_X5_get h a1 ((x2 * (h.1 a0 1)) + x4)) (fun r25 => nm (x3 ||| (shl r25 x4)) (fun v32 => some (.inl (v32, (x4 + 1))))) else some (.inr x3))
set_option maxRecDepth 100000 in
set_option maxHeartbeats 4000000 in
theorem t_X3_bitsWanted_B5 {g : Gx} {l : Launch} {V : VT} {Rt : Option Value → MH → Prop} (o : Ok g l RX3 cX3_bitsWanted 5 2 42 0 V) (rr : ORi cX3_bitsWanted V Rt) (h : MH) (a0 : Nat) (a1 : Nat) (x2 : Int32) (x3 : Int32) (x4 : Int32) (ha0 : shp a0 = (0, 0)) (ha1 : shp a1 = (5, 0)) : T (Sum.elim (fun s => V 5 [(0, rA g a0), (1, rA g a1), (2, .int x2), (3, .int s.1), (4, .int s.2)] [] h) (fun b => V 39 [(3, .int b)] [] h)) (f_X3_bitsWanted_B5  h a0 a1 x2 x3 x4) (V 5 [(0, rA g a0), (1, rA g a1), (2, .int x2), (3, .int x3), (4, .int x4)] [] h) := by
  unfold f_X3_bitsWanted_B5
  refine R_iload o 4 dX3_bitsWanted_5 rfl ?_
  refine R_aload_n o 0 dX3_bitsWanted_7 rfl rfl ?_
  refine R_getI o dX3_bitsWanted_8 fl_X3_57 ha0 (by decide) rfl ?_
  refine R_icmp_ge o 39 dX3_bitsWanted_11 (by decide) ?_ ?_
  · refine R_iload_n o 3 dX3_bitsWanted_14 rfl rfl ?_
    refine R_aload_n o 1 dX3_bitsWanted_15 rfl rfl ?_
    refine R_iload_n o 2 dX3_bitsWanted_16 rfl rfl ?_
    refine R_aload_n o 0 dX3_bitsWanted_17 rfl rfl ?_
    refine R_getI o dX3_bitsWanted_18 fl_X3_57 ha0 (by decide) rfl ?_
    refine R_imul o dX3_bitsWanted_21 ?_
    refine R_iload o 4 dX3_bitsWanted_22 rfl ?_
    refine R_iadd o dX3_bitsWanted_24 ?_
    refine K_i (callV' (As := [.int ((x2 * (h.1 a0 1)) + x4)]) (rest := [.int x3]) o dX3_bitsWanted_25 lk_X3_88 rfl ha1 rfl rfl rfl rfl (Nat.le_of_ble_eq_true rfl)) (c_X5_get g l h a1 ((x2 * (h.1 a0 1)) + x4) ha1) (fun r25 => ?_)
    refine R_iload o 4 dX3_bitsWanted_28 rfl ?_
    refine R_ishl o dX3_bitsWanted_30 ?_
    refine R_ior o dX3_bitsWanted_31 ?_
    refine R_nmI (fun v32 => ?_)
    refine R_istore_n (lv2 := [(0, rA g a0), (1, rA g a1), (2, .int x2), (3, .int v32), (4, .int x4)]) o dX3_bitsWanted_32 rfl (by decide) rfl ?_
    refine R_iinc (v := (x4 + 1)) (lv2 := [(0, rA g a0), (1, rA g a1), (2, .int x2), (3, .int v32), (4, .int (x4 + 1))]) o 4 dX3_bitsWanted_33 rfl rfl (by decide) rfl ?_
    refine R_goto o 5 dX3_bitsWanted_36 (by decide) ?_
    exact T_some (fun p => p)
  · refine R_drop (lv2 := [(3, .int x3)]) o [3] rfl ?_
    exact T_some (fun p => p)
noncomputable def f_X3_bitsWanted_L5 (h : MH) (a0 : Nat) (a1 : Nat) (x2 : Int32) (x3 : Int32) (x4 : Int32) : Option (Int32) :=
  lpo (fun s : Int32 × Int32 => f_X3_bitsWanted_B5 h a0 a1 x2 s.1 s.2) (x3, x4)
theorem t_X3_bitsWanted_L5 {g : Gx} {l : Launch} {V : VT} {Rt : Option Value → MH → Prop} (o : Ok g l RX3 cX3_bitsWanted 5 2 42 0 V) (rr : ORi cX3_bitsWanted V Rt) (h : MH) (a0 : Nat) (a1 : Nat) (x2 : Int32) (x3 : Int32) (x4 : Int32) (ha0 : shp a0 = (0, 0)) (ha1 : shp a1 = (5, 0)) : T (fun b => V 39 [(3, .int b)] [] h) (f_X3_bitsWanted_L5 h a0 a1 x2 x3 x4) (V 5 [(0, rA g a0), (1, rA g a1), (2, .int x2), (3, .int x3), (4, .int x4)] [] h) := T_loop (head := fun s : Int32 × Int32 => V 5 [(0, rA g a0), (1, rA g a1), (2, .int x2), (3, .int s.1), (4, .int s.2)] [] h) (fun s => t_X3_bitsWanted_B5 o rr h a0 a1 x2 s.1 s.2 ha0 ha1) (x3, x4)
noncomputable def f_X3_bitsWanted (h : MH) (a0 : Nat) (a1 : Nat) (x2 : Int32) : Option Int32 :=
  Option.bind (f_X3_bitsWanted_L5 h a0 a1 x2 0 0) (fun b5 => some b5)
set_option maxRecDepth 100000 in
set_option maxHeartbeats 4000000 in
theorem b_X3_bitsWanted {g : Gx} {l : Launch} {V : VT} {Rt : Option Value → MH → Prop} (o : Ok g l RX3 cX3_bitsWanted 5 2 42 0 V) (rr : ORi cX3_bitsWanted V Rt) (h : MH) (a0 : Nat) (a1 : Nat) (x2 : Int32) (ha0 : shp a0 = (0, 0)) (ha1 : shp a1 = (5, 0)) : T (fun r => Rt (some (.int r)) h) (f_X3_bitsWanted h a0 a1 x2) (V 0 [(0, rA g a0), (1, rA g a1), (2, .int x2)] [] h) := by
  unfold f_X3_bitsWanted
  refine R_iconst (v := 0) o dX3_bitsWanted_0 (by decide) ?_
  refine R_istore_n (lv2 := [(0, rA g a0), (1, rA g a1), (2, .int x2), (3, .int 0)]) o dX3_bitsWanted_1 rfl (by decide) rfl ?_
  refine R_iconst (v := 0) o dX3_bitsWanted_2 (by decide) ?_
  refine R_istore (lv2 := [(0, rA g a0), (1, rA g a1), (2, .int x2), (3, .int 0), (4, .int 0)]) o dX3_bitsWanted_3 (by decide) rfl ?_
  refine T_bind (t_X3_bitsWanted_L5 o rr h a0 a1 x2 0 0 ha0 ha1) (fun b5 => ?_)
  refine R_iload_n o 0 dX3_bitsWanted_39 rfl rfl ?_
  exact T_some (fun p => rr _ _ _ _ dX3_bitsWanted_40 p)
theorem c_X3_bitsWanted (g : Gx) (l : Launch) (h : MH) (a0 : Nat) (a1 : Nat) (x2 : Int32) (ha0 : shp a0 = (0, 0)) (ha1 : shp a1 = (5, 0)) (r : Int32) (e : f_X3_bitsWanted h a0 a1 x2 = some r) : Ctr g l yX3_bitsWanted cX3_bitsWanted 5 (some .int) 2 42 0 [rA g a0, rA g a1, .int x2] h (some (.int r)) h := mkCi (plainFor_of_name (by decide)) (Nat.le_of_ble_eq_true rfl) (fun V Rt o rr p => b_X3_bitsWanted o rr h a0 a1 x2 ha0 ha1 r e p)
/-! X3_startSets -/
noncomputable def f_X3_startSets (h : MH)  : Option MH :=
  Option.bind (f_J7_fill_53178 h 11 64 1000000) (fun h6 => gd (ix 0 64) (nm (uI h6 11 (0 : Int32).toNatClampNeg 0) (fun h15 => gd (ix 0 64) (nm (uI h15 12 (0 : Int32).toNatClampNeg 0) (fun h22 => some h22)))))
set_option maxRecDepth 100000 in
set_option maxHeartbeats 4000000 in
theorem b_X3_startSets {g : Gx} {l : Launch} {V : VT} {Rt : Option Value → MH → Prop} (o : Ok g l RX3 cX3_startSets 1 1 23 0 V) (rr : ORv cX3_startSets V Rt) (h : MH)  : T (fun r => Rt none r) (f_X3_startSets h) (V 0 [(0, rA g 9)] [] h) := by
  unfold f_X3_startSets
  refine R_aload_n o 0 dX3_startSets_0 rfl rfl ?_
  refine R_getR (a2 := 11) o dX3_startSets_1 fl_X3_15 sh_9 (by decide) rfl rf_9_1 ?_
  refine R_ldc (v := 1000000) o dX3_startSets_4 kc_X3_87 ?_
  refine K_vh (callS' (av := [rA g 11, .int 1000000]) (rest := []) o dX3_startSets_6 lk_X3_103 rfl rfl rfl (Nat.le_of_ble_eq_true rfl)) (c_J7_fill_53178 g l h 11 64 1000000 sh_11) (fun h6 => ?_)
  refine R_aload_n o 0 dX3_startSets_9 rfl rfl ?_
  refine R_getR (a2 := 11) o dX3_startSets_10 fl_X3_15 sh_9 (by decide) rfl rf_9_1 ?_
  refine R_iconst (v := 0) o dX3_startSets_13 (by decide) ?_
  refine R_iconst (v := 0) o dX3_startSets_14 (by decide) ?_
  refine R_iast o dX3_startSets_15 sh_11 ?_
  refine R_nmH (fun h15 => ?_)
  refine R_aload_n o 0 dX3_startSets_16 rfl rfl ?_
  refine R_getR (a2 := 12) o dX3_startSets_17 fl_X3_18 sh_9 (by decide) rfl rf_9_2 ?_
  refine R_iconst (v := 0) o dX3_startSets_20 (by decide) ?_
  refine R_iconst (v := 0) o dX3_startSets_21 (by decide) ?_
  refine R_iast o dX3_startSets_22 sh_12 ?_
  refine R_nmH (fun h22 => ?_)
  exact T_some (fun p => rr _ _ _ dX3_startSets_23 p)
theorem c_X3_startSets (g : Gx) (l : Launch) (h : MH)  (r : MH) (e : f_X3_startSets h = some r) : Ctr g l yX3_startSets cX3_startSets 1 none 1 23 0 [rA g 9] h none r := mkCv (plainFor_of_name (by decide)) (Nat.le_of_ble_eq_true rfl) (fun V Rt o rr p => b_X3_startSets o rr h   r e p)
/-! X3_joinPlace -/
noncomputable def f_X3_joinPlace (h : MH) (x1 : Int32) (x2 : Int32) (x3 : Int32) (x4 : Int32) (x5 : Int32) : Option MH :=
  (if x2 = 1000000 then some h else gd (ix x1 64) ((if (x2 + x5) < (h.1 11 x1.toNatClampNeg) then gd (ix x1 64) (nm (uI h 11 x1.toNatClampNeg (x2 + x5)) (fun h29 => gd (ix x1 64) (nm (uI h29 12 x1.toNatClampNeg (x3 ||| (shl 1 x4))) (fun h41 => some h41)))) else some h)))
set_option maxRecDepth 100000 in
set_option maxHeartbeats 4000000 in
theorem b_X3_joinPlace {g : Gx} {l : Launch} {V : VT} {Rt : Option Value → MH → Prop} (o : Ok g l RX3 cX3_joinPlace 6 0 0 0 V) (rr : ORv cX3_joinPlace V Rt) (h : MH) (x1 : Int32) (x2 : Int32) (x3 : Int32) (x4 : Int32) (x5 : Int32) : T (fun r => Rt none r) (f_X3_joinPlace h x1 x2 x3 x4 x5) (V 0 [(0, rA g 9), (1, .int x1), (2, .int x2), (3, .int x3), (4, .int x4), (5, .int x5)] [] h) := by
  unfold f_X3_joinPlace
  refine R_iload_n o 2 dX3_joinPlace_0 rfl rfl ?_
  refine R_ldc (v := 1000000) o dX3_joinPlace_1 kc_X3_87 ?_
  refine R_icmp_eq o 19 dX3_joinPlace_3 (by decide) ?_ ?_
  · exact T_some (fun p => rr _ _ _ dX3_joinPlace_19 p)
  · refine R_iload_n o 2 dX3_joinPlace_6 rfl rfl ?_
    refine R_iload o 5 dX3_joinPlace_7 rfl ?_
    refine R_iadd o dX3_joinPlace_9 ?_
    refine R_aload_n o 0 dX3_joinPlace_10 rfl rfl ?_
    refine R_getR (a2 := 11) o dX3_joinPlace_11 fl_X3_15 sh_9 (by decide) rfl rf_9_1 ?_
    refine R_iload_n o 1 dX3_joinPlace_14 rfl rfl ?_
    refine R_iald o dX3_joinPlace_15 sh_11 ?_
    refine R_icmp_lt o 20 dX3_joinPlace_16 (by decide) ?_ ?_
    · refine R_aload_n o 0 dX3_joinPlace_20 rfl rfl ?_
      refine R_getR (a2 := 11) o dX3_joinPlace_21 fl_X3_15 sh_9 (by decide) rfl rf_9_1 ?_
      refine R_iload_n o 1 dX3_joinPlace_24 rfl rfl ?_
      refine R_iload_n o 2 dX3_joinPlace_25 rfl rfl ?_
      refine R_iload o 5 dX3_joinPlace_26 rfl ?_
      refine R_iadd o dX3_joinPlace_28 ?_
      refine R_iast o dX3_joinPlace_29 sh_11 ?_
      refine R_nmH (fun h29 => ?_)
      refine R_aload_n o 0 dX3_joinPlace_30 rfl rfl ?_
      refine R_getR (a2 := 12) o dX3_joinPlace_31 fl_X3_18 sh_9 (by decide) rfl rf_9_2 ?_
      refine R_iload_n o 1 dX3_joinPlace_34 rfl rfl ?_
      refine R_iload_n o 3 dX3_joinPlace_35 rfl rfl ?_
      refine R_iconst (v := 1) o dX3_joinPlace_36 (by decide) ?_
      refine R_iload o 4 dX3_joinPlace_37 rfl ?_
      refine R_ishl o dX3_joinPlace_39 ?_
      refine R_ior o dX3_joinPlace_40 ?_
      refine R_iast o dX3_joinPlace_41 sh_12 ?_
      refine R_nmH (fun h41 => ?_)
      exact T_some (fun p => rr _ _ _ dX3_joinPlace_42 p)
    · exact T_some (fun p => rr _ _ _ dX3_joinPlace_19 p)
theorem c_X3_joinPlace (g : Gx) (l : Launch) (h : MH) (x1 : Int32) (x2 : Int32) (x3 : Int32) (x4 : Int32) (x5 : Int32) (r : MH) (e : f_X3_joinPlace h x1 x2 x3 x4 x5 = some r) : Ctr g l yX3_joinPlace cX3_joinPlace 6 none 0 0 0 [rA g 9, .int x1, .int x2, .int x3, .int x4, .int x5] h none r := mkCv (plainFor_of_name (by decide)) (Nat.le_of_ble_eq_true rfl) (fun V Rt o rr p => b_X3_joinPlace o rr h x1 x2 x3 x4 x5  r e p)
/-! X3_growSets -/
noncomputable def f_X3_growSets_B3 (h : MH) (x1 : Int32) (x2 : Int32) (x3 : Int32) (x4 : Int32) : Option ((Int32 × MH) ⊕ (MH)) :=
  (if x4 < 64 then nm (x4 ^^^ x2) (fun v14 => (if x4 < v14 then (if v14 < 64 then gd (ix x4 64) (nm (h.1 11 x4.toNatClampNeg) (fun v40 => gd (ix x4 64) (nm (h.1 12 x4.toNatClampNeg) (fun v49 => gd (ix v14 64) (gd (ix v14 64) (Option.bind (f_X3_joinPlace h x4 (h.1 11 v14.toNatClampNeg) (h.1 12 v14.toNatClampNeg) x1 x3) (fun h70 => Option.bind (f_X3_joinPlace h70 v14 v40 v49 x1 x3) (fun h82 => some (.inl ((x4 + 1), h82)))))))))) else some (.inl ((x4 + 1), h))) else some (.inl ((x4 + 1), h)))) else some (.inr h))
set_option maxRecDepth 100000 in
set_option maxHeartbeats 4000000 in
theorem t_X3_growSets_B3 {g : Gx} {l : Launch} {V : VT} {Rt : Option Value → MH → Prop} (o : Ok g l RX3 cX3_growSets 8 1 25 0 V) (rr : ORv cX3_growSets V Rt) (h : MH) (x1 : Int32) (x2 : Int32) (x3 : Int32) (x4 : Int32) : T (Sum.elim (fun s => V 3 [(0, rA g 9), (1, .int x1), (2, .int x2), (3, .int x3), (4, .int s.1)] [] s.2) (fun b => V 91 [] [] b)) (f_X3_growSets_B3  h x1 x2 x3 x4) (V 3 [(0, rA g 9), (1, .int x1), (2, .int x2), (3, .int x3), (4, .int x4)] [] h) := by
  unfold f_X3_growSets_B3
  refine R_iload o 4 dX3_growSets_3 rfl ?_
  refine R_bipush (v := 64) o dX3_growSets_5 (by decide) ?_
  refine R_icmp_ge o 91 dX3_growSets_7 (by decide) ?_ ?_
  · refine R_iload o 4 dX3_growSets_10 rfl ?_
    refine R_iload_n o 2 dX3_growSets_12 rfl rfl ?_
    refine R_ixor o dX3_growSets_13 ?_
    refine R_nmI (fun v14 => ?_)
    refine R_istore (lv2 := [(0, rA g 9), (1, .int x1), (2, .int x2), (3, .int x3), (4, .int x4), (5, .int v14)]) o dX3_growSets_14 (by decide) rfl ?_
    refine R_iload o 5 dX3_growSets_16 rfl ?_
    refine R_iload o 4 dX3_growSets_18 rfl ?_
    refine R_icmp_le o 85 dX3_growSets_20 (by decide) ?_ ?_
    · refine R_iload o 5 dX3_growSets_23 rfl ?_
      refine R_bipush (v := 64) o dX3_growSets_25 (by decide) ?_
      refine R_icmp_lt o 33 dX3_growSets_27 (by decide) ?_ ?_
      · refine R_aload_n o 0 dX3_growSets_33 rfl rfl ?_
        refine R_getR (a2 := 11) o dX3_growSets_34 fl_X3_15 sh_9 (by decide) rfl rf_9_1 ?_
        refine R_iload o 4 dX3_growSets_37 rfl ?_
        refine R_iald o dX3_growSets_39 sh_11 ?_
        refine R_nmI (fun v40 => ?_)
        refine R_istore (lv2 := [(0, rA g 9), (1, .int x1), (2, .int x2), (3, .int x3), (4, .int x4), (5, .int v14), (6, .int v40)]) o dX3_growSets_40 (by decide) rfl ?_
        refine R_aload_n o 0 dX3_growSets_42 rfl rfl ?_
        refine R_getR (a2 := 12) o dX3_growSets_43 fl_X3_18 sh_9 (by decide) rfl rf_9_2 ?_
        refine R_iload o 4 dX3_growSets_46 rfl ?_
        refine R_iald o dX3_growSets_48 sh_12 ?_
        refine R_nmI (fun v49 => ?_)
        refine R_istore (lv2 := [(0, rA g 9), (1, .int x1), (2, .int x2), (3, .int x3), (4, .int x4), (5, .int v14), (6, .int v40), (7, .int v49)]) o dX3_growSets_49 (by decide) rfl ?_
        refine R_aload_n o 0 dX3_growSets_51 rfl rfl ?_
        refine R_iload o 4 dX3_growSets_52 rfl ?_
        refine R_aload_n o 0 dX3_growSets_54 rfl rfl ?_
        refine R_getR (a2 := 11) o dX3_growSets_55 fl_X3_15 sh_9 (by decide) rfl rf_9_1 ?_
        refine R_iload o 5 dX3_growSets_58 rfl ?_
        refine R_iald o dX3_growSets_60 sh_11 ?_
        refine R_aload_n o 0 dX3_growSets_61 rfl rfl ?_
        refine R_getR (a2 := 12) o dX3_growSets_62 fl_X3_18 sh_9 (by decide) rfl rf_9_2 ?_
        refine R_iload o 5 dX3_growSets_65 rfl ?_
        refine R_iald o dX3_growSets_67 sh_12 ?_
        refine R_iload_n o 1 dX3_growSets_68 rfl rfl ?_
        refine R_iload_n o 3 dX3_growSets_69 rfl rfl ?_
        refine K_vh (callV' (As := [.int x4, .int (h.1 11 v14.toNatClampNeg), .int (h.1 12 v14.toNatClampNeg), .int x1, .int x3]) (rest := []) o dX3_growSets_70 lk_X3_109 rfl sh_9 rfl rfl rfl rfl (Nat.le_of_ble_eq_true rfl)) (c_X3_joinPlace g l h x4 (h.1 11 v14.toNatClampNeg) (h.1 12 v14.toNatClampNeg) x1 x3) (fun h70 => ?_)
        refine R_aload_n o 0 dX3_growSets_73 rfl rfl ?_
        refine R_iload o 5 dX3_growSets_74 rfl ?_
        refine R_iload o 6 dX3_growSets_76 rfl ?_
        refine R_iload o 7 dX3_growSets_78 rfl ?_
        refine R_iload_n o 1 dX3_growSets_80 rfl rfl ?_
        refine R_iload_n o 3 dX3_growSets_81 rfl rfl ?_
        refine K_vh (callV' (As := [.int v14, .int v40, .int v49, .int x1, .int x3]) (rest := []) o dX3_growSets_82 lk_X3_109 rfl sh_9 rfl rfl rfl rfl (Nat.le_of_ble_eq_true rfl)) (c_X3_joinPlace g l h70 v14 v40 v49 x1 x3) (fun h82 => ?_)
        refine R_iinc (v := (x4 + 1)) (lv2 := [(0, rA g 9), (1, .int x1), (2, .int x2), (3, .int x3), (4, .int (x4 + 1)), (5, .int v14), (6, .int v40), (7, .int v49)]) o 4 dX3_growSets_85 rfl rfl (by decide) rfl ?_
        refine R_goto o 3 dX3_growSets_88 (by decide) ?_
        refine R_drop (lv2 := [(0, rA g 9), (1, .int x1), (2, .int x2), (3, .int x3), (4, .int (x4 + 1))]) o [0, 1, 2, 3, 4] rfl ?_
        exact T_some (fun p => p)
      · refine R_goto o 85 dX3_growSets_30 (by decide) ?_
        refine R_iinc (v := (x4 + 1)) (lv2 := [(0, rA g 9), (1, .int x1), (2, .int x2), (3, .int x3), (4, .int (x4 + 1)), (5, .int v14)]) o 4 dX3_growSets_85 rfl rfl (by decide) rfl ?_
        refine R_goto o 3 dX3_growSets_88 (by decide) ?_
        refine R_drop (lv2 := [(0, rA g 9), (1, .int x1), (2, .int x2), (3, .int x3), (4, .int (x4 + 1))]) o [0, 1, 2, 3, 4] rfl ?_
        exact T_some (fun p => p)
    · refine R_iinc (v := (x4 + 1)) (lv2 := [(0, rA g 9), (1, .int x1), (2, .int x2), (3, .int x3), (4, .int (x4 + 1)), (5, .int v14)]) o 4 dX3_growSets_85 rfl rfl (by decide) rfl ?_
      refine R_goto o 3 dX3_growSets_88 (by decide) ?_
      refine R_drop (lv2 := [(0, rA g 9), (1, .int x1), (2, .int x2), (3, .int x3), (4, .int (x4 + 1))]) o [0, 1, 2, 3, 4] rfl ?_
      exact T_some (fun p => p)
  · refine R_drop (lv2 := []) o [] rfl ?_
    exact T_some (fun p => p)
noncomputable def f_X3_growSets_L3 (h : MH) (x1 : Int32) (x2 : Int32) (x3 : Int32) (x4 : Int32) : Option (MH) :=
  lpo (fun s : Int32 × MH => f_X3_growSets_B3 s.2 x1 x2 x3 s.1) (x4, h)
theorem t_X3_growSets_L3 {g : Gx} {l : Launch} {V : VT} {Rt : Option Value → MH → Prop} (o : Ok g l RX3 cX3_growSets 8 1 25 0 V) (rr : ORv cX3_growSets V Rt) (h : MH) (x1 : Int32) (x2 : Int32) (x3 : Int32) (x4 : Int32) : T (fun b => V 91 [] [] b) (f_X3_growSets_L3 h x1 x2 x3 x4) (V 3 [(0, rA g 9), (1, .int x1), (2, .int x2), (3, .int x3), (4, .int x4)] [] h) := T_loop (head := fun s : Int32 × MH => V 3 [(0, rA g 9), (1, .int x1), (2, .int x2), (3, .int x3), (4, .int s.1)] [] s.2) (fun s => t_X3_growSets_B3 o rr s.2 x1 x2 x3 s.1 ) (x4, h)
noncomputable def f_X3_growSets (h : MH) (x1 : Int32) (x2 : Int32) (x3 : Int32) : Option MH :=
  Option.bind (f_X3_growSets_L3 h x1 x2 x3 0) (fun b3 => some b3)
set_option maxRecDepth 100000 in
set_option maxHeartbeats 4000000 in
theorem b_X3_growSets {g : Gx} {l : Launch} {V : VT} {Rt : Option Value → MH → Prop} (o : Ok g l RX3 cX3_growSets 8 1 25 0 V) (rr : ORv cX3_growSets V Rt) (h : MH) (x1 : Int32) (x2 : Int32) (x3 : Int32) : T (fun r => Rt none r) (f_X3_growSets h x1 x2 x3) (V 0 [(0, rA g 9), (1, .int x1), (2, .int x2), (3, .int x3)] [] h) := by
  unfold f_X3_growSets
  refine R_iconst (v := 0) o dX3_growSets_0 (by decide) ?_
  refine R_istore (lv2 := [(0, rA g 9), (1, .int x1), (2, .int x2), (3, .int x3), (4, .int 0)]) o dX3_growSets_1 (by decide) rfl ?_
  refine T_bind (t_X3_growSets_L3 o rr h x1 x2 x3 0) (fun b3 => ?_)
  exact T_some (fun p => rr _ _ _ dX3_growSets_91 p)
theorem c_X3_growSets (g : Gx) (l : Launch) (h : MH) (x1 : Int32) (x2 : Int32) (x3 : Int32) (r : MH) (e : f_X3_growSets h x1 x2 x3 = some r) : Ctr g l yX3_growSets cX3_growSets 8 none 1 25 0 [rA g 9, .int x1, .int x2, .int x3] h none r := mkCv (plainFor_of_name (by decide)) (Nat.le_of_ble_eq_true rfl) (fun V Rt o rr p => b_X3_growSets o rr h x1 x2 x3  r e p)
