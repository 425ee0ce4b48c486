/-! X6_fault -/
noncomputable def f_X6_fault (h : MH) (x1 : Int32) : Option (Int32 × MH) :=
  Option.bind (f_X6_isText h x1) (fun r2 => (if r2 = true then gd (ix x1 4) (Option.bind (f_X5_isMissing h (rf 2 x1.toNatClampNeg)) (fun r16 => (if r16 = true then bnd2 (f_X6_found h 1) (fun r24 h24 => some (r24, h24)) else gd (ix x1 4) (bnd2 (f_X0_readFrom h 5 (rf 2 x1.toNatClampNeg)) (fun r38 h38 => some (r38, h38)))))) else some ((-1), h)))
set_option maxRecDepth 100000 in
set_option maxHeartbeats 4000000 in
theorem b_X6_fault {g : Gx} {l : Launch} {V : VT} {Rt : Option Value → MH → Prop} (o : Ok g l RX6 cX6_fault 2 4 92 0 V) (rr : ORi cX6_fault V Rt) (h : MH) (x1 : Int32) : T (fun r => Rt (some (.int r.1)) r.2) (f_X6_fault h x1) (V 0 [(0, rA g 0), (1, .int x1)] [] h) := by
  unfold f_X6_fault
  refine R_aload_n o 0 dX6_fault_0 rfl rfl ?_
  refine R_iload_n o 1 dX6_fault_1 rfl rfl ?_
  refine K_z (callV' (As := [.int x1]) (rest := []) o dX6_fault_2 lk_X6_121 rfl sh_0 rfl rfl rfl rfl (Nat.le_of_ble_eq_true rfl)) (c_X6_isText g l h x1) (fun r2 => ?_)
  refine R_bif_ne o 10 dX6_fault_5 (by decide) ?_ ?_
  · refine R_aload_n o 0 dX6_fault_10 rfl rfl ?_
    refine R_getR (a2 := 2) o dX6_fault_11 fl_X6_15 sh_0 (by decide) rfl rf_0_1 ?_
    refine R_iload_n o 1 dX6_fault_14 rfl rfl ?_
    refine R_aald o dX6_fault_15 sh_2 (Or.inl rfl) (fun q15 => ?_)
    refine K_z (callV' (As := []) (rest := []) o dX6_fault_16 lk_X6_85 rfl (sh_el13 sh_2 q15) rfl rfl rfl rfl (Nat.le_of_ble_eq_true rfl)) (c_X5_isMissing g l h (rf 2 x1.toNatClampNeg) (sh_el13 sh_2 q15)) (fun r16 => ?_)
    refine R_bif_eq o 28 dX6_fault_19 (by decide) ?_ ?_
    · refine R_aload_n o 0 dX6_fault_22 rfl rfl ?_
      refine R_iconst (v := 1) o dX6_fault_23 (by decide) ?_
      refine K_ih (callV' (As := [.int 1]) (rest := []) o dX6_fault_24 lk_X6_77 rfl sh_0 rfl rfl rfl rfl (Nat.le_of_ble_eq_true rfl)) (c_X6_found g l h 1) (fun r24 h24 => ?_)
      exact T_some (fun p => rr _ _ _ _ dX6_fault_27 p)
    · refine R_aload_n o 0 dX6_fault_28 rfl rfl ?_
      refine R_getR (a2 := 5) o dX6_fault_29 fl_X6_31 sh_0 (by decide) rfl rf_0_4 ?_
      refine R_aload_n o 0 dX6_fault_32 rfl rfl ?_
      refine R_getR (a2 := 2) o dX6_fault_33 fl_X6_15 sh_0 (by decide) rfl rf_0_1 ?_
      refine R_iload_n o 1 dX6_fault_36 rfl rfl ?_
      refine R_aald o dX6_fault_37 sh_2 (Or.inl rfl) (fun q37 => ?_)
      refine K_ih (callV' (As := [rA g (rf 2 x1.toNatClampNeg)]) (rest := []) o dX6_fault_38 lk_X6_184 rfl sh_5 rfl rfl rfl rfl (Nat.le_of_ble_eq_true rfl)) (c_X0_readFrom g l h 5 (rf 2 x1.toNatClampNeg) sh_5 (sh_el13 sh_2 q37)) (fun r38 h38 => ?_)
      exact T_some (fun p => rr _ _ _ _ dX6_fault_41 p)
  · refine R_iconst (v := (-1)) o dX6_fault_8 (by decide) ?_
    exact T_some (fun p => rr _ _ _ _ dX6_fault_9 p)
theorem c_X6_fault (g : Gx) (l : Launch) (h : MH) (x1 : Int32) (r : (Int32 × MH)) (e : f_X6_fault h x1 = some r) : Ctr g l yX6_fault cX6_fault 2 (some .int) 4 92 0 [rA g 0, .int x1] h (some (.int r.1)) r.2 := mkCi (plainFor_of_name (by decide)) (Nat.le_of_ble_eq_true rfl) (fun V Rt o rr p => b_X6_fault o rr h x1  r e p)
/-! X6_isCode -/
noncomputable def f_X6_isCode (h : MH) (x1 : Int32) : Option Bool :=
  (if x1 < 0 then some false else (if x1 < 4 then some true else some false))
set_option maxRecDepth 100000 in
set_option maxHeartbeats 4000000 in
theorem b_X6_isCode {g : Gx} {l : Launch} {V : VT} {Rt : Option Value → MH → Prop} (o : Ok g l RX6 cX6_isCode 2 0 0 0 V) (rr : ORz cX6_isCode V Rt) (h : MH) (x1 : Int32) : T (fun r => Rt (some (.int (b2i r))) h) (f_X6_isCode h x1) (V 0 [(0, rA g 0), (1, .int x1)] [] h) := by
  unfold f_X6_isCode
  refine R_iload_n o 1 dX6_isCode_0 rfl rfl ?_
  refine R_if_lt o 17 dX6_isCode_1 (by decide) ?_ ?_
  · refine R_iconst (v := 0) o dX6_isCode_17 (by decide) ?_
    exact T_some (fun p => rr _ _ false _ dX6_isCode_18 p)
  · refine R_iload_n o 1 dX6_isCode_4 rfl rfl ?_
    refine R_aload_n o 0 dX6_isCode_5 rfl rfl ?_
    refine R_getR (a2 := 4) o dX6_isCode_6 fl_X6_26 sh_0 (by decide) rfl rf_0_3 ?_
    refine R_alenI (v := 4) o dX6_isCode_9 sh_4 (Or.inr (Or.inr (Or.inr (Or.inr rfl)))) rfl ?_
    refine R_icmp_ge o 17 dX6_isCode_10 (by decide) ?_ ?_
    · refine R_iconst (v := 1) o dX6_isCode_13 (by decide) ?_
      refine R_goto o 18 dX6_isCode_14 (by decide) ?_
      exact T_some (fun p => rr _ _ true _ dX6_isCode_18 p)
    · refine R_iconst (v := 0) o dX6_isCode_17 (by decide) ?_
      exact T_some (fun p => rr _ _ false _ dX6_isCode_18 p)
theorem c_X6_isCode (g : Gx) (l : Launch) (h : MH) (x1 : Int32) (r : Bool) (e : f_X6_isCode h x1 = some r) : Ctr g l yX6_isCode cX6_isCode 2 (some .boolean) 0 0 0 [rA g 0, .int x1] h (some (.int (b2i r))) h := mkCz (plainFor_of_name (by decide)) (Nat.le_of_ble_eq_true rfl) (fun V Rt o rr p => b_X6_isCode o rr h x1  r e p)
/-! X6_code -/
noncomputable def f_X6_code (h : MH) (x1 : Int32) (x2 : Int32) : Option (Int32 × MH) :=
  Option.bind (f_X6_isCode h x1) (fun r2 => (if r2 = true then Option.bind (f_X6_isText h x2) (fun r10 => (if r10 = true then gd (ix x2 4) (Option.bind (f_X5_isMissing h (rf 2 x2.toNatClampNeg)) (fun r24 => (if r24 = true then bnd2 (f_X6_found h 1) (fun r32 h32 => some (r32, h32)) else gd (ix x2 4) (bnd2 (f_X0_readFrom h 5 (rf 2 x2.toNatClampNeg)) (fun r46 h46 => (if r46 = (-9) then gd (ix x1 4) (Option.bind (f_X0_take h46 (rf 4 x1.toNatClampNeg) 5) (fun h67 => some ((h67.1 5 1), h67))) else some ((-4), h46))))))) else some ((-1), h))) else some ((-1), h)))
set_option maxRecDepth 100000 in
set_option maxHeartbeats 4000000 in
theorem b_X6_code {g : Gx} {l : Launch} {V : VT} {Rt : Option Value → MH → Prop} (o : Ok g l RX6 cX6_code 3 4 92 0 V) (rr : ORi cX6_code V Rt) (h : MH) (x1 : Int32) (x2 : Int32) : T (fun r => Rt (some (.int r.1)) r.2) (f_X6_code h x1 x2) (V 0 [(0, rA g 0), (1, .int x1), (2, .int x2)] [] h) := by
  unfold f_X6_code
  refine R_aload_n o 0 dX6_code_0 rfl rfl ?_
  refine R_iload_n o 1 dX6_code_1 rfl rfl ?_
  refine K_z (callV' (As := [.int x1]) (rest := []) o dX6_code_2 lk_X6_188 rfl sh_0 rfl rfl rfl rfl (Nat.le_of_ble_eq_true rfl)) (c_X6_isCode g l h x1) (fun r2 => ?_)
  refine R_bif_eq o 16 dX6_code_5 (by decide) ?_ ?_
  · refine R_aload_n o 0 dX6_code_8 rfl rfl ?_
    refine R_iload_n o 2 dX6_code_9 rfl rfl ?_
    refine K_z (callV' (As := [.int x2]) (rest := []) o dX6_code_10 lk_X6_121 rfl sh_0 rfl rfl rfl rfl (Nat.le_of_ble_eq_true rfl)) (c_X6_isText g l h x2) (fun r10 => ?_)
    refine R_bif_ne o 18 dX6_code_13 (by decide) ?_ ?_
    · refine R_aload_n o 0 dX6_code_18 rfl rfl ?_
      refine R_getR (a2 := 2) o dX6_code_19 fl_X6_15 sh_0 (by decide) rfl rf_0_1 ?_
      refine R_iload_n o 2 dX6_code_22 rfl rfl ?_
      refine R_aald o dX6_code_23 sh_2 (Or.inl rfl) (fun q23 => ?_)
      refine K_z (callV' (As := []) (rest := []) o dX6_code_24 lk_X6_85 rfl (sh_el13 sh_2 q23) rfl rfl rfl rfl (Nat.le_of_ble_eq_true rfl)) (c_X5_isMissing g l h (rf 2 x2.toNatClampNeg) (sh_el13 sh_2 q23)) (fun r24 => ?_)
      refine R_bif_eq o 36 dX6_code_27 (by decide) ?_ ?_
      · refine R_aload_n o 0 dX6_code_30 rfl rfl ?_
        refine R_iconst (v := 1) o dX6_code_31 (by decide) ?_
        refine K_ih (callV' (As := [.int 1]) (rest := []) o dX6_code_32 lk_X6_77 rfl sh_0 rfl rfl rfl rfl (Nat.le_of_ble_eq_true rfl)) (c_X6_found g l h 1) (fun r32 h32 => ?_)
        exact T_some (fun p => rr _ _ _ _ dX6_code_35 p)
      · refine R_aload_n o 0 dX6_code_36 rfl rfl ?_
        refine R_getR (a2 := 5) o dX6_code_37 fl_X6_31 sh_0 (by decide) rfl rf_0_4 ?_
        refine R_aload_n o 0 dX6_code_40 rfl rfl ?_
        refine R_getR (a2 := 2) o dX6_code_41 fl_X6_15 sh_0 (by decide) rfl rf_0_1 ?_
        refine R_iload_n o 2 dX6_code_44 rfl rfl ?_
        refine R_aald o dX6_code_45 sh_2 (Or.inl rfl) (fun q45 => ?_)
        refine K_ih (callV' (As := [rA g (rf 2 x2.toNatClampNeg)]) (rest := []) o dX6_code_46 lk_X6_184 rfl sh_5 rfl rfl rfl rfl (Nat.le_of_ble_eq_true rfl)) (c_X0_readFrom g l h 5 (rf 2 x2.toNatClampNeg) sh_5 (sh_el13 sh_2 q45)) (fun r46 h46 => ?_)
        refine R_bipush (v := (-9)) o dX6_code_49 (by decide) ?_
        refine R_icmp_eq o 57 dX6_code_51 (by decide) ?_ ?_
        · refine R_aload_n o 0 dX6_code_57 rfl rfl ?_
          refine R_getR (a2 := 4) o dX6_code_58 fl_X6_26 sh_0 (by decide) rfl rf_0_3 ?_
          refine R_iload_n o 1 dX6_code_61 rfl rfl ?_
          refine R_aald o dX6_code_62 sh_4 (Or.inr (Or.inr rfl)) (fun q62 => ?_)
          refine R_aload_n o 0 dX6_code_63 rfl rfl ?_
          refine R_getR (a2 := 5) o dX6_code_64 fl_X6_31 sh_0 (by decide) rfl rf_0_4 ?_
          refine K_vh (callV' (As := [rA g 5]) (rest := []) o dX6_code_67 lk_X6_191 rfl (sh_el15 sh_4 q62) rfl rfl rfl rfl (Nat.le_of_ble_eq_true rfl)) (c_X0_take g l h46 (rf 4 x1.toNatClampNeg) 5 (sh_el15 sh_4 q62) sh_5) (fun h67 => ?_)
          refine R_aload_n o 0 dX6_code_70 rfl rfl ?_
          refine R_getR (a2 := 5) o dX6_code_71 fl_X6_31 sh_0 (by decide) rfl rf_0_4 ?_
          refine R_getI o dX6_code_74 fl_X6_195 sh_5 (by decide) rfl ?_
          exact T_some (fun p => rr _ _ _ _ dX6_code_77 p)
        · refine R_bipush (v := (-4)) o dX6_code_54 (by decide) ?_
          exact T_some (fun p => rr _ _ _ _ dX6_code_56 p)
    · refine R_iconst (v := (-1)) o dX6_code_16 (by decide) ?_
      exact T_some (fun p => rr _ _ _ _ dX6_code_17 p)
  · refine R_iconst (v := (-1)) o dX6_code_16 (by decide) ?_
    exact T_some (fun p => rr _ _ _ _ dX6_code_17 p)
theorem c_X6_code (g : Gx) (l : Launch) (h : MH) (x1 : Int32) (x2 : Int32) (r : (Int32 × MH)) (e : f_X6_code h x1 x2 = some r) : Ctr g l yX6_code cX6_code 3 (some .int) 4 92 0 [rA g 0, .int x1, .int x2] h (some (.int r.1)) r.2 := mkCi (plainFor_of_name (by decide)) (Nat.le_of_ble_eq_true rfl) (fun V Rt o rr p => b_X6_code o rr h x1 x2  r e p)
/-! X6_line -/
noncomputable def f_X6_line (h : MH) (x1 : Int32) (x2 : Int32) : Option (Int32 × MH) :=
  Option.bind (f_X6_isCode h x1) (fun r2 => (if r2 = true then gd (ix x1 4) (Option.bind (f_X0_isMissing h (rf 4 x1.toNatClampNeg)) (fun r18 => (if r18 = true then bnd2 (f_X6_found h 1) (fun r26 h26 => some (r26, h26)) else Option.bind (f_X0_has h (rf 4 x1.toNatClampNeg) x2) (fun r32 => (if r32 = true then Option.bind (f_X0_lineAt h (rf 4 x1.toNatClampNeg) x2) (fun r40 => some (r40, h)) else bnd2 (f_X6_found h 2) (fun r48 h48 => some (r48, h48))))))) else some ((-1), h)))
set_option maxRecDepth 100000 in
set_option maxHeartbeats 4000000 in
theorem b_X6_line {g : Gx} {l : Launch} {V : VT} {Rt : Option Value → MH → Prop} (o : Ok g l RX6 cX6_line 4 2 42 0 V) (rr : ORi cX6_line V Rt) (h : MH) (x1 : Int32) (x2 : Int32) : T (fun r => Rt (some (.int r.1)) r.2) (f_X6_line h x1 x2) (V 0 [(0, rA g 0), (1, .int x1), (2, .int x2)] [] h) := by
  unfold f_X6_line
  refine R_aload_n o 0 dX6_line_0 rfl rfl ?_
  refine R_iload_n o 1 dX6_line_1 rfl rfl ?_
  refine K_z (callV' (As := [.int x1]) (rest := []) o dX6_line_2 lk_X6_188 rfl sh_0 rfl rfl rfl rfl (Nat.le_of_ble_eq_true rfl)) (c_X6_isCode g l h x1) (fun r2 => ?_)
  refine R_bif_ne o 10 dX6_line_5 (by decide) ?_ ?_
  · refine R_aload_n o 0 dX6_line_10 rfl rfl ?_
    refine R_getR (a2 := 4) o dX6_line_11 fl_X6_26 sh_0 (by decide) rfl rf_0_3 ?_
    refine R_iload_n o 1 dX6_line_14 rfl rfl ?_
    refine R_aald o dX6_line_15 sh_4 (Or.inr (Or.inr rfl)) (fun q15 => ?_)
    refine R_astore_n (lv2 := [(0, rA g 0), (1, .int x1), (2, .int x2), (3, rA g (rf 4 x1.toNatClampNeg))]) o dX6_line_16 rfl (by decide) rfl ?_
    refine R_aload_n o 3 dX6_line_17 rfl rfl ?_
    refine K_z (callV' (As := []) (rest := []) o dX6_line_18 lk_X6_198 rfl (sh_el15 sh_4 q15) rfl rfl rfl rfl (Nat.le_of_ble_eq_true rfl)) (c_X0_isMissing g l h (rf 4 x1.toNatClampNeg) (sh_el15 sh_4 q15)) (fun r18 => ?_)
    refine R_bif_eq o 30 dX6_line_21 (by decide) ?_ ?_
    · refine R_aload_n o 0 dX6_line_24 rfl rfl ?_
      refine R_iconst (v := 1) o dX6_line_25 (by decide) ?_
      refine K_ih (callV' (As := [.int 1]) (rest := []) o dX6_line_26 lk_X6_77 rfl sh_0 rfl rfl rfl rfl (Nat.le_of_ble_eq_true rfl)) (c_X6_found g l h 1) (fun r26 h26 => ?_)
      exact T_some (fun p => rr _ _ _ _ dX6_line_29 p)
    · refine R_aload_n o 3 dX6_line_30 rfl rfl ?_
      refine R_iload_n o 2 dX6_line_31 rfl rfl ?_
      refine K_z (callV' (As := [.int x2]) (rest := []) o dX6_line_32 lk_X6_199 rfl (sh_el15 sh_4 q15) rfl rfl rfl rfl (Nat.le_of_ble_eq_true rfl)) (c_X0_has g l h (rf 4 x1.toNatClampNeg) x2 (sh_el15 sh_4 q15)) (fun r32 => ?_)
      refine R_bif_eq o 46 dX6_line_35 (by decide) ?_ ?_
      · refine R_aload_n o 3 dX6_line_38 rfl rfl ?_
        refine R_iload_n o 2 dX6_line_39 rfl rfl ?_
        refine K_i (callV' (As := [.int x2]) (rest := []) o dX6_line_40 lk_X6_200 rfl (sh_el15 sh_4 q15) rfl rfl rfl rfl (Nat.le_of_ble_eq_true rfl)) (c_X0_lineAt g l h (rf 4 x1.toNatClampNeg) x2 (sh_el15 sh_4 q15)) (fun r40 => ?_)
        refine R_goto o 51 dX6_line_43 (by decide) ?_
        exact T_some (fun p => rr _ _ _ _ dX6_line_51 p)
      · refine R_aload_n o 0 dX6_line_46 rfl rfl ?_
        refine R_iconst (v := 2) o dX6_line_47 (by decide) ?_
        refine K_ih (callV' (As := [.int 2]) (rest := []) o dX6_line_48 lk_X6_77 rfl sh_0 rfl rfl rfl rfl (Nat.le_of_ble_eq_true rfl)) (c_X6_found g l h 2) (fun r48 h48 => ?_)
        exact T_some (fun p => rr _ _ _ _ dX6_line_51 p)
  · refine R_iconst (v := (-1)) o dX6_line_8 (by decide) ?_
    exact T_some (fun p => rr _ _ _ _ dX6_line_9 p)
theorem c_X6_line (g : Gx) (l : Launch) (h : MH) (x1 : Int32) (x2 : Int32) (r : (Int32 × MH)) (e : f_X6_line h x1 x2 = some r) : Ctr g l yX6_line cX6_line 4 (some .int) 2 42 0 [rA g 0, .int x1, .int x2] h (some (.int r.1)) r.2 := mkCi (plainFor_of_name (by decide)) (Nat.le_of_ble_eq_true rfl) (fun V Rt o rr p => b_X6_line o rr h x1 x2  r e p)
/-! X6_room -/
noncomputable def f_X6_room (h : MH) (x1 : Int32) (x2 : Int32) : Option (Int32 × MH) :=
  Option.bind (f_X6_isCover h x1) (fun r2 => (if r2 = true then Option.bind (f_X6_isCode h x2) (fun r10 => (if r10 = true then gd (ix x1 6) (Option.bind (f_X1_isMissing h (rf 3 x1.toNatClampNeg)) (fun r24 => (if r24 = true then bnd2 (f_X6_found h 1) (fun r44 h44 => some (r44, h44)) else gd (ix x2 4) (Option.bind (f_X0_isMissing h (rf 4 x2.toNatClampNeg)) (fun r36 => (if r36 = true then bnd2 (f_X6_found h 1) (fun r44 h44 => some (r44, h44)) else gd (ix x2 4) (gd (ix x2 4) (gd (ix x1 6) (Option.bind (f_X0_countBlocks h (rf 4 x2.toNatClampNeg) (rf 3 x1.toNatClampNeg)) (fun r69 => some (((h.1 (rf 4 x2.toNatClampNeg) 1) * r69), h))))))))))) else some ((-1), h))) else some ((-1), h)))
set_option maxRecDepth 100000 in
set_option maxHeartbeats 4000000 in
theorem b_X6_room {g : Gx} {l : Launch} {V : VT} {Rt : Option Value → MH → Prop} (o : Ok g l RX6 cX6_room 3 1 21 0 V) (rr : ORi cX6_room V Rt) (h : MH) (x1 : Int32) (x2 : Int32) : T (fun r => Rt (some (.int r.1)) r.2) (f_X6_room h x1 x2) (V 0 [(0, rA g 0), (1, .int x1), (2, .int x2)] [] h) := by
  unfold f_X6_room
  refine R_aload_n o 0 dX6_room_0 rfl rfl ?_
  refine R_iload_n o 1 dX6_room_1 rfl rfl ?_
  refine K_z (callV' (As := [.int x1]) (rest := []) o dX6_room_2 lk_X6_124 rfl sh_0 rfl rfl rfl rfl (Nat.le_of_ble_eq_true rfl)) (c_X6_isCover g l h x1) (fun r2 => ?_)
  refine R_bif_eq o 16 dX6_room_5 (by decide) ?_ ?_
  · refine R_aload_n o 0 dX6_room_8 rfl rfl ?_
    refine R_iload_n o 2 dX6_room_9 rfl rfl ?_
    refine K_z (callV' (As := [.int x2]) (rest := []) o dX6_room_10 lk_X6_188 rfl sh_0 rfl rfl rfl rfl (Nat.le_of_ble_eq_true rfl)) (c_X6_isCode g l h x2) (fun r10 => ?_)
    refine R_bif_ne o 18 dX6_room_13 (by decide) ?_ ?_
    · refine R_aload_n o 0 dX6_room_18 rfl rfl ?_
      refine R_getR (a2 := 3) o dX6_room_19 fl_X6_20 sh_0 (by decide) rfl rf_0_2 ?_
      refine R_iload_n o 1 dX6_room_22 rfl rfl ?_
      refine R_aald o dX6_room_23 sh_3 (Or.inr (Or.inl rfl)) (fun q23 => ?_)
      refine K_z (callV' (As := []) (rest := []) o dX6_room_24 lk_X6_142 rfl (sh_el14 sh_3 q23) rfl rfl rfl rfl (Nat.le_of_ble_eq_true rfl)) (c_X1_isMissing g l h (rf 3 x1.toNatClampNeg) (sh_el14 sh_3 q23)) (fun r24 => ?_)
      refine R_bif_ne o 42 dX6_room_27 (by decide) ?_ ?_
      · refine R_aload_n o 0 dX6_room_42 rfl rfl ?_
        refine R_iconst (v := 1) o dX6_room_43 (by decide) ?_
        refine K_ih (callV' (As := [.int 1]) (rest := []) o dX6_room_44 lk_X6_77 rfl sh_0 rfl rfl rfl rfl (Nat.le_of_ble_eq_true rfl)) (c_X6_found g l h 1) (fun r44 h44 => ?_)
        exact T_some (fun p => rr _ _ _ _ dX6_room_47 p)
      · refine R_aload_n o 0 dX6_room_30 rfl rfl ?_
        refine R_getR (a2 := 4) o dX6_room_31 fl_X6_26 sh_0 (by decide) rfl rf_0_3 ?_
        refine R_iload_n o 2 dX6_room_34 rfl rfl ?_
        refine R_aald o dX6_room_35 sh_4 (Or.inr (Or.inr rfl)) (fun q35 => ?_)
        refine K_z (callV' (As := []) (rest := []) o dX6_room_36 lk_X6_198 rfl (sh_el15 sh_4 q35) rfl rfl rfl rfl (Nat.le_of_ble_eq_true rfl)) (c_X0_isMissing g l h (rf 4 x2.toNatClampNeg) (sh_el15 sh_4 q35)) (fun r36 => ?_)
        refine R_bif_eq o 48 dX6_room_39 (by decide) ?_ ?_
        · refine R_aload_n o 0 dX6_room_42 rfl rfl ?_
          refine R_iconst (v := 1) o dX6_room_43 (by decide) ?_
          refine K_ih (callV' (As := [.int 1]) (rest := []) o dX6_room_44 lk_X6_77 rfl sh_0 rfl rfl rfl rfl (Nat.le_of_ble_eq_true rfl)) (c_X6_found g l h 1) (fun r44 h44 => ?_)
          exact T_some (fun p => rr _ _ _ _ dX6_room_47 p)
        · refine R_aload_n o 0 dX6_room_48 rfl rfl ?_
          refine R_getR (a2 := 4) o dX6_room_49 fl_X6_26 sh_0 (by decide) rfl rf_0_3 ?_
          refine R_iload_n o 2 dX6_room_52 rfl rfl ?_
          refine R_aald o dX6_room_53 sh_4 (Or.inr (Or.inr rfl)) (fun q53 => ?_)
          refine R_getI o dX6_room_54 fl_X6_195 (sh_el15 sh_4 q53) (by decide) rfl ?_
          refine R_aload_n o 0 dX6_room_57 rfl rfl ?_
          refine R_getR (a2 := 4) o dX6_room_58 fl_X6_26 sh_0 (by decide) rfl rf_0_3 ?_
          refine R_iload_n o 2 dX6_room_61 rfl rfl ?_
          refine R_aald o dX6_room_62 sh_4 (Or.inr (Or.inr rfl)) (fun q62 => ?_)
          refine R_aload_n o 0 dX6_room_63 rfl rfl ?_
          refine R_getR (a2 := 3) o dX6_room_64 fl_X6_20 sh_0 (by decide) rfl rf_0_2 ?_
          refine R_iload_n o 1 dX6_room_67 rfl rfl ?_
          refine R_aald o dX6_room_68 sh_3 (Or.inr (Or.inl rfl)) (fun q68 => ?_)
          refine K_i (callV' (As := [rA g (rf 3 x1.toNatClampNeg)]) (rest := [.int (h.1 (rf 4 x2.toNatClampNeg) 1)]) o dX6_room_69 lk_X6_203 rfl (sh_el15 sh_4 q62) rfl rfl rfl rfl (Nat.le_of_ble_eq_true rfl)) (c_X0_countBlocks g l h (rf 4 x2.toNatClampNeg) (rf 3 x1.toNatClampNeg) (sh_el15 sh_4 q62) (sh_el14 sh_3 q68)) (fun r69 => ?_)
          refine R_imul o dX6_room_72 ?_
          exact T_some (fun p => rr _ _ _ _ dX6_room_73 p)
    · refine R_iconst (v := (-1)) o dX6_room_16 (by decide) ?_
      exact T_some (fun p => rr _ _ _ _ dX6_room_17 p)
  · refine R_iconst (v := (-1)) o dX6_room_16 (by decide) ?_
    exact T_some (fun p => rr _ _ _ _ dX6_room_17 p)
theorem c_X6_room (g : Gx) (l : Launch) (h : MH) (x1 : Int32) (x2 : Int32) (r : (Int32 × MH)) (e : f_X6_room h x1 x2 = some r) : Ctr g l yX6_room cX6_room 3 (some .int) 1 21 0 [rA g 0, .int x1, .int x2] h (some (.int r.1)) r.2 := mkCi (plainFor_of_name (by decide)) (Nat.le_of_ble_eq_true rfl) (fun V Rt o rr p => b_X6_room o rr h x1 x2  r e p)
/-! X6_plan -/
noncomputable def f_X6_plan (h : MH) (x1 : Int32) (x2 : Int32) (x3 : Int32) (x4 : Int32) : Option (Int32 × MH) :=
  Option.bind (f_X6_isCover h x1) (fun r2 => (if r2 = true then Option.bind (f_X6_isCode h x3) (fun r10 => (if r10 = true then Option.bind (f_X6_isRow h x4) (fun r19 => (if r19 = true then gd (ix x1 6) (gd (ix x3 4) (gd (ix x4 6) (Option.bind (f_X1_isMissing h (rf 3 x1.toNatClampNeg)) (fun r54 => (if r54 = true then bnd2 (f_X6_found h 1) (fun r78 h78 => some (r78, h78)) else Option.bind (f_X0_isMissing h (rf 4 x3.toNatClampNeg)) (fun r62 => (if r62 = true then bnd2 (f_X6_found h 1) (fun r78 h78 => some (r78, h78)) else Option.bind (f_X5_isMissing h (rf 1 x4.toNatClampNeg)) (fun r70 => (if r70 = true then bnd2 (f_X6_found h 1) (fun r78 h78 => some (r78, h78)) else gd (nz (h.1 (rf 4 x3.toNatClampNeg) 1)) ((if (irm (h.1 (rf 1 x4.toNatClampNeg) 1) (h.1 (rf 4 x3.toNatClampNeg) 1)) = 0 then Option.bind (f_X5_isWithin h (rf 1 x4.toNatClampNeg) 0 1) (fun r106 => (if r106 = true then Option.bind (f_X0_countBlocks h (rf 4 x3.toNatClampNeg) (rf 3 x1.toNatClampNeg)) (fun r132 => (if ((h.1 (rf 4 x3.toNatClampNeg) 1) * r132) < (h.1 (rf 1 x4.toNatClampNeg) 1) then bnd2 (f_X6_found h 2) (fun r141 h141 => some (r141, h141)) else Option.bind (f_X3_orderBy h x2 (h.1 (rf 3 x1.toNatClampNeg) 3)) (fun h155 => bnd2 (f_X3_planAll h155 (rf 3 x1.toNatClampNeg) (rf 4 x3.toNatClampNeg) (rf 1 x4.toNatClampNeg)) (fun r168 h168 => some (r168, h168))))) else bnd2 (f_X6_found h 3) (fun r114 h114 => some (r114, h114)))) else bnd2 (f_X6_found h 5) (fun r98 h98 => some (r98, h98))))))))))))) else some ((-1), h))) else some ((-1), h))) else some ((-1), h)))
set_option maxRecDepth 100000 in
set_option maxHeartbeats 4000000 in
theorem b_X6_plan {g : Gx} {l : Launch} {V : VT} {Rt : Option Value → MH → Prop} (o : Ok g l RX6 cX6_plan 8 5 118 0 V) (rr : ORi cX6_plan V Rt) (h : MH) (x1 : Int32) (x2 : Int32) (x3 : Int32) (x4 : Int32) : T (fun r => Rt (some (.int r.1)) r.2) (f_X6_plan h x1 x2 x3 x4) (V 0 [(0, rA g 0), (1, .int x1), (2, .int x2), (3, .int x3), (4, .int x4)] [] h) := by
  unfold f_X6_plan
  refine R_aload_n o 0 dX6_plan_0 rfl rfl ?_
  refine R_iload_n o 1 dX6_plan_1 rfl rfl ?_
  refine K_z (callV' (As := [.int x1]) (rest := []) o dX6_plan_2 lk_X6_124 rfl sh_0 rfl rfl rfl rfl (Nat.le_of_ble_eq_true rfl)) (c_X6_isCover g l h x1) (fun r2 => ?_)
  refine R_bif_eq o 25 dX6_plan_5 (by decide) ?_ ?_
  · refine R_aload_n o 0 dX6_plan_8 rfl rfl ?_
    refine R_iload_n o 3 dX6_plan_9 rfl rfl ?_
    refine K_z (callV' (As := [.int x3]) (rest := []) o dX6_plan_10 lk_X6_188 rfl sh_0 rfl rfl rfl rfl (Nat.le_of_ble_eq_true rfl)) (c_X6_isCode g l h x3) (fun r10 => ?_)
    refine R_bif_eq o 25 dX6_plan_13 (by decide) ?_ ?_
    · refine R_aload_n o 0 dX6_plan_16 rfl rfl ?_
      refine R_iload o 4 dX6_plan_17 rfl ?_
      refine K_z (callV' (As := [.int x4]) (rest := []) o dX6_plan_19 lk_X6_73 rfl sh_0 rfl rfl rfl rfl (Nat.le_of_ble_eq_true rfl)) (c_X6_isRow g l h x4) (fun r19 => ?_)
      refine R_bif_ne o 27 dX6_plan_22 (by decide) ?_ ?_
      · refine R_aload_n o 0 dX6_plan_27 rfl rfl ?_
        refine R_getR (a2 := 3) o dX6_plan_28 fl_X6_20 sh_0 (by decide) rfl rf_0_2 ?_
        refine R_iload_n o 1 dX6_plan_31 rfl rfl ?_
        refine R_aald o dX6_plan_32 sh_3 (Or.inr (Or.inl rfl)) (fun q32 => ?_)
        refine R_astore (lv2 := [(0, rA g 0), (1, .int x1), (2, .int x2), (3, .int x3), (4, .int x4), (5, rA g (rf 3 x1.toNatClampNeg))]) o dX6_plan_33 (by decide) rfl ?_
        refine R_aload_n o 0 dX6_plan_35 rfl rfl ?_
        refine R_getR (a2 := 4) o dX6_plan_36 fl_X6_26 sh_0 (by decide) rfl rf_0_3 ?_
        refine R_iload_n o 3 dX6_plan_39 rfl rfl ?_
        refine R_aald o dX6_plan_40 sh_4 (Or.inr (Or.inr rfl)) (fun q40 => ?_)
        refine R_astore (lv2 := [(0, rA g 0), (1, .int x1), (2, .int x2), (3, .int x3), (4, .int x4), (5, rA g (rf 3 x1.toNatClampNeg)), (6, rA g (rf 4 x3.toNatClampNeg))]) o dX6_plan_41 (by decide) rfl ?_
        refine R_aload_n o 0 dX6_plan_43 rfl rfl ?_
        refine R_getR (a2 := 1) o dX6_plan_44 fl_X6_11 sh_0 (by decide) rfl rf_0_0 ?_
        refine R_iload o 4 dX6_plan_47 rfl ?_
        refine R_aald o dX6_plan_49 sh_1 (Or.inl rfl) (fun q49 => ?_)
        refine R_astore (lv2 := [(0, rA g 0), (1, .int x1), (2, .int x2), (3, .int x3), (4, .int x4), (5, rA g (rf 3 x1.toNatClampNeg)), (6, rA g (rf 4 x3.toNatClampNeg)), (7, rA g (rf 1 x4.toNatClampNeg))]) o dX6_plan_50 (by decide) rfl ?_
        refine R_aload o 5 dX6_plan_52 rfl ?_
        refine K_z (callV' (As := []) (rest := []) o dX6_plan_54 lk_X6_142 rfl (sh_el14 sh_3 q32) rfl rfl rfl rfl (Nat.le_of_ble_eq_true rfl)) (c_X1_isMissing g l h (rf 3 x1.toNatClampNeg) (sh_el14 sh_3 q32)) (fun r54 => ?_)
        refine R_bif_ne o 76 dX6_plan_57 (by decide) ?_ ?_
        · refine R_aload_n o 0 dX6_plan_76 rfl rfl ?_
          refine R_iconst (v := 1) o dX6_plan_77 (by decide) ?_
          refine K_ih (callV' (As := [.int 1]) (rest := []) o dX6_plan_78 lk_X6_77 rfl sh_0 rfl rfl rfl rfl (Nat.le_of_ble_eq_true rfl)) (c_X6_found g l h 1) (fun r78 h78 => ?_)
          exact T_some (fun p => rr _ _ _ _ dX6_plan_81 p)
        · refine R_aload o 6 dX6_plan_60 rfl ?_
          refine K_z (callV' (As := []) (rest := []) o dX6_plan_62 lk_X6_198 rfl (sh_el15 sh_4 q40) rfl rfl rfl rfl (Nat.le_of_ble_eq_true rfl)) (c_X0_isMissing g l h (rf 4 x3.toNatClampNeg) (sh_el15 sh_4 q40)) (fun r62 => ?_)
          refine R_bif_ne o 76 dX6_plan_65 (by decide) ?_ ?_
          · refine R_aload_n o 0 dX6_plan_76 rfl rfl ?_
            refine R_iconst (v := 1) o dX6_plan_77 (by decide) ?_
            refine K_ih (callV' (As := [.int 1]) (rest := []) o dX6_plan_78 lk_X6_77 rfl sh_0 rfl rfl rfl rfl (Nat.le_of_ble_eq_true rfl)) (c_X6_found g l h 1) (fun r78 h78 => ?_)
            exact T_some (fun p => rr _ _ _ _ dX6_plan_81 p)
          · refine R_aload o 7 dX6_plan_68 rfl ?_
            refine K_z (callV' (As := []) (rest := []) o dX6_plan_70 lk_X6_85 rfl (sh_el13 sh_1 q49) rfl rfl rfl rfl (Nat.le_of_ble_eq_true rfl)) (c_X5_isMissing g l h (rf 1 x4.toNatClampNeg) (sh_el13 sh_1 q49)) (fun r70 => ?_)
            refine R_bif_eq o 82 dX6_plan_73 (by decide) ?_ ?_
            · refine R_aload_n o 0 dX6_plan_76 rfl rfl ?_
              refine R_iconst (v := 1) o dX6_plan_77 (by decide) ?_
              refine K_ih (callV' (As := [.int 1]) (rest := []) o dX6_plan_78 lk_X6_77 rfl sh_0 rfl rfl rfl rfl (Nat.le_of_ble_eq_true rfl)) (c_X6_found g l h 1) (fun r78 h78 => ?_)
              exact T_some (fun p => rr _ _ _ _ dX6_plan_81 p)
            · refine R_aload o 7 dX6_plan_82 rfl ?_
              refine R_getI o dX6_plan_84 fl_X6_114 (sh_el13 sh_1 q49) (by decide) rfl ?_
              refine R_aload o 6 dX6_plan_87 rfl ?_
              refine R_getI o dX6_plan_89 fl_X6_195 (sh_el15 sh_4 q40) (by decide) rfl ?_
              refine R_irem o dX6_plan_92 ?_
              refine R_if_eq o 102 dX6_plan_93 (by decide) ?_ ?_
              · refine R_aload o 7 dX6_plan_102 rfl ?_
                refine R_iconst (v := 0) o dX6_plan_104 (by decide) ?_
                refine R_iconst (v := 1) o dX6_plan_105 (by decide) ?_
                refine K_z (callV' (As := [.int 0, .int 1]) (rest := []) o dX6_plan_106 lk_X6_373 rfl (sh_el13 sh_1 q49) rfl rfl rfl rfl (Nat.le_of_ble_eq_true rfl)) (c_X5_isWithin g l h (rf 1 x4.toNatClampNeg) 0 1 (sh_el13 sh_1 q49)) (fun r106 => ?_)
                refine R_bif_ne o 118 dX6_plan_109 (by decide) ?_ ?_
                · refine R_aload o 7 dX6_plan_118 rfl ?_
                  refine R_getI o dX6_plan_120 fl_X6_114 (sh_el13 sh_1 q49) (by decide) rfl ?_
                  refine R_aload o 6 dX6_plan_123 rfl ?_
                  refine R_getI o dX6_plan_125 fl_X6_195 (sh_el15 sh_4 q40) (by decide) rfl ?_
                  refine R_aload o 6 dX6_plan_128 rfl ?_
                  refine R_aload o 5 dX6_plan_130 rfl ?_
                  refine K_i (callV' (As := [rA g (rf 3 x1.toNatClampNeg)]) (rest := [.int (h.1 (rf 4 x3.toNatClampNeg) 1), .int (h.1 (rf 1 x4.toNatClampNeg) 1)]) o dX6_plan_132 lk_X6_203 rfl (sh_el15 sh_4 q40) rfl rfl rfl rfl (Nat.le_of_ble_eq_true rfl)) (c_X0_countBlocks g l h (rf 4 x3.toNatClampNeg) (rf 3 x1.toNatClampNeg) (sh_el15 sh_4 q40) (sh_el14 sh_3 q32)) (fun r132 => ?_)
                  refine R_imul o dX6_plan_135 ?_
                  refine R_icmp_le o 145 dX6_plan_136 (by decide) ?_ ?_
                  · refine R_aload_n o 0 dX6_plan_139 rfl rfl ?_
                    refine R_iconst (v := 2) o dX6_plan_140 (by decide) ?_
                    refine K_ih (callV' (As := [.int 2]) (rest := []) o dX6_plan_141 lk_X6_77 rfl sh_0 rfl rfl rfl rfl (Nat.le_of_ble_eq_true rfl)) (c_X6_found g l h 2) (fun r141 h141 => ?_)
                    exact T_some (fun p => rr _ _ _ _ dX6_plan_144 p)
                  · refine R_aload_n o 0 dX6_plan_145 rfl rfl ?_
                    refine R_getR (a2 := 9) o dX6_plan_146 fl_X6_43 sh_0 (by decide) rfl rf_0_6 ?_
                    refine R_iload_n o 2 dX6_plan_149 rfl rfl ?_
                    refine R_aload o 5 dX6_plan_150 rfl ?_
                    refine R_getI o dX6_plan_152 fl_X6_151 (sh_el14 sh_3 q32) (by decide) rfl ?_
                    refine K_vh (callV' (As := [.int x2, .int (h.1 (rf 3 x1.toNatClampNeg) 3)]) (rest := []) o dX6_plan_155 lk_X6_178 rfl sh_9 rfl rfl rfl rfl (Nat.le_of_ble_eq_true rfl)) (c_X3_orderBy g l h x2 (h.1 (rf 3 x1.toNatClampNeg) 3)) (fun h155 => ?_)
                    refine R_aload_n o 0 dX6_plan_158 rfl rfl ?_
                    refine R_getR (a2 := 9) o dX6_plan_159 fl_X6_43 sh_0 (by decide) rfl rf_0_6 ?_
                    refine R_aload o 5 dX6_plan_162 rfl ?_
                    refine R_aload o 6 dX6_plan_164 rfl ?_
                    refine R_aload o 7 dX6_plan_166 rfl ?_
                    refine K_ih (callV' (As := [rA g (rf 3 x1.toNatClampNeg), rA g (rf 4 x3.toNatClampNeg), rA g (rf 1 x4.toNatClampNeg)]) (rest := []) o dX6_plan_168 lk_X6_380 rfl sh_9 rfl rfl rfl rfl (Nat.le_of_ble_eq_true rfl)) (c_X3_planAll g l h155 (rf 3 x1.toNatClampNeg) (rf 4 x3.toNatClampNeg) (rf 1 x4.toNatClampNeg) (sh_el14 sh_3 q32) (sh_el15 sh_4 q40) (sh_el13 sh_1 q49)) (fun r168 h168 => ?_)
                    exact T_some (fun p => rr _ _ _ _ dX6_plan_171 p)
                · refine R_aload_n o 0 dX6_plan_112 rfl rfl ?_
                  refine R_iconst (v := 3) o dX6_plan_113 (by decide) ?_
                  refine K_ih (callV' (As := [.int 3]) (rest := []) o dX6_plan_114 lk_X6_77 rfl sh_0 rfl rfl rfl rfl (Nat.le_of_ble_eq_true rfl)) (c_X6_found g l h 3) (fun r114 h114 => ?_)
                  exact T_some (fun p => rr _ _ _ _ dX6_plan_117 p)
              · refine R_aload_n o 0 dX6_plan_96 rfl rfl ?_
                refine R_iconst (v := 5) o dX6_plan_97 (by decide) ?_
                refine K_ih (callV' (As := [.int 5]) (rest := []) o dX6_plan_98 lk_X6_77 rfl sh_0 rfl rfl rfl rfl (Nat.le_of_ble_eq_true rfl)) (c_X6_found g l h 5) (fun r98 h98 => ?_)
                exact T_some (fun p => rr _ _ _ _ dX6_plan_101 p)
      · refine R_iconst (v := (-1)) o dX6_plan_25 (by decide) ?_
        exact T_some (fun p => rr _ _ _ _ dX6_plan_26 p)
    · refine R_iconst (v := (-1)) o dX6_plan_25 (by decide) ?_
      exact T_some (fun p => rr _ _ _ _ dX6_plan_26 p)
  · refine R_iconst (v := (-1)) o dX6_plan_25 (by decide) ?_
    exact T_some (fun p => rr _ _ _ _ dX6_plan_26 p)
theorem c_X6_plan (g : Gx) (l : Launch) (h : MH) (x1 : Int32) (x2 : Int32) (x3 : Int32) (x4 : Int32) (r : (Int32 × MH)) (e : f_X6_plan h x1 x2 x3 x4 = some r) : Ctr g l yX6_plan cX6_plan 8 (some .int) 5 118 0 [rA g 0, .int x1, .int x2, .int x3, .int x4] h (some (.int r.1)) r.2 := mkCi (plainFor_of_name (by decide)) (Nat.le_of_ble_eq_true rfl) (fun V Rt o rr p => b_X6_plan o rr h x1 x2 x3 x4  r e p)
/-! X6_hide -/
noncomputable def f_X6_hide (h : MH) (x1 : Int32) (x2 : Int32) (x3 : Int32) (x4 : Int32) : Option (Int32 × MH) :=
  bnd2 (f_X6_plan h x1 x2 x3 x4) (fun r6 h6 => (if r6 < 0 then some (r6, h6) else gd (ix x1 6) (gd (ix x3 4) (Option.bind (f_X3_flipAll h6 (rf 3 x1.toNatClampNeg) (rf 4 x3.toNatClampNeg)) (fun h32 => some (r6, h32))))))
set_option maxRecDepth 100000 in
set_option maxHeartbeats 4000000 in
theorem b_X6_hide {g : Gx} {l : Launch} {V : VT} {Rt : Option Value → MH → Prop} (o : Ok g l RX6 cX6_hide 6 6 145 0 V) (rr : ORi cX6_hide V Rt) (h : MH) (x1 : Int32) (x2 : Int32) (x3 : Int32) (x4 : Int32) : T (fun r => Rt (some (.int r.1)) r.2) (f_X6_hide h x1 x2 x3 x4) (V 0 [(0, rA g 0), (1, .int x1), (2, .int x2), (3, .int x3), (4, .int x4)] [] h) := by
  unfold f_X6_hide
  refine R_aload_n o 0 dX6_hide_0 rfl rfl ?_
  refine R_iload_n o 1 dX6_hide_1 rfl rfl ?_
  refine R_iload_n o 2 dX6_hide_2 rfl rfl ?_
  refine R_iload_n o 3 dX6_hide_3 rfl rfl ?_
  refine R_iload o 4 dX6_hide_4 rfl ?_
  refine K_ih (callV' (As := [.int x1, .int x2, .int x3, .int x4]) (rest := []) o dX6_hide_6 lk_X6_207 rfl sh_0 rfl rfl rfl rfl (Nat.le_of_ble_eq_true rfl)) (c_X6_plan g l h x1 x2 x3 x4) (fun r6 h6 => ?_)
  refine R_istore (lv2 := [(0, rA g 0), (1, .int x1), (2, .int x2), (3, .int x3), (4, .int x4), (5, .int r6)]) o dX6_hide_9 (by decide) rfl ?_
  refine R_iload o 5 dX6_hide_11 rfl ?_
  refine R_if_lt o 35 dX6_hide_13 (by decide) ?_ ?_
  · refine R_iload o 5 dX6_hide_35 rfl ?_
    exact T_some (fun p => rr _ _ _ _ dX6_hide_37 p)
  · refine R_aload_n o 0 dX6_hide_16 rfl rfl ?_
    refine R_getR (a2 := 9) o dX6_hide_17 fl_X6_43 sh_0 (by decide) rfl rf_0_6 ?_
    refine R_aload_n o 0 dX6_hide_20 rfl rfl ?_
    refine R_getR (a2 := 3) o dX6_hide_21 fl_X6_20 sh_0 (by decide) rfl rf_0_2 ?_
    refine R_iload_n o 1 dX6_hide_24 rfl rfl ?_
    refine R_aald o dX6_hide_25 sh_3 (Or.inr (Or.inl rfl)) (fun q25 => ?_)
    refine R_aload_n o 0 dX6_hide_26 rfl rfl ?_
    refine R_getR (a2 := 4) o dX6_hide_27 fl_X6_26 sh_0 (by decide) rfl rf_0_3 ?_
    refine R_iload_n o 3 dX6_hide_30 rfl rfl ?_
    refine R_aald o dX6_hide_31 sh_4 (Or.inr (Or.inr rfl)) (fun q31 => ?_)
    refine K_vh (callV' (As := [rA g (rf 3 x1.toNatClampNeg), rA g (rf 4 x3.toNatClampNeg)]) (rest := []) o dX6_hide_32 lk_X6_211 rfl sh_9 rfl rfl rfl rfl (Nat.le_of_ble_eq_true rfl)) (c_X3_flipAll g l h6 (rf 3 x1.toNatClampNeg) (rf 4 x3.toNatClampNeg) (sh_el14 sh_3 q25) (sh_el15 sh_4 q31)) (fun h32 => ?_)
    refine R_iload o 5 dX6_hide_35 rfl ?_
    exact T_some (fun p => rr _ _ _ _ dX6_hide_37 p)
theorem c_X6_hide (g : Gx) (l : Launch) (h : MH) (x1 : Int32) (x2 : Int32) (x3 : Int32) (x4 : Int32) (r : (Int32 × MH)) (e : f_X6_hide h x1 x2 x3 x4 = some r) : Ctr g l yX6_hide cX6_hide 6 (some .int) 6 145 0 [rA g 0, .int x1, .int x2, .int x3, .int x4] h (some (.int r.1)) r.2 := mkCi (plainFor_of_name (by decide)) (Nat.le_of_ble_eq_true rfl) (fun V Rt o rr p => b_X6_hide o rr h x1 x2 x3 x4  r e p)
/-! X6_price -/
noncomputable def f_X6_price (h : MH) (x1 : Int32) (x2 : Int32) (x3 : Int32) (x4 : Int32) : Option (Int32 × MH) :=
  bnd2 (f_X6_plan h x1 x2 x3 x4) (fun r6 h6 => (if r6 < 0 then some (r6, h6) else Option.bind (f_X3_countFlips h6) (fun r21 => nm (uI h6 0 9 r21) (fun h24 => some (r6, h24)))))
set_option maxRecDepth 100000 in
set_option maxHeartbeats 4000000 in
theorem b_X6_price {g : Gx} {l : Launch} {V : VT} {Rt : Option Value → MH → Prop} (o : Ok g l RX6 cX6_price 6 6 145 0 V) (rr : ORi cX6_price V Rt) (h : MH) (x1 : Int32) (x2 : Int32) (x3 : Int32) (x4 : Int32) : T (fun r => Rt (some (.int r.1)) r.2) (f_X6_price h x1 x2 x3 x4) (V 0 [(0, rA g 0), (1, .int x1), (2, .int x2), (3, .int x3), (4, .int x4)] [] h) := by
  unfold f_X6_price
  refine R_aload_n o 0 dX6_price_0 rfl rfl ?_
  refine R_iload_n o 1 dX6_price_1 rfl rfl ?_
  refine R_iload_n o 2 dX6_price_2 rfl rfl ?_
  refine R_iload_n o 3 dX6_price_3 rfl rfl ?_
  refine R_iload o 4 dX6_price_4 rfl ?_
  refine K_ih (callV' (As := [.int x1, .int x2, .int x3, .int x4]) (rest := []) o dX6_price_6 lk_X6_207 rfl sh_0 rfl rfl rfl rfl (Nat.le_of_ble_eq_true rfl)) (c_X6_plan g l h x1 x2 x3 x4) (fun r6 h6 => ?_)
  refine R_istore (lv2 := [(0, rA g 0), (1, .int x1), (2, .int x2), (3, .int x3), (4, .int x4), (5, .int r6)]) o dX6_price_9 (by decide) rfl ?_
  refine R_iload o 5 dX6_price_11 rfl ?_
  refine R_if_lt o 27 dX6_price_13 (by decide) ?_ ?_
  · refine R_iload o 5 dX6_price_27 rfl ?_
    exact T_some (fun p => rr _ _ _ _ dX6_price_29 p)
  · refine R_aload_n o 0 dX6_price_16 rfl rfl ?_
    refine R_aload_n o 0 dX6_price_17 rfl rfl ?_
    refine R_getR (a2 := 9) o dX6_price_18 fl_X6_43 sh_0 (by decide) rfl rf_0_6 ?_
    refine K_i (callV' (As := []) (rest := [rA g 0]) o dX6_price_21 lk_X6_215 rfl sh_9 rfl rfl rfl rfl (Nat.le_of_ble_eq_true rfl)) (c_X3_countFlips g l h6) (fun r21 => ?_)
    refine R_putI o dX6_price_24 fp_X6_61 sh_0 (by decide) rfl ?_
    refine R_nmH (fun h24 => ?_)
    refine R_iload o 5 dX6_price_27 rfl ?_
    exact T_some (fun p => rr _ _ _ _ dX6_price_29 p)
theorem c_X6_price (g : Gx) (l : Launch) (h : MH) (x1 : Int32) (x2 : Int32) (x3 : Int32) (x4 : Int32) (r : (Int32 × MH)) (e : f_X6_price h x1 x2 x3 x4 = some r) : Ctr g l yX6_price cX6_price 6 (some .int) 6 145 0 [rA g 0, .int x1, .int x2, .int x3, .int x4] h (some (.int r.1)) r.2 := mkCi (plainFor_of_name (by decide)) (Nat.le_of_ble_eq_true rfl) (fun V Rt o rr p => b_X6_price o rr h x1 x2 x3 x4  r e p)
/-! X6_read -/
noncomputable def f_X6_read_B166 (h : MH) (x4 : Int32) (x5 : Int32) (a6 : Nat) (a7 : Nat) (x8 : Int32) (x9 : Int32) (x10 : Int32) (x11 : Int32) : Option ((Int32 × MH) ⊕ (MH)) :=
  (if x11 < (h.1 a7 1) then gd (ix x5 6) (Option.bind (f_X5_set h (rf 1 x5.toNatClampNeg) ((x9 * (h.1 a7 1)) + x11) ((shr x10 x11) &&& 1)) (fun h201 => some (.inl ((x11 + 1), h201)))) else some (.inr h))
set_option maxRecDepth 100000 in
set_option maxHeartbeats 4000000 in
theorem t_X6_read_B166 {g : Gx} {l : Launch} {V : VT} {Rt : Option Value → MH → Prop} (o : Ok g l RX6 cX6_read 12 4 90 0 V) (rr : ORi cX6_read V Rt) (h : MH) (x4 : Int32) (x5 : Int32) (a6 : Nat) (a7 : Nat) (x8 : Int32) (x9 : Int32) (x10 : Int32) (x11 : Int32) (ha6 : shp a6 = (1, 0)) (ha7 : shp a7 = (0, 0)) : T (Sum.elim (fun s => V 166 [(0, rA g 0), (4, .int x4), (5, .int x5), (6, rA g a6), (7, rA g a7), (8, .int x8), (9, .int x9), (10, .int x10), (11, .int s.1)] [] s.2) (fun b => V 210 [(0, rA g 0), (4, .int x4), (5, .int x5), (6, rA g a6), (7, rA g a7), (8, .int x8), (9, .int x9)] [] b)) (f_X6_read_B166  h x4 x5 a6 a7 x8 x9 x10 x11) (V 166 [(0, rA g 0), (4, .int x4), (5, .int x5), (6, rA g a6), (7, rA g a7), (8, .int x8), (9, .int x9), (10, .int x10), (11, .int x11)] [] h) := by
  unfold f_X6_read_B166
  refine R_iload o 8 dX6_read_166 rfl ?_
  refine R_aload o 4 dX6_read_168 rfl ?_
  refine R_getI o dX6_read_170 fl_X6_195 ha7 (by decide) rfl ?_
  refine R_icmp_ge o 210 dX6_read_173 (by decide) ?_ ?_
  · refine R_aload_n o 0 dX6_read_176 rfl rfl ?_
    refine R_getR (a2 := 1) o dX6_read_177 fl_X6_11 sh_0 (by decide) rfl rf_0_0 ?_
    refine R_iload o 2 dX6_read_180 rfl ?_
    refine R_aald o dX6_read_182 sh_1 (Or.inl rfl) (fun q182 => ?_)
    refine R_iload o 6 dX6_read_183 rfl ?_
    refine R_aload o 4 dX6_read_185 rfl ?_
    refine R_getI o dX6_read_187 fl_X6_195 ha7 (by decide) rfl ?_
    refine R_imul o dX6_read_190 ?_
    refine R_iload o 8 dX6_read_191 rfl ?_
    refine R_iadd o dX6_read_193 ?_
    refine R_iload o 7 dX6_read_194 rfl ?_
    refine R_iload o 8 dX6_read_196 rfl ?_
    refine R_ishr o dX6_read_198 ?_
    refine R_iconst (v := 1) o dX6_read_199 (by decide) ?_
    refine R_iand o dX6_read_200 ?_
    refine K_vh (callV' (As := [.int ((x9 * (h.1 a7 1)) + x11), .int ((shr x10 x11) &&& 1)]) (rest := []) o dX6_read_201 lk_X6_95 rfl (sh_el13 sh_1 q182) rfl rfl rfl rfl (Nat.le_of_ble_eq_true rfl)) (c_X5_set g l h (rf 1 x5.toNatClampNeg) ((x9 * (h.1 a7 1)) + x11) ((shr x10 x11) &&& 1) (sh_el13 sh_1 q182)) (fun h201 => ?_)
    refine R_iinc (v := (x11 + 1)) (lv2 := [(0, rA g 0), (4, .int x4), (5, .int x5), (6, rA g a6), (7, rA g a7), (8, .int x8), (9, .int x9), (10, .int x10), (11, .int (x11 + 1))]) o 8 dX6_read_204 rfl rfl (by decide) rfl ?_
    refine R_goto o 166 dX6_read_207 (by decide) ?_
    exact T_some (fun p => p)
  · refine R_drop (lv2 := [(0, rA g 0), (4, .int x4), (5, .int x5), (6, rA g a6), (7, rA g a7), (8, .int x8), (9, .int x9)]) o [0, 1, 2, 3, 4, 5, 6] rfl ?_
    exact T_some (fun p => p)
noncomputable def f_X6_read_L166 (h : MH) (x4 : Int32) (x5 : Int32) (a6 : Nat) (a7 : Nat) (x8 : Int32) (x9 : Int32) (x10 : Int32) (x11 : Int32) : Option (MH) :=
  lpo (fun s : Int32 × MH => f_X6_read_B166 s.2 x4 x5 a6 a7 x8 x9 x10 s.1) (x11, h)
theorem t_X6_read_L166 {g : Gx} {l : Launch} {V : VT} {Rt : Option Value → MH → Prop} (o : Ok g l RX6 cX6_read 12 4 90 0 V) (rr : ORi cX6_read V Rt) (h : MH) (x4 : Int32) (x5 : Int32) (a6 : Nat) (a7 : Nat) (x8 : Int32) (x9 : Int32) (x10 : Int32) (x11 : Int32) (ha6 : shp a6 = (1, 0)) (ha7 : shp a7 = (0, 0)) : T (fun b => V 210 [(0, rA g 0), (4, .int x4), (5, .int x5), (6, rA g a6), (7, rA g a7), (8, .int x8), (9, .int x9)] [] b) (f_X6_read_L166 h x4 x5 a6 a7 x8 x9 x10 x11) (V 166 [(0, rA g 0), (4, .int x4), (5, .int x5), (6, rA g a6), (7, rA g a7), (8, .int x8), (9, .int x9), (10, .int x10), (11, .int x11)] [] h) := T_loop (head := fun s : Int32 × MH => V 166 [(0, rA g 0), (4, .int x4), (5, .int x5), (6, rA g a6), (7, rA g a7), (8, .int x8), (9, .int x9), (10, .int x10), (11, .int s.1)] [] s.2) (fun s => t_X6_read_B166 o rr s.2 x4 x5 a6 a7 x8 x9 x10 s.1 ha6 ha7) (x11, h)
noncomputable def f_X6_read_B141 (h : MH) (x4 : Int32) (x5 : Int32) (a6 : Nat) (a7 : Nat) (x8 : Int32) (x9 : Int32) : Option ((Int32 × MH) ⊕ (MH)) :=
  (if x9 < x4 then Option.bind (f_X3_bitsHeld h a6 a7 x9) (fun r158 => Option.bind (f_X6_read_L166 h x4 x5 a6 a7 x8 x9 r158 0) (fun b166 => some (.inl ((x9 + 1), b166)))) else some (.inr h))
set_option maxRecDepth 100000 in
set_option maxHeartbeats 4000000 in
theorem t_X6_read_B141 {g : Gx} {l : Launch} {V : VT} {Rt : Option Value → MH → Prop} (o : Ok g l RX6 cX6_read 12 4 90 0 V) (rr : ORi cX6_read V Rt) (h : MH) (x4 : Int32) (x5 : Int32) (a6 : Nat) (a7 : Nat) (x8 : Int32) (x9 : Int32) (ha6 : shp a6 = (1, 0)) (ha7 : shp a7 = (0, 0)) : T (Sum.elim (fun s => V 141 [(0, rA g 0), (4, .int x4), (5, .int x5), (6, rA g a6), (7, rA g a7), (8, .int x8), (9, .int s.1)] [] s.2) (fun b => V 216 [(8, .int x8)] [] b)) (f_X6_read_B141  h x4 x5 a6 a7 x8 x9) (V 141 [(0, rA g 0), (4, .int x4), (5, .int x5), (6, rA g a6), (7, rA g a7), (8, .int x8), (9, .int x9)] [] h) := by
  unfold f_X6_read_B141
  refine R_iload o 6 dX6_read_141 rfl ?_
  refine R_iload o 1 dX6_read_143 rfl ?_
  refine R_icmp_ge o 216 dX6_read_145 (by decide) ?_ ?_
  · refine R_aload_n o 0 dX6_read_148 rfl rfl ?_
    refine R_getR (a2 := 9) o dX6_read_149 fl_X6_43 sh_0 (by decide) rfl rf_0_6 ?_
    refine R_aload o 3 dX6_read_152 rfl ?_
    refine R_aload o 4 dX6_read_154 rfl ?_
    refine R_iload o 6 dX6_read_156 rfl ?_
    refine K_i (callV' (As := [rA g a6, rA g a7, .int x9]) (rest := []) o dX6_read_158 lk_X6_218 rfl sh_9 rfl rfl rfl rfl (Nat.le_of_ble_eq_true rfl)) (c_X3_bitsHeld g l h a6 a7 x9 ha6 ha7) (fun r158 => ?_)
    refine R_istore (lv2 := [(0, rA g 0), (4, .int x4), (5, .int x5), (6, rA g a6), (7, rA g a7), (8, .int x8), (9, .int x9), (10, .int r158)]) o dX6_read_161 (by decide) rfl ?_
    refine R_iconst (v := 0) o dX6_read_163 (by decide) ?_
    refine R_istore (lv2 := [(0, rA g 0), (4, .int x4), (5, .int x5), (6, rA g a6), (7, rA g a7), (8, .int x8), (9, .int x9), (10, .int r158), (11, .int 0)]) o dX6_read_164 (by decide) rfl ?_
    refine T_bind (t_X6_read_L166 o rr h x4 x5 a6 a7 x8 x9 r158 0 ha6 ha7) (fun b166 => ?_)
    refine R_iinc (v := (x9 + 1)) (lv2 := [(0, rA g 0), (4, .int x4), (5, .int x5), (6, rA g a6), (7, rA g a7), (8, .int x8), (9, .int (x9 + 1))]) o 6 dX6_read_210 rfl rfl (by decide) rfl ?_
    refine R_goto o 141 dX6_read_213 (by decide) ?_
    exact T_some (fun p => p)
  · refine R_drop (lv2 := [(8, .int x8)]) o [5] rfl ?_
    exact T_some (fun p => p)
noncomputable def f_X6_read_L141 (h : MH) (x4 : Int32) (x5 : Int32) (a6 : Nat) (a7 : Nat) (x8 : Int32) (x9 : Int32) : Option (MH) :=
  lpo (fun s : Int32 × MH => f_X6_read_B141 s.2 x4 x5 a6 a7 x8 s.1) (x9, h)
theorem t_X6_read_L141 {g : Gx} {l : Launch} {V : VT} {Rt : Option Value → MH → Prop} (o : Ok g l RX6 cX6_read 12 4 90 0 V) (rr : ORi cX6_read V Rt) (h : MH) (x4 : Int32) (x5 : Int32) (a6 : Nat) (a7 : Nat) (x8 : Int32) (x9 : Int32) (ha6 : shp a6 = (1, 0)) (ha7 : shp a7 = (0, 0)) : T (fun b => V 216 [(8, .int x8)] [] b) (f_X6_read_L141 h x4 x5 a6 a7 x8 x9) (V 141 [(0, rA g 0), (4, .int x4), (5, .int x5), (6, rA g a6), (7, rA g a7), (8, .int x8), (9, .int x9)] [] h) := T_loop (head := fun s : Int32 × MH => V 141 [(0, rA g 0), (4, .int x4), (5, .int x5), (6, rA g a6), (7, rA g a7), (8, .int x8), (9, .int s.1)] [] s.2) (fun s => t_X6_read_B141 o rr s.2 x4 x5 a6 a7 x8 s.1 ha6 ha7) (x9, h)
noncomputable def f_X6_read (h : MH) (x1 : Int32) (x2 : Int32) (x3 : Int32) (x4 : Int32) (x5 : Int32) : Option (Int32 × MH) :=
  Option.bind (f_X6_isCover h x1) (fun r2 => (if r2 = true then Option.bind (f_X6_isCode h x3) (fun r10 => (if r10 = true then Option.bind (f_X6_isRow h x5) (fun r19 => (if r19 = true then (if x4 < 0 then some ((-1), h) else (if 40 < x4 then some ((-1), h) else gd (ix x1 6) (gd (ix x3 4) (Option.bind (f_X1_isMissing h (rf 3 x1.toNatClampNeg)) (fun r57 => (if r57 = true then bnd2 (f_X6_found h 1) (fun r73 h73 => some (r73, h73)) else Option.bind (f_X0_isMissing h (rf 4 x3.toNatClampNeg)) (fun r65 => (if r65 = true then bnd2 (f_X6_found h 1) (fun r73 h73 => some (r73, h73)) else nm (x4 * (h.1 (rf 4 x3.toNatClampNeg) 1)) (fun v85 => Option.bind (f_X0_countBlocks h (rf 4 x3.toNatClampNeg) (rf 3 x1.toNatClampNeg)) (fun r93 => (if r93 < x4 then bnd2 (f_X6_found h 2) (fun r108 h108 => some (r108, h108)) else (if 40 < v85 then bnd2 (f_X6_found h 2) (fun r108 h108 => some (r108, h108)) else Option.bind (f_X3_orderBy h x2 (h.1 (rf 3 x1.toNatClampNeg) 3)) (fun h122 => gd (ix x5 6) (Option.bind (f_X5_renew h122 (rf 1 x5.toNatClampNeg) v85 0) (fun h135 => Option.bind (f_X6_read_L141 h135 x4 x5 (rf 3 x1.toNatClampNeg) (rf 4 x3.toNatClampNeg) v85 0) (fun b141 => some (v85, b141))))))))))))))))) else some ((-1), h))) else some ((-1), h))) else some ((-1), h)))
set_option maxRecDepth 100000 in
set_option maxHeartbeats 4000000 in
theorem b_X6_read {g : Gx} {l : Launch} {V : VT} {Rt : Option Value → MH → Prop} (o : Ok g l RX6 cX6_read 12 4 90 0 V) (rr : ORi cX6_read V Rt) (h : MH) (x1 : Int32) (x2 : Int32) (x3 : Int32) (x4 : Int32) (x5 : Int32) : T (fun r => Rt (some (.int r.1)) r.2) (f_X6_read h x1 x2 x3 x4 x5) (V 0 [(0, rA g 0), (1, .int x1), (2, .int x2), (3, .int x3), (4, .int x4), (5, .int x5)] [] h) := by
  unfold f_X6_read
  refine R_aload_n o 0 dX6_read_0 rfl rfl ?_
  refine R_iload_n o 1 dX6_read_1 rfl rfl ?_
  refine K_z (callV' (As := [.int x1]) (rest := []) o dX6_read_2 lk_X6_124 rfl sh_0 rfl rfl rfl rfl (Nat.le_of_ble_eq_true rfl)) (c_X6_isCover g l h x1) (fun r2 => ?_)
  refine R_bif_eq o 37 dX6_read_5 (by decide) ?_ ?_
  · refine R_aload_n o 0 dX6_read_8 rfl rfl ?_
    refine R_iload_n o 3 dX6_read_9 rfl rfl ?_
    refine K_z (callV' (As := [.int x3]) (rest := []) o dX6_read_10 lk_X6_188 rfl sh_0 rfl rfl rfl rfl (Nat.le_of_ble_eq_true rfl)) (c_X6_isCode g l h x3) (fun r10 => ?_)
    refine R_bif_eq o 37 dX6_read_13 (by decide) ?_ ?_
    · refine R_aload_n o 0 dX6_read_16 rfl rfl ?_
      refine R_iload o 5 dX6_read_17 rfl ?_
      refine K_z (callV' (As := [.int x5]) (rest := []) o dX6_read_19 lk_X6_73 rfl sh_0 rfl rfl rfl rfl (Nat.le_of_ble_eq_true rfl)) (c_X6_isRow g l h x5) (fun r19 => ?_)
      refine R_bif_eq o 37 dX6_read_22 (by decide) ?_ ?_
      · refine R_iload o 4 dX6_read_25 rfl ?_
        refine R_if_lt o 37 dX6_read_27 (by decide) ?_ ?_
        · refine R_iconst (v := (-1)) o dX6_read_37 (by decide) ?_
          exact T_some (fun p => rr _ _ _ _ dX6_read_38 p)
        · refine R_iload o 4 dX6_read_30 rfl ?_
          refine R_bipush (v := 40) o dX6_read_32 (by decide) ?_
          refine R_icmp_le o 39 dX6_read_34 (by decide) ?_ ?_
          · refine R_iconst (v := (-1)) o dX6_read_37 (by decide) ?_
            exact T_some (fun p => rr _ _ _ _ dX6_read_38 p)
          · refine R_aload_n o 0 dX6_read_39 rfl rfl ?_
            refine R_getR (a2 := 3) o dX6_read_40 fl_X6_20 sh_0 (by decide) rfl rf_0_2 ?_
            refine R_iload_n o 1 dX6_read_43 rfl rfl ?_
            refine R_aald o dX6_read_44 sh_3 (Or.inr (Or.inl rfl)) (fun q44 => ?_)
            refine R_astore (lv2 := [(0, rA g 0), (1, .int x1), (2, .int x2), (3, .int x3), (4, .int x4), (5, .int x5), (6, rA g (rf 3 x1.toNatClampNeg))]) o dX6_read_45 (by decide) rfl ?_
            refine R_aload_n o 0 dX6_read_47 rfl rfl ?_
            refine R_getR (a2 := 4) o dX6_read_48 fl_X6_26 sh_0 (by decide) rfl rf_0_3 ?_
            refine R_iload_n o 3 dX6_read_51 rfl rfl ?_
            refine R_aald o dX6_read_52 sh_4 (Or.inr (Or.inr rfl)) (fun q52 => ?_)
            refine R_astore (lv2 := [(0, rA g 0), (1, .int x1), (2, .int x2), (3, .int x3), (4, .int x4), (5, .int x5), (6, rA g (rf 3 x1.toNatClampNeg)), (7, rA g (rf 4 x3.toNatClampNeg))]) o dX6_read_53 (by decide) rfl ?_
            refine R_aload o 6 dX6_read_55 rfl ?_
            refine K_z (callV' (As := []) (rest := []) o dX6_read_57 lk_X6_142 rfl (sh_el14 sh_3 q44) rfl rfl rfl rfl (Nat.le_of_ble_eq_true rfl)) (c_X1_isMissing g l h (rf 3 x1.toNatClampNeg) (sh_el14 sh_3 q44)) (fun r57 => ?_)
            refine R_bif_ne o 71 dX6_read_60 (by decide) ?_ ?_
            · refine R_aload_n o 0 dX6_read_71 rfl rfl ?_
              refine R_iconst (v := 1) o dX6_read_72 (by decide) ?_
              refine K_ih (callV' (As := [.int 1]) (rest := []) o dX6_read_73 lk_X6_77 rfl sh_0 rfl rfl rfl rfl (Nat.le_of_ble_eq_true rfl)) (c_X6_found g l h 1) (fun r73 h73 => ?_)
              exact T_some (fun p => rr _ _ _ _ dX6_read_76 p)
            · refine R_aload o 7 dX6_read_63 rfl ?_
              refine K_z (callV' (As := []) (rest := []) o dX6_read_65 lk_X6_198 rfl (sh_el15 sh_4 q52) rfl rfl rfl rfl (Nat.le_of_ble_eq_true rfl)) (c_X0_isMissing g l h (rf 4 x3.toNatClampNeg) (sh_el15 sh_4 q52)) (fun r65 => ?_)
              refine R_bif_eq o 77 dX6_read_68 (by decide) ?_ ?_
              · refine R_aload_n o 0 dX6_read_71 rfl rfl ?_
                refine R_iconst (v := 1) o dX6_read_72 (by decide) ?_
                refine K_ih (callV' (As := [.int 1]) (rest := []) o dX6_read_73 lk_X6_77 rfl sh_0 rfl rfl rfl rfl (Nat.le_of_ble_eq_true rfl)) (c_X6_found g l h 1) (fun r73 h73 => ?_)
                exact T_some (fun p => rr _ _ _ _ dX6_read_76 p)
              · refine R_iload o 4 dX6_read_77 rfl ?_
                refine R_aload o 7 dX6_read_79 rfl ?_
                refine R_getI o dX6_read_81 fl_X6_195 (sh_el15 sh_4 q52) (by decide) rfl ?_
                refine R_imul o dX6_read_84 ?_
                refine R_nmI (fun v85 => ?_)
                refine R_istore (lv2 := [(0, rA g 0), (1, .int x1), (2, .int x2), (3, .int x3), (4, .int x4), (5, .int x5), (6, rA g (rf 3 x1.toNatClampNeg)), (7, rA g (rf 4 x3.toNatClampNeg)), (8, .int v85)]) o dX6_read_85 (by decide) rfl ?_
                refine R_iload o 4 dX6_read_87 rfl ?_
                refine R_aload o 7 dX6_read_89 rfl ?_
                refine R_aload o 6 dX6_read_91 rfl ?_
                refine K_i (callV' (As := [rA g (rf 3 x1.toNatClampNeg)]) (rest := [.int x4]) o dX6_read_93 lk_X6_203 rfl (sh_el15 sh_4 q52) rfl rfl rfl rfl (Nat.le_of_ble_eq_true rfl)) (c_X0_countBlocks g l h (rf 4 x3.toNatClampNeg) (rf 3 x1.toNatClampNeg) (sh_el15 sh_4 q52) (sh_el14 sh_3 q44)) (fun r93 => ?_)
                refine R_icmp_gt o 106 dX6_read_96 (by decide) ?_ ?_
                · refine R_aload_n o 0 dX6_read_106 rfl rfl ?_
                  refine R_iconst (v := 2) o dX6_read_107 (by decide) ?_
                  refine K_ih (callV' (As := [.int 2]) (rest := []) o dX6_read_108 lk_X6_77 rfl sh_0 rfl rfl rfl rfl (Nat.le_of_ble_eq_true rfl)) (c_X6_found g l h 2) (fun r108 h108 => ?_)
                  exact T_some (fun p => rr _ _ _ _ dX6_read_111 p)
                · refine R_iload o 8 dX6_read_99 rfl ?_
                  refine R_bipush (v := 40) o dX6_read_101 (by decide) ?_
                  refine R_icmp_le o 112 dX6_read_103 (by decide) ?_ ?_
                  · refine R_aload_n o 0 dX6_read_106 rfl rfl ?_
                    refine R_iconst (v := 2) o dX6_read_107 (by decide) ?_
                    refine K_ih (callV' (As := [.int 2]) (rest := []) o dX6_read_108 lk_X6_77 rfl sh_0 rfl rfl rfl rfl (Nat.le_of_ble_eq_true rfl)) (c_X6_found g l h 2) (fun r108 h108 => ?_)
                    exact T_some (fun p => rr _ _ _ _ dX6_read_111 p)
                  · refine R_aload_n o 0 dX6_read_112 rfl rfl ?_
                    refine R_getR (a2 := 9) o dX6_read_113 fl_X6_43 sh_0 (by decide) rfl rf_0_6 ?_
                    refine R_iload_n o 2 dX6_read_116 rfl rfl ?_
                    refine R_aload o 6 dX6_read_117 rfl ?_
                    refine R_getI o dX6_read_119 fl_X6_151 (sh_el14 sh_3 q44) (by decide) rfl ?_
                    refine K_vh (callV' (As := [.int x2, .int (h.1 (rf 3 x1.toNatClampNeg) 3)]) (rest := []) o dX6_read_122 lk_X6_178 rfl sh_9 rfl rfl rfl rfl (Nat.le_of_ble_eq_true rfl)) (c_X3_orderBy g l h x2 (h.1 (rf 3 x1.toNatClampNeg) 3)) (fun h122 => ?_)
                    refine R_aload_n o 0 dX6_read_125 rfl rfl ?_
                    refine R_getR (a2 := 1) o dX6_read_126 fl_X6_11 sh_0 (by decide) rfl rf_0_0 ?_
                    refine R_iload o 5 dX6_read_129 rfl ?_
                    refine R_aald o dX6_read_131 sh_1 (Or.inl rfl) (fun q131 => ?_)
                    refine R_iload o 8 dX6_read_132 rfl ?_
                    refine R_iconst (v := 0) o dX6_read_134 (by decide) ?_
                    refine K_vh (callV' (As := [.int v85, .int 0]) (rest := []) o dX6_read_135 lk_X6_81 rfl (sh_el13 sh_1 q131) rfl rfl rfl rfl (Nat.le_of_ble_eq_true rfl)) (c_X5_renew g l h122 (rf 1 x5.toNatClampNeg) v85 0 (sh_el13 sh_1 q131)) (fun h135 => ?_)
                    refine R_iconst (v := 0) o dX6_read_138 (by decide) ?_
                    refine R_istore (lv2 := [(0, rA g 0), (1, .int x1), (2, .int x2), (3, .int x3), (4, .int x4), (5, .int x5), (6, rA g (rf 3 x1.toNatClampNeg)), (7, rA g (rf 4 x3.toNatClampNeg)), (8, .int v85), (9, .int 0)]) o dX6_read_139 (by decide) rfl ?_
                    refine R_drop (lv2 := [(0, rA g 0), (4, .int x4), (5, .int x5), (6, rA g (rf 3 x1.toNatClampNeg)), (7, rA g (rf 4 x3.toNatClampNeg)), (8, .int v85), (9, .int 0)]) o [0, 4, 5, 6, 7, 8, 9] rfl ?_
                    refine T_bind (t_X6_read_L141 o rr h135 x4 x5 (rf 3 x1.toNatClampNeg) (rf 4 x3.toNatClampNeg) v85 0 (sh_el14 sh_3 q44) (sh_el15 sh_4 q52)) (fun b141 => ?_)
                    refine R_iload o 0 dX6_read_216 rfl ?_
                    exact T_some (fun p => rr _ _ _ _ dX6_read_218 p)
      · refine R_iconst (v := (-1)) o dX6_read_37 (by decide) ?_
        exact T_some (fun p => rr _ _ _ _ dX6_read_38 p)
    · refine R_iconst (v := (-1)) o dX6_read_37 (by decide) ?_
      exact T_some (fun p => rr _ _ _ _ dX6_read_38 p)
  · refine R_iconst (v := (-1)) o dX6_read_37 (by decide) ?_
    exact T_some (fun p => rr _ _ _ _ dX6_read_38 p)
theorem c_X6_read (g : Gx) (l : Launch) (h : MH) (x1 : Int32) (x2 : Int32) (x3 : Int32) (x4 : Int32) (x5 : Int32) (r : (Int32 × MH)) (e : f_X6_read h x1 x2 x3 x4 x5 = some r) : Ctr g l yX6_read cX6_read 12 (some .int) 4 90 0 [rA g 0, .int x1, .int x2, .int x3, .int x4, .int x5] h (some (.int r.1)) r.2 := mkCi (plainFor_of_name (by decide)) (Nat.le_of_ble_eq_true rfl) (fun V Rt o rr p => b_X6_read o rr h x1 x2 x3 x4 x5  r e p)
/-! X6_changes -/
noncomputable def f_X6_changes (h : MH) (x1 : Int32) : Option (Int32 × MH) :=
  Option.bind (f_X6_isCode h x1) (fun r2 => (if r2 = true then gd (ix x1 4) (Option.bind (f_X0_isMissing h (rf 4 x1.toNatClampNeg)) (fun r16 => (if r16 = true then bnd2 (f_X6_found h 1) (fun r24 h24 => some (r24, h24)) else gd (ix x1 4) (Option.bind (f_X3_weigh h (rf 4 x1.toNatClampNeg)) (fun h38 => Option.bind (f_X3_sumOfCosts h38) (fun r49 => Option.bind (f_X3_countReached h38) (fun r57 => Option.bind (f_X2_become h38 (Int32.toInt64 r49) (Int32.toInt64 r57)) (fun h61 => Option.bind (f_X3_mostCost h61) (fun r68 => some (r68, h61)))))))))) else some ((-1), h)))
set_option maxRecDepth 100000 in
set_option maxHeartbeats 4000000 in
theorem b_X6_changes {g : Gx} {l : Launch} {V : VT} {Rt : Option Value → MH → Prop} (o : Ok g l RX6 cX6_changes 2 4 87 0 V) (rr : ORi cX6_changes V Rt) (h : MH) (x1 : Int32) : T (fun r => Rt (some (.int r.1)) r.2) (f_X6_changes h x1) (V 0 [(0, rA g 0), (1, .int x1)] [] h) := by
  unfold f_X6_changes
  refine R_aload_n o 0 dX6_changes_0 rfl rfl ?_
  refine R_iload_n o 1 dX6_changes_1 rfl rfl ?_
  refine K_z (callV' (As := [.int x1]) (rest := []) o dX6_changes_2 lk_X6_188 rfl sh_0 rfl rfl rfl rfl (Nat.le_of_ble_eq_true rfl)) (c_X6_isCode g l h x1) (fun r2 => ?_)
  refine R_bif_ne o 10 dX6_changes_5 (by decide) ?_ ?_
  · refine R_aload_n o 0 dX6_changes_10 rfl rfl ?_
    refine R_getR (a2 := 4) o dX6_changes_11 fl_X6_26 sh_0 (by decide) rfl rf_0_3 ?_
    refine R_iload_n o 1 dX6_changes_14 rfl rfl ?_
    refine R_aald o dX6_changes_15 sh_4 (Or.inr (Or.inr rfl)) (fun q15 => ?_)
    refine K_z (callV' (As := []) (rest := []) o dX6_changes_16 lk_X6_198 rfl (sh_el15 sh_4 q15) rfl rfl rfl rfl (Nat.le_of_ble_eq_true rfl)) (c_X0_isMissing g l h (rf 4 x1.toNatClampNeg) (sh_el15 sh_4 q15)) (fun r16 => ?_)
    refine R_bif_eq o 28 dX6_changes_19 (by decide) ?_ ?_
    · refine R_aload_n o 0 dX6_changes_22 rfl rfl ?_
      refine R_iconst (v := 1) o dX6_changes_23 (by decide) ?_
      refine K_ih (callV' (As := [.int 1]) (rest := []) o dX6_changes_24 lk_X6_77 rfl sh_0 rfl rfl rfl rfl (Nat.le_of_ble_eq_true rfl)) (c_X6_found g l h 1) (fun r24 h24 => ?_)
      exact T_some (fun p => rr _ _ _ _ dX6_changes_27 p)
    · refine R_aload_n o 0 dX6_changes_28 rfl rfl ?_
      refine R_getR (a2 := 9) o dX6_changes_29 fl_X6_43 sh_0 (by decide) rfl rf_0_6 ?_
      refine R_aload_n o 0 dX6_changes_32 rfl rfl ?_
      refine R_getR (a2 := 4) o dX6_changes_33 fl_X6_26 sh_0 (by decide) rfl rf_0_3 ?_
      refine R_iload_n o 1 dX6_changes_36 rfl rfl ?_
      refine R_aald o dX6_changes_37 sh_4 (Or.inr (Or.inr rfl)) (fun q37 => ?_)
      refine K_vh (callV' (As := [rA g (rf 4 x1.toNatClampNeg)]) (rest := []) o dX6_changes_38 lk_X6_222 rfl sh_9 rfl rfl rfl rfl (Nat.le_of_ble_eq_true rfl)) (c_X3_weigh g l h (rf 4 x1.toNatClampNeg) (sh_el15 sh_4 q37)) (fun h38 => ?_)
      refine R_aload_n o 0 dX6_changes_41 rfl rfl ?_
      refine R_getR (a2 := 16) o dX6_changes_42 fl_X6_57 sh_0 (by decide) rfl rf_0_8 ?_
      refine R_aload_n o 0 dX6_changes_45 rfl rfl ?_
      refine R_getR (a2 := 9) o dX6_changes_46 fl_X6_43 sh_0 (by decide) rfl rf_0_6 ?_
      refine K_i (callV' (As := []) (rest := [rA g 16]) o dX6_changes_49 lk_X6_225 rfl sh_9 rfl rfl rfl rfl (Nat.le_of_ble_eq_true rfl)) (c_X3_sumOfCosts g l h38) (fun r49 => ?_)
      refine R_i2l o dX6_changes_52 ?_
      refine R_aload_n o 0 dX6_changes_53 rfl rfl ?_
      refine R_getR (a2 := 9) o dX6_changes_54 fl_X6_43 sh_0 (by decide) rfl rf_0_6 ?_
      refine K_i (callV' (As := []) (rest := [.long (Int32.toInt64 r49), rA g 16]) o dX6_changes_57 lk_X6_228 rfl sh_9 rfl rfl rfl rfl (Nat.le_of_ble_eq_true rfl)) (c_X3_countReached g l h38) (fun r57 => ?_)
      refine R_i2l o dX6_changes_60 ?_
      refine K_vh (callV' (As := [.long (Int32.toInt64 r49), .long (Int32.toInt64 r57)]) (rest := []) o dX6_changes_61 lk_X6_231 rfl sh_16 rfl rfl rfl rfl (Nat.le_of_ble_eq_true rfl)) (c_X2_become g l h38 (Int32.toInt64 r49) (Int32.toInt64 r57)) (fun h61 => ?_)
      refine R_aload_n o 0 dX6_changes_64 rfl rfl ?_
      refine R_getR (a2 := 9) o dX6_changes_65 fl_X6_43 sh_0 (by decide) rfl rf_0_6 ?_
      refine K_i (callV' (As := []) (rest := []) o dX6_changes_68 lk_X6_235 rfl sh_9 rfl rfl rfl rfl (Nat.le_of_ble_eq_true rfl)) (c_X3_mostCost g l h61) (fun r68 => ?_)
      exact T_some (fun p => rr _ _ _ _ dX6_changes_71 p)
  · refine R_iconst (v := (-1)) o dX6_changes_8 (by decide) ?_
    exact T_some (fun p => rr _ _ _ _ dX6_changes_9 p)
theorem c_X6_changes (g : Gx) (l : Launch) (h : MH) (x1 : Int32) (r : (Int32 × MH)) (e : f_X6_changes h x1 = some r) : Ctr g l yX6_changes cX6_changes 2 (some .int) 4 87 0 [rA g 0, .int x1] h (some (.int r.1)) r.2 := mkCi (plainFor_of_name (by decide)) (Nat.le_of_ble_eq_true rfl) (fun V Rt o rr p => b_X6_changes o rr h x1  r e p)
/-! X6_reach -/
noncomputable def f_X6_reach (h : MH) (x1 : Int32) : Option (Int32 × MH) :=
  Option.bind (f_X6_isCode h x1) (fun r2 => (if r2 = true then gd (ix x1 4) (Option.bind (f_X0_isMissing h (rf 4 x1.toNatClampNeg)) (fun r16 => (if r16 = true then bnd2 (f_X6_found h 1) (fun r24 h24 => some (r24, h24)) else gd (ix x1 4) (Option.bind (f_X3_weigh h (rf 4 x1.toNatClampNeg)) (fun h38 => Option.bind (f_X3_countReached h38) (fun r45 => some (r45, h38))))))) else some ((-1), h)))
set_option maxRecDepth 100000 in
set_option maxHeartbeats 4000000 in
theorem b_X6_reach {g : Gx} {l : Launch} {V : VT} {Rt : Option Value → MH → Prop} (o : Ok g l RX6 cX6_reach 2 4 87 0 V) (rr : ORi cX6_reach V Rt) (h : MH) (x1 : Int32) : T (fun r => Rt (some (.int r.1)) r.2) (f_X6_reach h x1) (V 0 [(0, rA g 0), (1, .int x1)] [] h) := by
  unfold f_X6_reach
  refine R_aload_n o 0 dX6_reach_0 rfl rfl ?_
  refine R_iload_n o 1 dX6_reach_1 rfl rfl ?_
  refine K_z (callV' (As := [.int x1]) (rest := []) o dX6_reach_2 lk_X6_188 rfl sh_0 rfl rfl rfl rfl (Nat.le_of_ble_eq_true rfl)) (c_X6_isCode g l h x1) (fun r2 => ?_)
  refine R_bif_ne o 10 dX6_reach_5 (by decide) ?_ ?_
  · refine R_aload_n o 0 dX6_reach_10 rfl rfl ?_
    refine R_getR (a2 := 4) o dX6_reach_11 fl_X6_26 sh_0 (by decide) rfl rf_0_3 ?_
    refine R_iload_n o 1 dX6_reach_14 rfl rfl ?_
    refine R_aald o dX6_reach_15 sh_4 (Or.inr (Or.inr rfl)) (fun q15 => ?_)
    refine K_z (callV' (As := []) (rest := []) o dX6_reach_16 lk_X6_198 rfl (sh_el15 sh_4 q15) rfl rfl rfl rfl (Nat.le_of_ble_eq_true rfl)) (c_X0_isMissing g l h (rf 4 x1.toNatClampNeg) (sh_el15 sh_4 q15)) (fun r16 => ?_)
    refine R_bif_eq o 28 dX6_reach_19 (by decide) ?_ ?_
    · refine R_aload_n o 0 dX6_reach_22 rfl rfl ?_
      refine R_iconst (v := 1) o dX6_reach_23 (by decide) ?_
      refine K_ih (callV' (As := [.int 1]) (rest := []) o dX6_reach_24 lk_X6_77 rfl sh_0 rfl rfl rfl rfl (Nat.le_of_ble_eq_true rfl)) (c_X6_found g l h 1) (fun r24 h24 => ?_)
      exact T_some (fun p => rr _ _ _ _ dX6_reach_27 p)
    · refine R_aload_n o 0 dX6_reach_28 rfl rfl ?_
      refine R_getR (a2 := 9) o dX6_reach_29 fl_X6_43 sh_0 (by decide) rfl rf_0_6 ?_
      refine R_aload_n o 0 dX6_reach_32 rfl rfl ?_
      refine R_getR (a2 := 4) o dX6_reach_33 fl_X6_26 sh_0 (by decide) rfl rf_0_3 ?_
      refine R_iload_n o 1 dX6_reach_36 rfl rfl ?_
      refine R_aald o dX6_reach_37 sh_4 (Or.inr (Or.inr rfl)) (fun q37 => ?_)
      refine K_vh (callV' (As := [rA g (rf 4 x1.toNatClampNeg)]) (rest := []) o dX6_reach_38 lk_X6_222 rfl sh_9 rfl rfl rfl rfl (Nat.le_of_ble_eq_true rfl)) (c_X3_weigh g l h (rf 4 x1.toNatClampNeg) (sh_el15 sh_4 q37)) (fun h38 => ?_)
      refine R_aload_n o 0 dX6_reach_41 rfl rfl ?_
      refine R_getR (a2 := 9) o dX6_reach_42 fl_X6_43 sh_0 (by decide) rfl rf_0_6 ?_
      refine K_i (callV' (As := []) (rest := []) o dX6_reach_45 lk_X6_228 rfl sh_9 rfl rfl rfl rfl (Nat.le_of_ble_eq_true rfl)) (c_X3_countReached g l h38) (fun r45 => ?_)
      exact T_some (fun p => rr _ _ _ _ dX6_reach_48 p)
  · refine R_iconst (v := (-1)) o dX6_reach_8 (by decide) ?_
    exact T_some (fun p => rr _ _ _ _ dX6_reach_9 p)
theorem c_X6_reach (g : Gx) (l : Launch) (h : MH) (x1 : Int32) (r : (Int32 × MH)) (e : f_X6_reach h x1 = some r) : Ctr g l yX6_reach cX6_reach 2 (some .int) 4 87 0 [rA g 0, .int x1] h (some (.int r.1)) r.2 := mkCi (plainFor_of_name (by decide)) (Nat.le_of_ble_eq_true rfl) (fun V Rt o rr p => b_X6_reach o rr h x1  r e p)
/-! X6_powerOf -/
noncomputable def f_X6_powerOf_B4 (x0 : Int32) (x1 : Int32) (x2 : Int32) (x3 : Int32) : Option ((Int32 × Int32) ⊕ (Int32)) :=
  (if x3 < x1 then nm (irm (x2 * x0) 251) (fun v16 => some (.inl (v16, (x3 + 1)))) else some (.inr x2))
set_option maxRecDepth 100000 in
set_option maxHeartbeats 4000000 in
theorem t_X6_powerOf_B4 {g : Gx} {l : Launch} {V : VT} {Rt : Option Value → MH → Prop} (o : Ok g l RX6 cX6_powerOf 4 0 0 0 V) (rr : ORi cX6_powerOf V Rt) (h : MH) (x0 : Int32) (x1 : Int32) (x2 : Int32) (x3 : Int32) : T (Sum.elim (fun s => V 4 [(0, .int x0), (1, .int x1), (2, .int s.1), (3, .int s.2)] [] h) (fun b => V 23 [(2, .int b)] [] h)) (f_X6_powerOf_B4  x0 x1 x2 x3) (V 4 [(0, .int x0), (1, .int x1), (2, .int x2), (3, .int x3)] [] h) := by
  unfold f_X6_powerOf_B4
  refine R_iload_n o 3 dX6_powerOf_4 rfl rfl ?_
  refine R_iload_n o 1 dX6_powerOf_5 rfl rfl ?_
  refine R_icmp_ge o 23 dX6_powerOf_6 (by decide) ?_ ?_
  · refine R_iload_n o 2 dX6_powerOf_9 rfl rfl ?_
    refine R_iload_n o 0 dX6_powerOf_10 rfl rfl ?_
    refine R_imul o dX6_powerOf_11 ?_
    refine R_sipush (v := 251) o dX6_powerOf_12 (by decide) ?_
    refine R_irem_c o dX6_powerOf_15 (by decide) ?_
    refine R_nmI (fun v16 => ?_)
    refine R_istore_n (lv2 := [(0, .int x0), (1, .int x1), (2, .int v16), (3, .int x3)]) o dX6_powerOf_16 rfl (by decide) rfl ?_
    refine R_iinc (v := (x3 + 1)) (lv2 := [(0, .int x0), (1, .int x1), (2, .int v16), (3, .int (x3 + 1))]) o 3 dX6_powerOf_17 rfl rfl (by decide) rfl ?_
    refine R_goto o 4 dX6_powerOf_20 (by decide) ?_
    exact T_some (fun p => p)
  · refine R_drop (lv2 := [(2, .int x2)]) o [2] rfl ?_
    exact T_some (fun p => p)
noncomputable def f_X6_powerOf_L4 (x0 : Int32) (x1 : Int32) (x2 : Int32) (x3 : Int32) : Option (Int32) :=
  lpo (fun s : Int32 × Int32 => f_X6_powerOf_B4  x0 x1 s.1 s.2) (x2, x3)
theorem t_X6_powerOf_L4 {g : Gx} {l : Launch} {V : VT} {Rt : Option Value → MH → Prop} (o : Ok g l RX6 cX6_powerOf 4 0 0 0 V) (rr : ORi cX6_powerOf V Rt) (h : MH) (x0 : Int32) (x1 : Int32) (x2 : Int32) (x3 : Int32) : T (fun b => V 23 [(2, .int b)] [] h) (f_X6_powerOf_L4 x0 x1 x2 x3) (V 4 [(0, .int x0), (1, .int x1), (2, .int x2), (3, .int x3)] [] h) := T_loop (head := fun s : Int32 × Int32 => V 4 [(0, .int x0), (1, .int x1), (2, .int s.1), (3, .int s.2)] [] h) (fun s => t_X6_powerOf_B4 o rr h x0 x1 s.1 s.2 ) (x2, x3)
noncomputable def f_X6_powerOf (x0 : Int32) (x1 : Int32) : Option Int32 :=
  Option.bind (f_X6_powerOf_L4 x0 x1 1 0) (fun b4 => some b4)
set_option maxRecDepth 100000 in
set_option maxHeartbeats 4000000 in
theorem b_X6_powerOf {g : Gx} {l : Launch} {V : VT} {Rt : Option Value → MH → Prop} (o : Ok g l RX6 cX6_powerOf 4 0 0 0 V) (rr : ORi cX6_powerOf V Rt) (h : MH) (x0 : Int32) (x1 : Int32) : T (fun r => Rt (some (.int r)) h) (f_X6_powerOf  x0 x1) (V 0 [(0, .int x0), (1, .int x1)] [] h) := by
  unfold f_X6_powerOf
  refine R_iconst (v := 1) o dX6_powerOf_0 (by decide) ?_
  refine R_istore_n (lv2 := [(0, .int x0), (1, .int x1), (2, .int 1)]) o dX6_powerOf_1 rfl (by decide) rfl ?_
  refine R_iconst (v := 0) o dX6_powerOf_2 (by decide) ?_
  refine R_istore_n (lv2 := [(0, .int x0), (1, .int x1), (2, .int 1), (3, .int 0)]) o dX6_powerOf_3 rfl (by decide) rfl ?_
  refine T_bind (t_X6_powerOf_L4 o rr h x0 x1 1 0) (fun b4 => ?_)
  refine R_iload_n o 0 dX6_powerOf_23 rfl rfl ?_
  exact T_some (fun p => rr _ _ _ _ dX6_powerOf_24 p)
theorem c_X6_powerOf (g : Gx) (l : Launch) (h : MH) (x0 : Int32) (x1 : Int32) (r : Int32) (e : f_X6_powerOf  x0 x1 = some r) : Ctr g l yX6_powerOf cX6_powerOf 4 (some .int) 0 0 0 [.int x0, .int x1] h (some (.int r)) h := mkCi (plainFor_of_name (by decide)) (Nat.le_of_ble_eq_true rfl) (fun V Rt o rr p => b_X6_powerOf o rr h x0 x1  r e p)
/-! X6_parts -/
noncomputable def f_X6_parts_B95 (h : MH) (x2 : Int32) (x3 : Int32) (a6 : Nat) (x7 : Int32) (x8 : Int32) (x9 : Int32) (x10 : Int32) : Option ((Int32 × MH) ⊕ (MH)) :=
  (if x10 < x3 then Option.bind (f_X5_get h a6 x10) (fun r109 => Option.bind (f_X6_powerOf (x10 + 1) x8) (fun r120 => Option.bind (f_X5_set h a6 x10 (irm (r109 + (x9 * r120)) 251)) (fun h129 => some (.inl ((x10 + 1), h129))))) else some (.inr h))
set_option maxRecDepth 100000 in
set_option maxHeartbeats 4000000 in
theorem t_X6_parts_B95 {g : Gx} {l : Launch} {V : VT} {Rt : Option Value → MH → Prop} (o : Ok g l RX6 cX6_parts 11 3 68 0 V) (rr : ORi cX6_parts V Rt) (h : MH) (x2 : Int32) (x3 : Int32) (a6 : Nat) (x7 : Int32) (x8 : Int32) (x9 : Int32) (x10 : Int32) (ha6 : shp a6 = (5, 0)) : T (Sum.elim (fun s => V 95 [(2, .int x2), (3, .int x3), (6, rA g a6), (7, .int x7), (8, .int x8), (9, .int x9), (10, .int s.1)] [] s.2) (fun b => V 138 [(2, .int x2), (3, .int x3), (6, rA g a6), (7, .int x7), (8, .int x8)] [] b)) (f_X6_parts_B95  h x2 x3 a6 x7 x8 x9 x10) (V 95 [(2, .int x2), (3, .int x3), (6, rA g a6), (7, .int x7), (8, .int x8), (9, .int x9), (10, .int x10)] [] h) := by
  unfold f_X6_parts_B95
  refine R_iload o 6 dX6_parts_95 rfl ?_
  refine R_iload_n o 1 dX6_parts_97 rfl rfl ?_
  refine R_icmp_ge o 138 dX6_parts_98 (by decide) ?_ ?_
  · refine R_aload o 2 dX6_parts_101 rfl ?_
    refine R_iload o 6 dX6_parts_103 rfl ?_
    refine R_aload o 2 dX6_parts_105 rfl ?_
    refine R_iload o 6 dX6_parts_107 rfl ?_
    refine K_i (callV' (As := [.int x10]) (rest := [.int x10, rA g a6]) o dX6_parts_109 lk_X6_92 rfl ha6 rfl rfl rfl rfl (Nat.le_of_ble_eq_true rfl)) (c_X5_get g l h a6 x10 ha6) (fun r109 => ?_)
    refine R_iload o 5 dX6_parts_112 rfl ?_
    refine R_iload o 6 dX6_parts_114 rfl ?_
    refine R_iconst (v := 1) o dX6_parts_116 (by decide) ?_
    refine R_iadd o dX6_parts_117 ?_
    refine R_iload o 4 dX6_parts_118 rfl ?_
    refine K_i (callS' (av := [.int (x10 + 1), .int x8]) (rest := [.int x9, .int r109, .int x10, rA g a6]) o dX6_parts_120 lk_X6_244 rfl rfl rfl (Nat.le_of_ble_eq_true rfl)) (c_X6_powerOf g l h (x10 + 1) x8) (fun r120 => ?_)
    refine R_imul o dX6_parts_123 ?_
    refine R_iadd o dX6_parts_124 ?_
    refine R_sipush (v := 251) o dX6_parts_125 (by decide) ?_
    refine R_irem_c o dX6_parts_128 (by decide) ?_
    refine K_vh (callV' (As := [.int x10, .int (irm (r109 + (x9 * r120)) 251)]) (rest := []) o dX6_parts_129 lk_X6_95 rfl ha6 rfl rfl rfl rfl (Nat.le_of_ble_eq_true rfl)) (c_X5_set g l h a6 x10 (irm (r109 + (x9 * r120)) 251) ha6) (fun h129 => ?_)
    refine R_iinc (v := (x10 + 1)) (lv2 := [(2, .int x2), (3, .int x3), (6, rA g a6), (7, .int x7), (8, .int x8), (9, .int x9), (10, .int (x10 + 1))]) o 6 dX6_parts_132 rfl rfl (by decide) rfl ?_
    refine R_goto o 95 dX6_parts_135 (by decide) ?_
    exact T_some (fun p => p)
  · refine R_drop (lv2 := [(2, .int x2), (3, .int x3), (6, rA g a6), (7, .int x7), (8, .int x8)]) o [0, 1, 2, 3, 4] rfl ?_
    exact T_some (fun p => p)
noncomputable def f_X6_parts_L95 (h : MH) (x2 : Int32) (x3 : Int32) (a6 : Nat) (x7 : Int32) (x8 : Int32) (x9 : Int32) (x10 : Int32) : Option (MH) :=
  lpo (fun s : Int32 × MH => f_X6_parts_B95 s.2 x2 x3 a6 x7 x8 x9 s.1) (x10, h)
theorem t_X6_parts_L95 {g : Gx} {l : Launch} {V : VT} {Rt : Option Value → MH → Prop} (o : Ok g l RX6 cX6_parts 11 3 68 0 V) (rr : ORi cX6_parts V Rt) (h : MH) (x2 : Int32) (x3 : Int32) (a6 : Nat) (x7 : Int32) (x8 : Int32) (x9 : Int32) (x10 : Int32) (ha6 : shp a6 = (5, 0)) : T (fun b => V 138 [(2, .int x2), (3, .int x3), (6, rA g a6), (7, .int x7), (8, .int x8)] [] b) (f_X6_parts_L95 h x2 x3 a6 x7 x8 x9 x10) (V 95 [(2, .int x2), (3, .int x3), (6, rA g a6), (7, .int x7), (8, .int x8), (9, .int x9), (10, .int x10)] [] h) := T_loop (head := fun s : Int32 × MH => V 95 [(2, .int x2), (3, .int x3), (6, rA g a6), (7, .int x7), (8, .int x8), (9, .int x9), (10, .int s.1)] [] s.2) (fun s => t_X6_parts_B95 o rr s.2 x2 x3 a6 x7 x8 x9 s.1 ha6) (x10, h)
noncomputable def f_X6_parts_B68 (h : MH) (x2 : Int32) (x3 : Int32) (a6 : Nat) (x7 : Int32) (x8 : Int32) : Option ((Int32 × Int32 × MH) ⊕ (MH)) :=
  (if x8 < x2 then Option.bind (f_X6_nextOfKey x7) (fun r76 => Option.bind (f_X6_bitsOfKey r76) (fun r83 => nm (irm r83 251) (fun v90 => Option.bind (f_X6_parts_L95 h x2 x3 a6 r76 x8 v90 0) (fun b95 => some (.inl (r76, (x8 + 1), b95)))))) else some (.inr h))
set_option maxRecDepth 100000 in
set_option maxHeartbeats 4000000 in
theorem t_X6_parts_B68 {g : Gx} {l : Launch} {V : VT} {Rt : Option Value → MH → Prop} (o : Ok g l RX6 cX6_parts 11 3 68 0 V) (rr : ORi cX6_parts V Rt) (h : MH) (x2 : Int32) (x3 : Int32) (a6 : Nat) (x7 : Int32) (x8 : Int32) (ha6 : shp a6 = (5, 0)) : T (Sum.elim (fun s => V 68 [(2, .int x2), (3, .int x3), (6, rA g a6), (7, .int s.1), (8, .int s.2.1)] [] s.2.2) (fun b => V 144 [(3, .int x3)] [] b)) (f_X6_parts_B68  h x2 x3 a6 x7 x8) (V 68 [(2, .int x2), (3, .int x3), (6, rA g a6), (7, .int x7), (8, .int x8)] [] h) := by
  unfold f_X6_parts_B68
  refine R_iload o 4 dX6_parts_68 rfl ?_
  refine R_iload_n o 0 dX6_parts_70 rfl rfl ?_
  refine R_icmp_ge o 144 dX6_parts_71 (by decide) ?_ ?_
  · refine R_iload o 3 dX6_parts_74 rfl ?_
    refine K_i (callS' (av := [.int x7]) (rest := []) o dX6_parts_76 lk_X6_238 rfl rfl rfl (Nat.le_of_ble_eq_true rfl)) (c_X6_nextOfKey g l h x7) (fun r76 => ?_)
    refine R_istore (lv2 := [(2, .int x2), (3, .int x3), (6, rA g a6), (7, .int r76), (8, .int x8)]) o dX6_parts_79 (by decide) rfl ?_
    refine R_iload o 3 dX6_parts_81 rfl ?_
    refine K_i (callS' (av := [.int r76]) (rest := []) o dX6_parts_83 lk_X6_241 rfl rfl rfl (Nat.le_of_ble_eq_true rfl)) (c_X6_bitsOfKey g l h r76) (fun r83 => ?_)
    refine R_sipush (v := 251) o dX6_parts_86 (by decide) ?_
    refine R_irem_c o dX6_parts_89 (by decide) ?_
    refine R_nmI (fun v90 => ?_)
    refine R_istore (lv2 := [(2, .int x2), (3, .int x3), (6, rA g a6), (7, .int r76), (8, .int x8), (9, .int v90)]) o dX6_parts_90 (by decide) rfl ?_
    refine R_iconst (v := 0) o dX6_parts_92 (by decide) ?_
    refine R_istore (lv2 := [(2, .int x2), (3, .int x3), (6, rA g a6), (7, .int r76), (8, .int x8), (9, .int v90), (10, .int 0)]) o dX6_parts_93 (by decide) rfl ?_
    refine T_bind (t_X6_parts_L95 o rr h x2 x3 a6 r76 x8 v90 0 ha6) (fun b95 => ?_)
    refine R_iinc (v := (x8 + 1)) (lv2 := [(2, .int x2), (3, .int x3), (6, rA g a6), (7, .int r76), (8, .int (x8 + 1))]) o 4 dX6_parts_138 rfl rfl (by decide) rfl ?_
    refine R_goto o 68 dX6_parts_141 (by decide) ?_
    exact T_some (fun p => p)
  · refine R_drop (lv2 := [(3, .int x3)]) o [1] rfl ?_
    exact T_some (fun p => p)
noncomputable def f_X6_parts_L68 (h : MH) (x2 : Int32) (x3 : Int32) (a6 : Nat) (x7 : Int32) (x8 : Int32) : Option (MH) :=
  lpo (fun s : Int32 × Int32 × MH => f_X6_parts_B68 s.2.2 x2 x3 a6 s.1 s.2.1) (x7, x8, h)
theorem t_X6_parts_L68 {g : Gx} {l : Launch} {V : VT} {Rt : Option Value → MH → Prop} (o : Ok g l RX6 cX6_parts 11 3 68 0 V) (rr : ORi cX6_parts V Rt) (h : MH) (x2 : Int32) (x3 : Int32) (a6 : Nat) (x7 : Int32) (x8 : Int32) (ha6 : shp a6 = (5, 0)) : T (fun b => V 144 [(3, .int x3)] [] b) (f_X6_parts_L68 h x2 x3 a6 x7 x8) (V 68 [(2, .int x2), (3, .int x3), (6, rA g a6), (7, .int x7), (8, .int x8)] [] h) := T_loop (head := fun s : Int32 × Int32 × MH => V 68 [(2, .int x2), (3, .int x3), (6, rA g a6), (7, .int s.1), (8, .int s.2.1)] [] s.2.2) (fun s => t_X6_parts_B68 o rr s.2.2 x2 x3 a6 s.1 s.2.1 ha6) (x7, x8, h)
noncomputable def f_X6_parts (h : MH) (x1 : Int32) (x2 : Int32) (x3 : Int32) (x4 : Int32) (x5 : Int32) : Option (Int32 × MH) :=
  (if x1 < 0 then some ((-1), h) else (if x1 < 251 then (if x2 < 1 then some ((-1), h) else (if 5 < x2 then some ((-1), h) else (if x3 < x2 then some ((-1), h) else (if 10 < x3 then some ((-1), h) else Option.bind (f_X6_isRow h x5) (fun r37 => (if r37 = true then gd (ix x5 6) (Option.bind (f_X5_renew h (rf 1 x5.toNatClampNeg) x3 x1) (fun h58 => Option.bind (f_X6_parts_L68 h58 x2 x3 (rf 1 x5.toNatClampNeg) x4 1) (fun b68 => some (x3, b68)))) else some ((-1), h))))))) else some ((-1), h)))
set_option maxRecDepth 100000 in
set_option maxHeartbeats 4000000 in
theorem b_X6_parts {g : Gx} {l : Launch} {V : VT} {Rt : Option Value → MH → Prop} (o : Ok g l RX6 cX6_parts 11 3 68 0 V) (rr : ORi cX6_parts V Rt) (h : MH) (x1 : Int32) (x2 : Int32) (x3 : Int32) (x4 : Int32) (x5 : Int32) : T (fun r => Rt (some (.int r.1)) r.2) (f_X6_parts h x1 x2 x3 x4 x5) (V 0 [(0, rA g 0), (1, .int x1), (2, .int x2), (3, .int x3), (4, .int x4), (5, .int x5)] [] h) := by
  unfold f_X6_parts
  refine R_iload_n o 1 dX6_parts_0 rfl rfl ?_
  refine R_if_lt o 21 dX6_parts_1 (by decide) ?_ ?_
  · refine R_iconst (v := (-1)) o dX6_parts_21 (by decide) ?_
    exact T_some (fun p => rr _ _ _ _ dX6_parts_22 p)
  · refine R_iload_n o 1 dX6_parts_4 rfl rfl ?_
    refine R_sipush (v := 251) o dX6_parts_5 (by decide) ?_
    refine R_icmp_ge o 21 dX6_parts_8 (by decide) ?_ ?_
    · refine R_iload_n o 2 dX6_parts_11 rfl rfl ?_
      refine R_iconst (v := 1) o dX6_parts_12 (by decide) ?_
      refine R_icmp_lt o 21 dX6_parts_13 (by decide) ?_ ?_
      · refine R_iconst (v := (-1)) o dX6_parts_21 (by decide) ?_
        exact T_some (fun p => rr _ _ _ _ dX6_parts_22 p)
      · refine R_iload_n o 2 dX6_parts_16 rfl rfl ?_
        refine R_iconst (v := 5) o dX6_parts_17 (by decide) ?_
        refine R_icmp_le o 23 dX6_parts_18 (by decide) ?_ ?_
        · refine R_iconst (v := (-1)) o dX6_parts_21 (by decide) ?_
          exact T_some (fun p => rr _ _ _ _ dX6_parts_22 p)
        · refine R_iload_n o 3 dX6_parts_23 rfl rfl ?_
          refine R_iload_n o 2 dX6_parts_24 rfl rfl ?_
          refine R_icmp_lt o 43 dX6_parts_25 (by decide) ?_ ?_
          · refine R_iconst (v := (-1)) o dX6_parts_43 (by decide) ?_
            exact T_some (fun p => rr _ _ _ _ dX6_parts_44 p)
          · refine R_iload_n o 3 dX6_parts_28 rfl rfl ?_
            refine R_bipush (v := 10) o dX6_parts_29 (by decide) ?_
            refine R_icmp_gt o 43 dX6_parts_31 (by decide) ?_ ?_
            · refine R_iconst (v := (-1)) o dX6_parts_43 (by decide) ?_
              exact T_some (fun p => rr _ _ _ _ dX6_parts_44 p)
            · refine R_aload_n o 0 dX6_parts_34 rfl rfl ?_
              refine R_iload o 5 dX6_parts_35 rfl ?_
              refine K_z (callV' (As := [.int x5]) (rest := []) o dX6_parts_37 lk_X6_73 rfl sh_0 rfl rfl rfl rfl (Nat.le_of_ble_eq_true rfl)) (c_X6_isRow g l h x5) (fun r37 => ?_)
              refine R_bif_ne o 45 dX6_parts_40 (by decide) ?_ ?_
              · refine R_aload_n o 0 dX6_parts_45 rfl rfl ?_
                refine R_getR (a2 := 1) o dX6_parts_46 fl_X6_11 sh_0 (by decide) rfl rf_0_0 ?_
                refine R_iload o 5 dX6_parts_49 rfl ?_
                refine R_aald o dX6_parts_51 sh_1 (Or.inl rfl) (fun q51 => ?_)
                refine R_astore (lv2 := [(0, rA g 0), (1, .int x1), (2, .int x2), (3, .int x3), (4, .int x4), (5, .int x5), (6, rA g (rf 1 x5.toNatClampNeg))]) o dX6_parts_52 (by decide) rfl ?_
                refine R_aload o 6 dX6_parts_54 rfl ?_
                refine R_iload_n o 3 dX6_parts_56 rfl rfl ?_
                refine R_iload_n o 1 dX6_parts_57 rfl rfl ?_
                refine K_vh (callV' (As := [.int x3, .int x1]) (rest := []) o dX6_parts_58 lk_X6_81 rfl (sh_el13 sh_1 q51) rfl rfl rfl rfl (Nat.le_of_ble_eq_true rfl)) (c_X5_renew g l h (rf 1 x5.toNatClampNeg) x3 x1 (sh_el13 sh_1 q51)) (fun h58 => ?_)
                refine R_iload o 4 dX6_parts_61 rfl ?_
                refine R_istore (lv2 := [(0, rA g 0), (1, .int x1), (2, .int x2), (3, .int x3), (4, .int x4), (5, .int x5), (6, rA g (rf 1 x5.toNatClampNeg)), (7, .int x4)]) o dX6_parts_63 (by decide) rfl ?_
                refine R_iconst (v := 1) o dX6_parts_65 (by decide) ?_
                refine R_istore (lv2 := [(0, rA g 0), (1, .int x1), (2, .int x2), (3, .int x3), (4, .int x4), (5, .int x5), (6, rA g (rf 1 x5.toNatClampNeg)), (7, .int x4), (8, .int 1)]) o dX6_parts_66 (by decide) rfl ?_
                refine R_drop (lv2 := [(2, .int x2), (3, .int x3), (6, rA g (rf 1 x5.toNatClampNeg)), (7, .int x4), (8, .int 1)]) o [2, 3, 6, 7, 8] rfl ?_
                refine T_bind (t_X6_parts_L68 o rr h58 x2 x3 (rf 1 x5.toNatClampNeg) x4 1 (sh_el13 sh_1 q51)) (fun b68 => ?_)
                refine R_iload_n o 0 dX6_parts_144 rfl rfl ?_
                exact T_some (fun p => rr _ _ _ _ dX6_parts_145 p)
              · refine R_iconst (v := (-1)) o dX6_parts_43 (by decide) ?_
                exact T_some (fun p => rr _ _ _ _ dX6_parts_44 p)
    · refine R_iconst (v := (-1)) o dX6_parts_21 (by decide) ?_
      exact T_some (fun p => rr _ _ _ _ dX6_parts_22 p)
theorem c_X6_parts (g : Gx) (l : Launch) (h : MH) (x1 : Int32) (x2 : Int32) (x3 : Int32) (x4 : Int32) (x5 : Int32) (r : (Int32 × MH)) (e : f_X6_parts h x1 x2 x3 x4 x5 = some r) : Ctr g l yX6_parts cX6_parts 11 (some .int) 3 68 0 [rA g 0, .int x1, .int x2, .int x3, .int x4, .int x5] h (some (.int r.1)) r.2 := mkCi (plainFor_of_name (by decide)) (Nat.le_of_ble_eq_true rfl) (fun V Rt o rr p => b_X6_parts o rr h x1 x2 x3 x4 x5  r e p)
/-! X6_areParts -/
noncomputable def f_X6_areParts_B51 (h : MH) (a0 : Nat) (x1 : Int32) (x2 : Int32) (x4 : Int32) : Option ((Int32) ⊕ ((Unit) ⊕ (Bool))) :=
  (if x4 < x1 then Option.bind (f_X5_get h a0 x4) (fun r60 => (if r60 = x2 then some (.inr (.inr false)) else some (.inl (x4 + 2)))) else some (.inr (.inl ())))
set_option maxRecDepth 100000 in
set_option maxHeartbeats 4000000 in
theorem t_X6_areParts_B51 {g : Gx} {l : Launch} {V : VT} {Rt : Option Value → MH → Prop} (o : Ok g l RX6 cX6_areParts 5 2 42 0 V) (rr : ORz cX6_areParts V Rt) (h : MH) (a0 : Nat) (x1 : Int32) (x2 : Int32) (x4 : Int32) (ha0 : shp a0 = (5, 0)) : T (Sum.elim (fun s => V 51 [(0, rA g a0), (1, .int x1), (2, .int x2), (4, .int s)] [] h) (Sum.elim (fun b => V 75 [(0, rA g a0), (1, .int x1)] [] h) (fun r => Rt (some (.int (b2i r))) h))) (f_X6_areParts_B51  h a0 x1 x2 x4) (V 51 [(0, rA g a0), (1, .int x1), (2, .int x2), (4, .int x4)] [] h) := by
  unfold f_X6_areParts_B51
  refine R_iload o 3 dX6_areParts_51 rfl ?_
  refine R_iload_n o 1 dX6_areParts_53 rfl rfl ?_
  refine R_icmp_ge o 75 dX6_areParts_54 (by decide) ?_ ?_
  · refine R_aload_n o 0 dX6_areParts_57 rfl rfl ?_
    refine R_iload o 3 dX6_areParts_58 rfl ?_
    refine K_i (callV' (As := [.int x4]) (rest := []) o dX6_areParts_60 lk_X6_92 rfl ha0 rfl rfl rfl rfl (Nat.le_of_ble_eq_true rfl)) (c_X5_get g l h a0 x4 ha0) (fun r60 => ?_)
    refine R_iload_n o 2 dX6_areParts_63 rfl rfl ?_
    refine R_icmp_ne o 69 dX6_areParts_64 (by decide) ?_ ?_
    · refine R_iconst (v := 0) o dX6_areParts_67 (by decide) ?_
      exact T_some (fun p => rr _ _ false _ dX6_areParts_68 p)
    · refine R_iinc (v := (x4 + 2)) (lv2 := [(0, rA g a0), (1, .int x1), (2, .int x2), (4, .int (x4 + 2))]) o 3 dX6_areParts_69 rfl rfl (by decide) rfl ?_
      refine R_goto o 51 dX6_areParts_72 (by decide) ?_
      exact T_some (fun p => p)
  · refine R_drop (lv2 := [(0, rA g a0), (1, .int x1)]) o [0, 1] rfl ?_
    exact T_some (fun p => p)
noncomputable def f_X6_areParts_L51 (h : MH) (a0 : Nat) (x1 : Int32) (x2 : Int32) (x4 : Int32) : Option ((Unit) ⊕ (Bool)) :=
  lpo (fun s : Int32 => f_X6_areParts_B51 h a0 x1 x2 s) x4
theorem t_X6_areParts_L51 {g : Gx} {l : Launch} {V : VT} {Rt : Option Value → MH → Prop} (o : Ok g l RX6 cX6_areParts 5 2 42 0 V) (rr : ORz cX6_areParts V Rt) (h : MH) (a0 : Nat) (x1 : Int32) (x2 : Int32) (x4 : Int32) (ha0 : shp a0 = (5, 0)) : T (Sum.elim (fun b => V 75 [(0, rA g a0), (1, .int x1)] [] h) (fun r => Rt (some (.int (b2i r))) h)) (f_X6_areParts_L51 h a0 x1 x2 x4) (V 51 [(0, rA g a0), (1, .int x1), (2, .int x2), (4, .int x4)] [] h) := T_loop (head := fun s : Int32 => V 51 [(0, rA g a0), (1, .int x1), (2, .int x2), (4, .int s)] [] h) (fun s => t_X6_areParts_B51 o rr h a0 x1 x2 s ha0) x4
noncomputable def f_X6_areParts_B2 (h : MH) (a0 : Nat) (x1 : Int32) : Option ((Int32) ⊕ ((Unit) ⊕ (Bool))) :=
  (if x1 < (h.1 a0 1) then Option.bind (f_X5_get h a0 x1) (fun r12 => Option.bind (f_X5_get h a0 (x1 + 1)) (fun r20 => (if r12 < 1 then some (.inr (.inr false)) else (if 10 < r12 then some (.inr (.inr false)) else (if r20 < 0 then some (.inr (.inr false)) else (if r20 < 251 then Option.bind (f_X6_areParts_L51 h a0 x1 r12 0) (Sum.elim (fun b51 => some (.inl (x1 + 2))) (fun r => some (.inr (.inr r)))) else some (.inr (.inr false)))))))) else some (.inr (.inl ())))
set_option maxRecDepth 100000 in
set_option maxHeartbeats 4000000 in
theorem t_X6_areParts_B2 {g : Gx} {l : Launch} {V : VT} {Rt : Option Value → MH → Prop} (o : Ok g l RX6 cX6_areParts 5 2 42 0 V) (rr : ORz cX6_areParts V Rt) (h : MH) (a0 : Nat) (x1 : Int32) (ha0 : shp a0 = (5, 0)) : T (Sum.elim (fun s => V 2 [(0, rA g a0), (1, .int s)] [] h) (Sum.elim (fun b => V 81 [] [] h) (fun r => Rt (some (.int (b2i r))) h))) (f_X6_areParts_B2  h a0 x1) (V 2 [(0, rA g a0), (1, .int x1)] [] h) := by
  unfold f_X6_areParts_B2
  refine R_iload_n o 1 dX6_areParts_2 rfl rfl ?_
  refine R_aload_n o 0 dX6_areParts_3 rfl rfl ?_
  refine R_getI o dX6_areParts_4 fl_X6_114 ha0 (by decide) rfl ?_
  refine R_icmp_ge o 81 dX6_areParts_7 (by decide) ?_ ?_
  · refine R_aload_n o 0 dX6_areParts_10 rfl rfl ?_
    refine R_iload_n o 1 dX6_areParts_11 rfl rfl ?_
    refine K_i (callV' (As := [.int x1]) (rest := []) o dX6_areParts_12 lk_X6_92 rfl ha0 rfl rfl rfl rfl (Nat.le_of_ble_eq_true rfl)) (c_X5_get g l h a0 x1 ha0) (fun r12 => ?_)
    refine R_istore_n (lv2 := [(0, rA g a0), (1, .int x1), (2, .int r12)]) o dX6_areParts_15 rfl (by decide) rfl ?_
    refine R_aload_n o 0 dX6_areParts_16 rfl rfl ?_
    refine R_iload_n o 1 dX6_areParts_17 rfl rfl ?_
    refine R_iconst (v := 1) o dX6_areParts_18 (by decide) ?_
    refine R_iadd o dX6_areParts_19 ?_
    refine K_i (callV' (As := [.int (x1 + 1)]) (rest := []) o dX6_areParts_20 lk_X6_92 rfl ha0 rfl rfl rfl rfl (Nat.le_of_ble_eq_true rfl)) (c_X5_get g l h a0 (x1 + 1) ha0) (fun r20 => ?_)
    refine R_istore_n (lv2 := [(0, rA g a0), (1, .int x1), (2, .int r12), (3, .int r20)]) o dX6_areParts_23 rfl (by decide) rfl ?_
    refine R_iload_n o 2 dX6_areParts_24 rfl rfl ?_
    refine R_iconst (v := 1) o dX6_areParts_25 (by decide) ?_
    refine R_icmp_lt o 46 dX6_areParts_26 (by decide) ?_ ?_
    · refine R_iconst (v := 0) o dX6_areParts_46 (by decide) ?_
      exact T_some (fun p => rr _ _ false _ dX6_areParts_47 p)
    · refine R_iload_n o 2 dX6_areParts_29 rfl rfl ?_
      refine R_bipush (v := 10) o dX6_areParts_30 (by decide) ?_
      refine R_icmp_gt o 46 dX6_areParts_32 (by decide) ?_ ?_
      · refine R_iconst (v := 0) o dX6_areParts_46 (by decide) ?_
        exact T_some (fun p => rr _ _ false _ dX6_areParts_47 p)
      · refine R_iload_n o 3 dX6_areParts_35 rfl rfl ?_
        refine R_if_lt o 46 dX6_areParts_36 (by decide) ?_ ?_
        · refine R_iconst (v := 0) o dX6_areParts_46 (by decide) ?_
          exact T_some (fun p => rr _ _ false _ dX6_areParts_47 p)
        · refine R_iload_n o 3 dX6_areParts_39 rfl rfl ?_
          refine R_sipush (v := 251) o dX6_areParts_40 (by decide) ?_
          refine R_icmp_lt o 48 dX6_areParts_43 (by decide) ?_ ?_
          · refine R_iconst (v := 0) o dX6_areParts_48 (by decide) ?_
            refine R_istore (lv2 := [(0, rA g a0), (1, .int x1), (2, .int r12), (3, .int r20), (4, .int 0)]) o dX6_areParts_49 (by decide) rfl ?_
            refine R_drop (lv2 := [(0, rA g a0), (1, .int x1), (2, .int r12), (4, .int 0)]) o [0, 1, 2, 4] rfl ?_
            refine T_bind2 (t_X6_areParts_L51 o rr h a0 x1 r12 0 ha0) (fun b51 => ?_) (fun r => ?_)
            · refine R_iinc (v := (x1 + 2)) (lv2 := [(0, rA g a0), (1, .int (x1 + 2))]) o 1 dX6_areParts_75 rfl rfl (by decide) rfl ?_
              refine R_goto o 2 dX6_areParts_78 (by decide) ?_
              exact T_some (fun p => p)
            · exact T_some (fun p => p)
          · refine R_iconst (v := 0) o dX6_areParts_46 (by decide) ?_
            exact T_some (fun p => rr _ _ false _ dX6_areParts_47 p)
  · refine R_drop (lv2 := []) o [] rfl ?_
    exact T_some (fun p => p)
noncomputable def f_X6_areParts_L2 (h : MH) (a0 : Nat) (x1 : Int32) : Option ((Unit) ⊕ (Bool)) :=
  lpo (fun s : Int32 => f_X6_areParts_B2 h a0 s) x1
theorem t_X6_areParts_L2 {g : Gx} {l : Launch} {V : VT} {Rt : Option Value → MH → Prop} (o : Ok g l RX6 cX6_areParts 5 2 42 0 V) (rr : ORz cX6_areParts V Rt) (h : MH) (a0 : Nat) (x1 : Int32) (ha0 : shp a0 = (5, 0)) : T (Sum.elim (fun b => V 81 [] [] h) (fun r => Rt (some (.int (b2i r))) h)) (f_X6_areParts_L2 h a0 x1) (V 2 [(0, rA g a0), (1, .int x1)] [] h) := T_loop (head := fun s : Int32 => V 2 [(0, rA g a0), (1, .int s)] [] h) (fun s => t_X6_areParts_B2 o rr h a0 s ha0) x1
noncomputable def f_X6_areParts (h : MH) (a0 : Nat) : Option Bool :=
  Option.bind (f_X6_areParts_L2 h a0 0) (Sum.elim (fun b2 => some true) (fun r => some r))
set_option maxRecDepth 100000 in
set_option maxHeartbeats 4000000 in
theorem b_X6_areParts {g : Gx} {l : Launch} {V : VT} {Rt : Option Value → MH → Prop} (o : Ok g l RX6 cX6_areParts 5 2 42 0 V) (rr : ORz cX6_areParts V Rt) (h : MH) (a0 : Nat) (ha0 : shp a0 = (5, 0)) : T (fun r => Rt (some (.int (b2i r))) h) (f_X6_areParts h a0) (V 0 [(0, rA g a0)] [] h) := by
  unfold f_X6_areParts
  refine R_iconst (v := 0) o dX6_areParts_0 (by decide) ?_
  refine R_istore_n (lv2 := [(0, rA g a0), (1, .int 0)]) o dX6_areParts_1 rfl (by decide) rfl ?_
  refine T_bind2 (t_X6_areParts_L2 o rr h a0 0 ha0) (fun b2 => ?_) (fun r => ?_)
  · refine R_iconst (v := 1) o dX6_areParts_81 (by decide) ?_
    exact T_some (fun p => rr _ _ true _ dX6_areParts_82 p)
  · exact T_some (fun p => p)
theorem c_X6_areParts (g : Gx) (l : Launch) (h : MH) (a0 : Nat) (ha0 : shp a0 = (5, 0)) (r : Bool) (e : f_X6_areParts h a0 = some r) : Ctr g l yX6_areParts cX6_areParts 5 (some .boolean) 2 42 0 [rA g a0] h (some (.int (b2i r))) h := mkCz (plainFor_of_name (by decide)) (Nat.le_of_ble_eq_true rfl) (fun V Rt o rr p => b_X6_areParts o rr h a0 ha0 r e p)
/-! X6_weightOfPart -/
noncomputable def f_X6_weightOfPart_B7 (h : MH) (a0 : Nat) (x1 : Int32) (x2 : Int32) (x3 : Int32) (x4 : Int32) : Option ((Int32 × Int32 × Int32) ⊕ (Int32 × Int32)) :=
  (if x4 < (h.1 a0 1) then (if x4 = x1 then some (.inl (x2, x3, (x4 + 2))) else Option.bind (f_X5_get h a0 x4) (fun r29 => nm (irm (x2 * r29) 251) (fun v37 => Option.bind (f_X5_get h a0 x4) (fun r42 => Option.bind (f_X5_get h a0 x1) (fun r47 => nm (irm (x3 * ((r42 - r47) + 251)) 251) (fun v60 => some (.inl (v37, v60, (x4 + 2))))))))) else some (.inr (x2, x3)))
set_option maxRecDepth 100000 in
set_option maxHeartbeats 4000000 in
theorem t_X6_weightOfPart_B7 {g : Gx} {l : Launch} {V : VT} {Rt : Option Value → MH → Prop} (o : Ok g l RX6 cX6_weightOfPart 5 2 42 0 V) (rr : ORi cX6_weightOfPart V Rt) (h : MH) (a0 : Nat) (x1 : Int32) (x2 : Int32) (x3 : Int32) (x4 : Int32) (ha0 : shp a0 = (5, 0)) : T (Sum.elim (fun s => V 7 [(0, rA g a0), (1, .int x1), (2, .int s.1), (3, .int s.2.1), (4, .int s.2.2)] [] h) (fun b => V 67 [(2, .int b.1), (3, .int b.2)] [] h)) (f_X6_weightOfPart_B7  h a0 x1 x2 x3 x4) (V 7 [(0, rA g a0), (1, .int x1), (2, .int x2), (3, .int x3), (4, .int x4)] [] h) := by
  unfold f_X6_weightOfPart_B7
  refine R_iload o 4 dX6_weightOfPart_7 rfl ?_
  refine R_aload_n o 0 dX6_weightOfPart_9 rfl rfl ?_
  refine R_getI o dX6_weightOfPart_10 fl_X6_114 ha0 (by decide) rfl ?_
  refine R_icmp_ge o 67 dX6_weightOfPart_13 (by decide) ?_ ?_
  · refine R_iload o 4 dX6_weightOfPart_16 rfl ?_
    refine R_iload_n o 1 dX6_weightOfPart_18 rfl rfl ?_
    refine R_icmp_ne o 25 dX6_weightOfPart_19 (by decide) ?_ ?_
    · refine R_goto o 61 dX6_weightOfPart_22 (by decide) ?_
      refine R_iinc (v := (x4 + 2)) (lv2 := [(0, rA g a0), (1, .int x1), (2, .int x2), (3, .int x3), (4, .int (x4 + 2))]) o 4 dX6_weightOfPart_61 rfl rfl (by decide) rfl ?_
      refine R_goto o 7 dX6_weightOfPart_64 (by decide) ?_
      exact T_some (fun p => p)
    · refine R_iload_n o 2 dX6_weightOfPart_25 rfl rfl ?_
      refine R_aload_n o 0 dX6_weightOfPart_26 rfl rfl ?_
      refine R_iload o 4 dX6_weightOfPart_27 rfl ?_
      refine K_i (callV' (As := [.int x4]) (rest := [.int x2]) o dX6_weightOfPart_29 lk_X6_92 rfl ha0 rfl rfl rfl rfl (Nat.le_of_ble_eq_true rfl)) (c_X5_get g l h a0 x4 ha0) (fun r29 => ?_)
      refine R_imul o dX6_weightOfPart_32 ?_
      refine R_sipush (v := 251) o dX6_weightOfPart_33 (by decide) ?_
      refine R_irem_c o dX6_weightOfPart_36 (by decide) ?_
      refine R_nmI (fun v37 => ?_)
      refine R_istore_n (lv2 := [(0, rA g a0), (1, .int x1), (2, .int v37), (3, .int x3), (4, .int x4)]) o dX6_weightOfPart_37 rfl (by decide) rfl ?_
      refine R_iload_n o 3 dX6_weightOfPart_38 rfl rfl ?_
      refine R_aload_n o 0 dX6_weightOfPart_39 rfl rfl ?_
      refine R_iload o 4 dX6_weightOfPart_40 rfl ?_
      refine K_i (callV' (As := [.int x4]) (rest := [.int x3]) o dX6_weightOfPart_42 lk_X6_92 rfl ha0 rfl rfl rfl rfl (Nat.le_of_ble_eq_true rfl)) (c_X5_get g l h a0 x4 ha0) (fun r42 => ?_)
      refine R_aload_n o 0 dX6_weightOfPart_45 rfl rfl ?_
      refine R_iload_n o 1 dX6_weightOfPart_46 rfl rfl ?_
      refine K_i (callV' (As := [.int x1]) (rest := [.int r42, .int x3]) o dX6_weightOfPart_47 lk_X6_92 rfl ha0 rfl rfl rfl rfl (Nat.le_of_ble_eq_true rfl)) (c_X5_get g l h a0 x1 ha0) (fun r47 => ?_)
      refine R_isub o dX6_weightOfPart_50 ?_
      refine R_sipush (v := 251) o dX6_weightOfPart_51 (by decide) ?_
      refine R_iadd o dX6_weightOfPart_54 ?_
      refine R_imul o dX6_weightOfPart_55 ?_
      refine R_sipush (v := 251) o dX6_weightOfPart_56 (by decide) ?_
      refine R_irem_c o dX6_weightOfPart_59 (by decide) ?_
      refine R_nmI (fun v60 => ?_)
      refine R_istore_n (lv2 := [(0, rA g a0), (1, .int x1), (2, .int v37), (3, .int v60), (4, .int x4)]) o dX6_weightOfPart_60 rfl (by decide) rfl ?_
      refine R_iinc (v := (x4 + 2)) (lv2 := [(0, rA g a0), (1, .int x1), (2, .int v37), (3, .int v60), (4, .int (x4 + 2))]) o 4 dX6_weightOfPart_61 rfl rfl (by decide) rfl ?_
      refine R_goto o 7 dX6_weightOfPart_64 (by decide) ?_
      exact T_some (fun p => p)
  · refine R_drop (lv2 := [(2, .int x2), (3, .int x3)]) o [2, 3] rfl ?_
    exact T_some (fun p => p)
noncomputable def f_X6_weightOfPart_L7 (h : MH) (a0 : Nat) (x1 : Int32) (x2 : Int32) (x3 : Int32) (x4 : Int32) : Option (Int32 × Int32) :=
  lpo (fun s : Int32 × Int32 × Int32 => f_X6_weightOfPart_B7 h a0 x1 s.1 s.2.1 s.2.2) (x2, x3, x4)
theorem t_X6_weightOfPart_L7 {g : Gx} {l : Launch} {V : VT} {Rt : Option Value → MH → Prop} (o : Ok g l RX6 cX6_weightOfPart 5 2 42 0 V) (rr : ORi cX6_weightOfPart V Rt) (h : MH) (a0 : Nat) (x1 : Int32) (x2 : Int32) (x3 : Int32) (x4 : Int32) (ha0 : shp a0 = (5, 0)) : T (fun b => V 67 [(2, .int b.1), (3, .int b.2)] [] h) (f_X6_weightOfPart_L7 h a0 x1 x2 x3 x4) (V 7 [(0, rA g a0), (1, .int x1), (2, .int x2), (3, .int x3), (4, .int x4)] [] h) := T_loop (head := fun s : Int32 × Int32 × Int32 => V 7 [(0, rA g a0), (1, .int x1), (2, .int s.1), (3, .int s.2.1), (4, .int s.2.2)] [] h) (fun s => t_X6_weightOfPart_B7 o rr h a0 x1 s.1 s.2.1 s.2.2 ha0) (x2, x3, x4)
noncomputable def f_X6_weightOfPart (h : MH) (a0 : Nat) (x1 : Int32) : Option Int32 :=
  Option.bind (f_X6_weightOfPart_L7 h a0 x1 1 1 0) (fun b7 => Option.bind (f_X6_powerOf b7.2 249) (fun r72 => some (irm (b7.1 * r72) 251)))
set_option maxRecDepth 100000 in
set_option maxHeartbeats 4000000 in
theorem b_X6_weightOfPart {g : Gx} {l : Launch} {V : VT} {Rt : Option Value → MH → Prop} (o : Ok g l RX6 cX6_weightOfPart 5 2 42 0 V) (rr : ORi cX6_weightOfPart V Rt) (h : MH) (a0 : Nat) (x1 : Int32) (ha0 : shp a0 = (5, 0)) : T (fun r => Rt (some (.int r)) h) (f_X6_weightOfPart h a0 x1) (V 0 [(0, rA g a0), (1, .int x1)] [] h) := by
  unfold f_X6_weightOfPart
  refine R_iconst (v := 1) o dX6_weightOfPart_0 (by decide) ?_
  refine R_istore_n (lv2 := [(0, rA g a0), (1, .int x1), (2, .int 1)]) o dX6_weightOfPart_1 rfl (by decide) rfl ?_
  refine R_iconst (v := 1) o dX6_weightOfPart_2 (by decide) ?_
  refine R_istore_n (lv2 := [(0, rA g a0), (1, .int x1), (2, .int 1), (3, .int 1)]) o dX6_weightOfPart_3 rfl (by decide) rfl ?_
  refine R_iconst (v := 0) o dX6_weightOfPart_4 (by decide) ?_
  refine R_istore (lv2 := [(0, rA g a0), (1, .int x1), (2, .int 1), (3, .int 1), (4, .int 0)]) o dX6_weightOfPart_5 (by decide) rfl ?_
  refine T_bind (t_X6_weightOfPart_L7 o rr h a0 x1 1 1 0 ha0) (fun b7 => ?_)
  refine R_iload_n o 0 dX6_weightOfPart_67 rfl rfl ?_
  refine R_iload_n o 1 dX6_weightOfPart_68 rfl rfl ?_
  refine R_sipush (v := 249) o dX6_weightOfPart_69 (by decide) ?_
  refine K_i (callS' (av := [.int b7.2, .int 249]) (rest := [.int b7.1]) o dX6_weightOfPart_72 lk_X6_244 rfl rfl rfl (Nat.le_of_ble_eq_true rfl)) (c_X6_powerOf g l h b7.2 249) (fun r72 => ?_)
  refine R_imul o dX6_weightOfPart_75 ?_
  refine R_sipush (v := 251) o dX6_weightOfPart_76 (by decide) ?_
  refine R_irem_c o dX6_weightOfPart_79 (by decide) ?_
  exact T_some (fun p => rr _ _ _ _ dX6_weightOfPart_80 p)
theorem c_X6_weightOfPart (g : Gx) (l : Launch) (h : MH) (a0 : Nat) (x1 : Int32) (ha0 : shp a0 = (5, 0)) (r : Int32) (e : f_X6_weightOfPart h a0 x1 = some r) : Ctr g l yX6_weightOfPart cX6_weightOfPart 5 (some .int) 2 42 0 [rA g a0, .int x1] h (some (.int r)) h := mkCi (plainFor_of_name (by decide)) (Nat.le_of_ble_eq_true rfl) (fun V Rt o rr p => b_X6_weightOfPart o rr h a0 x1 ha0 r e p)
/-! X6_join -/
noncomputable def f_X6_join_B80 (h : MH) (a2 : Nat) (x3 : Int32) (x4 : Int32) : Option ((Int32 × Int32) ⊕ (Int32)) :=
  (if x4 < (h.1 a2 1) then Option.bind (f_X5_get h a2 (x4 + 1)) (fun r95 => Option.bind (f_X6_weightOfPart h a2 x4) (fun r101 => nm (irm (x3 + (r95 * r101)) 251) (fun v110 => some (.inl (v110, (x4 + 2)))))) else some (.inr x3))
set_option maxRecDepth 100000 in
set_option maxHeartbeats 4000000 in
theorem t_X6_join_B80 {g : Gx} {l : Launch} {V : VT} {Rt : Option Value → MH → Prop} (o : Ok g l RX6 cX6_join 5 3 66 0 V) (rr : ORi cX6_join V Rt) (h : MH) (a2 : Nat) (x3 : Int32) (x4 : Int32) (ha2 : shp a2 = (5, 0)) : T (Sum.elim (fun s => V 80 [(2, rA g a2), (3, .int s.1), (4, .int s.2)] [] h) (fun b => V 117 [(3, .int b)] [] h)) (f_X6_join_B80  h a2 x3 x4) (V 80 [(2, rA g a2), (3, .int x3), (4, .int x4)] [] h) := by
  unfold f_X6_join_B80
  refine R_iload o 2 dX6_join_80 rfl ?_
  refine R_aload_n o 0 dX6_join_82 rfl rfl ?_
  refine R_getI o dX6_join_83 fl_X6_114 ha2 (by decide) rfl ?_
  refine R_icmp_ge o 117 dX6_join_86 (by decide) ?_ ?_
  · refine R_iload_n o 1 dX6_join_89 rfl rfl ?_
    refine R_aload_n o 0 dX6_join_90 rfl rfl ?_
    refine R_iload o 2 dX6_join_91 rfl ?_
    refine R_iconst (v := 1) o dX6_join_93 (by decide) ?_
    refine R_iadd o dX6_join_94 ?_
    refine K_i (callV' (As := [.int (x4 + 1)]) (rest := [.int x3]) o dX6_join_95 lk_X6_92 rfl ha2 rfl rfl rfl rfl (Nat.le_of_ble_eq_true rfl)) (c_X5_get g l h a2 (x4 + 1) ha2) (fun r95 => ?_)
    refine R_aload_n o 0 dX6_join_98 rfl rfl ?_
    refine R_iload o 2 dX6_join_99 rfl ?_
    refine K_i (callS' (av := [rA g a2, .int x4]) (rest := [.int r95, .int x3]) o dX6_join_101 lk_X6_251 rfl rfl rfl (Nat.le_of_ble_eq_true rfl)) (c_X6_weightOfPart g l h a2 x4 ha2) (fun r101 => ?_)
    refine R_imul o dX6_join_104 ?_
    refine R_iadd o dX6_join_105 ?_
    refine R_sipush (v := 251) o dX6_join_106 (by decide) ?_
    refine R_irem_c o dX6_join_109 (by decide) ?_
    refine R_nmI (fun v110 => ?_)
    refine R_istore_n (lv2 := [(2, rA g a2), (3, .int v110), (4, .int x4)]) o dX6_join_110 rfl (by decide) rfl ?_
    refine R_iinc (v := (x4 + 2)) (lv2 := [(2, rA g a2), (3, .int v110), (4, .int (x4 + 2))]) o 2 dX6_join_111 rfl rfl (by decide) rfl ?_
    refine R_goto o 80 dX6_join_114 (by decide) ?_
    exact T_some (fun p => p)
  · refine R_drop (lv2 := [(3, .int x3)]) o [1] rfl ?_
    exact T_some (fun p => p)
noncomputable def f_X6_join_L80 (h : MH) (a2 : Nat) (x3 : Int32) (x4 : Int32) : Option (Int32) :=
  lpo (fun s : Int32 × Int32 => f_X6_join_B80 h a2 s.1 s.2) (x3, x4)
theorem t_X6_join_L80 {g : Gx} {l : Launch} {V : VT} {Rt : Option Value → MH → Prop} (o : Ok g l RX6 cX6_join 5 3 66 0 V) (rr : ORi cX6_join V Rt) (h : MH) (a2 : Nat) (x3 : Int32) (x4 : Int32) (ha2 : shp a2 = (5, 0)) : T (fun b => V 117 [(3, .int b)] [] h) (f_X6_join_L80 h a2 x3 x4) (V 80 [(2, rA g a2), (3, .int x3), (4, .int x4)] [] h) := T_loop (head := fun s : Int32 × Int32 => V 80 [(2, rA g a2), (3, .int s.1), (4, .int s.2)] [] h) (fun s => t_X6_join_B80 o rr h a2 s.1 s.2 ha2) (x3, x4)
noncomputable def f_X6_join (h : MH) (x1 : Int32) : Option (Int32 × MH) :=
  Option.bind (f_X6_isRow h x1) (fun r2 => (if r2 = true then gd (ix x1 6) (Option.bind (f_X5_isMissing h (rf 1 x1.toNatClampNeg)) (fun r18 => (if r18 = true then bnd2 (f_X6_found h 1) (fun r26 h26 => some (r26, h26)) else (if (h.1 (rf 1 x1.toNatClampNeg) 1) < 2 then bnd2 (f_X6_found h 5) (fun r58 h58 => some (r58, h58)) else (if 10 < (h.1 (rf 1 x1.toNatClampNeg) 1) then bnd2 (f_X6_found h 5) (fun r58 h58 => some (r58, h58)) else (if (irm (h.1 (rf 1 x1.toNatClampNeg) 1) 2) = 0 then Option.bind (f_X6_areParts h (rf 1 x1.toNatClampNeg)) (fun r63 => (if r63 = true then Option.bind (f_X6_join_L80 h (rf 1 x1.toNatClampNeg) 0 0) (fun b80 => some (b80, h)) else bnd2 (f_X6_found h 3) (fun r71 h71 => some (r71, h71)))) else bnd2 (f_X6_found h 5) (fun r58 h58 => some (r58, h58)))))))) else some ((-1), h)))
set_option maxRecDepth 100000 in
set_option maxHeartbeats 4000000 in
theorem b_X6_join {g : Gx} {l : Launch} {V : VT} {Rt : Option Value → MH → Prop} (o : Ok g l RX6 cX6_join 5 3 66 0 V) (rr : ORi cX6_join V Rt) (h : MH) (x1 : Int32) : T (fun r => Rt (some (.int r.1)) r.2) (f_X6_join h x1) (V 0 [(0, rA g 0), (1, .int x1)] [] h) := by
  unfold f_X6_join
  refine R_aload_n o 0 dX6_join_0 rfl rfl ?_
  refine R_iload_n o 1 dX6_join_1 rfl rfl ?_
  refine K_z (callV' (As := [.int x1]) (rest := []) o dX6_join_2 lk_X6_73 rfl sh_0 rfl rfl rfl rfl (Nat.le_of_ble_eq_true rfl)) (c_X6_isRow g l h x1) (fun r2 => ?_)
  refine R_bif_ne o 10 dX6_join_5 (by decide) ?_ ?_
  · refine R_aload_n o 0 dX6_join_10 rfl rfl ?_
    refine R_getR (a2 := 1) o dX6_join_11 fl_X6_11 sh_0 (by decide) rfl rf_0_0 ?_
    refine R_iload_n o 1 dX6_join_14 rfl rfl ?_
    refine R_aald o dX6_join_15 sh_1 (Or.inl rfl) (fun q15 => ?_)
    refine R_astore_n (lv2 := [(0, rA g 0), (1, .int x1), (2, rA g (rf 1 x1.toNatClampNeg))]) o dX6_join_16 rfl (by decide) rfl ?_
    refine R_aload_n o 2 dX6_join_17 rfl rfl ?_
    refine K_z (callV' (As := []) (rest := []) o dX6_join_18 lk_X6_85 rfl (sh_el13 sh_1 q15) rfl rfl rfl rfl (Nat.le_of_ble_eq_true rfl)) (c_X5_isMissing g l h (rf 1 x1.toNatClampNeg) (sh_el13 sh_1 q15)) (fun r18 => ?_)
    refine R_bif_eq o 30 dX6_join_21 (by decide) ?_ ?_
    · refine R_aload_n o 0 dX6_join_24 rfl rfl ?_
      refine R_iconst (v := 1) o dX6_join_25 (by decide) ?_
      refine K_ih (callV' (As := [.int 1]) (rest := []) o dX6_join_26 lk_X6_77 rfl sh_0 rfl rfl rfl rfl (Nat.le_of_ble_eq_true rfl)) (c_X6_found g l h 1) (fun r26 h26 => ?_)
      exact T_some (fun p => rr _ _ _ _ dX6_join_29 p)
    · refine R_aload_n o 2 dX6_join_30 rfl rfl ?_
      refine R_getI o dX6_join_31 fl_X6_114 (sh_el13 sh_1 q15) (by decide) rfl ?_
      refine R_iconst (v := 2) o dX6_join_34 (by decide) ?_
      refine R_icmp_lt o 56 dX6_join_35 (by decide) ?_ ?_
      · refine R_aload_n o 0 dX6_join_56 rfl rfl ?_
        refine R_iconst (v := 5) o dX6_join_57 (by decide) ?_
        refine K_ih (callV' (As := [.int 5]) (rest := []) o dX6_join_58 lk_X6_77 rfl sh_0 rfl rfl rfl rfl (Nat.le_of_ble_eq_true rfl)) (c_X6_found g l h 5) (fun r58 h58 => ?_)
        exact T_some (fun p => rr _ _ _ _ dX6_join_61 p)
      · refine R_aload_n o 2 dX6_join_38 rfl rfl ?_
        refine R_getI o dX6_join_39 fl_X6_114 (sh_el13 sh_1 q15) (by decide) rfl ?_
        refine R_bipush (v := 10) o dX6_join_42 (by decide) ?_
        refine R_icmp_gt o 56 dX6_join_44 (by decide) ?_ ?_
        · refine R_aload_n o 0 dX6_join_56 rfl rfl ?_
          refine R_iconst (v := 5) o dX6_join_57 (by decide) ?_
          refine K_ih (callV' (As := [.int 5]) (rest := []) o dX6_join_58 lk_X6_77 rfl sh_0 rfl rfl rfl rfl (Nat.le_of_ble_eq_true rfl)) (c_X6_found g l h 5) (fun r58 h58 => ?_)
          exact T_some (fun p => rr _ _ _ _ dX6_join_61 p)
        · refine R_aload_n o 2 dX6_join_47 rfl rfl ?_
          refine R_getI o dX6_join_48 fl_X6_114 (sh_el13 sh_1 q15) (by decide) rfl ?_
          refine R_iconst (v := 2) o dX6_join_51 (by decide) ?_
          refine R_irem_c o dX6_join_52 (by decide) ?_
          refine R_if_eq o 62 dX6_join_53 (by decide) ?_ ?_
          · refine R_aload_n o 2 dX6_join_62 rfl rfl ?_
            refine K_z (callS' (av := [rA g (rf 1 x1.toNatClampNeg)]) (rest := []) o dX6_join_63 lk_X6_247 rfl rfl rfl (Nat.le_of_ble_eq_true rfl)) (c_X6_areParts g l h (rf 1 x1.toNatClampNeg) (sh_el13 sh_1 q15)) (fun r63 => ?_)
            refine R_bif_ne o 75 dX6_join_66 (by decide) ?_ ?_
            · refine R_iconst (v := 0) o dX6_join_75 (by decide) ?_
              refine R_istore_n (lv2 := [(0, rA g 0), (1, .int x1), (2, rA g (rf 1 x1.toNatClampNeg)), (3, .int 0)]) o dX6_join_76 rfl (by decide) rfl ?_
              refine R_iconst (v := 0) o dX6_join_77 (by decide) ?_
              refine R_istore (lv2 := [(0, rA g 0), (1, .int x1), (2, rA g (rf 1 x1.toNatClampNeg)), (3, .int 0), (4, .int 0)]) o dX6_join_78 (by decide) rfl ?_
              refine R_drop (lv2 := [(2, rA g (rf 1 x1.toNatClampNeg)), (3, .int 0), (4, .int 0)]) o [2, 3, 4] rfl ?_
              refine T_bind (t_X6_join_L80 o rr h (rf 1 x1.toNatClampNeg) 0 0 (sh_el13 sh_1 q15)) (fun b80 => ?_)
              refine R_iload_n o 0 dX6_join_117 rfl rfl ?_
              exact T_some (fun p => rr _ _ _ _ dX6_join_118 p)
            · refine R_aload_n o 0 dX6_join_69 rfl rfl ?_
              refine R_iconst (v := 3) o dX6_join_70 (by decide) ?_
              refine K_ih (callV' (As := [.int 3]) (rest := []) o dX6_join_71 lk_X6_77 rfl sh_0 rfl rfl rfl rfl (Nat.le_of_ble_eq_true rfl)) (c_X6_found g l h 3) (fun r71 h71 => ?_)
              exact T_some (fun p => rr _ _ _ _ dX6_join_74 p)
          · refine R_aload_n o 0 dX6_join_56 rfl rfl ?_
            refine R_iconst (v := 5) o dX6_join_57 (by decide) ?_
            refine K_ih (callV' (As := [.int 5]) (rest := []) o dX6_join_58 lk_X6_77 rfl sh_0 rfl rfl rfl rfl (Nat.le_of_ble_eq_true rfl)) (c_X6_found g l h 5) (fun r58 h58 => ?_)
            exact T_some (fun p => rr _ _ _ _ dX6_join_61 p)
  · refine R_iconst (v := (-1)) o dX6_join_8 (by decide) ?_
    exact T_some (fun p => rr _ _ _ _ dX6_join_9 p)
theorem c_X6_join (g : Gx) (l : Launch) (h : MH) (x1 : Int32) (r : (Int32 × MH)) (e : f_X6_join h x1 = some r) : Ctr g l yX6_join cX6_join 5 (some .int) 3 66 0 [rA g 0, .int x1] h (some (.int r.1)) r.2 := mkCi (plainFor_of_name (by decide)) (Nat.le_of_ble_eq_true rfl) (fun V Rt o rr p => b_X6_join o rr h x1  r e p)
/-! X6_spread -/
noncomputable def f_X6_spread_B72 (h : MH) (x3 : Int32) (a4 : Nat) (x5 : Int32) (x6 : Int32) : Option ((Int32 × Int32 × MH) ⊕ (Int32 × MH)) :=
  (if x6 < (h.1 a4 3) then Option.bind (f_X1_dotAt h a4 x6) (fun r86 => Option.bind (f_X4_signAt h x6) (fun r96 => nm (r86 + (x3 * r96)) (fun v101 => Option.bind (f_J9_min_7cf53 255 v101) (fun r109 => Option.bind (f_J9_max_7cf53 0 r109) (fun r112 => (if r112 = v101 then Option.bind (f_X1_setDot h a4 x6 r112) (fun h133 => some (.inl (x5, (x6 + 1), h133))) else Option.bind (f_X1_setDot h a4 x6 r112) (fun h133 => some (.inl ((x5 + 1), (x6 + 1), h133))))))))) else some (.inr (x5, h)))
set_option maxRecDepth 100000 in
set_option maxHeartbeats 4000000 in
theorem t_X6_spread_B72 {g : Gx} {l : Launch} {V : VT} {Rt : Option Value → MH → Prop} (o : Ok g l RX6 cX6_spread 9 2 43 0 V) (rr : ORi cX6_spread V Rt) (h : MH) (x3 : Int32) (a4 : Nat) (x5 : Int32) (x6 : Int32) (ha4 : shp a4 = (1, 0)) : T (Sum.elim (fun s => V 72 [(0, rA g 0), (3, .int x3), (4, rA g a4), (5, .int s.1), (6, .int s.2.1)] [] s.2.2) (fun b => V 142 [(5, .int b.1)] [] b.2)) (f_X6_spread_B72  h x3 a4 x5 x6) (V 72 [(0, rA g 0), (3, .int x3), (4, rA g a4), (5, .int x5), (6, .int x6)] [] h) := by
  unfold f_X6_spread_B72
  refine R_iload o 4 dX6_spread_72 rfl ?_
  refine R_aload o 2 dX6_spread_74 rfl ?_
  refine R_getI o dX6_spread_76 fl_X6_151 ha4 (by decide) rfl ?_
  refine R_icmp_ge o 142 dX6_spread_79 (by decide) ?_ ?_
  · refine R_aload o 2 dX6_spread_82 rfl ?_
    refine R_iload o 4 dX6_spread_84 rfl ?_
    refine K_i (callV' (As := [.int x6]) (rest := []) o dX6_spread_86 lk_X6_152 rfl ha4 rfl rfl rfl rfl (Nat.le_of_ble_eq_true rfl)) (c_X1_dotAt g l h a4 x6 ha4) (fun r86 => ?_)
    refine R_iload_n o 1 dX6_spread_89 rfl rfl ?_
    refine R_aload_n o 0 dX6_spread_90 rfl rfl ?_
    refine R_getR (a2 := 14) o dX6_spread_91 fl_X6_50 sh_0 (by decide) rfl rf_0_7 ?_
    refine R_iload o 4 dX6_spread_94 rfl ?_
    refine K_i (callV' (As := [.int x6]) (rest := [.int x3, .int r86]) o dX6_spread_96 lk_X6_259 rfl sh_14 rfl rfl rfl rfl (Nat.le_of_ble_eq_true rfl)) (c_X4_signAt g l h x6) (fun r96 => ?_)
    refine R_imul o dX6_spread_99 ?_
    refine R_iadd o dX6_spread_100 ?_
    refine R_nmI (fun v101 => ?_)
    refine R_istore (lv2 := [(0, rA g 0), (3, .int x3), (4, rA g a4), (5, .int x5), (6, .int x6), (7, .int v101)]) o dX6_spread_101 (by decide) rfl ?_
    refine R_iconst (v := 0) o dX6_spread_103 (by decide) ?_
    refine R_sipush (v := 255) o dX6_spread_104 (by decide) ?_
    refine R_iload o 5 dX6_spread_107 rfl ?_
    refine K_i (callS' (av := [.int 255, .int v101]) (rest := [.int 0]) o dX6_spread_109 lk_X6_262 rfl rfl rfl (Nat.le_of_ble_eq_true rfl)) (c_J9_min_7cf53 g l h 255 v101) (fun r109 => ?_)
    refine K_i (callS' (av := [.int 0, .int r109]) (rest := []) o dX6_spread_112 lk_X6_267 rfl rfl rfl (Nat.le_of_ble_eq_true rfl)) (c_J9_max_7cf53 g l h 0 r109) (fun r112 => ?_)
    refine R_istore (lv2 := [(0, rA g 0), (3, .int x3), (4, rA g a4), (5, .int x5), (6, .int x6), (7, .int v101), (8, .int r112)]) o dX6_spread_115 (by decide) rfl ?_
    refine R_iload o 6 dX6_spread_117 rfl ?_
    refine R_iload o 5 dX6_spread_119 rfl ?_
    refine R_icmp_eq o 127 dX6_spread_121 (by decide) ?_ ?_
    · refine R_aload o 2 dX6_spread_127 rfl ?_
      refine R_iload o 4 dX6_spread_129 rfl ?_
      refine R_iload o 6 dX6_spread_131 rfl ?_
      refine K_vh (callV' (As := [.int x6, .int r112]) (rest := []) o dX6_spread_133 lk_X6_270 rfl ha4 rfl rfl rfl rfl (Nat.le_of_ble_eq_true rfl)) (c_X1_setDot g l h a4 x6 r112 ha4) (fun h133 => ?_)
      refine R_iinc (v := (x6 + 1)) (lv2 := [(0, rA g 0), (3, .int x3), (4, rA g a4), (5, .int x5), (6, .int (x6 + 1)), (7, .int v101), (8, .int r112)]) o 4 dX6_spread_136 rfl rfl (by decide) rfl ?_
      refine R_goto o 72 dX6_spread_139 (by decide) ?_
      refine R_drop (lv2 := [(0, rA g 0), (3, .int x3), (4, rA g a4), (5, .int x5), (6, .int (x6 + 1))]) o [0, 1, 2, 3, 4] rfl ?_
      exact T_some (fun p => p)
    · refine R_iinc (v := (x5 + 1)) (lv2 := [(0, rA g 0), (3, .int x3), (4, rA g a4), (5, .int (x5 + 1)), (6, .int x6), (7, .int v101), (8, .int r112)]) o 3 dX6_spread_124 rfl rfl (by decide) rfl ?_
      refine R_aload o 2 dX6_spread_127 rfl ?_
      refine R_iload o 4 dX6_spread_129 rfl ?_
      refine R_iload o 6 dX6_spread_131 rfl ?_
      refine K_vh (callV' (As := [.int x6, .int r112]) (rest := []) o dX6_spread_133 lk_X6_270 rfl ha4 rfl rfl rfl rfl (Nat.le_of_ble_eq_true rfl)) (c_X1_setDot g l h a4 x6 r112 ha4) (fun h133 => ?_)
      refine R_iinc (v := (x6 + 1)) (lv2 := [(0, rA g 0), (3, .int x3), (4, rA g a4), (5, .int (x5 + 1)), (6, .int (x6 + 1)), (7, .int v101), (8, .int r112)]) o 4 dX6_spread_136 rfl rfl (by decide) rfl ?_
      refine R_goto o 72 dX6_spread_139 (by decide) ?_
      refine R_drop (lv2 := [(0, rA g 0), (3, .int x3), (4, rA g a4), (5, .int (x5 + 1)), (6, .int (x6 + 1))]) o [0, 1, 2, 3, 4] rfl ?_
      exact T_some (fun p => p)
  · refine R_drop (lv2 := [(5, .int x5)]) o [3] rfl ?_
    exact T_some (fun p => p)
noncomputable def f_X6_spread_L72 (h : MH) (x3 : Int32) (a4 : Nat) (x5 : Int32) (x6 : Int32) : Option (Int32 × MH) :=
  lpo (fun s : Int32 × Int32 × MH => f_X6_spread_B72 s.2.2 x3 a4 s.1 s.2.1) (x5, x6, h)
theorem t_X6_spread_L72 {g : Gx} {l : Launch} {V : VT} {Rt : Option Value → MH → Prop} (o : Ok g l RX6 cX6_spread 9 2 43 0 V) (rr : ORi cX6_spread V Rt) (h : MH) (x3 : Int32) (a4 : Nat) (x5 : Int32) (x6 : Int32) (ha4 : shp a4 = (1, 0)) : T (fun b => V 142 [(5, .int b.1)] [] b.2) (f_X6_spread_L72 h x3 a4 x5 x6) (V 72 [(0, rA g 0), (3, .int x3), (4, rA g a4), (5, .int x5), (6, .int x6)] [] h) := T_loop (head := fun s : Int32 × Int32 × MH => V 72 [(0, rA g 0), (3, .int x3), (4, rA g a4), (5, .int s.1), (6, .int s.2.1)] [] s.2.2) (fun s => t_X6_spread_B72 o rr s.2.2 x3 a4 s.1 s.2.1 ha4) (x5, x6, h)
noncomputable def f_X6_spread (h : MH) (x1 : Int32) (x2 : Int32) (x3 : Int32) : Option (Int32 × MH) :=
  Option.bind (f_X6_isCover h x1) (fun r2 => (if r2 = true then (if x3 < 1 then some ((-1), h) else (if 20 < x3 then some ((-1), h) else gd (ix x1 6) (Option.bind (f_X1_isMissing h (rf 3 x1.toNatClampNeg)) (fun r31 => (if r31 = true then bnd2 (f_X6_found h 1) (fun r39 h39 => some (r39, h39)) else (if 2 < (h.1 (rf 3 x1.toNatClampNeg) 2) then bnd2 (f_X6_found h 3) (fun r54 h54 => some (r54, h54)) else Option.bind (f_X4_signBy h x2) (fun h63 => Option.bind (f_X6_spread_L72 h63 x3 (rf 3 x1.toNatClampNeg) 0 0) (fun b72 => some (b72.1, b72.2))))))))) else some ((-1), h)))
set_option maxRecDepth 100000 in
set_option maxHeartbeats 4000000 in
theorem b_X6_spread {g : Gx} {l : Launch} {V : VT} {Rt : Option Value → MH → Prop} (o : Ok g l RX6 cX6_spread 9 2 43 0 V) (rr : ORi cX6_spread V Rt) (h : MH) (x1 : Int32) (x2 : Int32) (x3 : Int32) : T (fun r => Rt (some (.int r.1)) r.2) (f_X6_spread h x1 x2 x3) (V 0 [(0, rA g 0), (1, .int x1), (2, .int x2), (3, .int x3)] [] h) := by
  unfold f_X6_spread
  refine R_aload_n o 0 dX6_spread_0 rfl rfl ?_
  refine R_iload_n o 1 dX6_spread_1 rfl rfl ?_
  refine K_z (callV' (As := [.int x1]) (rest := []) o dX6_spread_2 lk_X6_124 rfl sh_0 rfl rfl rfl rfl (Nat.le_of_ble_eq_true rfl)) (c_X6_isCover g l h x1) (fun r2 => ?_)
  refine R_bif_eq o 19 dX6_spread_5 (by decide) ?_ ?_
  · refine R_iload_n o 3 dX6_spread_8 rfl rfl ?_
    refine R_iconst (v := 1) o dX6_spread_9 (by decide) ?_
    refine R_icmp_lt o 19 dX6_spread_10 (by decide) ?_ ?_
    · refine R_iconst (v := (-1)) o dX6_spread_19 (by decide) ?_
      exact T_some (fun p => rr _ _ _ _ dX6_spread_20 p)
    · refine R_iload_n o 3 dX6_spread_13 rfl rfl ?_
      refine R_bipush (v := 20) o dX6_spread_14 (by decide) ?_
      refine R_icmp_le o 21 dX6_spread_16 (by decide) ?_ ?_
      · refine R_iconst (v := (-1)) o dX6_spread_19 (by decide) ?_
        exact T_some (fun p => rr _ _ _ _ dX6_spread_20 p)
      · refine R_aload_n o 0 dX6_spread_21 rfl rfl ?_
        refine R_getR (a2 := 3) o dX6_spread_22 fl_X6_20 sh_0 (by decide) rfl rf_0_2 ?_
        refine R_iload_n o 1 dX6_spread_25 rfl rfl ?_
        refine R_aald o dX6_spread_26 sh_3 (Or.inr (Or.inl rfl)) (fun q26 => ?_)
        refine R_astore (lv2 := [(0, rA g 0), (1, .int x1), (2, .int x2), (3, .int x3), (4, rA g (rf 3 x1.toNatClampNeg))]) o dX6_spread_27 (by decide) rfl ?_
        refine R_aload o 4 dX6_spread_29 rfl ?_
        refine K_z (callV' (As := []) (rest := []) o dX6_spread_31 lk_X6_142 rfl (sh_el14 sh_3 q26) rfl rfl rfl rfl (Nat.le_of_ble_eq_true rfl)) (c_X1_isMissing g l h (rf 3 x1.toNatClampNeg) (sh_el14 sh_3 q26)) (fun r31 => ?_)
        refine R_bif_eq o 43 dX6_spread_34 (by decide) ?_ ?_
        · refine R_aload_n o 0 dX6_spread_37 rfl rfl ?_
          refine R_iconst (v := 1) o dX6_spread_38 (by decide) ?_
          refine K_ih (callV' (As := [.int 1]) (rest := []) o dX6_spread_39 lk_X6_77 rfl sh_0 rfl rfl rfl rfl (Nat.le_of_ble_eq_true rfl)) (c_X6_found g l h 1) (fun r39 h39 => ?_)
          exact T_some (fun p => rr _ _ _ _ dX6_spread_42 p)
        · refine R_aload o 4 dX6_spread_43 rfl ?_
          refine R_getI o dX6_spread_45 fl_X6_160 (sh_el14 sh_3 q26) (by decide) rfl ?_
          refine R_iconst (v := 2) o dX6_spread_48 (by decide) ?_
          refine R_icmp_le o 58 dX6_spread_49 (by decide) ?_ ?_
          · refine R_aload_n o 0 dX6_spread_52 rfl rfl ?_
            refine R_iconst (v := 3) o dX6_spread_53 (by decide) ?_
            refine K_ih (callV' (As := [.int 3]) (rest := []) o dX6_spread_54 lk_X6_77 rfl sh_0 rfl rfl rfl rfl (Nat.le_of_ble_eq_true rfl)) (c_X6_found g l h 3) (fun r54 h54 => ?_)
            exact T_some (fun p => rr _ _ _ _ dX6_spread_57 p)
          · refine R_aload_n o 0 dX6_spread_58 rfl rfl ?_
            refine R_getR (a2 := 14) o dX6_spread_59 fl_X6_50 sh_0 (by decide) rfl rf_0_7 ?_
            refine R_iload_n o 2 dX6_spread_62 rfl rfl ?_
            refine K_vh (callV' (As := [.int x2]) (rest := []) o dX6_spread_63 lk_X6_255 rfl sh_14 rfl rfl rfl rfl (Nat.le_of_ble_eq_true rfl)) (c_X4_signBy g l h x2) (fun h63 => ?_)
            refine R_iconst (v := 0) o dX6_spread_66 (by decide) ?_
            refine R_istore (lv2 := [(0, rA g 0), (1, .int x1), (2, .int x2), (3, .int x3), (4, rA g (rf 3 x1.toNatClampNeg)), (5, .int 0)]) o dX6_spread_67 (by decide) rfl ?_
            refine R_iconst (v := 0) o dX6_spread_69 (by decide) ?_
            refine R_istore (lv2 := [(0, rA g 0), (1, .int x1), (2, .int x2), (3, .int x3), (4, rA g (rf 3 x1.toNatClampNeg)), (5, .int 0), (6, .int 0)]) o dX6_spread_70 (by decide) rfl ?_
            refine R_drop (lv2 := [(0, rA g 0), (3, .int x3), (4, rA g (rf 3 x1.toNatClampNeg)), (5, .int 0), (6, .int 0)]) o [0, 3, 4, 5, 6] rfl ?_
            refine T_bind (t_X6_spread_L72 o rr h63 x3 (rf 3 x1.toNatClampNeg) 0 0 (sh_el14 sh_3 q26)) (fun b72 => ?_)
            refine R_iload o 0 dX6_spread_142 rfl ?_
            exact T_some (fun p => rr _ _ _ _ dX6_spread_144 p)
  · refine R_iconst (v := (-1)) o dX6_spread_19 (by decide) ?_
    exact T_some (fun p => rr _ _ _ _ dX6_spread_20 p)
theorem c_X6_spread (g : Gx) (l : Launch) (h : MH) (x1 : Int32) (x2 : Int32) (x3 : Int32) (r : (Int32 × MH)) (e : f_X6_spread h x1 x2 x3 = some r) : Ctr g l yX6_spread cX6_spread 9 (some .int) 2 43 0 [rA g 0, .int x1, .int x2, .int x3] h (some (.int r.1)) r.2 := mkCi (plainFor_of_name (by decide)) (Nat.le_of_ble_eq_true rfl) (fun V Rt o rr p => b_X6_spread o rr h x1 x2 x3  r e p)
