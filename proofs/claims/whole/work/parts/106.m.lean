/-! X6_sum -/
noncomputable def f_X6_sum (h : MH) (x1 : Int32) (x2 : Int32) (x3 : Int32) : Option (Int32 × MH) :=
  Option.bind (f_X6_isCover h x1) (fun r2 => (if r2 = true then (if x3 < 0 then some ((-1), h) else (if x3 < 40 then gd (ix x1 6) (Option.bind (f_X1_isMissing h (rf 3 x1.toNatClampNeg)) (fun r26 => (if r26 = true then bnd2 (f_X6_found h 1) (fun r34 h34 => some (r34, h34)) else Option.bind (f_X4_signBy h x2) (fun h43 => gd (ix x1 6) (Option.bind (f_X4_sumOver h43 (rf 3 x1.toNatClampNeg) x3) (fun r58 => nm (uI h43 0 9 r58) (fun h61 => some (1, h61)))))))) else some ((-1), h))) else some ((-1), h)))
set_option maxRecDepth 100000 in
set_option maxHeartbeats 4000000 in
theorem b_X6_sum {g : Gx} {l : Launch} {V : VT} {Rt : Option Value → MH → Prop} (o : Ok g l RX6 cX6_sum 4 3 66 0 V) (rr : ORi cX6_sum V Rt) (h : MH) (x1 : Int32) (x2 : Int32) (x3 : Int32) : T (fun r => Rt (some (.int r.1)) r.2) (f_X6_sum h x1 x2 x3) (V 0 [(0, rA g 0), (1, .int x1), (2, .int x2), (3, .int x3)] [] h) := by
  unfold f_X6_sum
  refine R_aload_n o 0 dX6_sum_0 rfl rfl ?_
  refine R_iload_n o 1 dX6_sum_1 rfl rfl ?_
  refine K_z (callV' (As := [.int x1]) (rest := []) o dX6_sum_2 lk_X6_124 rfl sh_0 rfl rfl rfl rfl (Nat.le_of_ble_eq_true rfl)) (c_X6_isCover g l h x1) (fun r2 => ?_)
  refine R_bif_eq o 18 dX6_sum_5 (by decide) ?_ ?_
  · refine R_iload_n o 3 dX6_sum_8 rfl rfl ?_
    refine R_if_lt o 18 dX6_sum_9 (by decide) ?_ ?_
    · refine R_iconst (v := (-1)) o dX6_sum_18 (by decide) ?_
      exact T_some (fun p => rr _ _ _ _ dX6_sum_19 p)
    · refine R_iload_n o 3 dX6_sum_12 rfl rfl ?_
      refine R_bipush (v := 40) o dX6_sum_13 (by decide) ?_
      refine R_icmp_lt o 20 dX6_sum_15 (by decide) ?_ ?_
      · refine R_aload_n o 0 dX6_sum_20 rfl rfl ?_
        refine R_getR (a2 := 3) o dX6_sum_21 fl_X6_20 sh_0 (by decide) rfl rf_0_2 ?_
        refine R_iload_n o 1 dX6_sum_24 rfl rfl ?_
        refine R_aald o dX6_sum_25 sh_3 (Or.inr (Or.inl rfl)) (fun q25 => ?_)
        refine K_z (callV' (As := []) (rest := []) o dX6_sum_26 lk_X6_142 rfl (sh_el14 sh_3 q25) rfl rfl rfl rfl (Nat.le_of_ble_eq_true rfl)) (c_X1_isMissing g l h (rf 3 x1.toNatClampNeg) (sh_el14 sh_3 q25)) (fun r26 => ?_)
        refine R_bif_eq o 38 dX6_sum_29 (by decide) ?_ ?_
        · refine R_aload_n o 0 dX6_sum_32 rfl rfl ?_
          refine R_iconst (v := 1) o dX6_sum_33 (by decide) ?_
          refine K_ih (callV' (As := [.int 1]) (rest := []) o dX6_sum_34 lk_X6_77 rfl sh_0 rfl rfl rfl rfl (Nat.le_of_ble_eq_true rfl)) (c_X6_found g l h 1) (fun r34 h34 => ?_)
          exact T_some (fun p => rr _ _ _ _ dX6_sum_37 p)
        · refine R_aload_n o 0 dX6_sum_38 rfl rfl ?_
          refine R_getR (a2 := 14) o dX6_sum_39 fl_X6_50 sh_0 (by decide) rfl rf_0_7 ?_
          refine R_iload_n o 2 dX6_sum_42 rfl rfl ?_
          refine K_vh (callV' (As := [.int x2]) (rest := []) o dX6_sum_43 lk_X6_255 rfl sh_14 rfl rfl rfl rfl (Nat.le_of_ble_eq_true rfl)) (c_X4_signBy g l h x2) (fun h43 => ?_)
          refine R_aload_n o 0 dX6_sum_46 rfl rfl ?_
          refine R_aload_n o 0 dX6_sum_47 rfl rfl ?_
          refine R_getR (a2 := 14) o dX6_sum_48 fl_X6_50 sh_0 (by decide) rfl rf_0_7 ?_
          refine R_aload_n o 0 dX6_sum_51 rfl rfl ?_
          refine R_getR (a2 := 3) o dX6_sum_52 fl_X6_20 sh_0 (by decide) rfl rf_0_2 ?_
          refine R_iload_n o 1 dX6_sum_55 rfl rfl ?_
          refine R_aald o dX6_sum_56 sh_3 (Or.inr (Or.inl rfl)) (fun q56 => ?_)
          refine R_iload_n o 3 dX6_sum_57 rfl rfl ?_
          refine K_i (callV' (As := [rA g (rf 3 x1.toNatClampNeg), .int x3]) (rest := [rA g 0]) o dX6_sum_58 lk_X6_273 rfl sh_14 rfl rfl rfl rfl (Nat.le_of_ble_eq_true rfl)) (c_X4_sumOver g l h43 (rf 3 x1.toNatClampNeg) x3 (sh_el14 sh_3 q56)) (fun r58 => ?_)
          refine R_putI o dX6_sum_61 fp_X6_61 sh_0 (by decide) rfl ?_
          refine R_nmH (fun h61 => ?_)
          refine R_iconst (v := 1) o dX6_sum_64 (by decide) ?_
          exact T_some (fun p => rr _ _ _ _ dX6_sum_65 p)
      · refine R_iconst (v := (-1)) o dX6_sum_18 (by decide) ?_
        exact T_some (fun p => rr _ _ _ _ dX6_sum_19 p)
  · refine R_iconst (v := (-1)) o dX6_sum_18 (by decide) ?_
    exact T_some (fun p => rr _ _ _ _ dX6_sum_19 p)
theorem c_X6_sum (g : Gx) (l : Launch) (h : MH) (x1 : Int32) (x2 : Int32) (x3 : Int32) (r : (Int32 × MH)) (e : f_X6_sum h x1 x2 x3 = some r) : Ctr g l yX6_sum cX6_sum 4 (some .int) 3 66 0 [rA g 0, .int x1, .int x2, .int x3] h (some (.int r.1)) r.2 := mkCi (plainFor_of_name (by decide)) (Nat.le_of_ble_eq_true rfl) (fun V Rt o rr p => b_X6_sum o rr h x1 x2 x3  r e p)
/-! X6_lineUp -/
noncomputable def f_X6_lineUp_B55 (h : MH) (a3 : Nat) (x4 : Int32) (x5 : Int32) (x6 : Int32) : Option ((Int32 × Int32 × Int32) ⊕ (Int32 × Int32)) :=
  (if x6 < (h.1 a3 3) then Option.bind (f_X4_sumOver h a3 x6) (fun r71 => (if x5 < r71 then some (.inl (x6, r71, (x6 + 1))) else some (.inl (x4, x5, (x6 + 1))))) else some (.inr (x4, x5)))
set_option maxRecDepth 100000 in
set_option maxHeartbeats 4000000 in
theorem t_X6_lineUp_B55 {g : Gx} {l : Launch} {V : VT} {Rt : Option Value → MH → Prop} (o : Ok g l RX6 cX6_lineUp 8 3 66 0 V) (rr : ORi cX6_lineUp V Rt) (h : MH) (a3 : Nat) (x4 : Int32) (x5 : Int32) (x6 : Int32) (ha3 : shp a3 = (1, 0)) : T (Sum.elim (fun s => V 55 [(0, rA g 0), (3, rA g a3), (4, .int s.1), (5, .int s.2.1), (6, .int s.2.2)] [] h) (fun b => V 97 [(0, rA g 0), (4, .int b.1), (5, .int b.2)] [] h)) (f_X6_lineUp_B55  h a3 x4 x5 x6) (V 55 [(0, rA g 0), (3, rA g a3), (4, .int x4), (5, .int x5), (6, .int x6)] [] h) := by
  unfold f_X6_lineUp_B55
  refine R_iload o 4 dX6_lineUp_55 rfl ?_
  refine R_aload_n o 1 dX6_lineUp_57 rfl rfl ?_
  refine R_getI o dX6_lineUp_58 fl_X6_151 ha3 (by decide) rfl ?_
  refine R_icmp_ge o 97 dX6_lineUp_61 (by decide) ?_ ?_
  · refine R_aload_n o 0 dX6_lineUp_64 rfl rfl ?_
    refine R_getR (a2 := 14) o dX6_lineUp_65 fl_X6_50 sh_0 (by decide) rfl rf_0_7 ?_
    refine R_aload_n o 1 dX6_lineUp_68 rfl rfl ?_
    refine R_iload o 4 dX6_lineUp_69 rfl ?_
    refine K_i (callV' (As := [rA g a3, .int x6]) (rest := []) o dX6_lineUp_71 lk_X6_273 rfl sh_14 rfl rfl rfl rfl (Nat.le_of_ble_eq_true rfl)) (c_X4_sumOver g l h a3 x6 ha3) (fun r71 => ?_)
    refine R_istore (lv2 := [(0, rA g 0), (3, rA g a3), (4, .int x4), (5, .int x5), (6, .int x6), (7, .int r71)]) o dX6_lineUp_74 (by decide) rfl ?_
    refine R_iload o 5 dX6_lineUp_76 rfl ?_
    refine R_iload o 3 dX6_lineUp_78 rfl ?_
    refine R_icmp_le o 91 dX6_lineUp_80 (by decide) ?_ ?_
    · refine R_iload o 4 dX6_lineUp_83 rfl ?_
      refine R_istore (lv2 := [(0, rA g 0), (3, rA g a3), (4, .int x6), (5, .int x5), (6, .int x6), (7, .int r71)]) o dX6_lineUp_85 (by decide) rfl ?_
      refine R_iload o 5 dX6_lineUp_87 rfl ?_
      refine R_istore (lv2 := [(0, rA g 0), (3, rA g a3), (4, .int x6), (5, .int r71), (6, .int x6), (7, .int r71)]) o dX6_lineUp_89 (by decide) rfl ?_
      refine R_iinc (v := (x6 + 1)) (lv2 := [(0, rA g 0), (3, rA g a3), (4, .int x6), (5, .int r71), (6, .int (x6 + 1)), (7, .int r71)]) o 4 dX6_lineUp_91 rfl rfl (by decide) rfl ?_
      refine R_goto o 55 dX6_lineUp_94 (by decide) ?_
      refine R_drop (lv2 := [(0, rA g 0), (3, rA g a3), (4, .int x6), (5, .int r71), (6, .int (x6 + 1))]) o [0, 1, 2, 3, 4] rfl ?_
      exact T_some (fun p => p)
    · refine R_iinc (v := (x6 + 1)) (lv2 := [(0, rA g 0), (3, rA g a3), (4, .int x4), (5, .int x5), (6, .int (x6 + 1)), (7, .int r71)]) o 4 dX6_lineUp_91 rfl rfl (by decide) rfl ?_
      refine R_goto o 55 dX6_lineUp_94 (by decide) ?_
      refine R_drop (lv2 := [(0, rA g 0), (3, rA g a3), (4, .int x4), (5, .int x5), (6, .int (x6 + 1))]) o [0, 1, 2, 3, 4] rfl ?_
      exact T_some (fun p => p)
  · refine R_drop (lv2 := [(0, rA g 0), (4, .int x4), (5, .int x5)]) o [0, 2, 3] rfl ?_
    exact T_some (fun p => p)
noncomputable def f_X6_lineUp_L55 (h : MH) (a3 : Nat) (x4 : Int32) (x5 : Int32) (x6 : Int32) : Option (Int32 × Int32) :=
  lpo (fun s : Int32 × Int32 × Int32 => f_X6_lineUp_B55 h a3 s.1 s.2.1 s.2.2) (x4, x5, x6)
theorem t_X6_lineUp_L55 {g : Gx} {l : Launch} {V : VT} {Rt : Option Value → MH → Prop} (o : Ok g l RX6 cX6_lineUp 8 3 66 0 V) (rr : ORi cX6_lineUp V Rt) (h : MH) (a3 : Nat) (x4 : Int32) (x5 : Int32) (x6 : Int32) (ha3 : shp a3 = (1, 0)) : T (fun b => V 97 [(0, rA g 0), (4, .int b.1), (5, .int b.2)] [] h) (f_X6_lineUp_L55 h a3 x4 x5 x6) (V 55 [(0, rA g 0), (3, rA g a3), (4, .int x4), (5, .int x5), (6, .int x6)] [] h) := T_loop (head := fun s : Int32 × Int32 × Int32 => V 55 [(0, rA g 0), (3, rA g a3), (4, .int s.1), (5, .int s.2.1), (6, .int s.2.2)] [] h) (fun s => t_X6_lineUp_B55 o rr h a3 s.1 s.2.1 s.2.2 ha3) (x4, x5, x6)
noncomputable def f_X6_lineUp (h : MH) (x1 : Int32) (x2 : Int32) : Option (Int32 × MH) :=
  Option.bind (f_X6_isCover h x1) (fun r2 => (if r2 = true then gd (ix x1 6) (Option.bind (f_X1_isMissing h (rf 3 x1.toNatClampNeg)) (fun r18 => (if r18 = true then bnd2 (f_X6_found h 1) (fun r26 h26 => some (r26, h26)) else Option.bind (f_X4_signBy h x2) (fun h35 => Option.bind (f_X4_sumOver h35 (rf 3 x1.toNatClampNeg) 0) (fun r47 => Option.bind (f_X6_lineUp_L55 h35 (rf 3 x1.toNatClampNeg) 0 r47 1) (fun b55 => nm (uI h35 0 9 b55.2) (fun h100 => some (b55.1, h100)))))))) else some ((-1), h)))
set_option maxRecDepth 100000 in
set_option maxHeartbeats 4000000 in
theorem b_X6_lineUp {g : Gx} {l : Launch} {V : VT} {Rt : Option Value → MH → Prop} (o : Ok g l RX6 cX6_lineUp 8 3 66 0 V) (rr : ORi cX6_lineUp V Rt) (h : MH) (x1 : Int32) (x2 : Int32) : T (fun r => Rt (some (.int r.1)) r.2) (f_X6_lineUp h x1 x2) (V 0 [(0, rA g 0), (1, .int x1), (2, .int x2)] [] h) := by
  unfold f_X6_lineUp
  refine R_aload_n o 0 dX6_lineUp_0 rfl rfl ?_
  refine R_iload_n o 1 dX6_lineUp_1 rfl rfl ?_
  refine K_z (callV' (As := [.int x1]) (rest := []) o dX6_lineUp_2 lk_X6_124 rfl sh_0 rfl rfl rfl rfl (Nat.le_of_ble_eq_true rfl)) (c_X6_isCover g l h x1) (fun r2 => ?_)
  refine R_bif_ne o 10 dX6_lineUp_5 (by decide) ?_ ?_
  · refine R_aload_n o 0 dX6_lineUp_10 rfl rfl ?_
    refine R_getR (a2 := 3) o dX6_lineUp_11 fl_X6_20 sh_0 (by decide) rfl rf_0_2 ?_
    refine R_iload_n o 1 dX6_lineUp_14 rfl rfl ?_
    refine R_aald o dX6_lineUp_15 sh_3 (Or.inr (Or.inl rfl)) (fun q15 => ?_)
    refine R_astore_n (lv2 := [(0, rA g 0), (1, .int x1), (2, .int x2), (3, rA g (rf 3 x1.toNatClampNeg))]) o dX6_lineUp_16 rfl (by decide) rfl ?_
    refine R_aload_n o 3 dX6_lineUp_17 rfl rfl ?_
    refine K_z (callV' (As := []) (rest := []) o dX6_lineUp_18 lk_X6_142 rfl (sh_el14 sh_3 q15) rfl rfl rfl rfl (Nat.le_of_ble_eq_true rfl)) (c_X1_isMissing g l h (rf 3 x1.toNatClampNeg) (sh_el14 sh_3 q15)) (fun r18 => ?_)
    refine R_bif_eq o 30 dX6_lineUp_21 (by decide) ?_ ?_
    · refine R_aload_n o 0 dX6_lineUp_24 rfl rfl ?_
      refine R_iconst (v := 1) o dX6_lineUp_25 (by decide) ?_
      refine K_ih (callV' (As := [.int 1]) (rest := []) o dX6_lineUp_26 lk_X6_77 rfl sh_0 rfl rfl rfl rfl (Nat.le_of_ble_eq_true rfl)) (c_X6_found g l h 1) (fun r26 h26 => ?_)
      exact T_some (fun p => rr _ _ _ _ dX6_lineUp_29 p)
    · refine R_aload_n o 0 dX6_lineUp_30 rfl rfl ?_
      refine R_getR (a2 := 14) o dX6_lineUp_31 fl_X6_50 sh_0 (by decide) rfl rf_0_7 ?_
      refine R_iload_n o 2 dX6_lineUp_34 rfl rfl ?_
      refine K_vh (callV' (As := [.int x2]) (rest := []) o dX6_lineUp_35 lk_X6_255 rfl sh_14 rfl rfl rfl rfl (Nat.le_of_ble_eq_true rfl)) (c_X4_signBy g l h x2) (fun h35 => ?_)
      refine R_iconst (v := 0) o dX6_lineUp_38 (by decide) ?_
      refine R_istore (lv2 := [(0, rA g 0), (1, .int x1), (2, .int x2), (3, rA g (rf 3 x1.toNatClampNeg)), (4, .int 0)]) o dX6_lineUp_39 (by decide) rfl ?_
      refine R_aload_n o 0 dX6_lineUp_41 rfl rfl ?_
      refine R_getR (a2 := 14) o dX6_lineUp_42 fl_X6_50 sh_0 (by decide) rfl rf_0_7 ?_
      refine R_aload_n o 3 dX6_lineUp_45 rfl rfl ?_
      refine R_iconst (v := 0) o dX6_lineUp_46 (by decide) ?_
      refine K_i (callV' (As := [rA g (rf 3 x1.toNatClampNeg), .int 0]) (rest := []) o dX6_lineUp_47 lk_X6_273 rfl sh_14 rfl rfl rfl rfl (Nat.le_of_ble_eq_true rfl)) (c_X4_sumOver g l h35 (rf 3 x1.toNatClampNeg) 0 (sh_el14 sh_3 q15)) (fun r47 => ?_)
      refine R_istore (lv2 := [(0, rA g 0), (1, .int x1), (2, .int x2), (3, rA g (rf 3 x1.toNatClampNeg)), (4, .int 0), (5, .int r47)]) o dX6_lineUp_50 (by decide) rfl ?_
      refine R_iconst (v := 1) o dX6_lineUp_52 (by decide) ?_
      refine R_istore (lv2 := [(0, rA g 0), (1, .int x1), (2, .int x2), (3, rA g (rf 3 x1.toNatClampNeg)), (4, .int 0), (5, .int r47), (6, .int 1)]) o dX6_lineUp_53 (by decide) rfl ?_
      refine R_drop (lv2 := [(0, rA g 0), (3, rA g (rf 3 x1.toNatClampNeg)), (4, .int 0), (5, .int r47), (6, .int 1)]) o [0, 3, 4, 5, 6] rfl ?_
      refine T_bind (t_X6_lineUp_L55 o rr h35 (rf 3 x1.toNatClampNeg) 0 r47 1 (sh_el14 sh_3 q15)) (fun b55 => ?_)
      refine R_aload_n o 0 dX6_lineUp_97 rfl rfl ?_
      refine R_iload o 2 dX6_lineUp_98 rfl ?_
      refine R_putI o dX6_lineUp_100 fp_X6_61 sh_0 (by decide) rfl ?_
      refine R_nmH (fun h100 => ?_)
      refine R_iload o 1 dX6_lineUp_103 rfl ?_
      exact T_some (fun p => rr _ _ _ _ dX6_lineUp_105 p)
  · refine R_iconst (v := (-1)) o dX6_lineUp_8 (by decide) ?_
    exact T_some (fun p => rr _ _ _ _ dX6_lineUp_9 p)
theorem c_X6_lineUp (g : Gx) (l : Launch) (h : MH) (x1 : Int32) (x2 : Int32) (r : (Int32 × MH)) (e : f_X6_lineUp h x1 x2 = some r) : Ctr g l yX6_lineUp cX6_lineUp 8 (some .int) 3 66 0 [rA g 0, .int x1, .int x2] h (some (.int r.1)) r.2 := mkCi (plainFor_of_name (by decide)) (Nat.le_of_ble_eq_true rfl) (fun V Rt o rr p => b_X6_lineUp o rr h x1 x2  r e p)
/-! X6_falseShare -/
noncomputable def f_X6_falseShare (h : MH) (x1 : Int32) (x2 : Int32) : Option (Int32 × MH) :=
  Option.bind (f_X6_isCover h x1) (fun r2 => (if r2 = true then (if x2 < (-10200) then some ((-1), h) else (if 10200 < x2 then some ((-1), h) else gd (ix x1 6) (Option.bind (f_X1_isMissing h (rf 3 x1.toNatClampNeg)) (fun r32 => (if r32 = true then bnd2 (f_X6_found h 1) (fun r40 h40 => some (r40, h40)) else bnd2 (f_X4_countAsGreat h (rf 3 x1.toNatClampNeg) x2) (fun r54 h54 => Option.bind (f_X2_become h54 r54 (lshl 1 (h54.1 (rf 3 x1.toNatClampNeg) 3))) (fun h63 => some (1, h63)))))))) else some ((-1), h)))
set_option maxRecDepth 100000 in
set_option maxHeartbeats 4000000 in
theorem b_X6_falseShare {g : Gx} {l : Launch} {V V1 : VT} {Rt : Option Value → MH → Prop} (oP : OkP g l RX6 cX6_falseShare 4 4 99 V V1) (rr : ORi cX6_falseShare V Rt) (rr1 : ORi cX6_falseShare V1 Rt) (h : MH) (x1 : Int32) (x2 : Int32) : T (fun r => Rt (some (.int r.1)) r.2) (f_X6_falseShare h x1 x2) (V 0 [(0, rA g 0), (1, .int x1), (2, .int x2)] [] h) := by
  have o := oP.fst
  have o1 := oP.snd
  unfold f_X6_falseShare
  refine R_aload_n o 0 dX6_falseShare_0 rfl rfl ?_
  refine R_iload_n o 1 dX6_falseShare_1 rfl rfl ?_
  refine K_z (callV' (As := [.int x1]) (rest := []) o dX6_falseShare_2 lk_X6_124 rfl sh_0 rfl rfl rfl rfl (Nat.le_of_ble_eq_true rfl)) (c_X6_isCover g l h x1) (fun r2 => ?_)
  refine R_bif_eq o 22 dX6_falseShare_5 (by decide) ?_ ?_
  · refine R_iload_n o 2 dX6_falseShare_8 rfl rfl ?_
    refine R_sipush (v := (-10200)) o dX6_falseShare_9 (by decide) ?_
    refine R_icmp_lt o 22 dX6_falseShare_12 (by decide) ?_ ?_
    · refine R_iconst (v := (-1)) o dX6_falseShare_22 (by decide) ?_
      exact T_some (fun p => rr _ _ _ _ dX6_falseShare_23 p)
    · refine R_iload_n o 2 dX6_falseShare_15 rfl rfl ?_
      refine R_sipush (v := 10200) o dX6_falseShare_16 (by decide) ?_
      refine R_icmp_le o 24 dX6_falseShare_19 (by decide) ?_ ?_
      · refine R_iconst (v := (-1)) o dX6_falseShare_22 (by decide) ?_
        exact T_some (fun p => rr _ _ _ _ dX6_falseShare_23 p)
      · refine R_aload_n o 0 dX6_falseShare_24 rfl rfl ?_
        refine R_getR (a2 := 3) o dX6_falseShare_25 fl_X6_20 sh_0 (by decide) rfl rf_0_2 ?_
        refine R_iload_n o 1 dX6_falseShare_28 rfl rfl ?_
        refine R_aald o dX6_falseShare_29 sh_3 (Or.inr (Or.inl rfl)) (fun q29 => ?_)
        refine R_astore_n (lv2 := [(0, rA g 0), (1, .int x1), (2, .int x2), (3, rA g (rf 3 x1.toNatClampNeg))]) o dX6_falseShare_30 rfl (by decide) rfl ?_
        refine R_aload_n o 3 dX6_falseShare_31 rfl rfl ?_
        refine K_z (callV' (As := []) (rest := []) o dX6_falseShare_32 lk_X6_142 rfl (sh_el14 sh_3 q29) rfl rfl rfl rfl (Nat.le_of_ble_eq_true rfl)) (c_X1_isMissing g l h (rf 3 x1.toNatClampNeg) (sh_el14 sh_3 q29)) (fun r32 => ?_)
        refine R_bif_eq o 44 dX6_falseShare_35 (by decide) ?_ ?_
        · refine R_aload_n o 0 dX6_falseShare_38 rfl rfl ?_
          refine R_iconst (v := 1) o dX6_falseShare_39 (by decide) ?_
          refine K_ih (callV' (As := [.int 1]) (rest := []) o dX6_falseShare_40 lk_X6_77 rfl sh_0 rfl rfl rfl rfl (Nat.le_of_ble_eq_true rfl)) (c_X6_found g l h 1) (fun r40 h40 => ?_)
          exact T_some (fun p => rr _ _ _ _ dX6_falseShare_43 p)
        · refine R_aload_n o 0 dX6_falseShare_44 rfl rfl ?_
          refine R_getR (a2 := 16) o dX6_falseShare_45 fl_X6_57 sh_0 (by decide) rfl rf_0_8 ?_
          refine R_aload_n o 0 dX6_falseShare_48 rfl rfl ?_
          refine R_getR (a2 := 14) o dX6_falseShare_49 fl_X6_50 sh_0 (by decide) rfl rf_0_7 ?_
          refine R_aload_n o 3 dX6_falseShare_52 rfl rfl ?_
          refine R_iload_n o 2 dX6_falseShare_53 rfl rfl ?_
          refine K1_lh (callV1 (As := [rA g (rf 3 x1.toNatClampNeg), .int x2]) (rest := [rA g 16]) oP dX6_falseShare_54 lk_X6_277 rfl sh_14 rfl rfl rfl rfl (Nat.le_of_ble_eq_true rfl)) (c_X4_countAsGreat g l h (rf 3 x1.toNatClampNeg) x2 (sh_el14 sh_3 q29)) (fun r54 h54 => ?_)
          refine R_lconst (v := 1) o1 dX6_falseShare_57 (by decide) ?_
          refine R_aload_n o1 3 dX6_falseShare_58 rfl rfl ?_
          refine R_getI o1 dX6_falseShare_59 fl_X6_151 (sh_el14 sh_3 q29) (by decide) rfl ?_
          refine R_lshl o1 dX6_falseShare_62 ?_
          refine K_vh (callV' (As := [.long r54, .long (lshl 1 (h54.1 (rf 3 x1.toNatClampNeg) 3))]) (rest := []) o1 dX6_falseShare_63 lk_X6_231 rfl sh_16 rfl rfl rfl rfl (Nat.le_of_ble_eq_true rfl)) (c_X2_become g l h54 r54 (lshl 1 (h54.1 (rf 3 x1.toNatClampNeg) 3))) (fun h63 => ?_)
          refine R_iconst (v := 1) o1 dX6_falseShare_66 (by decide) ?_
          exact T_some (fun p => rr1 _ _ _ _ dX6_falseShare_67 p)
  · refine R_iconst (v := (-1)) o dX6_falseShare_22 (by decide) ?_
    exact T_some (fun p => rr _ _ _ _ dX6_falseShare_23 p)
theorem c_X6_falseShare (g : Gx) (l : Launch) (h : MH) (x1 : Int32) (x2 : Int32) (r : (Int32 × MH)) (e : f_X6_falseShare h x1 x2 = some r) : Ctr g l yX6_falseShare cX6_falseShare 4 (some .int) 4 99 1 [rA g 0, .int x1, .int x2] h (some (.int r.1)) r.2 := mkC1i (plainFor_of_name (by decide)) (Nat.le_of_ble_eq_true rfl) (fun V V1 Rt o rr rr1 p => b_X6_falseShare o rr rr1 h x1 x2  r e p)
/-! X6_cut -/
noncomputable def f_X6_cut (h : MH) (x1 : Int32) (x2 : Int32) (x3 : Int32) (x4 : Int32) : Option (Int32 × MH) :=
  Option.bind (f_X6_isCover h x1) (fun r2 => (if r2 = true then Option.bind (f_X6_isCover h x4) (fun r11 => (if r11 = true then (if x3 < 1 then some ((-1), h) else gd (ix x1 6) (Option.bind (f_X1_isMissing h (rf 3 x1.toNatClampNeg)) (fun r34 => (if r34 = true then bnd2 (f_X6_found h 1) (fun r42 h42 => some (r42, h42)) else (if x2 < 0 then bnd2 (f_X6_found h 2) (fun r72 h72 => some (r72, h72)) else (if (h.1 (rf 3 x1.toNatClampNeg) 3) < x3 then bnd2 (f_X6_found h 2) (fun r72 h72 => some (r72, h72)) else (if ((h.1 (rf 3 x1.toNatClampNeg) 3) - x3) < x2 then bnd2 (f_X6_found h 2) (fun r72 h72 => some (r72, h72)) else gd (ix x4 6) (Option.bind (f_X1_takeSpan h (rf 3 x4.toNatClampNeg) (rf 3 x1.toNatClampNeg) x2 x3) (fun h87 => some (x3, h87)))))))))) else some ((-1), h))) else some ((-1), h)))
set_option maxRecDepth 100000 in
set_option maxHeartbeats 4000000 in
theorem b_X6_cut {g : Gx} {l : Launch} {V : VT} {Rt : Option Value → MH → Prop} (o : Ok g l RX6 cX6_cut 6 3 69 0 V) (rr : ORi cX6_cut V Rt) (h : MH) (x1 : Int32) (x2 : Int32) (x3 : Int32) (x4 : Int32) : T (fun r => Rt (some (.int r.1)) r.2) (f_X6_cut h x1 x2 x3 x4) (V 0 [(0, rA g 0), (1, .int x1), (2, .int x2), (3, .int x3), (4, .int x4)] [] h) := by
  unfold f_X6_cut
  refine R_aload_n o 0 dX6_cut_0 rfl rfl ?_
  refine R_iload_n o 1 dX6_cut_1 rfl rfl ?_
  refine K_z (callV' (As := [.int x1]) (rest := []) o dX6_cut_2 lk_X6_124 rfl sh_0 rfl rfl rfl rfl (Nat.le_of_ble_eq_true rfl)) (c_X6_isCover g l h x1) (fun r2 => ?_)
  refine R_bif_eq o 22 dX6_cut_5 (by decide) ?_ ?_
  · refine R_aload_n o 0 dX6_cut_8 rfl rfl ?_
    refine R_iload o 4 dX6_cut_9 rfl ?_
    refine K_z (callV' (As := [.int x4]) (rest := []) o dX6_cut_11 lk_X6_124 rfl sh_0 rfl rfl rfl rfl (Nat.le_of_ble_eq_true rfl)) (c_X6_isCover g l h x4) (fun r11 => ?_)
    refine R_bif_eq o 22 dX6_cut_14 (by decide) ?_ ?_
    · refine R_iload_n o 3 dX6_cut_17 rfl rfl ?_
      refine R_iconst (v := 1) o dX6_cut_18 (by decide) ?_
      refine R_icmp_ge o 24 dX6_cut_19 (by decide) ?_ ?_
      · refine R_iconst (v := (-1)) o dX6_cut_22 (by decide) ?_
        exact T_some (fun p => rr _ _ _ _ dX6_cut_23 p)
      · refine R_aload_n o 0 dX6_cut_24 rfl rfl ?_
        refine R_getR (a2 := 3) o dX6_cut_25 fl_X6_20 sh_0 (by decide) rfl rf_0_2 ?_
        refine R_iload_n o 1 dX6_cut_28 rfl rfl ?_
        refine R_aald o dX6_cut_29 sh_3 (Or.inr (Or.inl rfl)) (fun q29 => ?_)
        refine R_astore (lv2 := [(0, rA g 0), (1, .int x1), (2, .int x2), (3, .int x3), (4, .int x4), (5, rA g (rf 3 x1.toNatClampNeg))]) o dX6_cut_30 (by decide) rfl ?_
        refine R_aload o 5 dX6_cut_32 rfl ?_
        refine K_z (callV' (As := []) (rest := []) o dX6_cut_34 lk_X6_142 rfl (sh_el14 sh_3 q29) rfl rfl rfl rfl (Nat.le_of_ble_eq_true rfl)) (c_X1_isMissing g l h (rf 3 x1.toNatClampNeg) (sh_el14 sh_3 q29)) (fun r34 => ?_)
        refine R_bif_eq o 46 dX6_cut_37 (by decide) ?_ ?_
        · refine R_aload_n o 0 dX6_cut_40 rfl rfl ?_
          refine R_iconst (v := 1) o dX6_cut_41 (by decide) ?_
          refine K_ih (callV' (As := [.int 1]) (rest := []) o dX6_cut_42 lk_X6_77 rfl sh_0 rfl rfl rfl rfl (Nat.le_of_ble_eq_true rfl)) (c_X6_found g l h 1) (fun r42 h42 => ?_)
          exact T_some (fun p => rr _ _ _ _ dX6_cut_45 p)
        · refine R_iload_n o 2 dX6_cut_46 rfl rfl ?_
          refine R_if_lt o 70 dX6_cut_47 (by decide) ?_ ?_
          · refine R_aload_n o 0 dX6_cut_70 rfl rfl ?_
            refine R_iconst (v := 2) o dX6_cut_71 (by decide) ?_
            refine K_ih (callV' (As := [.int 2]) (rest := []) o dX6_cut_72 lk_X6_77 rfl sh_0 rfl rfl rfl rfl (Nat.le_of_ble_eq_true rfl)) (c_X6_found g l h 2) (fun r72 h72 => ?_)
            exact T_some (fun p => rr _ _ _ _ dX6_cut_75 p)
          · refine R_iload_n o 3 dX6_cut_50 rfl rfl ?_
            refine R_aload o 5 dX6_cut_51 rfl ?_
            refine R_getI o dX6_cut_53 fl_X6_151 (sh_el14 sh_3 q29) (by decide) rfl ?_
            refine R_icmp_gt o 70 dX6_cut_56 (by decide) ?_ ?_
            · refine R_aload_n o 0 dX6_cut_70 rfl rfl ?_
              refine R_iconst (v := 2) o dX6_cut_71 (by decide) ?_
              refine K_ih (callV' (As := [.int 2]) (rest := []) o dX6_cut_72 lk_X6_77 rfl sh_0 rfl rfl rfl rfl (Nat.le_of_ble_eq_true rfl)) (c_X6_found g l h 2) (fun r72 h72 => ?_)
              exact T_some (fun p => rr _ _ _ _ dX6_cut_75 p)
            · refine R_iload_n o 2 dX6_cut_59 rfl rfl ?_
              refine R_aload o 5 dX6_cut_60 rfl ?_
              refine R_getI o dX6_cut_62 fl_X6_151 (sh_el14 sh_3 q29) (by decide) rfl ?_
              refine R_iload_n o 3 dX6_cut_65 rfl rfl ?_
              refine R_isub o dX6_cut_66 ?_
              refine R_icmp_le o 76 dX6_cut_67 (by decide) ?_ ?_
              · refine R_aload_n o 0 dX6_cut_70 rfl rfl ?_
                refine R_iconst (v := 2) o dX6_cut_71 (by decide) ?_
                refine K_ih (callV' (As := [.int 2]) (rest := []) o dX6_cut_72 lk_X6_77 rfl sh_0 rfl rfl rfl rfl (Nat.le_of_ble_eq_true rfl)) (c_X6_found g l h 2) (fun r72 h72 => ?_)
                exact T_some (fun p => rr _ _ _ _ dX6_cut_75 p)
              · refine R_aload_n o 0 dX6_cut_76 rfl rfl ?_
                refine R_getR (a2 := 3) o dX6_cut_77 fl_X6_20 sh_0 (by decide) rfl rf_0_2 ?_
                refine R_iload o 4 dX6_cut_80 rfl ?_
                refine R_aald o dX6_cut_82 sh_3 (Or.inr (Or.inl rfl)) (fun q82 => ?_)
                refine R_aload o 5 dX6_cut_83 rfl ?_
                refine R_iload_n o 2 dX6_cut_85 rfl rfl ?_
                refine R_iload_n o 3 dX6_cut_86 rfl rfl ?_
                refine K_vh (callV' (As := [rA g (rf 3 x1.toNatClampNeg), .int x2, .int x3]) (rest := []) o dX6_cut_87 lk_X6_281 rfl (sh_el14 sh_3 q82) rfl rfl rfl rfl (Nat.le_of_ble_eq_true rfl)) (c_X1_takeSpan g l h (rf 3 x4.toNatClampNeg) (rf 3 x1.toNatClampNeg) x2 x3 (sh_el14 sh_3 q82) (sh_el14 sh_3 q29)) (fun h87 => ?_)
                refine R_iload_n o 3 dX6_cut_90 rfl rfl ?_
                exact T_some (fun p => rr _ _ _ _ dX6_cut_91 p)
    · refine R_iconst (v := (-1)) o dX6_cut_22 (by decide) ?_
      exact T_some (fun p => rr _ _ _ _ dX6_cut_23 p)
  · refine R_iconst (v := (-1)) o dX6_cut_22 (by decide) ?_
    exact T_some (fun p => rr _ _ _ _ dX6_cut_23 p)
theorem c_X6_cut (g : Gx) (l : Launch) (h : MH) (x1 : Int32) (x2 : Int32) (x3 : Int32) (x4 : Int32) (r : (Int32 × MH)) (e : f_X6_cut h x1 x2 x3 x4 = some r) : Ctr g l yX6_cut cX6_cut 6 (some .int) 3 69 0 [rA g 0, .int x1, .int x2, .int x3, .int x4] h (some (.int r.1)) r.2 := mkCi (plainFor_of_name (by decide)) (Nat.le_of_ble_eq_true rfl) (fun V Rt o rr p => b_X6_cut o rr h x1 x2 x3 x4  r e p)
/-! X6_isCopy -/
noncomputable def f_X6_isCopy (x0 : Int32) : Option Bool :=
  (if x0 < 0 then some false else (if 4095 < x0 then some false else some true))
set_option maxRecDepth 100000 in
set_option maxHeartbeats 4000000 in
theorem b_X6_isCopy {g : Gx} {l : Launch} {V : VT} {Rt : Option Value → MH → Prop} (o : Ok g l RX6 cX6_isCopy 1 0 0 0 V) (rr : ORz cX6_isCopy V Rt) (h : MH) (x0 : Int32) : T (fun r => Rt (some (.int (b2i r))) h) (f_X6_isCopy  x0) (V 0 [(0, .int x0)] [] h) := by
  unfold f_X6_isCopy
  refine R_iload_n o 0 dX6_isCopy_0 rfl rfl ?_
  refine R_if_lt o 15 dX6_isCopy_1 (by decide) ?_ ?_
  · refine R_iconst (v := 0) o dX6_isCopy_15 (by decide) ?_
    exact T_some (fun p => rr _ _ false _ dX6_isCopy_16 p)
  · refine R_iload_n o 0 dX6_isCopy_4 rfl rfl ?_
    refine R_sipush (v := 4095) o dX6_isCopy_5 (by decide) ?_
    refine R_icmp_gt o 15 dX6_isCopy_8 (by decide) ?_ ?_
    · refine R_iconst (v := 0) o dX6_isCopy_15 (by decide) ?_
      exact T_some (fun p => rr _ _ false _ dX6_isCopy_16 p)
    · refine R_iconst (v := 1) o dX6_isCopy_11 (by decide) ?_
      refine R_goto o 16 dX6_isCopy_12 (by decide) ?_
      exact T_some (fun p => rr _ _ true _ dX6_isCopy_16 p)
theorem c_X6_isCopy (g : Gx) (l : Launch) (h : MH) (x0 : Int32) (r : Bool) (e : f_X6_isCopy  x0 = some r) : Ctr g l yX6_isCopy cX6_isCopy 1 (some .boolean) 0 0 0 [.int x0] h (some (.int (b2i r))) h := mkCz (plainFor_of_name (by decide)) (Nat.le_of_ble_eq_true rfl) (fun V Rt o rr p => b_X6_isCopy o rr h x0  r e p)
/-! X6_wrongInNames -/
noncomputable def f_X6_wrongInNames (h : MH) (a0 : Nat) : Option Int32 :=
  (if (h.1 a0 1) < 1 then some 5 else (if 10 < (h.1 a0 1) then some 5 else Option.bind (f_X5_isWithin h a0 0 4095) (fun r24 => (if r24 = true then some 0 else some 3))))
set_option maxRecDepth 100000 in
set_option maxHeartbeats 4000000 in
theorem b_X6_wrongInNames {g : Gx} {l : Launch} {V : VT} {Rt : Option Value → MH → Prop} (o : Ok g l RX6 cX6_wrongInNames 1 1 23 0 V) (rr : ORi cX6_wrongInNames V Rt) (h : MH) (a0 : Nat) (ha0 : shp a0 = (5, 0)) : T (fun r => Rt (some (.int r)) h) (f_X6_wrongInNames h a0) (V 0 [(0, rA g a0)] [] h) := by
  unfold f_X6_wrongInNames
  refine R_aload_n o 0 dX6_wrongInNames_0 rfl rfl ?_
  refine R_getI o dX6_wrongInNames_1 fl_X6_114 ha0 (by decide) rfl ?_
  refine R_iconst (v := 1) o dX6_wrongInNames_4 (by decide) ?_
  refine R_icmp_lt o 17 dX6_wrongInNames_5 (by decide) ?_ ?_
  · refine R_iconst (v := 5) o dX6_wrongInNames_17 (by decide) ?_
    exact T_some (fun p => rr _ _ _ _ dX6_wrongInNames_18 p)
  · refine R_aload_n o 0 dX6_wrongInNames_8 rfl rfl ?_
    refine R_getI o dX6_wrongInNames_9 fl_X6_114 ha0 (by decide) rfl ?_
    refine R_bipush (v := 10) o dX6_wrongInNames_12 (by decide) ?_
    refine R_icmp_le o 19 dX6_wrongInNames_14 (by decide) ?_ ?_
    · refine R_iconst (v := 5) o dX6_wrongInNames_17 (by decide) ?_
      exact T_some (fun p => rr _ _ _ _ dX6_wrongInNames_18 p)
    · refine R_aload_n o 0 dX6_wrongInNames_19 rfl rfl ?_
      refine R_iconst (v := 0) o dX6_wrongInNames_20 (by decide) ?_
      refine R_sipush (v := 4095) o dX6_wrongInNames_21 (by decide) ?_
      refine K_z (callV' (As := [.int 0, .int 4095]) (rest := []) o dX6_wrongInNames_24 lk_X6_373 rfl ha0 rfl rfl rfl rfl (Nat.le_of_ble_eq_true rfl)) (c_X5_isWithin g l h a0 0 4095 ha0) (fun r24 => ?_)
      refine R_bif_eq o 34 dX6_wrongInNames_27 (by decide) ?_ ?_
      · refine R_iconst (v := 0) o dX6_wrongInNames_30 (by decide) ?_
        refine R_goto o 35 dX6_wrongInNames_31 (by decide) ?_
        exact T_some (fun p => rr _ _ _ _ dX6_wrongInNames_35 p)
      · refine R_iconst (v := 3) o dX6_wrongInNames_34 (by decide) ?_
        exact T_some (fun p => rr _ _ _ _ dX6_wrongInNames_35 p)
theorem c_X6_wrongInNames (g : Gx) (l : Launch) (h : MH) (a0 : Nat) (ha0 : shp a0 = (5, 0)) (r : Int32) (e : f_X6_wrongInNames h a0 = some r) : Ctr g l yX6_wrongInNames cX6_wrongInNames 1 (some .int) 1 23 0 [rA g a0] h (some (.int r)) h := mkCi (plainFor_of_name (by decide)) (Nat.le_of_ble_eq_true rfl) (fun V Rt o rr p => b_X6_wrongInNames o rr h a0 ha0 r e p)
/-! X6_canMake -/
noncomputable def f_X6_canMake_B10 (h : MH) (a0 : Nat) (x1 : Int32) (x2 : Int32) (x3 : Int32) (x4 : Int32) (x5 : Int32) : Option ((Int32 × Int32 × Int32) ⊕ (Int32 × Int32)) :=
  (if x5 < (h.1 a0 1) then (if ((shr x1 x5) &&& 1) = 0 then some (.inl (x3, x4, (x5 + 1))) else Option.bind (f_X5_get h a0 x5) (fun r35 => nm (x3 ||| r35) (fun v39 => Option.bind (f_X5_get h a0 x5) (fun r45 => nm (x4 &&& r45) (fun v49 => some (.inl (v39, v49, (x5 + 1)))))))) else some (.inr (x3, x4)))
set_option maxRecDepth 100000 in
set_option maxHeartbeats 4000000 in
theorem t_X6_canMake_B10 {g : Gx} {l : Launch} {V : VT} {Rt : Option Value → MH → Prop} (o : Ok g l RX6 cX6_canMake 6 2 42 0 V) (rr : ORz cX6_canMake V Rt) (h : MH) (a0 : Nat) (x1 : Int32) (x2 : Int32) (x3 : Int32) (x4 : Int32) (x5 : Int32) (ha0 : shp a0 = (5, 0)) : T (Sum.elim (fun s => V 10 [(0, rA g a0), (1, .int x1), (2, .int x2), (3, .int s.1), (4, .int s.2.1), (5, .int s.2.2)] [] h) (fun b => V 57 [(2, .int x2), (3, .int b.1), (4, .int b.2)] [] h)) (f_X6_canMake_B10  h a0 x1 x2 x3 x4 x5) (V 10 [(0, rA g a0), (1, .int x1), (2, .int x2), (3, .int x3), (4, .int x4), (5, .int x5)] [] h) := by
  unfold f_X6_canMake_B10
  refine R_iload o 5 dX6_canMake_10 rfl ?_
  refine R_aload_n o 0 dX6_canMake_12 rfl rfl ?_
  refine R_getI o dX6_canMake_13 fl_X6_114 ha0 (by decide) rfl ?_
  refine R_icmp_ge o 57 dX6_canMake_16 (by decide) ?_ ?_
  · refine R_iload_n o 1 dX6_canMake_19 rfl rfl ?_
    refine R_iload o 5 dX6_canMake_20 rfl ?_
    refine R_ishr o dX6_canMake_22 ?_
    refine R_iconst (v := 1) o dX6_canMake_23 (by decide) ?_
    refine R_iand o dX6_canMake_24 ?_
    refine R_if_ne o 31 dX6_canMake_25 (by decide) ?_ ?_
    · refine R_goto o 51 dX6_canMake_28 (by decide) ?_
      refine R_iinc (v := (x5 + 1)) (lv2 := [(0, rA g a0), (1, .int x1), (2, .int x2), (3, .int x3), (4, .int x4), (5, .int (x5 + 1))]) o 5 dX6_canMake_51 rfl rfl (by decide) rfl ?_
      refine R_goto o 10 dX6_canMake_54 (by decide) ?_
      exact T_some (fun p => p)
    · refine R_iload_n o 3 dX6_canMake_31 rfl rfl ?_
      refine R_aload_n o 0 dX6_canMake_32 rfl rfl ?_
      refine R_iload o 5 dX6_canMake_33 rfl ?_
      refine K_i (callV' (As := [.int x5]) (rest := [.int x3]) o dX6_canMake_35 lk_X6_92 rfl ha0 rfl rfl rfl rfl (Nat.le_of_ble_eq_true rfl)) (c_X5_get g l h a0 x5 ha0) (fun r35 => ?_)
      refine R_ior o dX6_canMake_38 ?_
      refine R_nmI (fun v39 => ?_)
      refine R_istore_n (lv2 := [(0, rA g a0), (1, .int x1), (2, .int x2), (3, .int v39), (4, .int x4), (5, .int x5)]) o dX6_canMake_39 rfl (by decide) rfl ?_
      refine R_iload o 4 dX6_canMake_40 rfl ?_
      refine R_aload_n o 0 dX6_canMake_42 rfl rfl ?_
      refine R_iload o 5 dX6_canMake_43 rfl ?_
      refine K_i (callV' (As := [.int x5]) (rest := [.int x4]) o dX6_canMake_45 lk_X6_92 rfl ha0 rfl rfl rfl rfl (Nat.le_of_ble_eq_true rfl)) (c_X5_get g l h a0 x5 ha0) (fun r45 => ?_)
      refine R_iand o dX6_canMake_48 ?_
      refine R_nmI (fun v49 => ?_)
      refine R_istore (lv2 := [(0, rA g a0), (1, .int x1), (2, .int x2), (3, .int v39), (4, .int v49), (5, .int x5)]) o dX6_canMake_49 (by decide) rfl ?_
      refine R_iinc (v := (x5 + 1)) (lv2 := [(0, rA g a0), (1, .int x1), (2, .int x2), (3, .int v39), (4, .int v49), (5, .int (x5 + 1))]) o 5 dX6_canMake_51 rfl rfl (by decide) rfl ?_
      refine R_goto o 10 dX6_canMake_54 (by decide) ?_
      exact T_some (fun p => p)
  · refine R_drop (lv2 := [(2, .int x2), (3, .int x3), (4, .int x4)]) o [2, 3, 4] rfl ?_
    exact T_some (fun p => p)
noncomputable def f_X6_canMake_L10 (h : MH) (a0 : Nat) (x1 : Int32) (x2 : Int32) (x3 : Int32) (x4 : Int32) (x5 : Int32) : Option (Int32 × Int32) :=
  lpo (fun s : Int32 × Int32 × Int32 => f_X6_canMake_B10 h a0 x1 x2 s.1 s.2.1 s.2.2) (x3, x4, x5)
theorem t_X6_canMake_L10 {g : Gx} {l : Launch} {V : VT} {Rt : Option Value → MH → Prop} (o : Ok g l RX6 cX6_canMake 6 2 42 0 V) (rr : ORz cX6_canMake V Rt) (h : MH) (a0 : Nat) (x1 : Int32) (x2 : Int32) (x3 : Int32) (x4 : Int32) (x5 : Int32) (ha0 : shp a0 = (5, 0)) : T (fun b => V 57 [(2, .int x2), (3, .int b.1), (4, .int b.2)] [] h) (f_X6_canMake_L10 h a0 x1 x2 x3 x4 x5) (V 10 [(0, rA g a0), (1, .int x1), (2, .int x2), (3, .int x3), (4, .int x4), (5, .int x5)] [] h) := T_loop (head := fun s : Int32 × Int32 × Int32 => V 10 [(0, rA g a0), (1, .int x1), (2, .int x2), (3, .int s.1), (4, .int s.2.1), (5, .int s.2.2)] [] h) (fun s => t_X6_canMake_B10 o rr h a0 x1 x2 s.1 s.2.1 s.2.2 ha0) (x3, x4, x5)
noncomputable def f_X6_canMake (h : MH) (a0 : Nat) (x1 : Int32) (x2 : Int32) : Option Bool :=
  Option.bind (f_X6_canMake_L10 h a0 x1 x2 0 4095 0) (fun b10 => (if (x2 &&& (b10.1 ^^^ (-1))) = 0 then (if (b10.2 &&& (x2 ^^^ (-1))) = 0 then some true else some false) else some false))
set_option maxRecDepth 100000 in
set_option maxHeartbeats 4000000 in
theorem b_X6_canMake {g : Gx} {l : Launch} {V : VT} {Rt : Option Value → MH → Prop} (o : Ok g l RX6 cX6_canMake 6 2 42 0 V) (rr : ORz cX6_canMake V Rt) (h : MH) (a0 : Nat) (x1 : Int32) (x2 : Int32) (ha0 : shp a0 = (5, 0)) : T (fun r => Rt (some (.int (b2i r))) h) (f_X6_canMake h a0 x1 x2) (V 0 [(0, rA g a0), (1, .int x1), (2, .int x2)] [] h) := by
  unfold f_X6_canMake
  refine R_iconst (v := 0) o dX6_canMake_0 (by decide) ?_
  refine R_istore_n (lv2 := [(0, rA g a0), (1, .int x1), (2, .int x2), (3, .int 0)]) o dX6_canMake_1 rfl (by decide) rfl ?_
  refine R_sipush (v := 4095) o dX6_canMake_2 (by decide) ?_
  refine R_istore (lv2 := [(0, rA g a0), (1, .int x1), (2, .int x2), (3, .int 0), (4, .int 4095)]) o dX6_canMake_5 (by decide) rfl ?_
  refine R_iconst (v := 0) o dX6_canMake_7 (by decide) ?_
  refine R_istore (lv2 := [(0, rA g a0), (1, .int x1), (2, .int x2), (3, .int 0), (4, .int 4095), (5, .int 0)]) o dX6_canMake_8 (by decide) rfl ?_
  refine T_bind (t_X6_canMake_L10 o rr h a0 x1 x2 0 4095 0 ha0) (fun b10 => ?_)
  refine R_iload_n o 0 dX6_canMake_57 rfl rfl ?_
  refine R_iload_n o 1 dX6_canMake_58 rfl rfl ?_
  refine R_iconst (v := (-1)) o dX6_canMake_59 (by decide) ?_
  refine R_ixor o dX6_canMake_60 ?_
  refine R_iand o dX6_canMake_61 ?_
  refine R_if_ne o 78 dX6_canMake_62 (by decide) ?_ ?_
  · refine R_iload o 2 dX6_canMake_65 rfl ?_
    refine R_iload_n o 0 dX6_canMake_67 rfl rfl ?_
    refine R_iconst (v := (-1)) o dX6_canMake_68 (by decide) ?_
    refine R_ixor o dX6_canMake_69 ?_
    refine R_iand o dX6_canMake_70 ?_
    refine R_if_ne o 78 dX6_canMake_71 (by decide) ?_ ?_
    · refine R_iconst (v := 1) o dX6_canMake_74 (by decide) ?_
      refine R_goto o 79 dX6_canMake_75 (by decide) ?_
      exact T_some (fun p => rr _ _ true _ dX6_canMake_79 p)
    · refine R_iconst (v := 0) o dX6_canMake_78 (by decide) ?_
      exact T_some (fun p => rr _ _ false _ dX6_canMake_79 p)
  · refine R_iconst (v := 0) o dX6_canMake_78 (by decide) ?_
    exact T_some (fun p => rr _ _ false _ dX6_canMake_79 p)
theorem c_X6_canMake (g : Gx) (l : Launch) (h : MH) (a0 : Nat) (x1 : Int32) (x2 : Int32) (ha0 : shp a0 = (5, 0)) (r : Bool) (e : f_X6_canMake h a0 x1 x2 = some r) : Ctr g l yX6_canMake cX6_canMake 6 (some .boolean) 2 42 0 [rA g a0, .int x1, .int x2] h (some (.int (b2i r))) h := mkCz (plainFor_of_name (by decide)) (Nat.le_of_ble_eq_true rfl) (fun V Rt o rr p => b_X6_canMake o rr h a0 x1 x2 ha0 r e p)
/-! X6_makes -/
noncomputable def f_X6_makes (h : MH) (x1 : Int32) (x2 : Int32) (x3 : Int32) : Option (Int32 × MH) :=
  Option.bind (f_X6_isRow h x1) (fun r2 => (if r2 = true then (if x2 < 1 then some ((-1), h) else Option.bind (f_X6_isCopy x3) (fun r14 => (if r14 = true then gd (ix x1 6) (Option.bind (f_X5_isMissing h (rf 1 x1.toNatClampNeg)) (fun r32 => (if r32 = true then bnd2 (f_X6_found h 1) (fun r40 h40 => some (r40, h40)) else Option.bind (f_X6_wrongInNames h (rf 1 x1.toNatClampNeg)) (fun r46 => (if r46 = 0 then (if x2 < (shl 1 (h.1 (rf 1 x1.toNatClampNeg) 1)) then Option.bind (f_X6_canMake h (rf 1 x1.toNatClampNeg) x2 x3) (fun r80 => (if r80 = true then some (1, h) else some (0, h))) else some ((-1), h)) else bnd2 (f_X6_found h r46) (fun r59 h59 => some (r59, h59))))))) else some ((-1), h)))) else some ((-1), h)))
set_option maxRecDepth 100000 in
set_option maxHeartbeats 4000000 in
theorem b_X6_makes {g : Gx} {l : Launch} {V : VT} {Rt : Option Value → MH → Prop} (o : Ok g l RX6 cX6_makes 6 3 67 0 V) (rr : ORi cX6_makes V Rt) (h : MH) (x1 : Int32) (x2 : Int32) (x3 : Int32) : T (fun r => Rt (some (.int r.1)) r.2) (f_X6_makes h x1 x2 x3) (V 0 [(0, rA g 0), (1, .int x1), (2, .int x2), (3, .int x3)] [] h) := by
  unfold f_X6_makes
  refine R_aload_n o 0 dX6_makes_0 rfl rfl ?_
  refine R_iload_n o 1 dX6_makes_1 rfl rfl ?_
  refine K_z (callV' (As := [.int x1]) (rest := []) o dX6_makes_2 lk_X6_73 rfl sh_0 rfl rfl rfl rfl (Nat.le_of_ble_eq_true rfl)) (c_X6_isRow g l h x1) (fun r2 => ?_)
  refine R_bif_eq o 20 dX6_makes_5 (by decide) ?_ ?_
  · refine R_iload_n o 2 dX6_makes_8 rfl rfl ?_
    refine R_iconst (v := 1) o dX6_makes_9 (by decide) ?_
    refine R_icmp_lt o 20 dX6_makes_10 (by decide) ?_ ?_
    · refine R_iconst (v := (-1)) o dX6_makes_20 (by decide) ?_
      exact T_some (fun p => rr _ _ _ _ dX6_makes_21 p)
    · refine R_iload_n o 3 dX6_makes_13 rfl rfl ?_
      refine K_z (callS' (av := [.int x3]) (rest := []) o dX6_makes_14 lk_X6_285 rfl rfl rfl (Nat.le_of_ble_eq_true rfl)) (c_X6_isCopy g l h x3) (fun r14 => ?_)
      refine R_bif_ne o 22 dX6_makes_17 (by decide) ?_ ?_
      · refine R_aload_n o 0 dX6_makes_22 rfl rfl ?_
        refine R_getR (a2 := 1) o dX6_makes_23 fl_X6_11 sh_0 (by decide) rfl rf_0_0 ?_
        refine R_iload_n o 1 dX6_makes_26 rfl rfl ?_
        refine R_aald o dX6_makes_27 sh_1 (Or.inl rfl) (fun q27 => ?_)
        refine R_astore (lv2 := [(0, rA g 0), (1, .int x1), (2, .int x2), (3, .int x3), (4, rA g (rf 1 x1.toNatClampNeg))]) o dX6_makes_28 (by decide) rfl ?_
        refine R_aload o 4 dX6_makes_30 rfl ?_
        refine K_z (callV' (As := []) (rest := []) o dX6_makes_32 lk_X6_85 rfl (sh_el13 sh_1 q27) rfl rfl rfl rfl (Nat.le_of_ble_eq_true rfl)) (c_X5_isMissing g l h (rf 1 x1.toNatClampNeg) (sh_el13 sh_1 q27)) (fun r32 => ?_)
        refine R_bif_eq o 44 dX6_makes_35 (by decide) ?_ ?_
        · refine R_aload_n o 0 dX6_makes_38 rfl rfl ?_
          refine R_iconst (v := 1) o dX6_makes_39 (by decide) ?_
          refine K_ih (callV' (As := [.int 1]) (rest := []) o dX6_makes_40 lk_X6_77 rfl sh_0 rfl rfl rfl rfl (Nat.le_of_ble_eq_true rfl)) (c_X6_found g l h 1) (fun r40 h40 => ?_)
          exact T_some (fun p => rr _ _ _ _ dX6_makes_43 p)
        · refine R_aload o 4 dX6_makes_44 rfl ?_
          refine K_i (callS' (av := [rA g (rf 1 x1.toNatClampNeg)]) (rest := []) o dX6_makes_46 lk_X6_288 rfl rfl rfl (Nat.le_of_ble_eq_true rfl)) (c_X6_wrongInNames g l h (rf 1 x1.toNatClampNeg) (sh_el13 sh_1 q27)) (fun r46 => ?_)
          refine R_istore (lv2 := [(0, rA g 0), (1, .int x1), (2, .int x2), (3, .int x3), (4, rA g (rf 1 x1.toNatClampNeg)), (5, .int r46)]) o dX6_makes_49 (by decide) rfl ?_
          refine R_iload o 5 dX6_makes_51 rfl ?_
          refine R_if_eq o 63 dX6_makes_53 (by decide) ?_ ?_
          · refine R_iload_n o 2 dX6_makes_63 rfl rfl ?_
            refine R_iconst (v := 1) o dX6_makes_64 (by decide) ?_
            refine R_aload o 4 dX6_makes_65 rfl ?_
            refine R_getI o dX6_makes_67 fl_X6_114 (sh_el13 sh_1 q27) (by decide) rfl ?_
            refine R_ishl o dX6_makes_70 ?_
            refine R_icmp_lt o 76 dX6_makes_71 (by decide) ?_ ?_
            · refine R_aload o 4 dX6_makes_76 rfl ?_
              refine R_iload_n o 2 dX6_makes_78 rfl rfl ?_
              refine R_iload_n o 3 dX6_makes_79 rfl rfl ?_
              refine K_z (callS' (av := [rA g (rf 1 x1.toNatClampNeg), .int x2, .int x3]) (rest := []) o dX6_makes_80 lk_X6_291 rfl rfl rfl (Nat.le_of_ble_eq_true rfl)) (c_X6_canMake g l h (rf 1 x1.toNatClampNeg) x2 x3 (sh_el13 sh_1 q27)) (fun r80 => ?_)
              refine R_bif_eq o 90 dX6_makes_83 (by decide) ?_ ?_
              · refine R_iconst (v := 1) o dX6_makes_86 (by decide) ?_
                refine R_goto o 91 dX6_makes_87 (by decide) ?_
                exact T_some (fun p => rr _ _ _ _ dX6_makes_91 p)
              · refine R_iconst (v := 0) o dX6_makes_90 (by decide) ?_
                exact T_some (fun p => rr _ _ _ _ dX6_makes_91 p)
            · refine R_iconst (v := (-1)) o dX6_makes_74 (by decide) ?_
              exact T_some (fun p => rr _ _ _ _ dX6_makes_75 p)
          · refine R_aload_n o 0 dX6_makes_56 rfl rfl ?_
            refine R_iload o 5 dX6_makes_57 rfl ?_
            refine K_ih (callV' (As := [.int r46]) (rest := []) o dX6_makes_59 lk_X6_77 rfl sh_0 rfl rfl rfl rfl (Nat.le_of_ble_eq_true rfl)) (c_X6_found g l h r46) (fun r59 h59 => ?_)
            exact T_some (fun p => rr _ _ _ _ dX6_makes_62 p)
      · refine R_iconst (v := (-1)) o dX6_makes_20 (by decide) ?_
        exact T_some (fun p => rr _ _ _ _ dX6_makes_21 p)
  · refine R_iconst (v := (-1)) o dX6_makes_20 (by decide) ?_
    exact T_some (fun p => rr _ _ _ _ dX6_makes_21 p)
theorem c_X6_makes (g : Gx) (l : Launch) (h : MH) (x1 : Int32) (x2 : Int32) (x3 : Int32) (r : (Int32 × MH)) (e : f_X6_makes h x1 x2 x3 = some r) : Ctr g l yX6_makes cX6_makes 6 (some .int) 3 67 0 [rA g 0, .int x1, .int x2, .int x3] h (some (.int r.1)) r.2 := mkCi (plainFor_of_name (by decide)) (Nat.le_of_ble_eq_true rfl) (fun V Rt o rr p => b_X6_makes o rr h x1 x2 x3  r e p)
/-! X6_guilty -/
noncomputable def f_X6_guilty_B85 (h : MH) (x2 : Int32) (x3 : Int32) (a4 : Nat) (x6 : Int32) (x7 : Int32) (x8 : Int32) : Option ((Int32 × Int32 × Int32) ⊕ (Int32 × Int32)) :=
  (if x8 < (shl 1 (h.1 a4 1)) then Option.bind (f_J6_bitCount_0f7a4 x8) (fun r99 => (if x2 < r99 then some (.inl (x6, x7, (x8 + 1))) else Option.bind (f_X6_canMake h a4 x8 x3) (fun r111 => (if r111 = true then nm (x7 &&& x8) (fun v125 => some (.inl ((x6 + 1), v125, (x8 + 1)))) else some (.inl (x6, x7, (x8 + 1))))))) else some (.inr (x6, x7)))
set_option maxRecDepth 100000 in
set_option maxHeartbeats 4000000 in
theorem t_X6_guilty_B85 {g : Gx} {l : Launch} {V : VT} {Rt : Option Value → MH → Prop} (o : Ok g l RX6 cX6_guilty 9 3 67 0 V) (rr : ORi cX6_guilty V Rt) (h : MH) (x2 : Int32) (x3 : Int32) (a4 : Nat) (x6 : Int32) (x7 : Int32) (x8 : Int32) (ha4 : shp a4 = (5, 0)) : T (Sum.elim (fun s => V 85 [(0, rA g 0), (2, .int x2), (3, .int x3), (4, rA g a4), (6, .int s.1), (7, .int s.2.1), (8, .int s.2.2)] [] h) (fun b => V 133 [(0, rA g 0), (6, .int b.1), (7, .int b.2)] [] h)) (f_X6_guilty_B85  h x2 x3 a4 x6 x7 x8) (V 85 [(0, rA g 0), (2, .int x2), (3, .int x3), (4, rA g a4), (6, .int x6), (7, .int x7), (8, .int x8)] [] h) := by
  unfold f_X6_guilty_B85
  refine R_iload o 6 dX6_guilty_85 rfl ?_
  refine R_iconst (v := 1) o dX6_guilty_87 (by decide) ?_
  refine R_aload o 3 dX6_guilty_88 rfl ?_
  refine R_getI o dX6_guilty_90 fl_X6_114 ha4 (by decide) rfl ?_
  refine R_ishl o dX6_guilty_93 ?_
  refine R_icmp_ge o 133 dX6_guilty_94 (by decide) ?_ ?_
  · refine R_iload o 6 dX6_guilty_97 rfl ?_
    refine K_i (callS' (av := [.int x8]) (rest := []) o dX6_guilty_99 lk_X6_295 rfl rfl rfl (Nat.le_of_ble_eq_true rfl)) (c_J6_bitCount_0f7a4 g l h x8) (fun r99 => ?_)
    refine R_iload_n o 1 dX6_guilty_102 rfl rfl ?_
    refine R_icmp_gt o 127 dX6_guilty_103 (by decide) ?_ ?_
    · refine R_iinc (v := (x8 + 1)) (lv2 := [(0, rA g 0), (2, .int x2), (3, .int x3), (4, rA g a4), (6, .int x6), (7, .int x7), (8, .int (x8 + 1))]) o 6 dX6_guilty_127 rfl rfl (by decide) rfl ?_
      refine R_goto o 85 dX6_guilty_130 (by decide) ?_
      exact T_some (fun p => p)
    · refine R_aload o 3 dX6_guilty_106 rfl ?_
      refine R_iload o 6 dX6_guilty_108 rfl ?_
      refine R_iload_n o 2 dX6_guilty_110 rfl rfl ?_
      refine K_z (callS' (av := [rA g a4, .int x8, .int x3]) (rest := []) o dX6_guilty_111 lk_X6_291 rfl rfl rfl (Nat.le_of_ble_eq_true rfl)) (c_X6_canMake g l h a4 x8 x3 ha4) (fun r111 => ?_)
      refine R_bif_eq o 127 dX6_guilty_114 (by decide) ?_ ?_
      · refine R_iinc (v := (x6 + 1)) (lv2 := [(0, rA g 0), (2, .int x2), (3, .int x3), (4, rA g a4), (6, .int (x6 + 1)), (7, .int x7), (8, .int x8)]) o 4 dX6_guilty_117 rfl rfl (by decide) rfl ?_
        refine R_iload o 5 dX6_guilty_120 rfl ?_
        refine R_iload o 6 dX6_guilty_122 rfl ?_
        refine R_iand o dX6_guilty_124 ?_
        refine R_nmI (fun v125 => ?_)
        refine R_istore (lv2 := [(0, rA g 0), (2, .int x2), (3, .int x3), (4, rA g a4), (6, .int (x6 + 1)), (7, .int v125), (8, .int x8)]) o dX6_guilty_125 (by decide) rfl ?_
        refine R_iinc (v := (x8 + 1)) (lv2 := [(0, rA g 0), (2, .int x2), (3, .int x3), (4, rA g a4), (6, .int (x6 + 1)), (7, .int v125), (8, .int (x8 + 1))]) o 6 dX6_guilty_127 rfl rfl (by decide) rfl ?_
        refine R_goto o 85 dX6_guilty_130 (by decide) ?_
        exact T_some (fun p => p)
      · refine R_iinc (v := (x8 + 1)) (lv2 := [(0, rA g 0), (2, .int x2), (3, .int x3), (4, rA g a4), (6, .int x6), (7, .int x7), (8, .int (x8 + 1))]) o 6 dX6_guilty_127 rfl rfl (by decide) rfl ?_
        refine R_goto o 85 dX6_guilty_130 (by decide) ?_
        exact T_some (fun p => p)
  · refine R_drop (lv2 := [(0, rA g 0), (6, .int x6), (7, .int x7)]) o [0, 4, 5] rfl ?_
    exact T_some (fun p => p)
noncomputable def f_X6_guilty_L85 (h : MH) (x2 : Int32) (x3 : Int32) (a4 : Nat) (x6 : Int32) (x7 : Int32) (x8 : Int32) : Option (Int32 × Int32) :=
  lpo (fun s : Int32 × Int32 × Int32 => f_X6_guilty_B85 h x2 x3 a4 s.1 s.2.1 s.2.2) (x6, x7, x8)
theorem t_X6_guilty_L85 {g : Gx} {l : Launch} {V : VT} {Rt : Option Value → MH → Prop} (o : Ok g l RX6 cX6_guilty 9 3 67 0 V) (rr : ORi cX6_guilty V Rt) (h : MH) (x2 : Int32) (x3 : Int32) (a4 : Nat) (x6 : Int32) (x7 : Int32) (x8 : Int32) (ha4 : shp a4 = (5, 0)) : T (fun b => V 133 [(0, rA g 0), (6, .int b.1), (7, .int b.2)] [] h) (f_X6_guilty_L85 h x2 x3 a4 x6 x7 x8) (V 85 [(0, rA g 0), (2, .int x2), (3, .int x3), (4, rA g a4), (6, .int x6), (7, .int x7), (8, .int x8)] [] h) := T_loop (head := fun s : Int32 × Int32 × Int32 => V 85 [(0, rA g 0), (2, .int x2), (3, .int x3), (4, rA g a4), (6, .int s.1), (7, .int s.2.1), (8, .int s.2.2)] [] h) (fun s => t_X6_guilty_B85 o rr h x2 x3 a4 s.1 s.2.1 s.2.2 ha4) (x6, x7, x8)
noncomputable def f_X6_guilty (h : MH) (x1 : Int32) (x2 : Int32) (x3 : Int32) : Option (Int32 × MH) :=
  Option.bind (f_X6_isRow h x1) (fun r2 => (if r2 = true then (if x2 < 1 then some ((-1), h) else (if 4 < x2 then some ((-1), h) else Option.bind (f_X6_isCopy x3) (fun r19 => (if r19 = true then gd (ix x1 6) (Option.bind (f_X5_isMissing h (rf 1 x1.toNatClampNeg)) (fun r37 => (if r37 = true then bnd2 (f_X6_found h 1) (fun r45 h45 => some (r45, h45)) else Option.bind (f_X6_wrongInNames h (rf 1 x1.toNatClampNeg)) (fun r51 => (if r51 = 0 then nm ((shl 1 (h.1 (rf 1 x1.toNatClampNeg) 1)) - 1) (fun v80 => Option.bind (f_X6_guilty_L85 h x2 x3 (rf 1 x1.toNatClampNeg) 0 v80 1) (fun b85 => (if 0 < b85.1 then nm (uI h 0 9 b85.2) (fun h145 => some (b85.1, h145)) else nm (uI h 0 9 0) (fun h145 => some (b85.1, h145))))) else bnd2 (f_X6_found h r51) (fun r64 h64 => some (r64, h64))))))) else some ((-1), h))))) else some ((-1), h)))
set_option maxRecDepth 100000 in
set_option maxHeartbeats 4000000 in
theorem b_X6_guilty {g : Gx} {l : Launch} {V : VT} {Rt : Option Value → MH → Prop} (o : Ok g l RX6 cX6_guilty 9 3 67 0 V) (rr : ORi cX6_guilty V Rt) (h : MH) (x1 : Int32) (x2 : Int32) (x3 : Int32) : T (fun r => Rt (some (.int r.1)) r.2) (f_X6_guilty h x1 x2 x3) (V 0 [(0, rA g 0), (1, .int x1), (2, .int x2), (3, .int x3)] [] h) := by
  unfold f_X6_guilty
  refine R_aload_n o 0 dX6_guilty_0 rfl rfl ?_
  refine R_iload_n o 1 dX6_guilty_1 rfl rfl ?_
  refine K_z (callV' (As := [.int x1]) (rest := []) o dX6_guilty_2 lk_X6_73 rfl sh_0 rfl rfl rfl rfl (Nat.le_of_ble_eq_true rfl)) (c_X6_isRow g l h x1) (fun r2 => ?_)
  refine R_bif_eq o 25 dX6_guilty_5 (by decide) ?_ ?_
  · refine R_iload_n o 2 dX6_guilty_8 rfl rfl ?_
    refine R_iconst (v := 1) o dX6_guilty_9 (by decide) ?_
    refine R_icmp_lt o 25 dX6_guilty_10 (by decide) ?_ ?_
    · refine R_iconst (v := (-1)) o dX6_guilty_25 (by decide) ?_
      exact T_some (fun p => rr _ _ _ _ dX6_guilty_26 p)
    · refine R_iload_n o 2 dX6_guilty_13 rfl rfl ?_
      refine R_iconst (v := 4) o dX6_guilty_14 (by decide) ?_
      refine R_icmp_gt o 25 dX6_guilty_15 (by decide) ?_ ?_
      · refine R_iconst (v := (-1)) o dX6_guilty_25 (by decide) ?_
        exact T_some (fun p => rr _ _ _ _ dX6_guilty_26 p)
      · refine R_iload_n o 3 dX6_guilty_18 rfl rfl ?_
        refine K_z (callS' (av := [.int x3]) (rest := []) o dX6_guilty_19 lk_X6_285 rfl rfl rfl (Nat.le_of_ble_eq_true rfl)) (c_X6_isCopy g l h x3) (fun r19 => ?_)
        refine R_bif_ne o 27 dX6_guilty_22 (by decide) ?_ ?_
        · refine R_aload_n o 0 dX6_guilty_27 rfl rfl ?_
          refine R_getR (a2 := 1) o dX6_guilty_28 fl_X6_11 sh_0 (by decide) rfl rf_0_0 ?_
          refine R_iload_n o 1 dX6_guilty_31 rfl rfl ?_
          refine R_aald o dX6_guilty_32 sh_1 (Or.inl rfl) (fun q32 => ?_)
          refine R_astore (lv2 := [(0, rA g 0), (1, .int x1), (2, .int x2), (3, .int x3), (4, rA g (rf 1 x1.toNatClampNeg))]) o dX6_guilty_33 (by decide) rfl ?_
          refine R_aload o 4 dX6_guilty_35 rfl ?_
          refine K_z (callV' (As := []) (rest := []) o dX6_guilty_37 lk_X6_85 rfl (sh_el13 sh_1 q32) rfl rfl rfl rfl (Nat.le_of_ble_eq_true rfl)) (c_X5_isMissing g l h (rf 1 x1.toNatClampNeg) (sh_el13 sh_1 q32)) (fun r37 => ?_)
          refine R_bif_eq o 49 dX6_guilty_40 (by decide) ?_ ?_
          · refine R_aload_n o 0 dX6_guilty_43 rfl rfl ?_
            refine R_iconst (v := 1) o dX6_guilty_44 (by decide) ?_
            refine K_ih (callV' (As := [.int 1]) (rest := []) o dX6_guilty_45 lk_X6_77 rfl sh_0 rfl rfl rfl rfl (Nat.le_of_ble_eq_true rfl)) (c_X6_found g l h 1) (fun r45 h45 => ?_)
            exact T_some (fun p => rr _ _ _ _ dX6_guilty_48 p)
          · refine R_aload o 4 dX6_guilty_49 rfl ?_
            refine K_i (callS' (av := [rA g (rf 1 x1.toNatClampNeg)]) (rest := []) o dX6_guilty_51 lk_X6_288 rfl rfl rfl (Nat.le_of_ble_eq_true rfl)) (c_X6_wrongInNames g l h (rf 1 x1.toNatClampNeg) (sh_el13 sh_1 q32)) (fun r51 => ?_)
            refine R_istore (lv2 := [(0, rA g 0), (1, .int x1), (2, .int x2), (3, .int x3), (4, rA g (rf 1 x1.toNatClampNeg)), (5, .int r51)]) o dX6_guilty_54 (by decide) rfl ?_
            refine R_iload o 5 dX6_guilty_56 rfl ?_
            refine R_if_eq o 68 dX6_guilty_58 (by decide) ?_ ?_
            · refine R_iconst (v := 0) o dX6_guilty_68 (by decide) ?_
              refine R_istore (lv2 := [(0, rA g 0), (1, .int x1), (2, .int x2), (3, .int x3), (4, rA g (rf 1 x1.toNatClampNeg)), (5, .int r51), (6, .int 0)]) o dX6_guilty_69 (by decide) rfl ?_
              refine R_iconst (v := 1) o dX6_guilty_71 (by decide) ?_
              refine R_aload o 4 dX6_guilty_72 rfl ?_
              refine R_getI o dX6_guilty_74 fl_X6_114 (sh_el13 sh_1 q32) (by decide) rfl ?_
              refine R_ishl o dX6_guilty_77 ?_
              refine R_iconst (v := 1) o dX6_guilty_78 (by decide) ?_
              refine R_isub o dX6_guilty_79 ?_
              refine R_nmI (fun v80 => ?_)
              refine R_istore (lv2 := [(0, rA g 0), (1, .int x1), (2, .int x2), (3, .int x3), (4, rA g (rf 1 x1.toNatClampNeg)), (5, .int r51), (6, .int 0), (7, .int v80)]) o dX6_guilty_80 (by decide) rfl ?_
              refine R_iconst (v := 1) o dX6_guilty_82 (by decide) ?_
              refine R_istore (lv2 := [(0, rA g 0), (1, .int x1), (2, .int x2), (3, .int x3), (4, rA g (rf 1 x1.toNatClampNeg)), (5, .int r51), (6, .int 0), (7, .int v80), (8, .int 1)]) o dX6_guilty_83 (by decide) rfl ?_
              refine R_drop (lv2 := [(0, rA g 0), (2, .int x2), (3, .int x3), (4, rA g (rf 1 x1.toNatClampNeg)), (6, .int 0), (7, .int v80), (8, .int 1)]) o [0, 2, 3, 4, 6, 7, 8] rfl ?_
              refine T_bind (t_X6_guilty_L85 o rr h x2 x3 (rf 1 x1.toNatClampNeg) 0 v80 1 (sh_el13 sh_1 q32)) (fun b85 => ?_)
              refine R_aload_n o 0 dX6_guilty_133 rfl rfl ?_
              refine R_iload o 1 dX6_guilty_134 rfl ?_
              refine R_if_le o 144 dX6_guilty_136 (by decide) ?_ ?_
              · refine R_iload o 2 dX6_guilty_139 rfl ?_
                refine R_goto o 145 dX6_guilty_141 (by decide) ?_
                refine R_putI o dX6_guilty_145 fp_X6_61 sh_0 (by decide) rfl ?_
                refine R_nmH (fun h145 => ?_)
                refine R_iload o 1 dX6_guilty_148 rfl ?_
                exact T_some (fun p => rr _ _ _ _ dX6_guilty_150 p)
              · refine R_iconst (v := 0) o dX6_guilty_144 (by decide) ?_
                refine R_putI o dX6_guilty_145 fp_X6_61 sh_0 (by decide) rfl ?_
                refine R_nmH (fun h145 => ?_)
                refine R_iload o 1 dX6_guilty_148 rfl ?_
                exact T_some (fun p => rr _ _ _ _ dX6_guilty_150 p)
            · refine R_aload_n o 0 dX6_guilty_61 rfl rfl ?_
              refine R_iload o 5 dX6_guilty_62 rfl ?_
              refine K_ih (callV' (As := [.int r51]) (rest := []) o dX6_guilty_64 lk_X6_77 rfl sh_0 rfl rfl rfl rfl (Nat.le_of_ble_eq_true rfl)) (c_X6_found g l h r51) (fun r64 h64 => ?_)
              exact T_some (fun p => rr _ _ _ _ dX6_guilty_67 p)
        · refine R_iconst (v := (-1)) o dX6_guilty_25 (by decide) ?_
          exact T_some (fun p => rr _ _ _ _ dX6_guilty_26 p)
  · refine R_iconst (v := (-1)) o dX6_guilty_25 (by decide) ?_
    exact T_some (fun p => rr _ _ _ _ dX6_guilty_26 p)
theorem c_X6_guilty (g : Gx) (l : Launch) (h : MH) (x1 : Int32) (x2 : Int32) (x3 : Int32) (r : (Int32 × MH)) (e : f_X6_guilty h x1 x2 x3 = some r) : Ctr g l yX6_guilty cX6_guilty 9 (some .int) 3 67 0 [rA g 0, .int x1, .int x2, .int x3] h (some (.int r.1)) r.2 := mkCi (plainFor_of_name (by decide)) (Nat.le_of_ble_eq_true rfl) (fun V Rt o rr p => b_X6_guilty o rr h x1 x2 x3  r e p)
/-! X6_apart -/
noncomputable def f_X6_apart_B78 (h : MH) (a2 : Nat) (x4 : Int32) (x5 : Int32) (x6 : Int32) : Option ((Int32 × Int32) ⊕ (Int32)) :=
  (if x6 < (h.1 a2 1) then Option.bind (f_X5_get h a2 x5) (fun r92 => Option.bind (f_X5_get h a2 x6) (fun r98 => Option.bind (f_J6_bitCount_0f7a4 (r92 ^^^ r98)) (fun r102 => Option.bind (f_J9_min_7cf53 x4 r102) (fun r105 => some (.inl (r105, (x6 + 1))))))) else some (.inr x4))
set_option maxRecDepth 100000 in
set_option maxHeartbeats 4000000 in
theorem t_X6_apart_B78 {g : Gx} {l : Launch} {V : VT} {Rt : Option Value → MH → Prop} (o : Ok g l RX6 cX6_apart 7 2 43 0 V) (rr : ORi cX6_apart V Rt) (h : MH) (a2 : Nat) (x4 : Int32) (x5 : Int32) (x6 : Int32) (ha2 : shp a2 = (5, 0)) : T (Sum.elim (fun s => V 78 [(2, rA g a2), (4, .int s.1), (5, .int x5), (6, .int s.2)] [] h) (fun b => V 116 [(2, rA g a2), (4, .int b), (5, .int x5)] [] h)) (f_X6_apart_B78  h a2 x4 x5 x6) (V 78 [(2, rA g a2), (4, .int x4), (5, .int x5), (6, .int x6)] [] h) := by
  unfold f_X6_apart_B78
  refine R_iload o 3 dX6_apart_78 rfl ?_
  refine R_aload_n o 0 dX6_apart_80 rfl rfl ?_
  refine R_getI o dX6_apart_81 fl_X6_114 ha2 (by decide) rfl ?_
  refine R_icmp_ge o 116 dX6_apart_84 (by decide) ?_ ?_
  · refine R_iload o 1 dX6_apart_87 rfl ?_
    refine R_aload_n o 0 dX6_apart_89 rfl rfl ?_
    refine R_iload o 2 dX6_apart_90 rfl ?_
    refine K_i (callV' (As := [.int x5]) (rest := [.int x4]) o dX6_apart_92 lk_X6_92 rfl ha2 rfl rfl rfl rfl (Nat.le_of_ble_eq_true rfl)) (c_X5_get g l h a2 x5 ha2) (fun r92 => ?_)
    refine R_aload_n o 0 dX6_apart_95 rfl rfl ?_
    refine R_iload o 3 dX6_apart_96 rfl ?_
    refine K_i (callV' (As := [.int x6]) (rest := [.int r92, .int x4]) o dX6_apart_98 lk_X6_92 rfl ha2 rfl rfl rfl rfl (Nat.le_of_ble_eq_true rfl)) (c_X5_get g l h a2 x6 ha2) (fun r98 => ?_)
    refine R_ixor o dX6_apart_101 ?_
    refine K_i (callS' (av := [.int (r92 ^^^ r98)]) (rest := [.int x4]) o dX6_apart_102 lk_X6_295 rfl rfl rfl (Nat.le_of_ble_eq_true rfl)) (c_J6_bitCount_0f7a4 g l h (r92 ^^^ r98)) (fun r102 => ?_)
    refine K_i (callS' (av := [.int x4, .int r102]) (rest := []) o dX6_apart_105 lk_X6_262 rfl rfl rfl (Nat.le_of_ble_eq_true rfl)) (c_J9_min_7cf53 g l h x4 r102) (fun r105 => ?_)
    refine R_istore (lv2 := [(2, rA g a2), (4, .int r105), (5, .int x5), (6, .int x6)]) o dX6_apart_108 (by decide) rfl ?_
    refine R_iinc (v := (x6 + 1)) (lv2 := [(2, rA g a2), (4, .int r105), (5, .int x5), (6, .int (x6 + 1))]) o 3 dX6_apart_110 rfl rfl (by decide) rfl ?_
    refine R_goto o 78 dX6_apart_113 (by decide) ?_
    exact T_some (fun p => p)
  · refine R_drop (lv2 := [(2, rA g a2), (4, .int x4), (5, .int x5)]) o [0, 1, 2] rfl ?_
    exact T_some (fun p => p)
noncomputable def f_X6_apart_L78 (h : MH) (a2 : Nat) (x4 : Int32) (x5 : Int32) (x6 : Int32) : Option (Int32) :=
  lpo (fun s : Int32 × Int32 => f_X6_apart_B78 h a2 s.1 x5 s.2) (x4, x6)
theorem t_X6_apart_L78 {g : Gx} {l : Launch} {V : VT} {Rt : Option Value → MH → Prop} (o : Ok g l RX6 cX6_apart 7 2 43 0 V) (rr : ORi cX6_apart V Rt) (h : MH) (a2 : Nat) (x4 : Int32) (x5 : Int32) (x6 : Int32) (ha2 : shp a2 = (5, 0)) : T (fun b => V 116 [(2, rA g a2), (4, .int b), (5, .int x5)] [] h) (f_X6_apart_L78 h a2 x4 x5 x6) (V 78 [(2, rA g a2), (4, .int x4), (5, .int x5), (6, .int x6)] [] h) := T_loop (head := fun s : Int32 × Int32 => V 78 [(2, rA g a2), (4, .int s.1), (5, .int x5), (6, .int s.2)] [] h) (fun s => t_X6_apart_B78 o rr h a2 s.1 x5 s.2 ha2) (x4, x6)
noncomputable def f_X6_apart_B63 (h : MH) (a2 : Nat) (x4 : Int32) (x5 : Int32) : Option ((Int32 × Int32) ⊕ (Int32)) :=
  (if x5 < (h.1 a2 1) then nm (x5 + 1) (fun v76 => Option.bind (f_X6_apart_L78 h a2 x4 x5 v76) (fun b78 => some (.inl (b78, (x5 + 1))))) else some (.inr x4))
set_option maxRecDepth 100000 in
set_option maxHeartbeats 4000000 in
theorem t_X6_apart_B63 {g : Gx} {l : Launch} {V : VT} {Rt : Option Value → MH → Prop} (o : Ok g l RX6 cX6_apart 7 2 43 0 V) (rr : ORi cX6_apart V Rt) (h : MH) (a2 : Nat) (x4 : Int32) (x5 : Int32) (ha2 : shp a2 = (5, 0)) : T (Sum.elim (fun s => V 63 [(2, rA g a2), (4, .int s.1), (5, .int s.2)] [] h) (fun b => V 122 [(4, .int b)] [] h)) (f_X6_apart_B63  h a2 x4 x5) (V 63 [(2, rA g a2), (4, .int x4), (5, .int x5)] [] h) := by
  unfold f_X6_apart_B63
  refine R_iload o 2 dX6_apart_63 rfl ?_
  refine R_aload_n o 0 dX6_apart_65 rfl rfl ?_
  refine R_getI o dX6_apart_66 fl_X6_114 ha2 (by decide) rfl ?_
  refine R_icmp_ge o 122 dX6_apart_69 (by decide) ?_ ?_
  · refine R_iload o 2 dX6_apart_72 rfl ?_
    refine R_iconst (v := 1) o dX6_apart_74 (by decide) ?_
    refine R_iadd o dX6_apart_75 ?_
    refine R_nmI (fun v76 => ?_)
    refine R_istore (lv2 := [(2, rA g a2), (4, .int x4), (5, .int x5), (6, .int v76)]) o dX6_apart_76 (by decide) rfl ?_
    refine T_bind (t_X6_apart_L78 o rr h a2 x4 x5 v76 ha2) (fun b78 => ?_)
    refine R_iinc (v := (x5 + 1)) (lv2 := [(2, rA g a2), (4, .int b78), (5, .int (x5 + 1))]) o 2 dX6_apart_116 rfl rfl (by decide) rfl ?_
    refine R_goto o 63 dX6_apart_119 (by decide) ?_
    exact T_some (fun p => p)
  · refine R_drop (lv2 := [(4, .int x4)]) o [1] rfl ?_
    exact T_some (fun p => p)
noncomputable def f_X6_apart_L63 (h : MH) (a2 : Nat) (x4 : Int32) (x5 : Int32) : Option (Int32) :=
  lpo (fun s : Int32 × Int32 => f_X6_apart_B63 h a2 s.1 s.2) (x4, x5)
theorem t_X6_apart_L63 {g : Gx} {l : Launch} {V : VT} {Rt : Option Value → MH → Prop} (o : Ok g l RX6 cX6_apart 7 2 43 0 V) (rr : ORi cX6_apart V Rt) (h : MH) (a2 : Nat) (x4 : Int32) (x5 : Int32) (ha2 : shp a2 = (5, 0)) : T (fun b => V 122 [(4, .int b)] [] h) (f_X6_apart_L63 h a2 x4 x5) (V 63 [(2, rA g a2), (4, .int x4), (5, .int x5)] [] h) := T_loop (head := fun s : Int32 × Int32 => V 63 [(2, rA g a2), (4, .int s.1), (5, .int s.2)] [] h) (fun s => t_X6_apart_B63 o rr h a2 s.1 s.2 ha2) (x4, x5)
noncomputable def f_X6_apart (h : MH) (x1 : Int32) : Option (Int32 × MH) :=
  Option.bind (f_X6_isRow h x1) (fun r2 => (if r2 = true then gd (ix x1 6) (Option.bind (f_X5_isMissing h (rf 1 x1.toNatClampNeg)) (fun r18 => (if r18 = true then bnd2 (f_X6_found h 1) (fun r26 h26 => some (r26, h26)) else Option.bind (f_X6_wrongInNames h (rf 1 x1.toNatClampNeg)) (fun r31 => (if r31 = 0 then (if (h.1 (rf 1 x1.toNatClampNeg) 1) < 2 then some ((-9), h) else Option.bind (f_X6_apart_L63 h (rf 1 x1.toNatClampNeg) 12 0) (fun b63 => some (b63, h))) else bnd2 (f_X6_found h r31) (fun r41 h41 => some (r41, h41))))))) else some ((-1), h)))
set_option maxRecDepth 100000 in
set_option maxHeartbeats 4000000 in
theorem b_X6_apart {g : Gx} {l : Launch} {V : VT} {Rt : Option Value → MH → Prop} (o : Ok g l RX6 cX6_apart 7 2 43 0 V) (rr : ORi cX6_apart V Rt) (h : MH) (x1 : Int32) : T (fun r => Rt (some (.int r.1)) r.2) (f_X6_apart h x1) (V 0 [(0, rA g 0), (1, .int x1)] [] h) := by
  unfold f_X6_apart
  refine R_aload_n o 0 dX6_apart_0 rfl rfl ?_
  refine R_iload_n o 1 dX6_apart_1 rfl rfl ?_
  refine K_z (callV' (As := [.int x1]) (rest := []) o dX6_apart_2 lk_X6_73 rfl sh_0 rfl rfl rfl rfl (Nat.le_of_ble_eq_true rfl)) (c_X6_isRow g l h x1) (fun r2 => ?_)
  refine R_bif_ne o 10 dX6_apart_5 (by decide) ?_ ?_
  · refine R_aload_n o 0 dX6_apart_10 rfl rfl ?_
    refine R_getR (a2 := 1) o dX6_apart_11 fl_X6_11 sh_0 (by decide) rfl rf_0_0 ?_
    refine R_iload_n o 1 dX6_apart_14 rfl rfl ?_
    refine R_aald o dX6_apart_15 sh_1 (Or.inl rfl) (fun q15 => ?_)
    refine R_astore_n (lv2 := [(0, rA g 0), (1, .int x1), (2, rA g (rf 1 x1.toNatClampNeg))]) o dX6_apart_16 rfl (by decide) rfl ?_
    refine R_aload_n o 2 dX6_apart_17 rfl rfl ?_
    refine K_z (callV' (As := []) (rest := []) o dX6_apart_18 lk_X6_85 rfl (sh_el13 sh_1 q15) rfl rfl rfl rfl (Nat.le_of_ble_eq_true rfl)) (c_X5_isMissing g l h (rf 1 x1.toNatClampNeg) (sh_el13 sh_1 q15)) (fun r18 => ?_)
    refine R_bif_eq o 30 dX6_apart_21 (by decide) ?_ ?_
    · refine R_aload_n o 0 dX6_apart_24 rfl rfl ?_
      refine R_iconst (v := 1) o dX6_apart_25 (by decide) ?_
      refine K_ih (callV' (As := [.int 1]) (rest := []) o dX6_apart_26 lk_X6_77 rfl sh_0 rfl rfl rfl rfl (Nat.le_of_ble_eq_true rfl)) (c_X6_found g l h 1) (fun r26 h26 => ?_)
      exact T_some (fun p => rr _ _ _ _ dX6_apart_29 p)
    · refine R_aload_n o 2 dX6_apart_30 rfl rfl ?_
      refine K_i (callS' (av := [rA g (rf 1 x1.toNatClampNeg)]) (rest := []) o dX6_apart_31 lk_X6_288 rfl rfl rfl (Nat.le_of_ble_eq_true rfl)) (c_X6_wrongInNames g l h (rf 1 x1.toNatClampNeg) (sh_el13 sh_1 q15)) (fun r31 => ?_)
      refine R_istore_n (lv2 := [(0, rA g 0), (1, .int x1), (2, rA g (rf 1 x1.toNatClampNeg)), (3, .int r31)]) o dX6_apart_34 rfl (by decide) rfl ?_
      refine R_iload_n o 3 dX6_apart_35 rfl rfl ?_
      refine R_if_eq o 45 dX6_apart_36 (by decide) ?_ ?_
      · refine R_aload_n o 2 dX6_apart_45 rfl rfl ?_
        refine R_getI o dX6_apart_46 fl_X6_114 (sh_el13 sh_1 q15) (by decide) rfl ?_
        refine R_iconst (v := 2) o dX6_apart_49 (by decide) ?_
        refine R_icmp_ge o 56 dX6_apart_50 (by decide) ?_ ?_
        · refine R_bipush (v := (-9)) o dX6_apart_53 (by decide) ?_
          exact T_some (fun p => rr _ _ _ _ dX6_apart_55 p)
        · refine R_bipush (v := 12) o dX6_apart_56 (by decide) ?_
          refine R_istore (lv2 := [(0, rA g 0), (1, .int x1), (2, rA g (rf 1 x1.toNatClampNeg)), (3, .int r31), (4, .int 12)]) o dX6_apart_58 (by decide) rfl ?_
          refine R_iconst (v := 0) o dX6_apart_60 (by decide) ?_
          refine R_istore (lv2 := [(0, rA g 0), (1, .int x1), (2, rA g (rf 1 x1.toNatClampNeg)), (3, .int r31), (4, .int 12), (5, .int 0)]) o dX6_apart_61 (by decide) rfl ?_
          refine R_drop (lv2 := [(2, rA g (rf 1 x1.toNatClampNeg)), (4, .int 12), (5, .int 0)]) o [2, 4, 5] rfl ?_
          refine T_bind (t_X6_apart_L63 o rr h (rf 1 x1.toNatClampNeg) 12 0 (sh_el13 sh_1 q15)) (fun b63 => ?_)
          refine R_iload o 0 dX6_apart_122 rfl ?_
          exact T_some (fun p => rr _ _ _ _ dX6_apart_124 p)
      · refine R_aload_n o 0 dX6_apart_39 rfl rfl ?_
        refine R_iload_n o 3 dX6_apart_40 rfl rfl ?_
        refine K_ih (callV' (As := [.int r31]) (rest := []) o dX6_apart_41 lk_X6_77 rfl sh_0 rfl rfl rfl rfl (Nat.le_of_ble_eq_true rfl)) (c_X6_found g l h r31) (fun r41 h41 => ?_)
        exact T_some (fun p => rr _ _ _ _ dX6_apart_44 p)
  · refine R_iconst (v := (-1)) o dX6_apart_8 (by decide) ?_
    exact T_some (fun p => rr _ _ _ _ dX6_apart_9 p)
theorem c_X6_apart (g : Gx) (l : Launch) (h : MH) (x1 : Int32) (r : (Int32 × MH)) (e : f_X6_apart h x1 = some r) : Ctr g l yX6_apart cX6_apart 7 (some .int) 2 43 0 [rA g 0, .int x1] h (some (.int r.1)) r.2 := mkCi (plainFor_of_name (by decide)) (Nat.le_of_ble_eq_true rfl) (fun V Rt o rr p => b_X6_apart o rr h x1  r e p)
/-! X6_wrongInModels -/
noncomputable def f_X6_wrongInModels (h : MH) (a0 : Nat) (a1 : Nat) : Option Int32 :=
  (if (h.1 a0 1) = 8 then (if (h.1 a1 1) = 8 then Option.bind (f_X5_isWithin h a0 0 999) (fun r25 => (if r25 = true then Option.bind (f_X5_isWithin h a1 0 999) (fun r36 => (if r36 = true then Option.bind (f_X5_total h a0) (fun r45 => (if r45 = 0 then some 4 else Option.bind (f_X5_total h a1) (fun r54 => (if r54 = 0 then some 4 else some 0)))) else some 3)) else some 3)) else some 5) else some 5)
set_option maxRecDepth 100000 in
set_option maxHeartbeats 4000000 in
theorem b_X6_wrongInModels {g : Gx} {l : Launch} {V : VT} {Rt : Option Value → MH → Prop} (o : Ok g l RX6 cX6_wrongInModels 2 1 23 0 V) (rr : ORi cX6_wrongInModels V Rt) (h : MH) (a0 : Nat) (a1 : Nat) (ha0 : shp a0 = (5, 0)) (ha1 : shp a1 = (5, 0)) : T (fun r => Rt (some (.int r)) h) (f_X6_wrongInModels h a0 a1) (V 0 [(0, rA g a0), (1, rA g a1)] [] h) := by
  unfold f_X6_wrongInModels
  refine R_aload_n o 0 dX6_wrongInModels_0 rfl rfl ?_
  refine R_getI o dX6_wrongInModels_1 fl_X6_114 ha0 (by decide) rfl ?_
  refine R_bipush (v := 8) o dX6_wrongInModels_4 (by decide) ?_
  refine R_icmp_ne o 18 dX6_wrongInModels_6 (by decide) ?_ ?_
  · refine R_aload_n o 1 dX6_wrongInModels_9 rfl rfl ?_
    refine R_getI o dX6_wrongInModels_10 fl_X6_114 ha1 (by decide) rfl ?_
    refine R_bipush (v := 8) o dX6_wrongInModels_13 (by decide) ?_
    refine R_icmp_eq o 20 dX6_wrongInModels_15 (by decide) ?_ ?_
    · refine R_aload_n o 0 dX6_wrongInModels_20 rfl rfl ?_
      refine R_iconst (v := 0) o dX6_wrongInModels_21 (by decide) ?_
      refine R_sipush (v := 999) o dX6_wrongInModels_22 (by decide) ?_
      refine K_z (callV' (As := [.int 0, .int 999]) (rest := []) o dX6_wrongInModels_25 lk_X6_373 rfl ha0 rfl rfl rfl rfl (Nat.le_of_ble_eq_true rfl)) (c_X5_isWithin g l h a0 0 999 ha0) (fun r25 => ?_)
      refine R_bif_eq o 42 dX6_wrongInModels_28 (by decide) ?_ ?_
      · refine R_aload_n o 1 dX6_wrongInModels_31 rfl rfl ?_
        refine R_iconst (v := 0) o dX6_wrongInModels_32 (by decide) ?_
        refine R_sipush (v := 999) o dX6_wrongInModels_33 (by decide) ?_
        refine K_z (callV' (As := [.int 0, .int 999]) (rest := []) o dX6_wrongInModels_36 lk_X6_373 rfl ha1 rfl rfl rfl rfl (Nat.le_of_ble_eq_true rfl)) (c_X5_isWithin g l h a1 0 999 ha1) (fun r36 => ?_)
        refine R_bif_ne o 44 dX6_wrongInModels_39 (by decide) ?_ ?_
        · refine R_aload_n o 0 dX6_wrongInModels_44 rfl rfl ?_
          refine K_l (callV' (As := []) (rest := []) o dX6_wrongInModels_45 lk_X6_117 rfl ha0 rfl rfl rfl rfl (Nat.le_of_ble_eq_true rfl)) (c_X5_total g l h a0 ha0) (fun r45 => ?_)
          refine R_lconst (v := 0) o dX6_wrongInModels_48 (by decide) ?_
          refine R_lcmp_eq o 62 dX6_wrongInModels_49 dX6_wrongInModels_50 (by decide) ?_ ?_
          · refine R_iconst (v := 4) o dX6_wrongInModels_62 (by decide) ?_
            refine R_goto o 67 dX6_wrongInModels_63 (by decide) ?_
            exact T_some (fun p => rr _ _ _ _ dX6_wrongInModels_67 p)
          · refine R_aload_n o 1 dX6_wrongInModels_53 rfl rfl ?_
            refine K_l (callV' (As := []) (rest := []) o dX6_wrongInModels_54 lk_X6_117 rfl ha1 rfl rfl rfl rfl (Nat.le_of_ble_eq_true rfl)) (c_X5_total g l h a1 ha1) (fun r54 => ?_)
            refine R_lconst (v := 0) o dX6_wrongInModels_57 (by decide) ?_
            refine R_lcmp_ne o 66 dX6_wrongInModels_58 dX6_wrongInModels_59 (by decide) ?_ ?_
            · refine R_iconst (v := 4) o dX6_wrongInModels_62 (by decide) ?_
              refine R_goto o 67 dX6_wrongInModels_63 (by decide) ?_
              exact T_some (fun p => rr _ _ _ _ dX6_wrongInModels_67 p)
            · refine R_iconst (v := 0) o dX6_wrongInModels_66 (by decide) ?_
              exact T_some (fun p => rr _ _ _ _ dX6_wrongInModels_67 p)
        · refine R_iconst (v := 3) o dX6_wrongInModels_42 (by decide) ?_
          exact T_some (fun p => rr _ _ _ _ dX6_wrongInModels_43 p)
      · refine R_iconst (v := 3) o dX6_wrongInModels_42 (by decide) ?_
        exact T_some (fun p => rr _ _ _ _ dX6_wrongInModels_43 p)
    · refine R_iconst (v := 5) o dX6_wrongInModels_18 (by decide) ?_
      exact T_some (fun p => rr _ _ _ _ dX6_wrongInModels_19 p)
  · refine R_iconst (v := 5) o dX6_wrongInModels_18 (by decide) ?_
    exact T_some (fun p => rr _ _ _ _ dX6_wrongInModels_19 p)
theorem c_X6_wrongInModels (g : Gx) (l : Launch) (h : MH) (a0 : Nat) (a1 : Nat) (ha0 : shp a0 = (5, 0)) (ha1 : shp a1 = (5, 0)) (r : Int32) (e : f_X6_wrongInModels h a0 a1 = some r) : Ctr g l yX6_wrongInModels cX6_wrongInModels 2 (some .int) 1 23 0 [rA g a0, rA g a1] h (some (.int r)) h := mkCi (plainFor_of_name (by decide)) (Nat.le_of_ble_eq_true rfl) (fun V Rt o rr p => b_X6_wrongInModels o rr h a0 a1 ha0 ha1 r e p)
/-! X6_leadOf -/
noncomputable def f_X6_leadOf (h : MH) (a0 : Nat) (a1 : Nat) (x2 : Int32) : Option Int64 :=
  Option.bind (f_X5_get h a0 x2) (fun r2 => Option.bind (f_X5_total h a1) (fun r7 => Option.bind (f_X5_get h a1 x2) (fun r13 => Option.bind (f_X5_total h a0) (fun r18 => some (((Int32.toInt64 r2) * r7) - ((Int32.toInt64 r13) * r18))))))
set_option maxRecDepth 100000 in
set_option maxHeartbeats 4000000 in
theorem b_X6_leadOf {g : Gx} {l : Launch} {V : VT} {Rt : Option Value → MH → Prop} (o : Ok g l RX6 cX6_leadOf 3 2 42 0 V) (rr : ORl cX6_leadOf V Rt) (h : MH) (a0 : Nat) (a1 : Nat) (x2 : Int32) (ha0 : shp a0 = (5, 0)) (ha1 : shp a1 = (5, 0)) : T (fun r => Rt (some (.long r)) h) (f_X6_leadOf h a0 a1 x2) (V 0 [(0, rA g a0), (1, rA g a1), (2, .int x2)] [] h) := by
  unfold f_X6_leadOf
  refine R_aload_n o 0 dX6_leadOf_0 rfl rfl ?_
  refine R_iload_n o 2 dX6_leadOf_1 rfl rfl ?_
  refine K_i (callV' (As := [.int x2]) (rest := []) o dX6_leadOf_2 lk_X6_92 rfl ha0 rfl rfl rfl rfl (Nat.le_of_ble_eq_true rfl)) (c_X5_get g l h a0 x2 ha0) (fun r2 => ?_)
  refine R_i2l o dX6_leadOf_5 ?_
  refine R_aload_n o 1 dX6_leadOf_6 rfl rfl ?_
  refine K_l (callV' (As := []) (rest := [.long (Int32.toInt64 r2)]) o dX6_leadOf_7 lk_X6_117 rfl ha1 rfl rfl rfl rfl (Nat.le_of_ble_eq_true rfl)) (c_X5_total g l h a1 ha1) (fun r7 => ?_)
  refine R_lmul o dX6_leadOf_10 ?_
  refine R_aload_n o 1 dX6_leadOf_11 rfl rfl ?_
  refine R_iload_n o 2 dX6_leadOf_12 rfl rfl ?_
  refine K_i (callV' (As := [.int x2]) (rest := [.long ((Int32.toInt64 r2) * r7)]) o dX6_leadOf_13 lk_X6_92 rfl ha1 rfl rfl rfl rfl (Nat.le_of_ble_eq_true rfl)) (c_X5_get g l h a1 x2 ha1) (fun r13 => ?_)
  refine R_i2l o dX6_leadOf_16 ?_
  refine R_aload_n o 0 dX6_leadOf_17 rfl rfl ?_
  refine K_l (callV' (As := []) (rest := [.long (Int32.toInt64 r13), .long ((Int32.toInt64 r2) * r7)]) o dX6_leadOf_18 lk_X6_117 rfl ha0 rfl rfl rfl rfl (Nat.le_of_ble_eq_true rfl)) (c_X5_total g l h a0 ha0) (fun r18 => ?_)
  refine R_lmul o dX6_leadOf_21 ?_
  refine R_lsub o dX6_leadOf_22 ?_
  exact T_some (fun p => rr _ _ _ _ dX6_leadOf_23 p)
theorem c_X6_leadOf (g : Gx) (l : Launch) (h : MH) (a0 : Nat) (a1 : Nat) (x2 : Int32) (ha0 : shp a0 = (5, 0)) (ha1 : shp a1 = (5, 0)) (r : Int64) (e : f_X6_leadOf h a0 a1 x2 = some r) : Ctr g l yX6_leadOf cX6_leadOf 3 (some .long) 2 42 0 [rA g a0, rA g a1, .int x2] h (some (.long r)) h := mkCl (plainFor_of_name (by decide)) (Nat.le_of_ble_eq_true rfl) (fun V Rt o rr p => b_X6_leadOf o rr h a0 a1 x2 ha0 ha1 r e p)
/-! J9_abs_067f4 -/
noncomputable def f_J9_abs_067f4 (l0 : Int64) : Option Int64 :=
  (if l0 < 0 then some (-l0) else some l0)
set_option maxRecDepth 100000 in
set_option maxHeartbeats 4000000 in
theorem b_J9_abs_067f4 {g : Gx} {l : Launch} {V : VT} {Rt : Option Value → MH → Prop} (o : Ok g l RJ9 cJ9_abs_067f4 2 0 0 0 V) (rr : ORl cJ9_abs_067f4 V Rt) (h : MH) (l0 : Int64) : T (fun r => Rt (some (.long r)) h) (f_J9_abs_067f4  l0) (V 0 [(0, .long l0)] [] h) := by
  unfold f_J9_abs_067f4
  refine R_lload_n o 0 dJ9_abs_067f4_0 rfl rfl ?_
  refine R_lconst (v := 0) o dJ9_abs_067f4_1 (by decide) ?_
  refine R_lcmp_ge o 11 dJ9_abs_067f4_2 dJ9_abs_067f4_3 (by decide) ?_ ?_
  · refine R_lload_n o 0 dJ9_abs_067f4_6 rfl rfl ?_
    refine R_lneg o dJ9_abs_067f4_7 ?_
    refine R_goto o 12 dJ9_abs_067f4_8 (by decide) ?_
    exact T_some (fun p => rr _ _ _ _ dJ9_abs_067f4_12 p)
  · refine R_lload_n o 0 dJ9_abs_067f4_11 rfl rfl ?_
    exact T_some (fun p => rr _ _ _ _ dJ9_abs_067f4_12 p)
theorem c_J9_abs_067f4 (g : Gx) (l : Launch) (h : MH) (l0 : Int64) (r : Int64) (e : f_J9_abs_067f4  l0 = some r) : Ctr g l yJ9_abs_067f4 cJ9_abs_067f4 2 (some .long) 0 0 0 [.long l0] h (some (.long r)) h := mkCl (by decide +kernel) (Nat.le_of_ble_eq_true rfl) (fun V Rt o rr p => b_J9_abs_067f4 o rr h l0  r e p)
/-! X6_gapOf -/
noncomputable def f_X6_gapOf_B5 (h : MH) (a0 : Nat) (a1 : Nat) (l2 : Int64) (x4 : Int32) : Option ((Int64 × Int32) ⊕ (Int64)) :=
  (if x4 < 8 then Option.bind (f_X6_leadOf h a0 a1 x4) (fun r17 => Option.bind (f_J9_abs_067f4 r17) (fun r20 => nm (l2 + r20) (fun v24 => some (.inl (v24, (x4 + 1)))))) else some (.inr l2))
set_option maxRecDepth 100000 in
set_option maxHeartbeats 4000000 in
theorem t_X6_gapOf_B5 {g : Gx} {l : Launch} {V : VT} {Rt : Option Value → MH → Prop} (o : Ok g l RX6 cX6_gapOf 5 3 64 0 V) (rr : ORl cX6_gapOf V Rt) (h : MH) (a0 : Nat) (a1 : Nat) (l2 : Int64) (x4 : Int32) (ha0 : shp a0 = (5, 0)) (ha1 : shp a1 = (5, 0)) : T (Sum.elim (fun s => V 5 [(0, rA g a0), (1, rA g a1), (2, .long s.1), (4, .int s.2)] [] h) (fun b => V 31 [(2, .long b)] [] h)) (f_X6_gapOf_B5  h a0 a1 l2 x4) (V 5 [(0, rA g a0), (1, rA g a1), (2, .long l2), (4, .int x4)] [] h) := by
  unfold f_X6_gapOf_B5
  refine R_iload o 3 dX6_gapOf_5 rfl ?_
  refine R_bipush (v := 8) o dX6_gapOf_7 (by decide) ?_
  refine R_icmp_ge o 31 dX6_gapOf_9 (by decide) ?_ ?_
  · refine R_lload_n o 2 dX6_gapOf_12 rfl rfl ?_
    refine R_aload_n o 0 dX6_gapOf_13 rfl rfl ?_
    refine R_aload_n o 1 dX6_gapOf_14 rfl rfl ?_
    refine R_iload o 3 dX6_gapOf_15 rfl ?_
    refine K_l (callS' (av := [rA g a0, rA g a1, .int x4]) (rest := [.long l2]) o dX6_gapOf_17 lk_X6_384 rfl rfl rfl (Nat.le_of_ble_eq_true rfl)) (c_X6_leadOf g l h a0 a1 x4 ha0 ha1) (fun r17 => ?_)
    refine K_l (callS' (av := [.long r17]) (rest := [.long l2]) o dX6_gapOf_20 lk_X6_388 rfl rfl rfl (Nat.le_of_ble_eq_true rfl)) (c_J9_abs_067f4 g l h r17) (fun r20 => ?_)
    refine R_ladd o dX6_gapOf_23 ?_
    refine R_nmL (fun v24 => ?_)
    refine R_lstore_n (lv2 := [(0, rA g a0), (1, rA g a1), (2, .long v24), (4, .int x4)]) o dX6_gapOf_24 rfl (by decide) rfl ?_
    refine R_iinc (v := (x4 + 1)) (lv2 := [(0, rA g a0), (1, rA g a1), (2, .long v24), (4, .int (x4 + 1))]) o 3 dX6_gapOf_25 rfl rfl (by decide) rfl ?_
    refine R_goto o 5 dX6_gapOf_28 (by decide) ?_
    exact T_some (fun p => p)
  · refine R_drop (lv2 := [(2, .long l2)]) o [2] rfl ?_
    exact T_some (fun p => p)
noncomputable def f_X6_gapOf_L5 (h : MH) (a0 : Nat) (a1 : Nat) (l2 : Int64) (x4 : Int32) : Option (Int64) :=
  lpo (fun s : Int64 × Int32 => f_X6_gapOf_B5 h a0 a1 s.1 s.2) (l2, x4)
theorem t_X6_gapOf_L5 {g : Gx} {l : Launch} {V : VT} {Rt : Option Value → MH → Prop} (o : Ok g l RX6 cX6_gapOf 5 3 64 0 V) (rr : ORl cX6_gapOf V Rt) (h : MH) (a0 : Nat) (a1 : Nat) (l2 : Int64) (x4 : Int32) (ha0 : shp a0 = (5, 0)) (ha1 : shp a1 = (5, 0)) : T (fun b => V 31 [(2, .long b)] [] h) (f_X6_gapOf_L5 h a0 a1 l2 x4) (V 5 [(0, rA g a0), (1, rA g a1), (2, .long l2), (4, .int x4)] [] h) := T_loop (head := fun s : Int64 × Int32 => V 5 [(0, rA g a0), (1, rA g a1), (2, .long s.1), (4, .int s.2)] [] h) (fun s => t_X6_gapOf_B5 o rr h a0 a1 s.1 s.2 ha0 ha1) (l2, x4)
noncomputable def f_X6_gapOf (h : MH) (a0 : Nat) (a1 : Nat) : Option Int64 :=
  Option.bind (f_X6_gapOf_L5 h a0 a1 0 0) (fun b5 => some b5)
set_option maxRecDepth 100000 in
set_option maxHeartbeats 4000000 in
theorem b_X6_gapOf {g : Gx} {l : Launch} {V : VT} {Rt : Option Value → MH → Prop} (o : Ok g l RX6 cX6_gapOf 5 3 64 0 V) (rr : ORl cX6_gapOf V Rt) (h : MH) (a0 : Nat) (a1 : Nat) (ha0 : shp a0 = (5, 0)) (ha1 : shp a1 = (5, 0)) : T (fun r => Rt (some (.long r)) h) (f_X6_gapOf h a0 a1) (V 0 [(0, rA g a0), (1, rA g a1)] [] h) := by
  unfold f_X6_gapOf
  refine R_lconst (v := 0) o dX6_gapOf_0 (by decide) ?_
  refine R_lstore_n (lv2 := [(0, rA g a0), (1, rA g a1), (2, .long 0)]) o dX6_gapOf_1 rfl (by decide) rfl ?_
  refine R_iconst (v := 0) o dX6_gapOf_2 (by decide) ?_
  refine R_istore (lv2 := [(0, rA g a0), (1, rA g a1), (2, .long 0), (4, .int 0)]) o dX6_gapOf_3 (by decide) rfl ?_
  refine T_bind (t_X6_gapOf_L5 o rr h a0 a1 0 0 ha0 ha1) (fun b5 => ?_)
  refine R_lload_n o 0 dX6_gapOf_31 rfl rfl ?_
  exact T_some (fun p => rr _ _ _ _ dX6_gapOf_32 p)
theorem c_X6_gapOf (g : Gx) (l : Launch) (h : MH) (a0 : Nat) (a1 : Nat) (ha0 : shp a0 = (5, 0)) (ha1 : shp a1 = (5, 0)) (r : Int64) (e : f_X6_gapOf h a0 a1 = some r) : Ctr g l yX6_gapOf cX6_gapOf 5 (some .long) 3 64 0 [rA g a0, rA g a1] h (some (.long r)) h := mkCl (plainFor_of_name (by decide)) (Nat.le_of_ble_eq_true rfl) (fun V Rt o rr p => b_X6_gapOf o rr h a0 a1 ha0 ha1 r e p)
/-! X6_howFar -/
noncomputable def f_X6_howFar (h : MH) (x1 : Int32) (x2 : Int32) : Option (Int32 × MH) :=
  Option.bind (f_X6_isCover h x1) (fun r2 => (if r2 = true then Option.bind (f_X6_isRow h x2) (fun r10 => (if r10 = true then gd (ix x1 6) (Option.bind (f_X1_isMissing h (rf 3 x1.toNatClampNeg)) (fun r24 => (if r24 = true then bnd2 (f_X6_found h 1) (fun r44 h44 => some (r44, h44)) else gd (ix x2 6) (Option.bind (f_X5_isMissing h (rf 1 x2.toNatClampNeg)) (fun r36 => (if r36 = true then bnd2 (f_X6_found h 1) (fun r44 h44 => some (r44, h44)) else gd (ix x1 6) (Option.bind (f_X1_countInto h (rf 3 x1.toNatClampNeg) 7) (fun h58 => gd (ix x2 6) (Option.bind (f_X6_wrongInModels h58 7 (rf 1 x2.toNatClampNeg)) (fun r71 => (if r71 = 0 then Option.bind (f_X5_total h58 7) (fun r92 => gd (ix x2 6) (Option.bind (f_X5_total h58 (rf 1 x2.toNatClampNeg)) (fun r102 => nm ((2 * r92) * r102) (fun v106 => gd (ix x2 6) (Option.bind (f_X6_gapOf h58 7 (rf 1 x2.toNatClampNeg)) (fun r122 => Option.bind (f_X2_become h58 r122 v106) (fun h127 => some (1, h127)))))))) else bnd2 (f_X6_found h58 r71) (fun r81 h81 => some (r81, h81))))))))))))) else some ((-1), h))) else some ((-1), h)))
set_option maxRecDepth 100000 in
set_option maxHeartbeats 4000000 in
theorem b_X6_howFar {g : Gx} {l : Launch} {V : VT} {Rt : Option Value → MH → Prop} (o : Ok g l RX6 cX6_howFar 6 4 91 0 V) (rr : ORi cX6_howFar V Rt) (h : MH) (x1 : Int32) (x2 : Int32) : T (fun r => Rt (some (.int r.1)) r.2) (f_X6_howFar h x1 x2) (V 0 [(0, rA g 0), (1, .int x1), (2, .int x2)] [] h) := by
  unfold f_X6_howFar
  refine R_aload_n o 0 dX6_howFar_0 rfl rfl ?_
  refine R_iload_n o 1 dX6_howFar_1 rfl rfl ?_
  refine K_z (callV' (As := [.int x1]) (rest := []) o dX6_howFar_2 lk_X6_124 rfl sh_0 rfl rfl rfl rfl (Nat.le_of_ble_eq_true rfl)) (c_X6_isCover g l h x1) (fun r2 => ?_)
  refine R_bif_eq o 16 dX6_howFar_5 (by decide) ?_ ?_
  · refine R_aload_n o 0 dX6_howFar_8 rfl rfl ?_
    refine R_iload_n o 2 dX6_howFar_9 rfl rfl ?_
    refine K_z (callV' (As := [.int x2]) (rest := []) o dX6_howFar_10 lk_X6_73 rfl sh_0 rfl rfl rfl rfl (Nat.le_of_ble_eq_true rfl)) (c_X6_isRow g l h x2) (fun r10 => ?_)
    refine R_bif_ne o 18 dX6_howFar_13 (by decide) ?_ ?_
    · refine R_aload_n o 0 dX6_howFar_18 rfl rfl ?_
      refine R_getR (a2 := 3) o dX6_howFar_19 fl_X6_20 sh_0 (by decide) rfl rf_0_2 ?_
      refine R_iload_n o 1 dX6_howFar_22 rfl rfl ?_
      refine R_aald o dX6_howFar_23 sh_3 (Or.inr (Or.inl rfl)) (fun q23 => ?_)
      refine K_z (callV' (As := []) (rest := []) o dX6_howFar_24 lk_X6_142 rfl (sh_el14 sh_3 q23) rfl rfl rfl rfl (Nat.le_of_ble_eq_true rfl)) (c_X1_isMissing g l h (rf 3 x1.toNatClampNeg) (sh_el14 sh_3 q23)) (fun r24 => ?_)
      refine R_bif_ne o 42 dX6_howFar_27 (by decide) ?_ ?_
      · refine R_aload_n o 0 dX6_howFar_42 rfl rfl ?_
        refine R_iconst (v := 1) o dX6_howFar_43 (by decide) ?_
        refine K_ih (callV' (As := [.int 1]) (rest := []) o dX6_howFar_44 lk_X6_77 rfl sh_0 rfl rfl rfl rfl (Nat.le_of_ble_eq_true rfl)) (c_X6_found g l h 1) (fun r44 h44 => ?_)
        exact T_some (fun p => rr _ _ _ _ dX6_howFar_47 p)
      · refine R_aload_n o 0 dX6_howFar_30 rfl rfl ?_
        refine R_getR (a2 := 1) o dX6_howFar_31 fl_X6_11 sh_0 (by decide) rfl rf_0_0 ?_
        refine R_iload_n o 2 dX6_howFar_34 rfl rfl ?_
        refine R_aald o dX6_howFar_35 sh_1 (Or.inl rfl) (fun q35 => ?_)
        refine K_z (callV' (As := []) (rest := []) o dX6_howFar_36 lk_X6_85 rfl (sh_el13 sh_1 q35) rfl rfl rfl rfl (Nat.le_of_ble_eq_true rfl)) (c_X5_isMissing g l h (rf 1 x2.toNatClampNeg) (sh_el13 sh_1 q35)) (fun r36 => ?_)
        refine R_bif_eq o 48 dX6_howFar_39 (by decide) ?_ ?_
        · refine R_aload_n o 0 dX6_howFar_42 rfl rfl ?_
          refine R_iconst (v := 1) o dX6_howFar_43 (by decide) ?_
          refine K_ih (callV' (As := [.int 1]) (rest := []) o dX6_howFar_44 lk_X6_77 rfl sh_0 rfl rfl rfl rfl (Nat.le_of_ble_eq_true rfl)) (c_X6_found g l h 1) (fun r44 h44 => ?_)
          exact T_some (fun p => rr _ _ _ _ dX6_howFar_47 p)
        · refine R_aload_n o 0 dX6_howFar_48 rfl rfl ?_
          refine R_getR (a2 := 3) o dX6_howFar_49 fl_X6_20 sh_0 (by decide) rfl rf_0_2 ?_
          refine R_iload_n o 1 dX6_howFar_52 rfl rfl ?_
          refine R_aald o dX6_howFar_53 sh_3 (Or.inr (Or.inl rfl)) (fun q53 => ?_)
          refine R_aload_n o 0 dX6_howFar_54 rfl rfl ?_
          refine R_getR (a2 := 7) o dX6_howFar_55 fl_X6_36 sh_0 (by decide) rfl rf_0_5 ?_
          refine K_vh (callV' (As := [rA g 7]) (rest := []) o dX6_howFar_58 lk_X6_300 rfl (sh_el14 sh_3 q53) rfl rfl rfl rfl (Nat.le_of_ble_eq_true rfl)) (c_X1_countInto g l h (rf 3 x1.toNatClampNeg) 7 (sh_el14 sh_3 q53) sh_7) (fun h58 => ?_)
          refine R_aload_n o 0 dX6_howFar_61 rfl rfl ?_
          refine R_getR (a2 := 7) o dX6_howFar_62 fl_X6_36 sh_0 (by decide) rfl rf_0_5 ?_
          refine R_aload_n o 0 dX6_howFar_65 rfl rfl ?_
          refine R_getR (a2 := 1) o dX6_howFar_66 fl_X6_11 sh_0 (by decide) rfl rf_0_0 ?_
          refine R_iload_n o 2 dX6_howFar_69 rfl rfl ?_
          refine R_aald o dX6_howFar_70 sh_1 (Or.inl rfl) (fun q70 => ?_)
          refine K_i (callS' (av := [rA g 7, rA g (rf 1 x2.toNatClampNeg)]) (rest := []) o dX6_howFar_71 lk_X6_303 rfl rfl rfl (Nat.le_of_ble_eq_true rfl)) (c_X6_wrongInModels g l h58 7 (rf 1 x2.toNatClampNeg) sh_7 (sh_el13 sh_1 q70)) (fun r71 => ?_)
          refine R_istore_n (lv2 := [(0, rA g 0), (1, .int x1), (2, .int x2), (3, .int r71)]) o dX6_howFar_74 rfl (by decide) rfl ?_
          refine R_iload_n o 3 dX6_howFar_75 rfl rfl ?_
          refine R_if_eq o 85 dX6_howFar_76 (by decide) ?_ ?_
          · refine R_ldc2 (v := 2) o dX6_howFar_85 kc_X6_307 ?_
            refine R_aload_n o 0 dX6_howFar_88 rfl rfl ?_
            refine R_getR (a2 := 7) o dX6_howFar_89 fl_X6_36 sh_0 (by decide) rfl rf_0_5 ?_
            refine K_l (callV' (As := []) (rest := [.long 2]) o dX6_howFar_92 lk_X6_117 rfl sh_7 rfl rfl rfl rfl (Nat.le_of_ble_eq_true rfl)) (c_X5_total g l h58 7 sh_7) (fun r92 => ?_)
            refine R_lmul o dX6_howFar_95 ?_
            refine R_aload_n o 0 dX6_howFar_96 rfl rfl ?_
            refine R_getR (a2 := 1) o dX6_howFar_97 fl_X6_11 sh_0 (by decide) rfl rf_0_0 ?_
            refine R_iload_n o 2 dX6_howFar_100 rfl rfl ?_
            refine R_aald o dX6_howFar_101 sh_1 (Or.inl rfl) (fun q101 => ?_)
            refine K_l (callV' (As := []) (rest := [.long (2 * r92)]) o dX6_howFar_102 lk_X6_117 rfl (sh_el13 sh_1 q101) rfl rfl rfl rfl (Nat.le_of_ble_eq_true rfl)) (c_X5_total g l h58 (rf 1 x2.toNatClampNeg) (sh_el13 sh_1 q101)) (fun r102 => ?_)
            refine R_lmul o dX6_howFar_105 ?_
            refine R_nmL (fun v106 => ?_)
            refine R_lstore (lv2 := [(0, rA g 0), (1, .int x1), (2, .int x2), (3, .int r71), (4, .long v106)]) o dX6_howFar_106 (by decide) rfl ?_
            refine R_aload_n o 0 dX6_howFar_108 rfl rfl ?_
            refine R_getR (a2 := 16) o dX6_howFar_109 fl_X6_57 sh_0 (by decide) rfl rf_0_8 ?_
            refine R_aload_n o 0 dX6_howFar_112 rfl rfl ?_
            refine R_getR (a2 := 7) o dX6_howFar_113 fl_X6_36 sh_0 (by decide) rfl rf_0_5 ?_
            refine R_aload_n o 0 dX6_howFar_116 rfl rfl ?_
            refine R_getR (a2 := 1) o dX6_howFar_117 fl_X6_11 sh_0 (by decide) rfl rf_0_0 ?_
            refine R_iload_n o 2 dX6_howFar_120 rfl rfl ?_
            refine R_aald o dX6_howFar_121 sh_1 (Or.inl rfl) (fun q121 => ?_)
            refine K_l (callS' (av := [rA g 7, rA g (rf 1 x2.toNatClampNeg)]) (rest := [rA g 16]) o dX6_howFar_122 lk_X6_309 rfl rfl rfl (Nat.le_of_ble_eq_true rfl)) (c_X6_gapOf g l h58 7 (rf 1 x2.toNatClampNeg) sh_7 (sh_el13 sh_1 q121)) (fun r122 => ?_)
            refine R_lload o 4 dX6_howFar_125 rfl ?_
            refine K_vh (callV' (As := [.long r122, .long v106]) (rest := []) o dX6_howFar_127 lk_X6_231 rfl sh_16 rfl rfl rfl rfl (Nat.le_of_ble_eq_true rfl)) (c_X2_become g l h58 r122 v106) (fun h127 => ?_)
            refine R_iconst (v := 1) o dX6_howFar_130 (by decide) ?_
            exact T_some (fun p => rr _ _ _ _ dX6_howFar_131 p)
          · refine R_aload_n o 0 dX6_howFar_79 rfl rfl ?_
            refine R_iload_n o 3 dX6_howFar_80 rfl rfl ?_
            refine K_ih (callV' (As := [.int r71]) (rest := []) o dX6_howFar_81 lk_X6_77 rfl sh_0 rfl rfl rfl rfl (Nat.le_of_ble_eq_true rfl)) (c_X6_found g l h58 r71) (fun r81 h81 => ?_)
            exact T_some (fun p => rr _ _ _ _ dX6_howFar_84 p)
    · refine R_iconst (v := (-1)) o dX6_howFar_16 (by decide) ?_
      exact T_some (fun p => rr _ _ _ _ dX6_howFar_17 p)
  · refine R_iconst (v := (-1)) o dX6_howFar_16 (by decide) ?_
    exact T_some (fun p => rr _ _ _ _ dX6_howFar_17 p)
theorem c_X6_howFar (g : Gx) (l : Launch) (h : MH) (x1 : Int32) (x2 : Int32) (r : (Int32 × MH)) (e : f_X6_howFar h x1 x2 = some r) : Ctr g l yX6_howFar cX6_howFar 6 (some .int) 4 91 0 [rA g 0, .int x1, .int x2] h (some (.int r.1)) r.2 := mkCi (plainFor_of_name (by decide)) (Nat.le_of_ble_eq_true rfl) (fun V Rt o rr p => b_X6_howFar o rr h x1 x2  r e p)
/-! X6_greaterShares -/
noncomputable def f_X6_greaterShares_B4 (h : MH) (a0 : Nat) (a1 : Nat) (x2 : Int32) (x3 : Int32) : Option ((Int32 × Int32) ⊕ (Int32)) :=
  (if x3 < 8 then Option.bind (f_X6_leadOf h a0 a1 x3) (fun r13 => (if 0 < r13 then nm (x2 ||| (shl 1 x3)) (fun v26 => some (.inl (v26, (x3 + 1)))) else some (.inl (x2, (x3 + 1))))) else some (.inr x2))
set_option maxRecDepth 100000 in
set_option maxHeartbeats 4000000 in
theorem t_X6_greaterShares_B4 {g : Gx} {l : Launch} {V : VT} {Rt : Option Value → MH → Prop} (o : Ok g l RX6 cX6_greaterShares 4 3 64 0 V) (rr : ORi cX6_greaterShares V Rt) (h : MH) (a0 : Nat) (a1 : Nat) (x2 : Int32) (x3 : Int32) (ha0 : shp a0 = (5, 0)) (ha1 : shp a1 = (5, 0)) : T (Sum.elim (fun s => V 4 [(0, rA g a0), (1, rA g a1), (2, .int s.1), (3, .int s.2)] [] h) (fun b => V 33 [(2, .int b)] [] h)) (f_X6_greaterShares_B4  h a0 a1 x2 x3) (V 4 [(0, rA g a0), (1, rA g a1), (2, .int x2), (3, .int x3)] [] h) := by
  unfold f_X6_greaterShares_B4
  refine R_iload_n o 3 dX6_greaterShares_4 rfl rfl ?_
  refine R_bipush (v := 8) o dX6_greaterShares_5 (by decide) ?_
  refine R_icmp_ge o 33 dX6_greaterShares_7 (by decide) ?_ ?_
  · refine R_aload_n o 0 dX6_greaterShares_10 rfl rfl ?_
    refine R_aload_n o 1 dX6_greaterShares_11 rfl rfl ?_
    refine R_iload_n o 3 dX6_greaterShares_12 rfl rfl ?_
    refine K_l (callS' (av := [rA g a0, rA g a1, .int x3]) (rest := []) o dX6_greaterShares_13 lk_X6_384 rfl rfl rfl (Nat.le_of_ble_eq_true rfl)) (c_X6_leadOf g l h a0 a1 x3 ha0 ha1) (fun r13 => ?_)
    refine R_lconst (v := 0) o dX6_greaterShares_16 (by decide) ?_
    refine R_lcmp_le o 27 dX6_greaterShares_17 dX6_greaterShares_18 (by decide) ?_ ?_
    · refine R_iload_n o 2 dX6_greaterShares_21 rfl rfl ?_
      refine R_iconst (v := 1) o dX6_greaterShares_22 (by decide) ?_
      refine R_iload_n o 3 dX6_greaterShares_23 rfl rfl ?_
      refine R_ishl o dX6_greaterShares_24 ?_
      refine R_ior o dX6_greaterShares_25 ?_
      refine R_nmI (fun v26 => ?_)
      refine R_istore_n (lv2 := [(0, rA g a0), (1, rA g a1), (2, .int v26), (3, .int x3)]) o dX6_greaterShares_26 rfl (by decide) rfl ?_
      refine R_iinc (v := (x3 + 1)) (lv2 := [(0, rA g a0), (1, rA g a1), (2, .int v26), (3, .int (x3 + 1))]) o 3 dX6_greaterShares_27 rfl rfl (by decide) rfl ?_
      refine R_goto o 4 dX6_greaterShares_30 (by decide) ?_
      exact T_some (fun p => p)
    · refine R_iinc (v := (x3 + 1)) (lv2 := [(0, rA g a0), (1, rA g a1), (2, .int x2), (3, .int (x3 + 1))]) o 3 dX6_greaterShares_27 rfl rfl (by decide) rfl ?_
      refine R_goto o 4 dX6_greaterShares_30 (by decide) ?_
      exact T_some (fun p => p)
  · refine R_drop (lv2 := [(2, .int x2)]) o [2] rfl ?_
    exact T_some (fun p => p)
noncomputable def f_X6_greaterShares_L4 (h : MH) (a0 : Nat) (a1 : Nat) (x2 : Int32) (x3 : Int32) : Option (Int32) :=
  lpo (fun s : Int32 × Int32 => f_X6_greaterShares_B4 h a0 a1 s.1 s.2) (x2, x3)
theorem t_X6_greaterShares_L4 {g : Gx} {l : Launch} {V : VT} {Rt : Option Value → MH → Prop} (o : Ok g l RX6 cX6_greaterShares 4 3 64 0 V) (rr : ORi cX6_greaterShares V Rt) (h : MH) (a0 : Nat) (a1 : Nat) (x2 : Int32) (x3 : Int32) (ha0 : shp a0 = (5, 0)) (ha1 : shp a1 = (5, 0)) : T (fun b => V 33 [(2, .int b)] [] h) (f_X6_greaterShares_L4 h a0 a1 x2 x3) (V 4 [(0, rA g a0), (1, rA g a1), (2, .int x2), (3, .int x3)] [] h) := T_loop (head := fun s : Int32 × Int32 => V 4 [(0, rA g a0), (1, rA g a1), (2, .int s.1), (3, .int s.2)] [] h) (fun s => t_X6_greaterShares_B4 o rr h a0 a1 s.1 s.2 ha0 ha1) (x2, x3)
noncomputable def f_X6_greaterShares (h : MH) (a0 : Nat) (a1 : Nat) : Option Int32 :=
  Option.bind (f_X6_greaterShares_L4 h a0 a1 0 0) (fun b4 => some b4)
set_option maxRecDepth 100000 in
set_option maxHeartbeats 4000000 in
theorem b_X6_greaterShares {g : Gx} {l : Launch} {V : VT} {Rt : Option Value → MH → Prop} (o : Ok g l RX6 cX6_greaterShares 4 3 64 0 V) (rr : ORi cX6_greaterShares V Rt) (h : MH) (a0 : Nat) (a1 : Nat) (ha0 : shp a0 = (5, 0)) (ha1 : shp a1 = (5, 0)) : T (fun r => Rt (some (.int r)) h) (f_X6_greaterShares h a0 a1) (V 0 [(0, rA g a0), (1, rA g a1)] [] h) := by
  unfold f_X6_greaterShares
  refine R_iconst (v := 0) o dX6_greaterShares_0 (by decide) ?_
  refine R_istore_n (lv2 := [(0, rA g a0), (1, rA g a1), (2, .int 0)]) o dX6_greaterShares_1 rfl (by decide) rfl ?_
  refine R_iconst (v := 0) o dX6_greaterShares_2 (by decide) ?_
  refine R_istore_n (lv2 := [(0, rA g a0), (1, rA g a1), (2, .int 0), (3, .int 0)]) o dX6_greaterShares_3 rfl (by decide) rfl ?_
  refine T_bind (t_X6_greaterShares_L4 o rr h a0 a1 0 0 ha0 ha1) (fun b4 => ?_)
  refine R_iload_n o 0 dX6_greaterShares_33 rfl rfl ?_
  exact T_some (fun p => rr _ _ _ _ dX6_greaterShares_34 p)
theorem c_X6_greaterShares (g : Gx) (l : Launch) (h : MH) (a0 : Nat) (a1 : Nat) (ha0 : shp a0 = (5, 0)) (ha1 : shp a1 = (5, 0)) (r : Int32) (e : f_X6_greaterShares h a0 a1 = some r) : Ctr g l yX6_greaterShares cX6_greaterShares 4 (some .int) 3 64 0 [rA g a0, rA g a1] h (some (.int r)) h := mkCi (plainFor_of_name (by decide)) (Nat.le_of_ble_eq_true rfl) (fun V Rt o rr p => b_X6_greaterShares o rr h a0 a1 ha0 ha1 r e p)
/-! X6_bestTest -/
noncomputable def f_X6_bestTest (h : MH) (x1 : Int32) (x2 : Int32) : Option (Int32 × MH) :=
  Option.bind (f_X6_isRow h x1) (fun r2 => (if r2 = true then Option.bind (f_X6_isRow h x2) (fun r10 => (if r10 = true then gd (ix x1 6) (gd (ix x2 6) (Option.bind (f_X5_isMissing h (rf 1 x1.toNatClampNeg)) (fun r34 => (if r34 = true then bnd2 (f_X6_found h 1) (fun r50 h50 => some (r50, h50)) else Option.bind (f_X5_isMissing h (rf 1 x2.toNatClampNeg)) (fun r42 => (if r42 = true then bnd2 (f_X6_found h 1) (fun r50 h50 => some (r50, h50)) else Option.bind (f_X6_wrongInModels h (rf 1 x1.toNatClampNeg) (rf 1 x2.toNatClampNeg)) (fun r57 => (if r57 = 0 then Option.bind (f_X5_total h (rf 1 x1.toNatClampNeg)) (fun r78 => Option.bind (f_X5_total h (rf 1 x2.toNatClampNeg)) (fun r84 => nm ((2 * r78) * r84) (fun v88 => Option.bind (f_X6_gapOf h (rf 1 x1.toNatClampNeg) (rf 1 x2.toNatClampNeg)) (fun r99 => Option.bind (f_X2_become h (v88 - r99) v88) (fun h105 => Option.bind (f_X6_greaterShares h105 (rf 1 x1.toNatClampNeg) (rf 1 x2.toNatClampNeg)) (fun r112 => nm (uI h105 0 9 r112) (fun h115 => some (1, h115)))))))) else bnd2 (f_X6_found h r57) (fun r70 h70 => some (r70, h70)))))))))) else some ((-1), h))) else some ((-1), h)))
set_option maxRecDepth 100000 in
set_option maxHeartbeats 4000000 in
theorem b_X6_bestTest {g : Gx} {l : Launch} {V : VT} {Rt : Option Value → MH → Prop} (o : Ok g l RX6 cX6_bestTest 8 4 88 0 V) (rr : ORi cX6_bestTest V Rt) (h : MH) (x1 : Int32) (x2 : Int32) : T (fun r => Rt (some (.int r.1)) r.2) (f_X6_bestTest h x1 x2) (V 0 [(0, rA g 0), (1, .int x1), (2, .int x2)] [] h) := by
  unfold f_X6_bestTest
  refine R_aload_n o 0 dX6_bestTest_0 rfl rfl ?_
  refine R_iload_n o 1 dX6_bestTest_1 rfl rfl ?_
  refine K_z (callV' (As := [.int x1]) (rest := []) o dX6_bestTest_2 lk_X6_73 rfl sh_0 rfl rfl rfl rfl (Nat.le_of_ble_eq_true rfl)) (c_X6_isRow g l h x1) (fun r2 => ?_)
  refine R_bif_eq o 16 dX6_bestTest_5 (by decide) ?_ ?_
  · refine R_aload_n o 0 dX6_bestTest_8 rfl rfl ?_
    refine R_iload_n o 2 dX6_bestTest_9 rfl rfl ?_
    refine K_z (callV' (As := [.int x2]) (rest := []) o dX6_bestTest_10 lk_X6_73 rfl sh_0 rfl rfl rfl rfl (Nat.le_of_ble_eq_true rfl)) (c_X6_isRow g l h x2) (fun r10 => ?_)
    refine R_bif_ne o 18 dX6_bestTest_13 (by decide) ?_ ?_
    · refine R_aload_n o 0 dX6_bestTest_18 rfl rfl ?_
      refine R_getR (a2 := 1) o dX6_bestTest_19 fl_X6_11 sh_0 (by decide) rfl rf_0_0 ?_
      refine R_iload_n o 1 dX6_bestTest_22 rfl rfl ?_
      refine R_aald o dX6_bestTest_23 sh_1 (Or.inl rfl) (fun q23 => ?_)
      refine R_astore_n (lv2 := [(0, rA g 0), (1, .int x1), (2, .int x2), (3, rA g (rf 1 x1.toNatClampNeg))]) o dX6_bestTest_24 rfl (by decide) rfl ?_
      refine R_aload_n o 0 dX6_bestTest_25 rfl rfl ?_
      refine R_getR (a2 := 1) o dX6_bestTest_26 fl_X6_11 sh_0 (by decide) rfl rf_0_0 ?_
      refine R_iload_n o 2 dX6_bestTest_29 rfl rfl ?_
      refine R_aald o dX6_bestTest_30 sh_1 (Or.inl rfl) (fun q30 => ?_)
      refine R_astore (lv2 := [(0, rA g 0), (1, .int x1), (2, .int x2), (3, rA g (rf 1 x1.toNatClampNeg)), (4, rA g (rf 1 x2.toNatClampNeg))]) o dX6_bestTest_31 (by decide) rfl ?_
      refine R_aload_n o 3 dX6_bestTest_33 rfl rfl ?_
      refine K_z (callV' (As := []) (rest := []) o dX6_bestTest_34 lk_X6_85 rfl (sh_el13 sh_1 q23) rfl rfl rfl rfl (Nat.le_of_ble_eq_true rfl)) (c_X5_isMissing g l h (rf 1 x1.toNatClampNeg) (sh_el13 sh_1 q23)) (fun r34 => ?_)
      refine R_bif_ne o 48 dX6_bestTest_37 (by decide) ?_ ?_
      · refine R_aload_n o 0 dX6_bestTest_48 rfl rfl ?_
        refine R_iconst (v := 1) o dX6_bestTest_49 (by decide) ?_
        refine K_ih (callV' (As := [.int 1]) (rest := []) o dX6_bestTest_50 lk_X6_77 rfl sh_0 rfl rfl rfl rfl (Nat.le_of_ble_eq_true rfl)) (c_X6_found g l h 1) (fun r50 h50 => ?_)
        exact T_some (fun p => rr _ _ _ _ dX6_bestTest_53 p)
      · refine R_aload o 4 dX6_bestTest_40 rfl ?_
        refine K_z (callV' (As := []) (rest := []) o dX6_bestTest_42 lk_X6_85 rfl (sh_el13 sh_1 q30) rfl rfl rfl rfl (Nat.le_of_ble_eq_true rfl)) (c_X5_isMissing g l h (rf 1 x2.toNatClampNeg) (sh_el13 sh_1 q30)) (fun r42 => ?_)
        refine R_bif_eq o 54 dX6_bestTest_45 (by decide) ?_ ?_
        · refine R_aload_n o 0 dX6_bestTest_48 rfl rfl ?_
          refine R_iconst (v := 1) o dX6_bestTest_49 (by decide) ?_
          refine K_ih (callV' (As := [.int 1]) (rest := []) o dX6_bestTest_50 lk_X6_77 rfl sh_0 rfl rfl rfl rfl (Nat.le_of_ble_eq_true rfl)) (c_X6_found g l h 1) (fun r50 h50 => ?_)
          exact T_some (fun p => rr _ _ _ _ dX6_bestTest_53 p)
        · refine R_aload_n o 3 dX6_bestTest_54 rfl rfl ?_
          refine R_aload o 4 dX6_bestTest_55 rfl ?_
          refine K_i (callS' (av := [rA g (rf 1 x1.toNatClampNeg), rA g (rf 1 x2.toNatClampNeg)]) (rest := []) o dX6_bestTest_57 lk_X6_303 rfl rfl rfl (Nat.le_of_ble_eq_true rfl)) (c_X6_wrongInModels g l h (rf 1 x1.toNatClampNeg) (rf 1 x2.toNatClampNeg) (sh_el13 sh_1 q23) (sh_el13 sh_1 q30)) (fun r57 => ?_)
          refine R_istore (lv2 := [(0, rA g 0), (1, .int x1), (2, .int x2), (3, rA g (rf 1 x1.toNatClampNeg)), (4, rA g (rf 1 x2.toNatClampNeg)), (5, .int r57)]) o dX6_bestTest_60 (by decide) rfl ?_
          refine R_iload o 5 dX6_bestTest_62 rfl ?_
          refine R_if_eq o 74 dX6_bestTest_64 (by decide) ?_ ?_
          · refine R_ldc2 (v := 2) o dX6_bestTest_74 kc_X6_307 ?_
            refine R_aload_n o 3 dX6_bestTest_77 rfl rfl ?_
            refine K_l (callV' (As := []) (rest := [.long 2]) o dX6_bestTest_78 lk_X6_117 rfl (sh_el13 sh_1 q23) rfl rfl rfl rfl (Nat.le_of_ble_eq_true rfl)) (c_X5_total g l h (rf 1 x1.toNatClampNeg) (sh_el13 sh_1 q23)) (fun r78 => ?_)
            refine R_lmul o dX6_bestTest_81 ?_
            refine R_aload o 4 dX6_bestTest_82 rfl ?_
            refine K_l (callV' (As := []) (rest := [.long (2 * r78)]) o dX6_bestTest_84 lk_X6_117 rfl (sh_el13 sh_1 q30) rfl rfl rfl rfl (Nat.le_of_ble_eq_true rfl)) (c_X5_total g l h (rf 1 x2.toNatClampNeg) (sh_el13 sh_1 q30)) (fun r84 => ?_)
            refine R_lmul o dX6_bestTest_87 ?_
            refine R_nmL (fun v88 => ?_)
            refine R_lstore (lv2 := [(0, rA g 0), (1, .int x1), (2, .int x2), (3, rA g (rf 1 x1.toNatClampNeg)), (4, rA g (rf 1 x2.toNatClampNeg)), (5, .int r57), (6, .long v88)]) o dX6_bestTest_88 (by decide) rfl ?_
            refine R_aload_n o 0 dX6_bestTest_90 rfl rfl ?_
            refine R_getR (a2 := 16) o dX6_bestTest_91 fl_X6_57 sh_0 (by decide) rfl rf_0_8 ?_
            refine R_lload o 6 dX6_bestTest_94 rfl ?_
            refine R_aload_n o 3 dX6_bestTest_96 rfl rfl ?_
            refine R_aload o 4 dX6_bestTest_97 rfl ?_
            refine K_l (callS' (av := [rA g (rf 1 x1.toNatClampNeg), rA g (rf 1 x2.toNatClampNeg)]) (rest := [.long v88, rA g 16]) o dX6_bestTest_99 lk_X6_309 rfl rfl rfl (Nat.le_of_ble_eq_true rfl)) (c_X6_gapOf g l h (rf 1 x1.toNatClampNeg) (rf 1 x2.toNatClampNeg) (sh_el13 sh_1 q23) (sh_el13 sh_1 q30)) (fun r99 => ?_)
            refine R_lsub o dX6_bestTest_102 ?_
            refine R_lload o 6 dX6_bestTest_103 rfl ?_
            refine K_vh (callV' (As := [.long (v88 - r99), .long v88]) (rest := []) o dX6_bestTest_105 lk_X6_231 rfl sh_16 rfl rfl rfl rfl (Nat.le_of_ble_eq_true rfl)) (c_X2_become g l h (v88 - r99) v88) (fun h105 => ?_)
            refine R_aload_n o 0 dX6_bestTest_108 rfl rfl ?_
            refine R_aload_n o 3 dX6_bestTest_109 rfl rfl ?_
            refine R_aload o 4 dX6_bestTest_110 rfl ?_
            refine K_i (callS' (av := [rA g (rf 1 x1.toNatClampNeg), rA g (rf 1 x2.toNatClampNeg)]) (rest := [rA g 0]) o dX6_bestTest_112 lk_X6_313 rfl rfl rfl (Nat.le_of_ble_eq_true rfl)) (c_X6_greaterShares g l h105 (rf 1 x1.toNatClampNeg) (rf 1 x2.toNatClampNeg) (sh_el13 sh_1 q23) (sh_el13 sh_1 q30)) (fun r112 => ?_)
            refine R_putI o dX6_bestTest_115 fp_X6_61 sh_0 (by decide) rfl ?_
            refine R_nmH (fun h115 => ?_)
            refine R_iconst (v := 1) o dX6_bestTest_118 (by decide) ?_
            exact T_some (fun p => rr _ _ _ _ dX6_bestTest_119 p)
          · refine R_aload_n o 0 dX6_bestTest_67 rfl rfl ?_
            refine R_iload o 5 dX6_bestTest_68 rfl ?_
            refine K_ih (callV' (As := [.int r57]) (rest := []) o dX6_bestTest_70 lk_X6_77 rfl sh_0 rfl rfl rfl rfl (Nat.le_of_ble_eq_true rfl)) (c_X6_found g l h r57) (fun r70 h70 => ?_)
            exact T_some (fun p => rr _ _ _ _ dX6_bestTest_73 p)
    · refine R_iconst (v := (-1)) o dX6_bestTest_16 (by decide) ?_
      exact T_some (fun p => rr _ _ _ _ dX6_bestTest_17 p)
  · refine R_iconst (v := (-1)) o dX6_bestTest_16 (by decide) ?_
    exact T_some (fun p => rr _ _ _ _ dX6_bestTest_17 p)
theorem c_X6_bestTest (g : Gx) (l : Launch) (h : MH) (x1 : Int32) (x2 : Int32) (r : (Int32 × MH)) (e : f_X6_bestTest h x1 x2 = some r) : Ctr g l yX6_bestTest cX6_bestTest 8 (some .int) 4 88 0 [rA g 0, .int x1, .int x2] h (some (.int r.1)) r.2 := mkCi (plainFor_of_name (by decide)) (Nat.le_of_ble_eq_true rfl) (fun V Rt o rr p => b_X6_bestTest o rr h x1 x2  r e p)
/-! X6_learn -/
noncomputable def f_X6_learn_B56 (h : MH) (x2 : Int32) (x3 : Int32) (x4 : Int32) : Option ((Int32 × Int32) ⊕ (Int32)) :=
  (if x4 < 8 then gd (ix x2 6) (Option.bind (f_X5_get h (rf 1 x2.toNatClampNeg) x4) (fun r71 => (if 0 < r71 then some (.inl ((x3 + 1), (x4 + 1))) else some (.inl (x3, (x4 + 1)))))) else some (.inr x3))
set_option maxRecDepth 100000 in
set_option maxHeartbeats 4000000 in
theorem t_X6_learn_B56 {g : Gx} {l : Launch} {V : VT} {Rt : Option Value → MH → Prop} (o : Ok g l RX6 cX6_learn 5 4 91 0 V) (rr : ORi cX6_learn V Rt) (h : MH) (x2 : Int32) (x3 : Int32) (x4 : Int32) : T (Sum.elim (fun s => V 56 [(0, rA g 0), (2, .int x2), (3, .int s.1), (4, .int s.2)] [] h) (fun b => V 86 [(3, .int b)] [] h)) (f_X6_learn_B56  h x2 x3 x4) (V 56 [(0, rA g 0), (2, .int x2), (3, .int x3), (4, .int x4)] [] h) := by
  unfold f_X6_learn_B56
  refine R_iload o 3 dX6_learn_56 rfl ?_
  refine R_bipush (v := 8) o dX6_learn_58 (by decide) ?_
  refine R_icmp_ge o 86 dX6_learn_60 (by decide) ?_ ?_
  · refine R_aload_n o 0 dX6_learn_63 rfl rfl ?_
    refine R_getR (a2 := 1) o dX6_learn_64 fl_X6_11 sh_0 (by decide) rfl rf_0_0 ?_
    refine R_iload_n o 1 dX6_learn_67 rfl rfl ?_
    refine R_aald o dX6_learn_68 sh_1 (Or.inl rfl) (fun q68 => ?_)
    refine R_iload o 3 dX6_learn_69 rfl ?_
    refine K_i (callV' (As := [.int x4]) (rest := []) o dX6_learn_71 lk_X6_92 rfl (sh_el13 sh_1 q68) rfl rfl rfl rfl (Nat.le_of_ble_eq_true rfl)) (c_X5_get g l h (rf 1 x2.toNatClampNeg) x4 (sh_el13 sh_1 q68)) (fun r71 => ?_)
    refine R_if_le o 80 dX6_learn_74 (by decide) ?_ ?_
    · refine R_iinc (v := (x3 + 1)) (lv2 := [(0, rA g 0), (2, .int x2), (3, .int (x3 + 1)), (4, .int x4)]) o 2 dX6_learn_77 rfl rfl (by decide) rfl ?_
      refine R_iinc (v := (x4 + 1)) (lv2 := [(0, rA g 0), (2, .int x2), (3, .int (x3 + 1)), (4, .int (x4 + 1))]) o 3 dX6_learn_80 rfl rfl (by decide) rfl ?_
      refine R_goto o 56 dX6_learn_83 (by decide) ?_
      exact T_some (fun p => p)
    · refine R_iinc (v := (x4 + 1)) (lv2 := [(0, rA g 0), (2, .int x2), (3, .int x3), (4, .int (x4 + 1))]) o 3 dX6_learn_80 rfl rfl (by decide) rfl ?_
      refine R_goto o 56 dX6_learn_83 (by decide) ?_
      exact T_some (fun p => p)
  · refine R_drop (lv2 := [(3, .int x3)]) o [2] rfl ?_
    exact T_some (fun p => p)
noncomputable def f_X6_learn_L56 (h : MH) (x2 : Int32) (x3 : Int32) (x4 : Int32) : Option (Int32) :=
  lpo (fun s : Int32 × Int32 => f_X6_learn_B56 h x2 s.1 s.2) (x3, x4)
theorem t_X6_learn_L56 {g : Gx} {l : Launch} {V : VT} {Rt : Option Value → MH → Prop} (o : Ok g l RX6 cX6_learn 5 4 91 0 V) (rr : ORi cX6_learn V Rt) (h : MH) (x2 : Int32) (x3 : Int32) (x4 : Int32) : T (fun b => V 86 [(3, .int b)] [] h) (f_X6_learn_L56 h x2 x3 x4) (V 56 [(0, rA g 0), (2, .int x2), (3, .int x3), (4, .int x4)] [] h) := T_loop (head := fun s : Int32 × Int32 => V 56 [(0, rA g 0), (2, .int x2), (3, .int s.1), (4, .int s.2)] [] h) (fun s => t_X6_learn_B56 o rr h x2 s.1 s.2 ) (x3, x4)
noncomputable def f_X6_learn (h : MH) (x1 : Int32) (x2 : Int32) : Option (Int32 × MH) :=
  Option.bind (f_X6_isCover h x1) (fun r2 => (if r2 = true then Option.bind (f_X6_isRow h x2) (fun r10 => (if r10 = true then gd (ix x1 6) (Option.bind (f_X1_isMissing h (rf 3 x1.toNatClampNeg)) (fun r24 => (if r24 = true then bnd2 (f_X6_found h 1) (fun r32 h32 => some (r32, h32)) else gd (ix x1 6) (gd (ix x2 6) (Option.bind (f_X1_countInto h (rf 3 x1.toNatClampNeg) (rf 1 x2.toNatClampNeg)) (fun h48 => Option.bind (f_X6_learn_L56 h48 x2 0 0) (fun b56 => some (b56, h48)))))))) else some ((-1), h))) else some ((-1), h)))
set_option maxRecDepth 100000 in
set_option maxHeartbeats 4000000 in
theorem b_X6_learn {g : Gx} {l : Launch} {V : VT} {Rt : Option Value → MH → Prop} (o : Ok g l RX6 cX6_learn 5 4 91 0 V) (rr : ORi cX6_learn V Rt) (h : MH) (x1 : Int32) (x2 : Int32) : T (fun r => Rt (some (.int r.1)) r.2) (f_X6_learn h x1 x2) (V 0 [(0, rA g 0), (1, .int x1), (2, .int x2)] [] h) := by
  unfold f_X6_learn
  refine R_aload_n o 0 dX6_learn_0 rfl rfl ?_
  refine R_iload_n o 1 dX6_learn_1 rfl rfl ?_
  refine K_z (callV' (As := [.int x1]) (rest := []) o dX6_learn_2 lk_X6_124 rfl sh_0 rfl rfl rfl rfl (Nat.le_of_ble_eq_true rfl)) (c_X6_isCover g l h x1) (fun r2 => ?_)
  refine R_bif_eq o 16 dX6_learn_5 (by decide) ?_ ?_
  · refine R_aload_n o 0 dX6_learn_8 rfl rfl ?_
    refine R_iload_n o 2 dX6_learn_9 rfl rfl ?_
    refine K_z (callV' (As := [.int x2]) (rest := []) o dX6_learn_10 lk_X6_73 rfl sh_0 rfl rfl rfl rfl (Nat.le_of_ble_eq_true rfl)) (c_X6_isRow g l h x2) (fun r10 => ?_)
    refine R_bif_ne o 18 dX6_learn_13 (by decide) ?_ ?_
    · refine R_aload_n o 0 dX6_learn_18 rfl rfl ?_
      refine R_getR (a2 := 3) o dX6_learn_19 fl_X6_20 sh_0 (by decide) rfl rf_0_2 ?_
      refine R_iload_n o 1 dX6_learn_22 rfl rfl ?_
      refine R_aald o dX6_learn_23 sh_3 (Or.inr (Or.inl rfl)) (fun q23 => ?_)
      refine K_z (callV' (As := []) (rest := []) o dX6_learn_24 lk_X6_142 rfl (sh_el14 sh_3 q23) rfl rfl rfl rfl (Nat.le_of_ble_eq_true rfl)) (c_X1_isMissing g l h (rf 3 x1.toNatClampNeg) (sh_el14 sh_3 q23)) (fun r24 => ?_)
      refine R_bif_eq o 36 dX6_learn_27 (by decide) ?_ ?_
      · refine R_aload_n o 0 dX6_learn_30 rfl rfl ?_
        refine R_iconst (v := 1) o dX6_learn_31 (by decide) ?_
        refine K_ih (callV' (As := [.int 1]) (rest := []) o dX6_learn_32 lk_X6_77 rfl sh_0 rfl rfl rfl rfl (Nat.le_of_ble_eq_true rfl)) (c_X6_found g l h 1) (fun r32 h32 => ?_)
        exact T_some (fun p => rr _ _ _ _ dX6_learn_35 p)
      · refine R_aload_n o 0 dX6_learn_36 rfl rfl ?_
        refine R_getR (a2 := 3) o dX6_learn_37 fl_X6_20 sh_0 (by decide) rfl rf_0_2 ?_
        refine R_iload_n o 1 dX6_learn_40 rfl rfl ?_
        refine R_aald o dX6_learn_41 sh_3 (Or.inr (Or.inl rfl)) (fun q41 => ?_)
        refine R_aload_n o 0 dX6_learn_42 rfl rfl ?_
        refine R_getR (a2 := 1) o dX6_learn_43 fl_X6_11 sh_0 (by decide) rfl rf_0_0 ?_
        refine R_iload_n o 2 dX6_learn_46 rfl rfl ?_
        refine R_aald o dX6_learn_47 sh_1 (Or.inl rfl) (fun q47 => ?_)
        refine K_vh (callV' (As := [rA g (rf 1 x2.toNatClampNeg)]) (rest := []) o dX6_learn_48 lk_X6_300 rfl (sh_el14 sh_3 q41) rfl rfl rfl rfl (Nat.le_of_ble_eq_true rfl)) (c_X1_countInto g l h (rf 3 x1.toNatClampNeg) (rf 1 x2.toNatClampNeg) (sh_el14 sh_3 q41) (sh_el13 sh_1 q47)) (fun h48 => ?_)
        refine R_iconst (v := 0) o dX6_learn_51 (by decide) ?_
        refine R_istore_n (lv2 := [(0, rA g 0), (1, .int x1), (2, .int x2), (3, .int 0)]) o dX6_learn_52 rfl (by decide) rfl ?_
        refine R_iconst (v := 0) o dX6_learn_53 (by decide) ?_
        refine R_istore (lv2 := [(0, rA g 0), (1, .int x1), (2, .int x2), (3, .int 0), (4, .int 0)]) o dX6_learn_54 (by decide) rfl ?_
        refine R_drop (lv2 := [(0, rA g 0), (2, .int x2), (3, .int 0), (4, .int 0)]) o [0, 2, 3, 4] rfl ?_
        refine T_bind (t_X6_learn_L56 o rr h48 x2 0 0) (fun b56 => ?_)
        refine R_iload_n o 0 dX6_learn_86 rfl rfl ?_
        exact T_some (fun p => rr _ _ _ _ dX6_learn_87 p)
    · refine R_iconst (v := (-1)) o dX6_learn_16 (by decide) ?_
      exact T_some (fun p => rr _ _ _ _ dX6_learn_17 p)
  · refine R_iconst (v := (-1)) o dX6_learn_16 (by decide) ?_
    exact T_some (fun p => rr _ _ _ _ dX6_learn_17 p)
theorem c_X6_learn (g : Gx) (l : Launch) (h : MH) (x1 : Int32) (x2 : Int32) (r : (Int32 × MH)) (e : f_X6_learn h x1 x2 = some r) : Ctr g l yX6_learn cX6_learn 5 (some .int) 4 91 0 [rA g 0, .int x1, .int x2] h (some (.int r.1)) r.2 := mkCi (plainFor_of_name (by decide)) (Nat.le_of_ble_eq_true rfl) (fun V Rt o rr p => b_X6_learn o rr h x1 x2  r e p)
/-! X6_pairs -/
noncomputable def f_X6_pairs_B44 (h : MH) (a2 : Nat) (x3 : Int32) (x4 : Int32) : Option ((Int32 × Int32 × MH) ⊕ (Int32 × MH)) :=
  (if x4 < (h.1 a2 3) then Option.bind (f_X1_isFirstOfPair h a2 x4) (fun r56 => (if r56 = true then Option.bind (f_X1_dotAt h a2 x4) (fun r69 => Option.bind (f_X1_countDot h a2 (r69 &&& (-2))) (fun r75 => Option.bind (f_X1_dotAt h a2 x4) (fun r84 => Option.bind (f_X1_countDot h a2 (r84 ||| 1)) (fun r89 => Option.bind (f_X2_add h (Int32.toInt64 ((r75 - r89) * (r75 - r89))) (Int32.toInt64 (r75 + r89))) (fun h116 => some (.inl ((x3 + 1), (x4 + 1), h116))))))) else some (.inl (x3, (x4 + 1), h)))) else some (.inr (x3, h)))
set_option maxRecDepth 100000 in
set_option maxHeartbeats 4000000 in
theorem t_X6_pairs_B44 {g : Gx} {l : Launch} {V : VT} {Rt : Option Value → MH → Prop} (o : Ok g l RX6 cX6_pairs 7 3 80 0 V) (rr : ORi cX6_pairs V Rt) (h : MH) (a2 : Nat) (x3 : Int32) (x4 : Int32) (ha2 : shp a2 = (1, 0)) : T (Sum.elim (fun s => V 44 [(0, rA g 0), (2, rA g a2), (3, .int s.1), (4, .int s.2.1)] [] s.2.2) (fun b => V 128 [(3, .int b.1)] [] b.2)) (f_X6_pairs_B44  h a2 x3 x4) (V 44 [(0, rA g 0), (2, rA g a2), (3, .int x3), (4, .int x4)] [] h) := by
  unfold f_X6_pairs_B44
  refine R_iload o 3 dX6_pairs_44 rfl ?_
  refine R_aload_n o 1 dX6_pairs_46 rfl rfl ?_
  refine R_getI o dX6_pairs_47 fl_X6_151 ha2 (by decide) rfl ?_
  refine R_icmp_ge o 128 dX6_pairs_50 (by decide) ?_ ?_
  · refine R_aload_n o 1 dX6_pairs_53 rfl rfl ?_
    refine R_iload o 3 dX6_pairs_54 rfl ?_
    refine K_z (callV' (As := [.int x4]) (rest := []) o dX6_pairs_56 lk_X6_316 rfl ha2 rfl rfl rfl rfl (Nat.le_of_ble_eq_true rfl)) (c_X1_isFirstOfPair g l h a2 x4 ha2) (fun r56 => ?_)
    refine R_bif_ne o 65 dX6_pairs_59 (by decide) ?_ ?_
    · refine R_aload_n o 1 dX6_pairs_65 rfl rfl ?_
      refine R_aload_n o 1 dX6_pairs_66 rfl rfl ?_
      refine R_iload o 3 dX6_pairs_67 rfl ?_
      refine K_i (callV' (As := [.int x4]) (rest := [rA g a2]) o dX6_pairs_69 lk_X6_152 rfl ha2 rfl rfl rfl rfl (Nat.le_of_ble_eq_true rfl)) (c_X1_dotAt g l h a2 x4 ha2) (fun r69 => ?_)
      refine R_bipush (v := (-2)) o dX6_pairs_72 (by decide) ?_
      refine R_iand o dX6_pairs_74 ?_
      refine K_i (callV' (As := [.int (r69 &&& (-2))]) (rest := []) o dX6_pairs_75 lk_X6_319 rfl ha2 rfl rfl rfl rfl (Nat.le_of_ble_eq_true rfl)) (c_X1_countDot g l h a2 (r69 &&& (-2)) ha2) (fun r75 => ?_)
      refine R_istore (lv2 := [(0, rA g 0), (2, rA g a2), (3, .int x3), (4, .int x4), (5, .int r75)]) o dX6_pairs_78 (by decide) rfl ?_
      refine R_aload_n o 1 dX6_pairs_80 rfl rfl ?_
      refine R_aload_n o 1 dX6_pairs_81 rfl rfl ?_
      refine R_iload o 3 dX6_pairs_82 rfl ?_
      refine K_i (callV' (As := [.int x4]) (rest := [rA g a2]) o dX6_pairs_84 lk_X6_152 rfl ha2 rfl rfl rfl rfl (Nat.le_of_ble_eq_true rfl)) (c_X1_dotAt g l h a2 x4 ha2) (fun r84 => ?_)
      refine R_iconst (v := 1) o dX6_pairs_87 (by decide) ?_
      refine R_ior o dX6_pairs_88 ?_
      refine K_i (callV' (As := [.int (r84 ||| 1)]) (rest := []) o dX6_pairs_89 lk_X6_319 rfl ha2 rfl rfl rfl rfl (Nat.le_of_ble_eq_true rfl)) (c_X1_countDot g l h a2 (r84 ||| 1) ha2) (fun r89 => ?_)
      refine R_istore (lv2 := [(0, rA g 0), (2, rA g a2), (3, .int x3), (4, .int x4), (5, .int r75), (6, .int r89)]) o dX6_pairs_92 (by decide) rfl ?_
      refine R_aload_n o 0 dX6_pairs_94 rfl rfl ?_
      refine R_getR (a2 := 16) o dX6_pairs_95 fl_X6_57 sh_0 (by decide) rfl rf_0_8 ?_
      refine R_iload o 4 dX6_pairs_98 rfl ?_
      refine R_iload o 5 dX6_pairs_100 rfl ?_
      refine R_isub o dX6_pairs_102 ?_
      refine R_iload o 4 dX6_pairs_103 rfl ?_
      refine R_iload o 5 dX6_pairs_105 rfl ?_
      refine R_isub o dX6_pairs_107 ?_
      refine R_imul o dX6_pairs_108 ?_
      refine R_i2l o dX6_pairs_109 ?_
      refine R_iload o 4 dX6_pairs_110 rfl ?_
      refine R_iload o 5 dX6_pairs_112 rfl ?_
      refine R_iadd o dX6_pairs_114 ?_
      refine R_i2l o dX6_pairs_115 ?_
      refine K_vh (callV' (As := [.long (Int32.toInt64 ((r75 - r89) * (r75 - r89))), .long (Int32.toInt64 (r75 + r89))]) (rest := []) o dX6_pairs_116 lk_X6_322 rfl sh_16 rfl rfl rfl rfl (Nat.le_of_ble_eq_true rfl)) (c_X2_add g l h (Int32.toInt64 ((r75 - r89) * (r75 - r89))) (Int32.toInt64 (r75 + r89))) (fun h116 => ?_)
      refine R_iinc (v := (x3 + 1)) (lv2 := [(0, rA g 0), (2, rA g a2), (3, .int (x3 + 1)), (4, .int x4), (5, .int r75), (6, .int r89)]) o 2 dX6_pairs_119 rfl rfl (by decide) rfl ?_
      refine R_iinc (v := (x4 + 1)) (lv2 := [(0, rA g 0), (2, rA g a2), (3, .int (x3 + 1)), (4, .int (x4 + 1)), (5, .int r75), (6, .int r89)]) o 3 dX6_pairs_122 rfl rfl (by decide) rfl ?_
      refine R_goto o 44 dX6_pairs_125 (by decide) ?_
      refine R_drop (lv2 := [(0, rA g 0), (2, rA g a2), (3, .int (x3 + 1)), (4, .int (x4 + 1))]) o [0, 1, 2, 3] rfl ?_
      exact T_some (fun p => p)
    · refine R_goto o 122 dX6_pairs_62 (by decide) ?_
      refine R_iinc (v := (x4 + 1)) (lv2 := [(0, rA g 0), (2, rA g a2), (3, .int x3), (4, .int (x4 + 1))]) o 3 dX6_pairs_122 rfl rfl (by decide) rfl ?_
      refine R_goto o 44 dX6_pairs_125 (by decide) ?_
      exact T_some (fun p => p)
  · refine R_drop (lv2 := [(3, .int x3)]) o [2] rfl ?_
    exact T_some (fun p => p)
noncomputable def f_X6_pairs_L44 (h : MH) (a2 : Nat) (x3 : Int32) (x4 : Int32) : Option (Int32 × MH) :=
  lpo (fun s : Int32 × Int32 × MH => f_X6_pairs_B44 s.2.2 a2 s.1 s.2.1) (x3, x4, h)
theorem t_X6_pairs_L44 {g : Gx} {l : Launch} {V : VT} {Rt : Option Value → MH → Prop} (o : Ok g l RX6 cX6_pairs 7 3 80 0 V) (rr : ORi cX6_pairs V Rt) (h : MH) (a2 : Nat) (x3 : Int32) (x4 : Int32) (ha2 : shp a2 = (1, 0)) : T (fun b => V 128 [(3, .int b.1)] [] b.2) (f_X6_pairs_L44 h a2 x3 x4) (V 44 [(0, rA g 0), (2, rA g a2), (3, .int x3), (4, .int x4)] [] h) := T_loop (head := fun s : Int32 × Int32 × MH => V 44 [(0, rA g 0), (2, rA g a2), (3, .int s.1), (4, .int s.2.1)] [] s.2.2) (fun s => t_X6_pairs_B44 o rr s.2.2 a2 s.1 s.2.1 ha2) (x3, x4, h)
noncomputable def f_X6_pairs (h : MH) (x1 : Int32) : Option (Int32 × MH) :=
  Option.bind (f_X6_isCover h x1) (fun r2 => (if r2 = true then gd (ix x1 6) (Option.bind (f_X1_isMissing h (rf 3 x1.toNatClampNeg)) (fun r18 => (if r18 = true then bnd2 (f_X6_found h 1) (fun r26 h26 => some (r26, h26)) else Option.bind (f_X2_become h 0 1) (fun h36 => Option.bind (f_X6_pairs_L44 h36 (rf 3 x1.toNatClampNeg) 0 0) (fun b44 => some (b44.1, b44.2)))))) else some ((-1), h)))
set_option maxRecDepth 100000 in
set_option maxHeartbeats 4000000 in
theorem b_X6_pairs {g : Gx} {l : Launch} {V : VT} {Rt : Option Value → MH → Prop} (o : Ok g l RX6 cX6_pairs 7 3 80 0 V) (rr : ORi cX6_pairs V Rt) (h : MH) (x1 : Int32) : T (fun r => Rt (some (.int r.1)) r.2) (f_X6_pairs h x1) (V 0 [(0, rA g 0), (1, .int x1)] [] h) := by
  unfold f_X6_pairs
  refine R_aload_n o 0 dX6_pairs_0 rfl rfl ?_
  refine R_iload_n o 1 dX6_pairs_1 rfl rfl ?_
  refine K_z (callV' (As := [.int x1]) (rest := []) o dX6_pairs_2 lk_X6_124 rfl sh_0 rfl rfl rfl rfl (Nat.le_of_ble_eq_true rfl)) (c_X6_isCover g l h x1) (fun r2 => ?_)
  refine R_bif_ne o 10 dX6_pairs_5 (by decide) ?_ ?_
  · refine R_aload_n o 0 dX6_pairs_10 rfl rfl ?_
    refine R_getR (a2 := 3) o dX6_pairs_11 fl_X6_20 sh_0 (by decide) rfl rf_0_2 ?_
    refine R_iload_n o 1 dX6_pairs_14 rfl rfl ?_
    refine R_aald o dX6_pairs_15 sh_3 (Or.inr (Or.inl rfl)) (fun q15 => ?_)
    refine R_astore_n (lv2 := [(0, rA g 0), (1, .int x1), (2, rA g (rf 3 x1.toNatClampNeg))]) o dX6_pairs_16 rfl (by decide) rfl ?_
    refine R_aload_n o 2 dX6_pairs_17 rfl rfl ?_
    refine K_z (callV' (As := []) (rest := []) o dX6_pairs_18 lk_X6_142 rfl (sh_el14 sh_3 q15) rfl rfl rfl rfl (Nat.le_of_ble_eq_true rfl)) (c_X1_isMissing g l h (rf 3 x1.toNatClampNeg) (sh_el14 sh_3 q15)) (fun r18 => ?_)
    refine R_bif_eq o 30 dX6_pairs_21 (by decide) ?_ ?_
    · refine R_aload_n o 0 dX6_pairs_24 rfl rfl ?_
      refine R_iconst (v := 1) o dX6_pairs_25 (by decide) ?_
      refine K_ih (callV' (As := [.int 1]) (rest := []) o dX6_pairs_26 lk_X6_77 rfl sh_0 rfl rfl rfl rfl (Nat.le_of_ble_eq_true rfl)) (c_X6_found g l h 1) (fun r26 h26 => ?_)
      exact T_some (fun p => rr _ _ _ _ dX6_pairs_29 p)
    · refine R_aload_n o 0 dX6_pairs_30 rfl rfl ?_
      refine R_getR (a2 := 16) o dX6_pairs_31 fl_X6_57 sh_0 (by decide) rfl rf_0_8 ?_
      refine R_lconst (v := 0) o dX6_pairs_34 (by decide) ?_
      refine R_lconst (v := 1) o dX6_pairs_35 (by decide) ?_
      refine K_vh (callV' (As := [.long 0, .long 1]) (rest := []) o dX6_pairs_36 lk_X6_231 rfl sh_16 rfl rfl rfl rfl (Nat.le_of_ble_eq_true rfl)) (c_X2_become g l h 0 1) (fun h36 => ?_)
      refine R_iconst (v := 0) o dX6_pairs_39 (by decide) ?_
      refine R_istore_n (lv2 := [(0, rA g 0), (1, .int x1), (2, rA g (rf 3 x1.toNatClampNeg)), (3, .int 0)]) o dX6_pairs_40 rfl (by decide) rfl ?_
      refine R_iconst (v := 0) o dX6_pairs_41 (by decide) ?_
      refine R_istore (lv2 := [(0, rA g 0), (1, .int x1), (2, rA g (rf 3 x1.toNatClampNeg)), (3, .int 0), (4, .int 0)]) o dX6_pairs_42 (by decide) rfl ?_
      refine R_drop (lv2 := [(0, rA g 0), (2, rA g (rf 3 x1.toNatClampNeg)), (3, .int 0), (4, .int 0)]) o [0, 2, 3, 4] rfl ?_
      refine T_bind (t_X6_pairs_L44 o rr h36 (rf 3 x1.toNatClampNeg) 0 0 (sh_el14 sh_3 q15)) (fun b44 => ?_)
      refine R_iload_n o 0 dX6_pairs_128 rfl rfl ?_
      exact T_some (fun p => rr _ _ _ _ dX6_pairs_129 p)
  · refine R_iconst (v := (-1)) o dX6_pairs_8 (by decide) ?_
    exact T_some (fun p => rr _ _ _ _ dX6_pairs_9 p)
theorem c_X6_pairs (g : Gx) (l : Launch) (h : MH) (x1 : Int32) (r : (Int32 × MH)) (e : f_X6_pairs h x1 = some r) : Ctr g l yX6_pairs cX6_pairs 7 (some .int) 3 80 0 [rA g 0, .int x1] h (some (.int r.1)) r.2 := mkCi (plainFor_of_name (by decide)) (Nat.le_of_ble_eq_true rfl) (fun V Rt o rr p => b_X6_pairs o rr h x1  r e p)
