/-! X7_mean -/
noncomputable def f_X7_mean_B17 (h : MH) (x1 : Int32) (l3 : Int64) (x5 : Int32) : Option ((Int64 × Int32) ⊕ (Int64)) :=
  gd (ix x1 6) ((if x5 < (h.1 66 x1.toNatClampNeg) then Option.bind (f_X7_rowAt h x1 x5) (fun r33 => nm (l3 + (Int32.toInt64 r33)) (fun v38 => some (.inl (v38, (x5 + 1))))) else some (.inr l3)))
set_option maxRecDepth 100000 in
set_option maxHeartbeats 4000000 in
theorem t_X7_mean_B17 {g : Gx} {l : Launch} {V : VT} {Rt : Option Value → MH → Prop} (o : Ok g l RX7 cX7_mean 6 3 63 0 V) (rr : ORi cX7_mean V Rt) (h : MH) (x1 : Int32) (l3 : Int64) (x5 : Int32) : T (Sum.elim (fun s => V 17 [(0, rA g 64), (1, .int x1), (3, .long s.1), (5, .int s.2)] [] h) (fun b => V 45 [(0, rA g 64), (1, .int x1), (3, .long b)] [] h)) (f_X7_mean_B17  h x1 l3 x5) (V 17 [(0, rA g 64), (1, .int x1), (3, .long l3), (5, .int x5)] [] h) := by
  unfold f_X7_mean_B17
  refine R_iload o 3 dX7_mean_17 rfl ?_
  refine R_aload_n o 0 dX7_mean_19 rfl rfl ?_
  refine R_getR (a2 := 66) o dX7_mean_20 fl_X7_17 sh_64 (by decide) rfl rf_64_5 ?_
  refine R_iload_n o 1 dX7_mean_23 rfl rfl ?_
  refine R_iald o dX7_mean_24 sh_66 ?_
  refine R_icmp_ge o 45 dX7_mean_25 (by decide) ?_ ?_
  · refine R_lload_n o 2 dX7_mean_28 rfl rfl ?_
    refine R_aload_n o 0 dX7_mean_29 rfl rfl ?_
    refine R_iload_n o 1 dX7_mean_30 rfl rfl ?_
    refine R_iload o 3 dX7_mean_31 rfl ?_
    refine K_i (callV' (As := [.int x1, .int x5]) (rest := [.long l3]) o dX7_mean_33 lk_X7_110 rfl sh_64 rfl rfl rfl rfl (Nat.le_of_ble_eq_true rfl)) (c_X7_rowAt g l h x1 x5) (fun r33 => ?_)
    refine R_i2l o dX7_mean_36 ?_
    refine R_ladd o dX7_mean_37 ?_
    refine R_nmL (fun v38 => ?_)
    refine R_lstore_n (lv2 := [(0, rA g 64), (1, .int x1), (3, .long v38), (5, .int x5)]) o dX7_mean_38 rfl (by decide) rfl ?_
    refine R_iinc (v := (x5 + 1)) (lv2 := [(0, rA g 64), (1, .int x1), (3, .long v38), (5, .int (x5 + 1))]) o 3 dX7_mean_39 rfl rfl (by decide) rfl ?_
    refine R_goto o 17 dX7_mean_42 (by decide) ?_
    exact T_some (fun p => p)
  · refine R_drop (lv2 := [(0, rA g 64), (1, .int x1), (3, .long l3)]) o [0, 1, 2] rfl ?_
    exact T_some (fun p => p)
noncomputable def f_X7_mean_L17 (h : MH) (x1 : Int32) (l3 : Int64) (x5 : Int32) : Option (Int64) :=
  lpo (fun s : Int64 × Int32 => f_X7_mean_B17 h x1 s.1 s.2) (l3, x5)
theorem t_X7_mean_L17 {g : Gx} {l : Launch} {V : VT} {Rt : Option Value → MH → Prop} (o : Ok g l RX7 cX7_mean 6 3 63 0 V) (rr : ORi cX7_mean V Rt) (h : MH) (x1 : Int32) (l3 : Int64) (x5 : Int32) : T (fun b => V 45 [(0, rA g 64), (1, .int x1), (3, .long b)] [] h) (f_X7_mean_L17 h x1 l3 x5) (V 17 [(0, rA g 64), (1, .int x1), (3, .long l3), (5, .int x5)] [] h) := T_loop (head := fun s : Int64 × Int32 => V 17 [(0, rA g 64), (1, .int x1), (3, .long s.1), (5, .int s.2)] [] h) (fun s => t_X7_mean_B17 o rr h x1 s.1 s.2 ) (l3, x5)
noncomputable def f_X7_mean (h : MH) (x1 : Int32) : Option (Int32 × MH) :=
  bnd2 (f_X7_askedRow h x1) (fun r2 h2 => (if r2 < 0 then some (r2, h2) else Option.bind (f_X7_mean_L17 h2 x1 0 0) (fun b17 => gd (ix x1 6) ((if (h2.1 66 x1.toNatClampNeg) = 0 then bnd2 (f_X7_meets h2 4) (fun r56 h56 => some (r56, h56)) else gd (ix x1 6) (gd (nzL (Int32.toInt64 (h2.1 66 x1.toNatClampNeg))) (bnd2 (f_X7_ask h2 (Int64.toInt32 (b17 / (Int32.toInt64 (h2.1 66 x1.toNatClampNeg)))) 1) (fun r74 h74 => some (r74, h74)))))))))
set_option maxRecDepth 100000 in
set_option maxHeartbeats 4000000 in
theorem b_X7_mean {g : Gx} {l : Launch} {V : VT} {Rt : Option Value → MH → Prop} (o : Ok g l RX7 cX7_mean 6 3 63 0 V) (rr : ORi cX7_mean V Rt) (h : MH) (x1 : Int32) : T (fun r => Rt (some (.int r.1)) r.2) (f_X7_mean h x1) (V 0 [(0, rA g 64), (1, .int x1)] [] h) := by
  unfold f_X7_mean
  refine R_aload_n o 0 dX7_mean_0 rfl rfl ?_
  refine R_iload_n o 1 dX7_mean_1 rfl rfl ?_
  refine K_ih (callV' (As := [.int x1]) (rest := []) o dX7_mean_2 lk_X7_107 rfl sh_64 rfl rfl rfl rfl (Nat.le_of_ble_eq_true rfl)) (c_X7_askedRow g l h x1) (fun r2 h2 => ?_)
  refine R_istore_n (lv2 := [(0, rA g 64), (1, .int x1), (2, .int r2)]) o dX7_mean_5 rfl (by decide) rfl ?_
  refine R_iload_n o 2 dX7_mean_6 rfl rfl ?_
  refine R_if_ge o 12 dX7_mean_7 (by decide) ?_ ?_
  · refine R_iload_n o 2 dX7_mean_10 rfl rfl ?_
    exact T_some (fun p => rr _ _ _ _ dX7_mean_11 p)
  · refine R_lconst (v := 0) o dX7_mean_12 (by decide) ?_
    refine R_lstore_n (lv2 := [(0, rA g 64), (1, .int x1), (2, .int r2), (3, .long 0)]) o dX7_mean_13 rfl (by decide) rfl ?_
    refine R_iconst (v := 0) o dX7_mean_14 (by decide) ?_
    refine R_istore (lv2 := [(0, rA g 64), (1, .int x1), (2, .int r2), (3, .long 0), (5, .int 0)]) o dX7_mean_15 (by decide) rfl ?_
    refine R_drop (lv2 := [(0, rA g 64), (1, .int x1), (3, .long 0), (5, .int 0)]) o [0, 1, 3, 4] rfl ?_
    refine T_bind (t_X7_mean_L17 o rr h2 x1 0 0) (fun b17 => ?_)
    refine R_aload_n o 0 dX7_mean_45 rfl rfl ?_
    refine R_getR (a2 := 66) o dX7_mean_46 fl_X7_17 sh_64 (by decide) rfl rf_64_5 ?_
    refine R_iload_n o 1 dX7_mean_49 rfl rfl ?_
    refine R_iald o dX7_mean_50 sh_66 ?_
    refine R_if_ne o 62 dX7_mean_51 (by decide) ?_ ?_
    · refine R_aload_n o 0 dX7_mean_54 rfl rfl ?_
      refine R_iconst (v := 4) o dX7_mean_55 (by decide) ?_
      refine K_ih (callV' (As := [.int 4]) (rest := []) o dX7_mean_56 lk_X7_100 rfl sh_64 rfl rfl rfl rfl (Nat.le_of_ble_eq_true rfl)) (c_X7_meets g l h2 4) (fun r56 h56 => ?_)
      refine R_goto o 77 dX7_mean_59 (by decide) ?_
      exact T_some (fun p => rr _ _ _ _ dX7_mean_77 p)
    · refine R_aload_n o 0 dX7_mean_62 rfl rfl ?_
      refine R_lload_n o 2 dX7_mean_63 rfl rfl ?_
      refine R_aload_n o 0 dX7_mean_64 rfl rfl ?_
      refine R_getR (a2 := 66) o dX7_mean_65 fl_X7_17 sh_64 (by decide) rfl rf_64_5 ?_
      refine R_iload_n o 1 dX7_mean_68 rfl rfl ?_
      refine R_iald o dX7_mean_69 sh_66 ?_
      refine R_i2l o dX7_mean_70 ?_
      refine R_ldiv o dX7_mean_71 ?_
      refine R_l2i o dX7_mean_72 ?_
      refine R_iconst (v := 1) o dX7_mean_73 (by decide) ?_
      refine K_ih (callV' (As := [.int (Int64.toInt32 (b17 / (Int32.toInt64 (h2.1 66 x1.toNatClampNeg)))), .int 1]) (rest := []) o dX7_mean_74 lk_X7_114 rfl sh_64 rfl rfl rfl rfl (Nat.le_of_ble_eq_true rfl)) (c_X7_ask g l h2 (Int64.toInt32 (b17 / (Int32.toInt64 (h2.1 66 x1.toNatClampNeg)))) 1) (fun r74 h74 => ?_)
      exact T_some (fun p => rr _ _ _ _ dX7_mean_77 p)
theorem c_X7_mean (g : Gx) (l : Launch) (h : MH) (x1 : Int32) (r : (Int32 × MH)) (e : f_X7_mean h x1 = some r) : Ctr g l yX7_mean cX7_mean 6 (some .int) 3 63 0 [rA g 64, .int x1] h (some (.int r.1)) r.2 := mkCi (plainFor_of_name (by decide)) (Nat.le_of_ble_eq_true rfl) (fun V Rt o rr p => b_X7_mean o rr h x1  r e p)
/-! X7_text -/
noncomputable def f_X7_text_B34 (h : MH) (x1 : Int32) (x2 : Int32) (x3 : Int32) : Option ((Int32 × MH) ⊕ (MH)) :=
  (if x3 < 60 then gd (ix ((60 * x1) + x3) 240) (nm (uI h 70 ((60 * x1) + x3).toNatClampNeg 32) (fun h52 => some (.inl ((x3 + 1), h52)))) else some (.inr h))
set_option maxRecDepth 100000 in
set_option maxHeartbeats 4000000 in
theorem t_X7_text_B34 {g : Gx} {l : Launch} {V : VT} {Rt : Option Value → MH → Prop} (o : Ok g l RX7 cX7_text 4 2 42 0 V) (rr : ORi cX7_text V Rt) (h : MH) (x1 : Int32) (x2 : Int32) (x3 : Int32) : T (Sum.elim (fun s => V 34 [(0, rA g 64), (1, .int x1), (2, .int x2), (3, .int s.1)] [] s.2) (fun b => V 59 [(2, .int x2)] [] b)) (f_X7_text_B34  h x1 x2 x3) (V 34 [(0, rA g 64), (1, .int x1), (2, .int x2), (3, .int x3)] [] h) := by
  unfold f_X7_text_B34
  refine R_iload_n o 3 dX7_text_34 rfl rfl ?_
  refine R_bipush (v := 60) o dX7_text_35 (by decide) ?_
  refine R_icmp_ge o 59 dX7_text_37 (by decide) ?_ ?_
  · refine R_aload_n o 0 dX7_text_40 rfl rfl ?_
    refine R_getR (a2 := 70) o dX7_text_41 fl_X7_29 sh_64 (by decide) rfl rf_64_9 ?_
    refine R_bipush (v := 60) o dX7_text_44 (by decide) ?_
    refine R_iload_n o 1 dX7_text_46 rfl rfl ?_
    refine R_imul o dX7_text_47 ?_
    refine R_iload_n o 3 dX7_text_48 rfl rfl ?_
    refine R_iadd o dX7_text_49 ?_
    refine R_bipush (v := 32) o dX7_text_50 (by decide) ?_
    refine R_iast o dX7_text_52 sh_70 ?_
    refine R_nmH (fun h52 => ?_)
    refine R_iinc (v := (x3 + 1)) (lv2 := [(0, rA g 64), (1, .int x1), (2, .int x2), (3, .int (x3 + 1))]) o 3 dX7_text_53 rfl rfl (by decide) rfl ?_
    refine R_goto o 34 dX7_text_56 (by decide) ?_
    exact T_some (fun p => p)
  · refine R_drop (lv2 := [(2, .int x2)]) o [2] rfl ?_
    exact T_some (fun p => p)
noncomputable def f_X7_text_L34 (h : MH) (x1 : Int32) (x2 : Int32) (x3 : Int32) : Option (MH) :=
  lpo (fun s : Int32 × MH => f_X7_text_B34 s.2 x1 x2 s.1) (x3, h)
theorem t_X7_text_L34 {g : Gx} {l : Launch} {V : VT} {Rt : Option Value → MH → Prop} (o : Ok g l RX7 cX7_text 4 2 42 0 V) (rr : ORi cX7_text V Rt) (h : MH) (x1 : Int32) (x2 : Int32) (x3 : Int32) : T (fun b => V 59 [(2, .int x2)] [] b) (f_X7_text_L34 h x1 x2 x3) (V 34 [(0, rA g 64), (1, .int x1), (2, .int x2), (3, .int x3)] [] h) := T_loop (head := fun s : Int32 × MH => V 34 [(0, rA g 64), (1, .int x1), (2, .int x2), (3, .int s.1)] [] s.2) (fun s => t_X7_text_B34 o rr s.2 x1 x2 s.1 ) (x3, h)
noncomputable def f_X7_text (h : MH) (x1 : Int32) (x2 : Int32) : Option (Int32 × MH) :=
  Option.bind (f_X7_isText x1) (fun r1 => (if r1 = true then (if 60 < x2 then some ((-1), h) else (if x2 < 0 then bnd2 (f_X7_meets h 5) (fun r21 h21 => some (r21, h21)) else gd (ix x1 4) (nm (uI h 69 x1.toNatClampNeg x2) (fun h31 => Option.bind (f_X7_text_L34 h31 x1 x2 0) (fun b34 => some (x2, b34)))))) else some ((-1), h)))
set_option maxRecDepth 100000 in
set_option maxHeartbeats 4000000 in
theorem b_X7_text {g : Gx} {l : Launch} {V : VT} {Rt : Option Value → MH → Prop} (o : Ok g l RX7 cX7_text 4 2 42 0 V) (rr : ORi cX7_text V Rt) (h : MH) (x1 : Int32) (x2 : Int32) : T (fun r => Rt (some (.int r.1)) r.2) (f_X7_text h x1 x2) (V 0 [(0, rA g 64), (1, .int x1), (2, .int x2)] [] h) := by
  unfold f_X7_text
  refine R_iload_n o 1 dX7_text_0 rfl rfl ?_
  refine K_z (callS' (av := [.int x1]) (rest := []) o dX7_text_1 lk_X7_104 rfl rfl rfl (Nat.le_of_ble_eq_true rfl)) (c_X7_isText g l h x1) (fun r1 => ?_)
  refine R_bif_eq o 13 dX7_text_4 (by decide) ?_ ?_
  · refine R_iload_n o 2 dX7_text_7 rfl rfl ?_
    refine R_bipush (v := 60) o dX7_text_8 (by decide) ?_
    refine R_icmp_le o 15 dX7_text_10 (by decide) ?_ ?_
    · refine R_iconst (v := (-1)) o dX7_text_13 (by decide) ?_
      exact T_some (fun p => rr _ _ _ _ dX7_text_14 p)
    · refine R_iload_n o 2 dX7_text_15 rfl rfl ?_
      refine R_if_ge o 25 dX7_text_16 (by decide) ?_ ?_
      · refine R_aload_n o 0 dX7_text_19 rfl rfl ?_
        refine R_iconst (v := 5) o dX7_text_20 (by decide) ?_
        refine K_ih (callV' (As := [.int 5]) (rest := []) o dX7_text_21 lk_X7_100 rfl sh_64 rfl rfl rfl rfl (Nat.le_of_ble_eq_true rfl)) (c_X7_meets g l h 5) (fun r21 h21 => ?_)
        exact T_some (fun p => rr _ _ _ _ dX7_text_24 p)
      · refine R_aload_n o 0 dX7_text_25 rfl rfl ?_
        refine R_getR (a2 := 69) o dX7_text_26 fl_X7_26 sh_64 (by decide) rfl rf_64_8 ?_
        refine R_iload_n o 1 dX7_text_29 rfl rfl ?_
        refine R_iload_n o 2 dX7_text_30 rfl rfl ?_
        refine R_iast o dX7_text_31 sh_69 ?_
        refine R_nmH (fun h31 => ?_)
        refine R_iconst (v := 0) o dX7_text_32 (by decide) ?_
        refine R_istore_n (lv2 := [(0, rA g 64), (1, .int x1), (2, .int x2), (3, .int 0)]) o dX7_text_33 rfl (by decide) rfl ?_
        refine T_bind (t_X7_text_L34 o rr h31 x1 x2 0) (fun b34 => ?_)
        refine R_iload_n o 0 dX7_text_59 rfl rfl ?_
        exact T_some (fun p => rr _ _ _ _ dX7_text_60 p)
  · refine R_iconst (v := (-1)) o dX7_text_13 (by decide) ?_
    exact T_some (fun p => rr _ _ _ _ dX7_text_14 p)
theorem c_X7_text (g : Gx) (l : Launch) (h : MH) (x1 : Int32) (x2 : Int32) (r : (Int32 × MH)) (e : f_X7_text h x1 x2 = some r) : Ctr g l yX7_text cX7_text 4 (some .int) 2 42 0 [rA g 64, .int x1, .int x2] h (some (.int r.1)) r.2 := mkCi (plainFor_of_name (by decide)) (Nat.le_of_ble_eq_true rfl) (fun V Rt o rr p => b_X7_text o rr h x1 x2  r e p)
/-! X7_put -/
noncomputable def f_X7_put (h : MH) (x1 : Int32) (x2 : Int32) (x3 : Int32) : Option (Int32 × MH) :=
  bnd2 (f_X7_askedText h x1) (fun r2 h2 => (if r2 < 0 then some (r2, h2) else gd (ix x1 4) (Option.bind (f_X7_in x2 0 ((h2.1 69 x1.toNatClampNeg) - 1)) (fun r25 => (if r25 = true then gd (ix ((60 * x1) + x2) 240) (nm (h2.1 70 ((60 * x1) + x2).toNatClampNeg) (fun v48 => gd (ix ((60 * x1) + x2) 240) (nm (uI h2 70 ((60 * x1) + x2).toNatClampNeg (Int8.toInt32 (Int32.toInt8 x3))) (fun h62 => some ((v48 + 1000), h62))))) else bnd2 (f_X7_meets h2 2) (fun r33 h33 => some (r33, h33)))))))
set_option maxRecDepth 100000 in
set_option maxHeartbeats 4000000 in
theorem b_X7_put {g : Gx} {l : Launch} {V : VT} {Rt : Option Value → MH → Prop} (o : Ok g l RX7 cX7_put 6 3 63 0 V) (rr : ORi cX7_put V Rt) (h : MH) (x1 : Int32) (x2 : Int32) (x3 : Int32) : T (fun r => Rt (some (.int r.1)) r.2) (f_X7_put h x1 x2 x3) (V 0 [(0, rA g 64), (1, .int x1), (2, .int x2), (3, .int x3)] [] h) := by
  unfold f_X7_put
  refine R_aload_n o 0 dX7_put_0 rfl rfl ?_
  refine R_iload_n o 1 dX7_put_1 rfl rfl ?_
  refine K_ih (callV' (As := [.int x1]) (rest := []) o dX7_put_2 lk_X7_120 rfl sh_64 rfl rfl rfl rfl (Nat.le_of_ble_eq_true rfl)) (c_X7_askedText g l h x1) (fun r2 h2 => ?_)
  refine R_istore (lv2 := [(0, rA g 64), (1, .int x1), (2, .int x2), (3, .int x3), (4, .int r2)]) o dX7_put_5 (by decide) rfl ?_
  refine R_iload o 4 dX7_put_7 rfl ?_
  refine R_if_ge o 15 dX7_put_9 (by decide) ?_ ?_
  · refine R_iload o 4 dX7_put_12 rfl ?_
    exact T_some (fun p => rr _ _ _ _ dX7_put_14 p)
  · refine R_iload_n o 2 dX7_put_15 rfl rfl ?_
    refine R_iconst (v := 0) o dX7_put_16 (by decide) ?_
    refine R_aload_n o 0 dX7_put_17 rfl rfl ?_
    refine R_getR (a2 := 69) o dX7_put_18 fl_X7_26 sh_64 (by decide) rfl rf_64_8 ?_
    refine R_iload_n o 1 dX7_put_21 rfl rfl ?_
    refine R_iald o dX7_put_22 sh_69 ?_
    refine R_iconst (v := 1) o dX7_put_23 (by decide) ?_
    refine R_isub o dX7_put_24 ?_
    refine K_z (callS' (av := [.int x2, .int 0, .int ((h2.1 69 x1.toNatClampNeg) - 1)]) (rest := []) o dX7_put_25 lk_X7_92 rfl rfl rfl (Nat.le_of_ble_eq_true rfl)) (c_X7_in g l h2 x2 0 ((h2.1 69 x1.toNatClampNeg) - 1)) (fun r25 => ?_)
    refine R_bif_ne o 37 dX7_put_28 (by decide) ?_ ?_
    · refine R_aload_n o 0 dX7_put_37 rfl rfl ?_
      refine R_getR (a2 := 70) o dX7_put_38 fl_X7_29 sh_64 (by decide) rfl rf_64_9 ?_
      refine R_bipush (v := 60) o dX7_put_41 (by decide) ?_
      refine R_iload_n o 1 dX7_put_43 rfl rfl ?_
      refine R_imul o dX7_put_44 ?_
      refine R_iload_n o 2 dX7_put_45 rfl rfl ?_
      refine R_iadd o dX7_put_46 ?_
      refine R_iald o dX7_put_47 sh_70 ?_
      refine R_nmI (fun v48 => ?_)
      refine R_istore (lv2 := [(0, rA g 64), (1, .int x1), (2, .int x2), (3, .int x3), (4, .int r2), (5, .int v48)]) o dX7_put_48 (by decide) rfl ?_
      refine R_aload_n o 0 dX7_put_50 rfl rfl ?_
      refine R_getR (a2 := 70) o dX7_put_51 fl_X7_29 sh_64 (by decide) rfl rf_64_9 ?_
      refine R_bipush (v := 60) o dX7_put_54 (by decide) ?_
      refine R_iload_n o 1 dX7_put_56 rfl rfl ?_
      refine R_imul o dX7_put_57 ?_
      refine R_iload_n o 2 dX7_put_58 rfl rfl ?_
      refine R_iadd o dX7_put_59 ?_
      refine R_iload_n o 3 dX7_put_60 rfl rfl ?_
      refine R_i2b o dX7_put_61 ?_
      refine R_iast o dX7_put_62 sh_70 ?_
      refine R_nmH (fun h62 => ?_)
      refine R_iload o 5 dX7_put_63 rfl ?_
      refine R_sipush (v := 1000) o dX7_put_65 (by decide) ?_
      refine R_iadd o dX7_put_68 ?_
      exact T_some (fun p => rr _ _ _ _ dX7_put_69 p)
    · refine R_aload_n o 0 dX7_put_31 rfl rfl ?_
      refine R_iconst (v := 2) o dX7_put_32 (by decide) ?_
      refine K_ih (callV' (As := [.int 2]) (rest := []) o dX7_put_33 lk_X7_100 rfl sh_64 rfl rfl rfl rfl (Nat.le_of_ble_eq_true rfl)) (c_X7_meets g l h2 2) (fun r33 h33 => ?_)
      exact T_some (fun p => rr _ _ _ _ dX7_put_36 p)
theorem c_X7_put (g : Gx) (l : Launch) (h : MH) (x1 : Int32) (x2 : Int32) (x3 : Int32) (r : (Int32 × MH)) (e : f_X7_put h x1 x2 x3 = some r) : Ctr g l yX7_put cX7_put 6 (some .int) 3 63 0 [rA g 64, .int x1, .int x2, .int x3] h (some (.int r.1)) r.2 := mkCi (plainFor_of_name (by decide)) (Nat.le_of_ble_eq_true rfl) (fun V Rt o rr p => b_X7_put o rr h x1 x2 x3  r e p)
/-! X7_isCover -/
noncomputable def f_X7_isCover (x0 : Int32) : Option Bool :=
  Option.bind (f_X7_in x0 0 5) (fun r3 => some r3)
set_option maxRecDepth 100000 in
set_option maxHeartbeats 4000000 in
theorem b_X7_isCover {g : Gx} {l : Launch} {V : VT} {Rt : Option Value → MH → Prop} (o : Ok g l RX7 cX7_isCover 1 1 22 0 V) (rr : ORz cX7_isCover V Rt) (h : MH) (x0 : Int32) : T (fun r => Rt (some (.int (b2i r))) h) (f_X7_isCover  x0) (V 0 [(0, .int x0)] [] h) := by
  unfold f_X7_isCover
  refine R_iload_n o 0 dX7_isCover_0 rfl rfl ?_
  refine R_iconst (v := 0) o dX7_isCover_1 (by decide) ?_
  refine R_iconst (v := 5) o dX7_isCover_2 (by decide) ?_
  refine K_z (callS' (av := [.int x0, .int 0, .int 5]) (rest := []) o dX7_isCover_3 lk_X7_92 rfl rfl rfl (Nat.le_of_ble_eq_true rfl)) (c_X7_in g l h x0 0 5) (fun r3 => ?_)
  exact T_some (fun p => rr _ _ r3 _ dX7_isCover_6 p)
theorem c_X7_isCover (g : Gx) (l : Launch) (h : MH) (x0 : Int32) (r : Bool) (e : f_X7_isCover  x0 = some r) : Ctr g l yX7_isCover cX7_isCover 1 (some .boolean) 1 22 0 [.int x0] h (some (.int (b2i r))) h := mkCz (plainFor_of_name (by decide)) (Nat.le_of_ble_eq_true rfl) (fun V Rt o rr p => b_X7_isCover o rr h x0  r e p)
/-! X7_askedCover -/
noncomputable def f_X7_askedCover (h : MH) (x1 : Int32) : Option (Int32 × MH) :=
  Option.bind (f_X7_isCover x1) (fun r1 => (if r1 = true then gd (ix x1 6) ((if (h.1 71 x1.toNatClampNeg) = 0 then bnd2 (f_X7_meets h 1) (fun r22 h22 => some (r22, h22)) else some (0, h))) else some ((-1), h)))
set_option maxRecDepth 100000 in
set_option maxHeartbeats 4000000 in
theorem b_X7_askedCover {g : Gx} {l : Launch} {V : VT} {Rt : Option Value → MH → Prop} (o : Ok g l RX7 cX7_askedCover 2 2 42 0 V) (rr : ORi cX7_askedCover V Rt) (h : MH) (x1 : Int32) : T (fun r => Rt (some (.int r.1)) r.2) (f_X7_askedCover h x1) (V 0 [(0, rA g 64), (1, .int x1)] [] h) := by
  unfold f_X7_askedCover
  refine R_iload_n o 1 dX7_askedCover_0 rfl rfl ?_
  refine K_z (callS' (av := [.int x1]) (rest := []) o dX7_askedCover_1 lk_X7_123 rfl rfl rfl (Nat.le_of_ble_eq_true rfl)) (c_X7_isCover g l h x1) (fun r1 => ?_)
  refine R_bif_ne o 11 dX7_askedCover_4 (by decide) ?_ ?_
  · refine R_aload_n o 0 dX7_askedCover_11 rfl rfl ?_
    refine R_getR (a2 := 71) o dX7_askedCover_12 fl_X7_32 sh_64 (by decide) rfl rf_64_10 ?_
    refine R_iload_n o 1 dX7_askedCover_15 rfl rfl ?_
    refine R_iald o dX7_askedCover_16 sh_71 ?_
    refine R_if_ne o 28 dX7_askedCover_17 (by decide) ?_ ?_
    · refine R_aload_n o 0 dX7_askedCover_20 rfl rfl ?_
      refine R_iconst (v := 1) o dX7_askedCover_21 (by decide) ?_
      refine K_ih (callV' (As := [.int 1]) (rest := []) o dX7_askedCover_22 lk_X7_100 rfl sh_64 rfl rfl rfl rfl (Nat.le_of_ble_eq_true rfl)) (c_X7_meets g l h 1) (fun r22 h22 => ?_)
      refine R_goto o 29 dX7_askedCover_25 (by decide) ?_
      exact T_some (fun p => rr _ _ _ _ dX7_askedCover_29 p)
    · refine R_iconst (v := 0) o dX7_askedCover_28 (by decide) ?_
      exact T_some (fun p => rr _ _ _ _ dX7_askedCover_29 p)
  · refine R_iconst (v := (-1)) o dX7_askedCover_7 (by decide) ?_
    refine R_goto o 29 dX7_askedCover_8 (by decide) ?_
    exact T_some (fun p => rr _ _ _ _ dX7_askedCover_29 p)
theorem c_X7_askedCover (g : Gx) (l : Launch) (h : MH) (x1 : Int32) (r : (Int32 × MH)) (e : f_X7_askedCover h x1 = some r) : Ctr g l yX7_askedCover cX7_askedCover 2 (some .int) 2 42 0 [rA g 64, .int x1] h (some (.int r.1)) r.2 := mkCi (plainFor_of_name (by decide)) (Nat.le_of_ble_eq_true rfl) (fun V Rt o rr p => b_X7_askedCover o rr h x1  r e p)
/-! X7_dotAt -/
noncomputable def f_X7_dotAt (h : MH) (x1 : Int32) (x2 : Int32) : Option Int32 :=
  gd (ix ((40 * x1) + x2) 240) (some (h.1 73 ((40 * x1) + x2).toNatClampNeg))
set_option maxRecDepth 100000 in
set_option maxHeartbeats 4000000 in
theorem b_X7_dotAt {g : Gx} {l : Launch} {V : VT} {Rt : Option Value → MH → Prop} (o : Ok g l RX7 cX7_dotAt 3 0 0 0 V) (rr : ORi cX7_dotAt V Rt) (h : MH) (x1 : Int32) (x2 : Int32) : T (fun r => Rt (some (.int r)) h) (f_X7_dotAt h x1 x2) (V 0 [(0, rA g 64), (1, .int x1), (2, .int x2)] [] h) := by
  unfold f_X7_dotAt
  refine R_aload_n o 0 dX7_dotAt_0 rfl rfl ?_
  refine R_getR (a2 := 73) o dX7_dotAt_1 fl_X7_38 sh_64 (by decide) rfl rf_64_12 ?_
  refine R_bipush (v := 40) o dX7_dotAt_4 (by decide) ?_
  refine R_iload_n o 1 dX7_dotAt_6 rfl rfl ?_
  refine R_imul o dX7_dotAt_7 ?_
  refine R_iload_n o 2 dX7_dotAt_8 rfl rfl ?_
  refine R_iadd o dX7_dotAt_9 ?_
  refine R_iald o dX7_dotAt_10 sh_73 ?_
  exact T_some (fun p => rr _ _ _ _ dX7_dotAt_11 p)
theorem c_X7_dotAt (g : Gx) (l : Launch) (h : MH) (x1 : Int32) (x2 : Int32) (r : Int32) (e : f_X7_dotAt h x1 x2 = some r) : Ctr g l yX7_dotAt cX7_dotAt 3 (some .int) 0 0 0 [rA g 64, .int x1, .int x2] h (some (.int r)) h := mkCi (plainFor_of_name (by decide)) (Nat.le_of_ble_eq_true rfl) (fun V Rt o rr p => b_X7_dotAt o rr h x1 x2  r e p)
/-! X7_askedDots -/
noncomputable def f_X7_askedDots_B76 (h : MH) (x1 : Int32) (x2 : Int32) (x3 : Int32) (x4 : Int32) (x5 : Int32) : Option ((Int32 × Int32) ⊕ (Int32)) :=
  (if x5 < x4 then (if x2 = 0 then some (.inr x3) else (if x3 = 0 then some (.inl (0, (x5 + 1))) else Option.bind (f_X7_rowAt h x1 x4) (fun r95 => Option.bind (f_X7_rowAt h x1 x5) (fun r102 => (if r95 = r102 then some (.inl (0, (x5 + 1))) else some (.inl (1, (x5 + 1)))))))) else some (.inr x3))
set_option maxRecDepth 100000 in
set_option maxHeartbeats 4000000 in
theorem t_X7_askedDots_B76 {g : Gx} {l : Launch} {V : VT} {Rt : Option Value → MH → Prop} (o : Ok g l RX7 cX7_askedDots 6 1 22 0 V) (rr : ORi cX7_askedDots V Rt) (h : MH) (x1 : Int32) (x2 : Int32) (x3 : Int32) (x4 : Int32) (x5 : Int32) : T (Sum.elim (fun s => V 76 [(0, rA g 64), (1, .int x1), (2, .int x2), (3, .int s.1), (4, .int x4), (5, .int s.2)] [] h) (fun b => V 120 [(0, rA g 64), (1, .int x1), (2, .int x2), (3, .int b), (4, .int x4)] [] h)) (f_X7_askedDots_B76  h x1 x2 x3 x4 x5) (V 76 [(0, rA g 64), (1, .int x1), (2, .int x2), (3, .int x3), (4, .int x4), (5, .int x5)] [] h) := by
  unfold f_X7_askedDots_B76
  refine R_iload o 5 dX7_askedDots_76 rfl ?_
  refine R_iload o 4 dX7_askedDots_78 rfl ?_
  refine R_icmp_ge o 120 dX7_askedDots_80 (by decide) ?_ ?_
  · refine R_iload_n o 2 dX7_askedDots_83 rfl rfl ?_
    refine R_if_eq o 120 dX7_askedDots_84 (by decide) ?_ ?_
    · refine R_drop (lv2 := [(0, rA g 64), (1, .int x1), (2, .int x2), (3, .int x3), (4, .int x4)]) o [0, 1, 2, 3, 4] rfl ?_
      exact T_some (fun p => p)
    · refine R_iload_n o 3 dX7_askedDots_87 rfl rfl ?_
      refine R_if_eq o 112 dX7_askedDots_88 (by decide) ?_ ?_
      · refine R_iconst (v := 0) o dX7_askedDots_112 (by decide) ?_
        refine R_istore_n (lv2 := [(0, rA g 64), (1, .int x1), (2, .int x2), (3, .int 0), (4, .int x4), (5, .int x5)]) o dX7_askedDots_113 rfl (by decide) rfl ?_
        refine R_iinc (v := (x5 + 1)) (lv2 := [(0, rA g 64), (1, .int x1), (2, .int x2), (3, .int 0), (4, .int x4), (5, .int (x5 + 1))]) o 5 dX7_askedDots_114 rfl rfl (by decide) rfl ?_
        refine R_goto o 76 dX7_askedDots_117 (by decide) ?_
        exact T_some (fun p => p)
      · refine R_aload_n o 0 dX7_askedDots_91 rfl rfl ?_
        refine R_iload_n o 1 dX7_askedDots_92 rfl rfl ?_
        refine R_iload o 4 dX7_askedDots_93 rfl ?_
        refine K_i (callV' (As := [.int x1, .int x4]) (rest := []) o dX7_askedDots_95 lk_X7_110 rfl sh_64 rfl rfl rfl rfl (Nat.le_of_ble_eq_true rfl)) (c_X7_rowAt g l h x1 x4) (fun r95 => ?_)
        refine R_aload_n o 0 dX7_askedDots_98 rfl rfl ?_
        refine R_iload_n o 1 dX7_askedDots_99 rfl rfl ?_
        refine R_iload o 5 dX7_askedDots_100 rfl ?_
        refine K_i (callV' (As := [.int x1, .int x5]) (rest := [.int r95]) o dX7_askedDots_102 lk_X7_110 rfl sh_64 rfl rfl rfl rfl (Nat.le_of_ble_eq_true rfl)) (c_X7_rowAt g l h x1 x5) (fun r102 => ?_)
        refine R_icmp_eq o 112 dX7_askedDots_105 (by decide) ?_ ?_
        · refine R_iconst (v := 0) o dX7_askedDots_112 (by decide) ?_
          refine R_istore_n (lv2 := [(0, rA g 64), (1, .int x1), (2, .int x2), (3, .int 0), (4, .int x4), (5, .int x5)]) o dX7_askedDots_113 rfl (by decide) rfl ?_
          refine R_iinc (v := (x5 + 1)) (lv2 := [(0, rA g 64), (1, .int x1), (2, .int x2), (3, .int 0), (4, .int x4), (5, .int (x5 + 1))]) o 5 dX7_askedDots_114 rfl rfl (by decide) rfl ?_
          refine R_goto o 76 dX7_askedDots_117 (by decide) ?_
          exact T_some (fun p => p)
        · refine R_iconst (v := 1) o dX7_askedDots_108 (by decide) ?_
          refine R_goto o 113 dX7_askedDots_109 (by decide) ?_
          refine R_istore_n (lv2 := [(0, rA g 64), (1, .int x1), (2, .int x2), (3, .int 1), (4, .int x4), (5, .int x5)]) o dX7_askedDots_113 rfl (by decide) rfl ?_
          refine R_iinc (v := (x5 + 1)) (lv2 := [(0, rA g 64), (1, .int x1), (2, .int x2), (3, .int 1), (4, .int x4), (5, .int (x5 + 1))]) o 5 dX7_askedDots_114 rfl rfl (by decide) rfl ?_
          refine R_goto o 76 dX7_askedDots_117 (by decide) ?_
          exact T_some (fun p => p)
  · refine R_drop (lv2 := [(0, rA g 64), (1, .int x1), (2, .int x2), (3, .int x3), (4, .int x4)]) o [0, 1, 2, 3, 4] rfl ?_
    exact T_some (fun p => p)
noncomputable def f_X7_askedDots_L76 (h : MH) (x1 : Int32) (x2 : Int32) (x3 : Int32) (x4 : Int32) (x5 : Int32) : Option (Int32) :=
  lpo (fun s : Int32 × Int32 => f_X7_askedDots_B76 h x1 x2 s.1 x4 s.2) (x3, x5)
theorem t_X7_askedDots_L76 {g : Gx} {l : Launch} {V : VT} {Rt : Option Value → MH → Prop} (o : Ok g l RX7 cX7_askedDots 6 1 22 0 V) (rr : ORi cX7_askedDots V Rt) (h : MH) (x1 : Int32) (x2 : Int32) (x3 : Int32) (x4 : Int32) (x5 : Int32) : T (fun b => V 120 [(0, rA g 64), (1, .int x1), (2, .int x2), (3, .int b), (4, .int x4)] [] h) (f_X7_askedDots_L76 h x1 x2 x3 x4 x5) (V 76 [(0, rA g 64), (1, .int x1), (2, .int x2), (3, .int x3), (4, .int x4), (5, .int x5)] [] h) := T_loop (head := fun s : Int32 × Int32 => V 76 [(0, rA g 64), (1, .int x1), (2, .int x2), (3, .int s.1), (4, .int x4), (5, .int s.2)] [] h) (fun s => t_X7_askedDots_B76 o rr h x1 x2 s.1 x4 s.2 ) (x3, x5)
noncomputable def f_X7_askedDots_J72_35 (h : MH) (x1 : Int32) (x2 : Int32) (x4 : Int32) (s0 : Int32) : Option ((Int32 × Int32) ⊕ (Int32)) :=
  Option.bind (f_X7_askedDots_L76 h x1 x2 s0 x4 0) (fun b76 => some (.inl (b76, (x4 + 1))))
set_option maxRecDepth 100000 in
set_option maxHeartbeats 4000000 in
theorem t_X7_askedDots_J72_35 {g : Gx} {l : Launch} {V : VT} {Rt : Option Value → MH → Prop} (o : Ok g l RX7 cX7_askedDots 6 1 22 0 V) (rr : ORi cX7_askedDots V Rt) (h : MH) (x1 : Int32) (x2 : Int32) (x4 : Int32) (s0 : Int32) : T (Sum.elim (fun s => V 35 [(0, rA g 64), (1, .int x1), (2, .int x2), (3, .int s.1), (4, .int s.2)] [] h) (fun b => V 126 [(0, rA g 64), (3, .int b)] [] h)) (f_X7_askedDots_J72_35  h x1 x2 x4 s0) (V 72 [(0, rA g 64), (1, .int x1), (2, .int x2), (4, .int x4)] [.int s0] h) := by
  unfold f_X7_askedDots_J72_35
  refine R_istore_n (lv2 := [(0, rA g 64), (1, .int x1), (2, .int x2), (3, .int s0), (4, .int x4)]) o dX7_askedDots_72 rfl (by decide) rfl ?_
  refine R_iconst (v := 0) o dX7_askedDots_73 (by decide) ?_
  refine R_istore (lv2 := [(0, rA g 64), (1, .int x1), (2, .int x2), (3, .int s0), (4, .int x4), (5, .int 0)]) o dX7_askedDots_74 (by decide) rfl ?_
  refine T_bind (t_X7_askedDots_L76 o rr h x1 x2 s0 x4 0) (fun b76 => ?_)
  refine R_iinc (v := (x4 + 1)) (lv2 := [(0, rA g 64), (1, .int x1), (2, .int x2), (3, .int b76), (4, .int (x4 + 1))]) o 4 dX7_askedDots_120 rfl rfl (by decide) rfl ?_
  refine R_goto o 35 dX7_askedDots_123 (by decide) ?_
  exact T_some (fun p => p)
noncomputable def f_X7_askedDots_J71_35 (h : MH) (x1 : Int32) (x2 : Int32) (x4 : Int32) : Option ((Int32 × Int32) ⊕ (Int32)) :=
  f_X7_askedDots_J72_35 h x1 x2 x4 0
set_option maxRecDepth 100000 in
set_option maxHeartbeats 4000000 in
theorem t_X7_askedDots_J71_35 {g : Gx} {l : Launch} {V : VT} {Rt : Option Value → MH → Prop} (o : Ok g l RX7 cX7_askedDots 6 1 22 0 V) (rr : ORi cX7_askedDots V Rt) (h : MH) (x1 : Int32) (x2 : Int32) (x4 : Int32) : T (Sum.elim (fun s => V 35 [(0, rA g 64), (1, .int x1), (2, .int x2), (3, .int s.1), (4, .int s.2)] [] h) (fun b => V 126 [(0, rA g 64), (3, .int b)] [] h)) (f_X7_askedDots_J71_35  h x1 x2 x4) (V 71 [(0, rA g 64), (1, .int x1), (2, .int x2), (4, .int x4)] [] h) := by
  unfold f_X7_askedDots_J71_35
  refine R_iconst (v := 0) o dX7_askedDots_71 (by decide) ?_
  exact t_X7_askedDots_J72_35 o rr h x1 x2 x4 0
noncomputable def f_X7_askedDots_B35 (h : MH) (x1 : Int32) (x2 : Int32) (x3 : Int32) (x4 : Int32) : Option ((Int32 × Int32) ⊕ (Int32)) :=
  gd (ix x1 6) ((if x4 < (h.1 66 x1.toNatClampNeg) then (if x3 = 0 then f_X7_askedDots_J71_35 h x1 x2 x4 else Option.bind (f_X7_rowAt h x1 x4) (fun r54 => Option.bind (f_X7_in r54 0 255) (fun r61 => (if r61 = true then f_X7_askedDots_J72_35 h x1 x2 x4 1 else f_X7_askedDots_J71_35 h x1 x2 x4)))) else some (.inr x3)))
set_option maxRecDepth 100000 in
set_option maxHeartbeats 4000000 in
theorem t_X7_askedDots_B35 {g : Gx} {l : Launch} {V : VT} {Rt : Option Value → MH → Prop} (o : Ok g l RX7 cX7_askedDots 6 1 22 0 V) (rr : ORi cX7_askedDots V Rt) (h : MH) (x1 : Int32) (x2 : Int32) (x3 : Int32) (x4 : Int32) : T (Sum.elim (fun s => V 35 [(0, rA g 64), (1, .int x1), (2, .int x2), (3, .int s.1), (4, .int s.2)] [] h) (fun b => V 126 [(0, rA g 64), (3, .int b)] [] h)) (f_X7_askedDots_B35  h x1 x2 x3 x4) (V 35 [(0, rA g 64), (1, .int x1), (2, .int x2), (3, .int x3), (4, .int x4)] [] h) := by
  unfold f_X7_askedDots_B35
  refine R_iload o 4 dX7_askedDots_35 rfl ?_
  refine R_aload_n o 0 dX7_askedDots_37 rfl rfl ?_
  refine R_getR (a2 := 66) o dX7_askedDots_38 fl_X7_17 sh_64 (by decide) rfl rf_64_5 ?_
  refine R_iload_n o 1 dX7_askedDots_41 rfl rfl ?_
  refine R_iald o dX7_askedDots_42 sh_66 ?_
  refine R_icmp_ge o 126 dX7_askedDots_43 (by decide) ?_ ?_
  · refine R_iload_n o 3 dX7_askedDots_46 rfl rfl ?_
    refine R_if_eq o 71 dX7_askedDots_47 (by decide) ?_ ?_
    · refine R_drop (lv2 := [(0, rA g 64), (1, .int x1), (2, .int x2), (4, .int x4)]) o [0, 1, 2, 4] rfl ?_
      exact t_X7_askedDots_J71_35 o rr h x1 x2 x4
    · refine R_aload_n o 0 dX7_askedDots_50 rfl rfl ?_
      refine R_iload_n o 1 dX7_askedDots_51 rfl rfl ?_
      refine R_iload o 4 dX7_askedDots_52 rfl ?_
      refine K_i (callV' (As := [.int x1, .int x4]) (rest := []) o dX7_askedDots_54 lk_X7_110 rfl sh_64 rfl rfl rfl rfl (Nat.le_of_ble_eq_true rfl)) (c_X7_rowAt g l h x1 x4) (fun r54 => ?_)
      refine R_iconst (v := 0) o dX7_askedDots_57 (by decide) ?_
      refine R_sipush (v := 255) o dX7_askedDots_58 (by decide) ?_
      refine K_z (callS' (av := [.int r54, .int 0, .int 255]) (rest := []) o dX7_askedDots_61 lk_X7_92 rfl rfl rfl (Nat.le_of_ble_eq_true rfl)) (c_X7_in g l h r54 0 255) (fun r61 => ?_)
      refine R_bif_eq o 71 dX7_askedDots_64 (by decide) ?_ ?_
      · refine R_iconst (v := 1) o dX7_askedDots_67 (by decide) ?_
        refine R_goto o 72 dX7_askedDots_68 (by decide) ?_
        refine R_drop (lv2 := [(0, rA g 64), (1, .int x1), (2, .int x2), (4, .int x4)]) o [0, 1, 2, 4] rfl ?_
        exact t_X7_askedDots_J72_35 o rr h x1 x2 x4 1
      · refine R_drop (lv2 := [(0, rA g 64), (1, .int x1), (2, .int x2), (4, .int x4)]) o [0, 1, 2, 4] rfl ?_
        exact t_X7_askedDots_J71_35 o rr h x1 x2 x4
  · refine R_drop (lv2 := [(0, rA g 64), (3, .int x3)]) o [0, 3] rfl ?_
    exact T_some (fun p => p)
noncomputable def f_X7_askedDots_L35 (h : MH) (x1 : Int32) (x2 : Int32) (x3 : Int32) (x4 : Int32) : Option (Int32) :=
  lpo (fun s : Int32 × Int32 => f_X7_askedDots_B35 h x1 x2 s.1 s.2) (x3, x4)
theorem t_X7_askedDots_L35 {g : Gx} {l : Launch} {V : VT} {Rt : Option Value → MH → Prop} (o : Ok g l RX7 cX7_askedDots 6 1 22 0 V) (rr : ORi cX7_askedDots V Rt) (h : MH) (x1 : Int32) (x2 : Int32) (x3 : Int32) (x4 : Int32) : T (fun b => V 126 [(0, rA g 64), (3, .int b)] [] h) (f_X7_askedDots_L35 h x1 x2 x3 x4) (V 35 [(0, rA g 64), (1, .int x1), (2, .int x2), (3, .int x3), (4, .int x4)] [] h) := T_loop (head := fun s : Int32 × Int32 => V 35 [(0, rA g 64), (1, .int x1), (2, .int x2), (3, .int s.1), (4, .int s.2)] [] h) (fun s => t_X7_askedDots_B35 o rr h x1 x2 s.1 s.2 ) (x3, x4)
noncomputable def f_X7_askedDots (h : MH) (x1 : Int32) (x2 : Int32) : Option (Int32 × MH) :=
  gd (ix x1 6) ((if (h.1 66 x1.toNatClampNeg) < 0 then bnd2 (f_X7_meets h 1) (fun r11 h11 => some (r11, h11)) else gd (ix x1 6) ((if (h.1 66 x1.toNatClampNeg) = 0 then bnd2 (f_X7_meets h 5) (fun r26 h26 => some (r26, h26)) else Option.bind (f_X7_askedDots_L35 h x1 x2 1 0) (fun b35 => (if b35 = 0 then bnd2 (f_X7_meets h 3) (fun r136 h136 => some (r136, h136)) else some (0, h)))))))
set_option maxRecDepth 100000 in
set_option maxHeartbeats 4000000 in
theorem b_X7_askedDots {g : Gx} {l : Launch} {V : VT} {Rt : Option Value → MH → Prop} (o : Ok g l RX7 cX7_askedDots 6 1 22 0 V) (rr : ORi cX7_askedDots V Rt) (h : MH) (x1 : Int32) (x2 : Int32) : T (fun r => Rt (some (.int r.1)) r.2) (f_X7_askedDots h x1 x2) (V 0 [(0, rA g 64), (1, .int x1), (2, .int x2)] [] h) := by
  unfold f_X7_askedDots
  refine R_aload_n o 0 dX7_askedDots_0 rfl rfl ?_
  refine R_getR (a2 := 66) o dX7_askedDots_1 fl_X7_17 sh_64 (by decide) rfl rf_64_5 ?_
  refine R_iload_n o 1 dX7_askedDots_4 rfl rfl ?_
  refine R_iald o dX7_askedDots_5 sh_66 ?_
  refine R_if_ge o 15 dX7_askedDots_6 (by decide) ?_ ?_
  · refine R_aload_n o 0 dX7_askedDots_9 rfl rfl ?_
    refine R_iconst (v := 1) o dX7_askedDots_10 (by decide) ?_
    refine K_ih (callV' (As := [.int 1]) (rest := []) o dX7_askedDots_11 lk_X7_100 rfl sh_64 rfl rfl rfl rfl (Nat.le_of_ble_eq_true rfl)) (c_X7_meets g l h 1) (fun r11 h11 => ?_)
    exact T_some (fun p => rr _ _ _ _ dX7_askedDots_14 p)
  · refine R_aload_n o 0 dX7_askedDots_15 rfl rfl ?_
    refine R_getR (a2 := 66) o dX7_askedDots_16 fl_X7_17 sh_64 (by decide) rfl rf_64_5 ?_
    refine R_iload_n o 1 dX7_askedDots_19 rfl rfl ?_
    refine R_iald o dX7_askedDots_20 sh_66 ?_
    refine R_if_ne o 30 dX7_askedDots_21 (by decide) ?_ ?_
    · refine R_aload_n o 0 dX7_askedDots_24 rfl rfl ?_
      refine R_iconst (v := 5) o dX7_askedDots_25 (by decide) ?_
      refine K_ih (callV' (As := [.int 5]) (rest := []) o dX7_askedDots_26 lk_X7_100 rfl sh_64 rfl rfl rfl rfl (Nat.le_of_ble_eq_true rfl)) (c_X7_meets g l h 5) (fun r26 h26 => ?_)
      exact T_some (fun p => rr _ _ _ _ dX7_askedDots_29 p)
    · refine R_iconst (v := 1) o dX7_askedDots_30 (by decide) ?_
      refine R_istore_n (lv2 := [(0, rA g 64), (1, .int x1), (2, .int x2), (3, .int 1)]) o dX7_askedDots_31 rfl (by decide) rfl ?_
      refine R_iconst (v := 0) o dX7_askedDots_32 (by decide) ?_
      refine R_istore (lv2 := [(0, rA g 64), (1, .int x1), (2, .int x2), (3, .int 1), (4, .int 0)]) o dX7_askedDots_33 (by decide) rfl ?_
      refine T_bind (t_X7_askedDots_L35 o rr h x1 x2 1 0) (fun b35 => ?_)
      refine R_iload_n o 1 dX7_askedDots_126 rfl rfl ?_
      refine R_if_eq o 134 dX7_askedDots_127 (by decide) ?_ ?_
      · refine R_aload_n o 0 dX7_askedDots_134 rfl rfl ?_
        refine R_iconst (v := 3) o dX7_askedDots_135 (by decide) ?_
        refine K_ih (callV' (As := [.int 3]) (rest := []) o dX7_askedDots_136 lk_X7_100 rfl sh_64 rfl rfl rfl rfl (Nat.le_of_ble_eq_true rfl)) (c_X7_meets g l h 3) (fun r136 h136 => ?_)
        exact T_some (fun p => rr _ _ _ _ dX7_askedDots_139 p)
      · refine R_iconst (v := 0) o dX7_askedDots_130 (by decide) ?_
        refine R_goto o 139 dX7_askedDots_131 (by decide) ?_
        exact T_some (fun p => rr _ _ _ _ dX7_askedDots_139 p)
theorem c_X7_askedDots (g : Gx) (l : Launch) (h : MH) (x1 : Int32) (x2 : Int32) (r : (Int32 × MH)) (e : f_X7_askedDots h x1 x2 = some r) : Ctr g l yX7_askedDots cX7_askedDots 6 (some .int) 1 22 0 [rA g 64, .int x1, .int x2] h (some (.int r.1)) r.2 := mkCi (plainFor_of_name (by decide)) (Nat.le_of_ble_eq_true rfl) (fun V Rt o rr p => b_X7_askedDots o rr h x1 x2  r e p)
/-! X7_come -/
noncomputable def f_X7_come_B29 (h : MH) (x1 : Int32) (x3 : Int32) (x4 : Int32) : Option ((Int32 × MH) ⊕ (MH)) :=
  gd (ix x1 6) ((if x4 < (h.1 71 x1.toNatClampNeg) then Option.bind (f_X7_rowAt h x3 x4) (fun r55 => gd (ix ((40 * x1) + x4) 240) (nm (uI h 73 ((40 * x1) + x4).toNatClampNeg r55) (fun h58 => some (.inl ((x4 + 1), h58))))) else some (.inr h)))
set_option maxRecDepth 100000 in
set_option maxHeartbeats 4000000 in
theorem t_X7_come_B29 {g : Gx} {l : Launch} {V : VT} {Rt : Option Value → MH → Prop} (o : Ok g l RX7 cX7_come 5 1 22 0 V) (rr : ORi cX7_come V Rt) (h : MH) (x1 : Int32) (x3 : Int32) (x4 : Int32) : T (Sum.elim (fun s => V 29 [(0, rA g 64), (1, .int x1), (3, .int x3), (4, .int s.1)] [] s.2) (fun b => V 65 [(0, rA g 64), (1, .int x1)] [] b)) (f_X7_come_B29  h x1 x3 x4) (V 29 [(0, rA g 64), (1, .int x1), (3, .int x3), (4, .int x4)] [] h) := by
  unfold f_X7_come_B29
  refine R_iload o 3 dX7_come_29 rfl ?_
  refine R_aload_n o 0 dX7_come_31 rfl rfl ?_
  refine R_getR (a2 := 71) o dX7_come_32 fl_X7_32 sh_64 (by decide) rfl rf_64_10 ?_
  refine R_iload_n o 1 dX7_come_35 rfl rfl ?_
  refine R_iald o dX7_come_36 sh_71 ?_
  refine R_icmp_ge o 65 dX7_come_37 (by decide) ?_ ?_
  · refine R_aload_n o 0 dX7_come_40 rfl rfl ?_
    refine R_getR (a2 := 73) o dX7_come_41 fl_X7_38 sh_64 (by decide) rfl rf_64_12 ?_
    refine R_bipush (v := 40) o dX7_come_44 (by decide) ?_
    refine R_iload_n o 1 dX7_come_46 rfl rfl ?_
    refine R_imul o dX7_come_47 ?_
    refine R_iload o 3 dX7_come_48 rfl ?_
    refine R_iadd o dX7_come_50 ?_
    refine R_aload_n o 0 dX7_come_51 rfl rfl ?_
    refine R_iload_n o 2 dX7_come_52 rfl rfl ?_
    refine R_iload o 3 dX7_come_53 rfl ?_
    refine K_i (callV' (As := [.int x3, .int x4]) (rest := [.int ((40 * x1) + x4), rA g 73]) o dX7_come_55 lk_X7_110 rfl sh_64 rfl rfl rfl rfl (Nat.le_of_ble_eq_true rfl)) (c_X7_rowAt g l h x3 x4) (fun r55 => ?_)
    refine R_iast o dX7_come_58 sh_73 ?_
    refine R_nmH (fun h58 => ?_)
    refine R_iinc (v := (x4 + 1)) (lv2 := [(0, rA g 64), (1, .int x1), (3, .int x3), (4, .int (x4 + 1))]) o 3 dX7_come_59 rfl rfl (by decide) rfl ?_
    refine R_goto o 29 dX7_come_62 (by decide) ?_
    exact T_some (fun p => p)
  · refine R_drop (lv2 := [(0, rA g 64), (1, .int x1)]) o [0, 1] rfl ?_
    exact T_some (fun p => p)
noncomputable def f_X7_come_L29 (h : MH) (x1 : Int32) (x3 : Int32) (x4 : Int32) : Option (MH) :=
  lpo (fun s : Int32 × MH => f_X7_come_B29 s.2 x1 x3 s.1) (x4, h)
theorem t_X7_come_L29 {g : Gx} {l : Launch} {V : VT} {Rt : Option Value → MH → Prop} (o : Ok g l RX7 cX7_come 5 1 22 0 V) (rr : ORi cX7_come V Rt) (h : MH) (x1 : Int32) (x3 : Int32) (x4 : Int32) : T (fun b => V 65 [(0, rA g 64), (1, .int x1)] [] b) (f_X7_come_L29 h x1 x3 x4) (V 29 [(0, rA g 64), (1, .int x1), (3, .int x3), (4, .int x4)] [] h) := T_loop (head := fun s : Int32 × MH => V 29 [(0, rA g 64), (1, .int x1), (3, .int x3), (4, .int s.1)] [] s.2) (fun s => t_X7_come_B29 o rr s.2 x1 x3 s.1 ) (x4, h)
noncomputable def f_X7_come (h : MH) (x1 : Int32) (x2 : Int32) (x3 : Int32) : Option (Int32 × MH) :=
  gd (ix x1 6) (nm (uI h 72 x1.toNatClampNeg x2) (fun h6 => gd (ix x3 6) (gd (ix x1 6) (nm (uI h6 71 x1.toNatClampNeg (h6.1 66 x3.toNatClampNeg)) (fun h18 => gd (ix x1 6) (nm (uI h18 76 x1.toNatClampNeg 0) (fun h25 => Option.bind (f_X7_come_L29 h25 x1 x3 0) (fun b29 => gd (ix x1 6) (some ((b29.1 71 x1.toNatClampNeg), b29))))))))))
set_option maxRecDepth 100000 in
set_option maxHeartbeats 4000000 in
theorem b_X7_come {g : Gx} {l : Launch} {V : VT} {Rt : Option Value → MH → Prop} (o : Ok g l RX7 cX7_come 5 1 22 0 V) (rr : ORi cX7_come V Rt) (h : MH) (x1 : Int32) (x2 : Int32) (x3 : Int32) : T (fun r => Rt (some (.int r.1)) r.2) (f_X7_come h x1 x2 x3) (V 0 [(0, rA g 64), (1, .int x1), (2, .int x2), (3, .int x3)] [] h) := by
  unfold f_X7_come
  refine R_aload_n o 0 dX7_come_0 rfl rfl ?_
  refine R_getR (a2 := 72) o dX7_come_1 fl_X7_35 sh_64 (by decide) rfl rf_64_11 ?_
  refine R_iload_n o 1 dX7_come_4 rfl rfl ?_
  refine R_iload_n o 2 dX7_come_5 rfl rfl ?_
  refine R_iast o dX7_come_6 sh_72 ?_
  refine R_nmH (fun h6 => ?_)
  refine R_aload_n o 0 dX7_come_7 rfl rfl ?_
  refine R_getR (a2 := 71) o dX7_come_8 fl_X7_32 sh_64 (by decide) rfl rf_64_10 ?_
  refine R_iload_n o 1 dX7_come_11 rfl rfl ?_
  refine R_aload_n o 0 dX7_come_12 rfl rfl ?_
  refine R_getR (a2 := 66) o dX7_come_13 fl_X7_17 sh_64 (by decide) rfl rf_64_5 ?_
  refine R_iload_n o 3 dX7_come_16 rfl rfl ?_
  refine R_iald o dX7_come_17 sh_66 ?_
  refine R_iast o dX7_come_18 sh_71 ?_
  refine R_nmH (fun h18 => ?_)
  refine R_aload_n o 0 dX7_come_19 rfl rfl ?_
  refine R_getR (a2 := 76) o dX7_come_20 fl_X7_47 sh_64 (by decide) rfl rf_64_15 ?_
  refine R_iload_n o 1 dX7_come_23 rfl rfl ?_
  refine R_iconst (v := 0) o dX7_come_24 (by decide) ?_
  refine R_iast o dX7_come_25 sh_76 ?_
  refine R_nmH (fun h25 => ?_)
  refine R_iconst (v := 0) o dX7_come_26 (by decide) ?_
  refine R_istore (lv2 := [(0, rA g 64), (1, .int x1), (2, .int x2), (3, .int x3), (4, .int 0)]) o dX7_come_27 (by decide) rfl ?_
  refine R_drop (lv2 := [(0, rA g 64), (1, .int x1), (3, .int x3), (4, .int 0)]) o [0, 1, 3, 4] rfl ?_
  refine T_bind (t_X7_come_L29 o rr h25 x1 x3 0) (fun b29 => ?_)
  refine R_aload_n o 0 dX7_come_65 rfl rfl ?_
  refine R_getR (a2 := 71) o dX7_come_66 fl_X7_32 sh_64 (by decide) rfl rf_64_10 ?_
  refine R_iload_n o 1 dX7_come_69 rfl rfl ?_
  refine R_iald o dX7_come_70 sh_71 ?_
  exact T_some (fun p => rr _ _ _ _ dX7_come_71 p)
theorem c_X7_come (g : Gx) (l : Launch) (h : MH) (x1 : Int32) (x2 : Int32) (x3 : Int32) (r : (Int32 × MH)) (e : f_X7_come h x1 x2 x3 = some r) : Ctr g l yX7_come cX7_come 5 (some .int) 1 22 0 [rA g 64, .int x1, .int x2, .int x3] h (some (.int r.1)) r.2 := mkCi (plainFor_of_name (by decide)) (Nat.le_of_ble_eq_true rfl) (fun V Rt o rr p => b_X7_come o rr h x1 x2 x3  r e p)
/-! X7_cover -/
noncomputable def f_X7_cover_J37 (h : MH) (x1 : Int32) (x2 : Int32) (x3 : Int32) (s1 : Int32) (s2 : Int32) : Option (Int32 × MH) :=
  bnd2 (f_X7_askedDots h s1 s2) (fun r37 h37 => (if r37 < 0 then some (r37, h37) else bnd2 (f_X7_come h37 x1 x2 x3) (fun r56 h56 => some (r56, h56))))
set_option maxRecDepth 100000 in
set_option maxHeartbeats 4000000 in
theorem t_X7_cover_J37 {g : Gx} {l : Launch} {V : VT} {Rt : Option Value → MH → Prop} (o : Ok g l RX7 cX7_cover 5 2 47 0 V) (rr : ORi cX7_cover V Rt) (h : MH) (x1 : Int32) (x2 : Int32) (x3 : Int32) (s1 : Int32) (s2 : Int32) : T (fun r => Rt (some (.int r.1)) r.2) (f_X7_cover_J37  h x1 x2 x3 s1 s2) (V 37 [(0, rA g 64), (1, .int x1), (2, .int x2), (3, .int x3)] [.int s2, .int s1, rA g 64] h) := by
  unfold f_X7_cover_J37
  refine K_ih (callV' (As := [.int s1, .int s2]) (rest := []) o dX7_cover_37 lk_X7_126 rfl sh_64 rfl rfl rfl rfl (Nat.le_of_ble_eq_true rfl)) (c_X7_askedDots g l h s1 s2) (fun r37 h37 => ?_)
  refine R_istore (lv2 := [(0, rA g 64), (1, .int x1), (2, .int x2), (3, .int x3), (4, .int r37)]) o dX7_cover_40 (by decide) rfl ?_
  refine R_iload o 4 dX7_cover_42 rfl ?_
  refine R_if_ge o 52 dX7_cover_44 (by decide) ?_ ?_
  · refine R_iload o 4 dX7_cover_47 rfl ?_
    refine R_goto o 59 dX7_cover_49 (by decide) ?_
    exact T_some (fun p => rr _ _ _ _ dX7_cover_59 p)
  · refine R_aload_n o 0 dX7_cover_52 rfl rfl ?_
    refine R_iload_n o 1 dX7_cover_53 rfl rfl ?_
    refine R_iload_n o 2 dX7_cover_54 rfl rfl ?_
    refine R_iload_n o 3 dX7_cover_55 rfl rfl ?_
    refine K_ih (callV' (As := [.int x1, .int x2, .int x3]) (rest := []) o dX7_cover_56 lk_X7_130 rfl sh_64 rfl rfl rfl rfl (Nat.le_of_ble_eq_true rfl)) (c_X7_come g l h37 x1 x2 x3) (fun r56 h56 => ?_)
    exact T_some (fun p => rr _ _ _ _ dX7_cover_59 p)
noncomputable def f_X7_cover_J16 (h : MH) (x1 : Int32) (x2 : Int32) (x3 : Int32) : Option (Int32 × MH) :=
  Option.bind (f_X7_isRow x3) (fun r17 => (if r17 = true then (if x2 = 4 then f_X7_cover_J37 h x1 x2 x3 x3 1 else f_X7_cover_J37 h x1 x2 x3 x3 0) else some ((-1), h)))
set_option maxRecDepth 100000 in
set_option maxHeartbeats 4000000 in
theorem t_X7_cover_J16 {g : Gx} {l : Launch} {V : VT} {Rt : Option Value → MH → Prop} (o : Ok g l RX7 cX7_cover 5 2 47 0 V) (rr : ORi cX7_cover V Rt) (h : MH) (x1 : Int32) (x2 : Int32) (x3 : Int32) : T (fun r => Rt (some (.int r.1)) r.2) (f_X7_cover_J16  h x1 x2 x3) (V 16 [(0, rA g 64), (1, .int x1), (2, .int x2), (3, .int x3)] [] h) := by
  unfold f_X7_cover_J16
  refine R_iload_n o 3 dX7_cover_16 rfl rfl ?_
  refine K_z (callS' (av := [.int x3]) (rest := []) o dX7_cover_17 lk_X7_96 rfl rfl rfl (Nat.le_of_ble_eq_true rfl)) (c_X7_isRow g l h x3) (fun r17 => ?_)
  refine R_bif_ne o 25 dX7_cover_20 (by decide) ?_ ?_
  · refine R_aload_n o 0 dX7_cover_25 rfl rfl ?_
    refine R_iload_n o 3 dX7_cover_26 rfl rfl ?_
    refine R_iload_n o 2 dX7_cover_27 rfl rfl ?_
    refine R_iconst (v := 4) o dX7_cover_28 (by decide) ?_
    refine R_icmp_ne o 36 dX7_cover_29 (by decide) ?_ ?_
    · refine R_iconst (v := 1) o dX7_cover_32 (by decide) ?_
      refine R_goto o 37 dX7_cover_33 (by decide) ?_
      exact t_X7_cover_J37 o rr h x1 x2 x3 x3 1
    · refine R_iconst (v := 0) o dX7_cover_36 (by decide) ?_
      exact t_X7_cover_J37 o rr h x1 x2 x3 x3 0
  · refine R_iconst (v := (-1)) o dX7_cover_23 (by decide) ?_
    exact T_some (fun p => rr _ _ _ _ dX7_cover_24 p)
noncomputable def f_X7_cover (h : MH) (x1 : Int32) (x2 : Int32) (x3 : Int32) : Option (Int32 × MH) :=
  Option.bind (f_X7_isCover x1) (fun r1 => (if r1 = true then (if x2 = 0 then f_X7_cover_J16 h x1 x2 x3 else (if x2 = 4 then f_X7_cover_J16 h x1 x2 x3 else some ((-1), h))) else some ((-1), h)))
set_option maxRecDepth 100000 in
set_option maxHeartbeats 4000000 in
theorem b_X7_cover {g : Gx} {l : Launch} {V : VT} {Rt : Option Value → MH → Prop} (o : Ok g l RX7 cX7_cover 5 2 47 0 V) (rr : ORi cX7_cover V Rt) (h : MH) (x1 : Int32) (x2 : Int32) (x3 : Int32) : T (fun r => Rt (some (.int r.1)) r.2) (f_X7_cover h x1 x2 x3) (V 0 [(0, rA g 64), (1, .int x1), (2, .int x2), (3, .int x3)] [] h) := by
  unfold f_X7_cover
  refine R_iload_n o 1 dX7_cover_0 rfl rfl ?_
  refine K_z (callS' (av := [.int x1]) (rest := []) o dX7_cover_1 lk_X7_123 rfl rfl rfl (Nat.le_of_ble_eq_true rfl)) (c_X7_isCover g l h x1) (fun r1 => ?_)
  refine R_bif_eq o 23 dX7_cover_4 (by decide) ?_ ?_
  · refine R_iload_n o 2 dX7_cover_7 rfl rfl ?_
    refine R_if_eq o 16 dX7_cover_8 (by decide) ?_ ?_
    · exact t_X7_cover_J16 o rr h x1 x2 x3
    · refine R_iload_n o 2 dX7_cover_11 rfl rfl ?_
      refine R_iconst (v := 4) o dX7_cover_12 (by decide) ?_
      refine R_icmp_ne o 23 dX7_cover_13 (by decide) ?_ ?_
      · exact t_X7_cover_J16 o rr h x1 x2 x3
      · refine R_iconst (v := (-1)) o dX7_cover_23 (by decide) ?_
        exact T_some (fun p => rr _ _ _ _ dX7_cover_24 p)
  · refine R_iconst (v := (-1)) o dX7_cover_23 (by decide) ?_
    exact T_some (fun p => rr _ _ _ _ dX7_cover_24 p)
theorem c_X7_cover (g : Gx) (l : Launch) (h : MH) (x1 : Int32) (x2 : Int32) (x3 : Int32) (r : (Int32 × MH)) (e : f_X7_cover h x1 x2 x3 = some r) : Ctr g l yX7_cover cX7_cover 5 (some .int) 2 47 0 [rA g 64, .int x1, .int x2, .int x3] h (some (.int r.1)) r.2 := mkCi (plainFor_of_name (by decide)) (Nat.le_of_ble_eq_true rfl) (fun V Rt o rr p => b_X7_cover o rr h x1 x2 x3  r e p)
/-! X7_grey -/
noncomputable def f_X7_grey (h : MH) (x1 : Int32) (x2 : Int32) (x3 : Int32) (x4 : Int32) : Option (Int32 × MH) :=
  Option.bind (f_X7_isCover x1) (fun r1 => (if r1 = true then Option.bind (f_X7_isRow x2) (fun r8 => (if r8 = true then Option.bind (f_X7_in x3 1 40) (fun r18 => (if r18 = true then bnd2 (f_X7_askedDots h x2 0) (fun r29 h29 => (if r29 < 0 then some (r29, h29) else gd (ix x1 6) (nm (uI h29 75 x1.toNatClampNeg x3) (fun h48 => (if x4 = 0 then bnd2 (f_X7_come h48 x1 1 x2) (fun r62 h62 => some (r62, h62)) else bnd2 (f_X7_come h48 x1 2 x2) (fun r62 h62 => some (r62, h62))))))) else some ((-1), h))) else some ((-1), h))) else some ((-1), h)))
set_option maxRecDepth 100000 in
set_option maxHeartbeats 4000000 in
theorem b_X7_grey {g : Gx} {l : Launch} {V : VT} {Rt : Option Value → MH → Prop} (o : Ok g l RX7 cX7_grey 6 2 47 0 V) (rr : ORi cX7_grey V Rt) (h : MH) (x1 : Int32) (x2 : Int32) (x3 : Int32) (x4 : Int32) : T (fun r => Rt (some (.int r.1)) r.2) (f_X7_grey h x1 x2 x3 x4) (V 0 [(0, rA g 64), (1, .int x1), (2, .int x2), (3, .int x3), (4, .int x4)] [] h) := by
  unfold f_X7_grey
  refine R_iload_n o 1 dX7_grey_0 rfl rfl ?_
  refine K_z (callS' (av := [.int x1]) (rest := []) o dX7_grey_1 lk_X7_123 rfl rfl rfl (Nat.le_of_ble_eq_true rfl)) (c_X7_isCover g l h x1) (fun r1 => ?_)
  refine R_bif_eq o 24 dX7_grey_4 (by decide) ?_ ?_
  · refine R_iload_n o 2 dX7_grey_7 rfl rfl ?_
    refine K_z (callS' (av := [.int x2]) (rest := []) o dX7_grey_8 lk_X7_96 rfl rfl rfl (Nat.le_of_ble_eq_true rfl)) (c_X7_isRow g l h x2) (fun r8 => ?_)
    refine R_bif_eq o 24 dX7_grey_11 (by decide) ?_ ?_
    · refine R_iload_n o 3 dX7_grey_14 rfl rfl ?_
      refine R_iconst (v := 1) o dX7_grey_15 (by decide) ?_
      refine R_bipush (v := 40) o dX7_grey_16 (by decide) ?_
      refine K_z (callS' (av := [.int x3, .int 1, .int 40]) (rest := []) o dX7_grey_18 lk_X7_92 rfl rfl rfl (Nat.le_of_ble_eq_true rfl)) (c_X7_in g l h x3 1 40) (fun r18 => ?_)
      refine R_bif_ne o 26 dX7_grey_21 (by decide) ?_ ?_
      · refine R_aload_n o 0 dX7_grey_26 rfl rfl ?_
        refine R_iload_n o 2 dX7_grey_27 rfl rfl ?_
        refine R_iconst (v := 0) o dX7_grey_28 (by decide) ?_
        refine K_ih (callV' (As := [.int x2, .int 0]) (rest := []) o dX7_grey_29 lk_X7_126 rfl sh_64 rfl rfl rfl rfl (Nat.le_of_ble_eq_true rfl)) (c_X7_askedDots g l h x2 0) (fun r29 h29 => ?_)
        refine R_istore (lv2 := [(0, rA g 64), (1, .int x1), (2, .int x2), (3, .int x3), (4, .int x4), (5, .int r29)]) o dX7_grey_32 (by decide) rfl ?_
        refine R_iload o 5 dX7_grey_34 rfl ?_
        refine R_if_ge o 42 dX7_grey_36 (by decide) ?_ ?_
        · refine R_iload o 5 dX7_grey_39 rfl ?_
          exact T_some (fun p => rr _ _ _ _ dX7_grey_41 p)
        · refine R_aload_n o 0 dX7_grey_42 rfl rfl ?_
          refine R_getR (a2 := 75) o dX7_grey_43 fl_X7_44 sh_64 (by decide) rfl rf_64_14 ?_
          refine R_iload_n o 1 dX7_grey_46 rfl rfl ?_
          refine R_iload_n o 3 dX7_grey_47 rfl rfl ?_
          refine R_iast o dX7_grey_48 sh_75 ?_
          refine R_nmH (fun h48 => ?_)
          refine R_aload_n o 0 dX7_grey_49 rfl rfl ?_
          refine R_iload_n o 1 dX7_grey_50 rfl rfl ?_
          refine R_iload o 4 dX7_grey_51 rfl ?_
          refine R_if_eq o 60 dX7_grey_53 (by decide) ?_ ?_
          · refine R_iconst (v := 1) o dX7_grey_60 (by decide) ?_
            refine R_iload_n o 2 dX7_grey_61 rfl rfl ?_
            refine K_ih (callV' (As := [.int x1, .int 1, .int x2]) (rest := []) o dX7_grey_62 lk_X7_130 rfl sh_64 rfl rfl rfl rfl (Nat.le_of_ble_eq_true rfl)) (c_X7_come g l h48 x1 1 x2) (fun r62 h62 => ?_)
            exact T_some (fun p => rr _ _ _ _ dX7_grey_65 p)
          · refine R_iconst (v := 2) o dX7_grey_56 (by decide) ?_
            refine R_goto o 61 dX7_grey_57 (by decide) ?_
            refine R_iload_n o 2 dX7_grey_61 rfl rfl ?_
            refine K_ih (callV' (As := [.int x1, .int 2, .int x2]) (rest := []) o dX7_grey_62 lk_X7_130 rfl sh_64 rfl rfl rfl rfl (Nat.le_of_ble_eq_true rfl)) (c_X7_come g l h48 x1 2 x2) (fun r62 h62 => ?_)
            exact T_some (fun p => rr _ _ _ _ dX7_grey_65 p)
      · refine R_iconst (v := (-1)) o dX7_grey_24 (by decide) ?_
        exact T_some (fun p => rr _ _ _ _ dX7_grey_25 p)
    · refine R_iconst (v := (-1)) o dX7_grey_24 (by decide) ?_
      exact T_some (fun p => rr _ _ _ _ dX7_grey_25 p)
  · refine R_iconst (v := (-1)) o dX7_grey_24 (by decide) ?_
    exact T_some (fun p => rr _ _ _ _ dX7_grey_25 p)
theorem c_X7_grey (g : Gx) (l : Launch) (h : MH) (x1 : Int32) (x2 : Int32) (x3 : Int32) (x4 : Int32) (r : (Int32 × MH)) (e : f_X7_grey h x1 x2 x3 x4 = some r) : Ctr g l yX7_grey cX7_grey 6 (some .int) 2 47 0 [rA g 64, .int x1, .int x2, .int x3, .int x4] h (some (.int r.1)) r.2 := mkCi (plainFor_of_name (by decide)) (Nat.le_of_ble_eq_true rfl) (fun V Rt o rr p => b_X7_grey o rr h x1 x2 x3 x4  r e p)
/-! X7_wordy -/
noncomputable def f_X7_wordy_B83 (h : MH) (x1 : Int32) (x2 : Int32) (x3 : Int32) (x4 : Int32) (x5 : Int32) : Option ((Int32 × Int32) ⊕ (Int32)) :=
  gd (ix x2 6) ((if x5 < (h.1 66 x2.toNatClampNeg) then (if x4 = 0 then some (.inl (0, (x5 + 1))) else Option.bind (f_X7_rowAt h x3 x5) (fun r103 => Option.bind (f_X7_in r103 1 9) (fun r109 => (if r109 = true then Option.bind (f_X7_rowAt h x2 x5) (fun r119 => Option.bind (f_X7_rowAt h x3 x5) (fun r127 => Option.bind (f_X7_in r119 0 (r127 - 1)) (fun r132 => (if r132 = true then some (.inl (1, (x5 + 1))) else some (.inl (0, (x5 + 1))))))) else some (.inl (0, (x5 + 1))))))) else some (.inr x4)))
set_option maxRecDepth 100000 in
set_option maxHeartbeats 4000000 in
theorem t_X7_wordy_B83 {g : Gx} {l : Launch} {V : VT} {Rt : Option Value → MH → Prop} (o : Ok g l RX7 cX7_wordy 6 2 46 0 V) (rr : ORi cX7_wordy V Rt) (h : MH) (x1 : Int32) (x2 : Int32) (x3 : Int32) (x4 : Int32) (x5 : Int32) : T (Sum.elim (fun s => V 83 [(0, rA g 64), (1, .int x1), (2, .int x2), (3, .int x3), (4, .int s.1), (5, .int s.2)] [] h) (fun b => V 151 [(0, rA g 64), (1, .int x1), (2, .int x2), (3, .int x3), (4, .int b)] [] h)) (f_X7_wordy_B83  h x1 x2 x3 x4 x5) (V 83 [(0, rA g 64), (1, .int x1), (2, .int x2), (3, .int x3), (4, .int x4), (5, .int x5)] [] h) := by
  unfold f_X7_wordy_B83
  refine R_iload o 5 dX7_wordy_83 rfl ?_
  refine R_aload_n o 0 dX7_wordy_85 rfl rfl ?_
  refine R_getR (a2 := 66) o dX7_wordy_86 fl_X7_17 sh_64 (by decide) rfl rf_64_5 ?_
  refine R_iload_n o 2 dX7_wordy_89 rfl rfl ?_
  refine R_iald o dX7_wordy_90 sh_66 ?_
  refine R_icmp_ge o 151 dX7_wordy_91 (by decide) ?_ ?_
  · refine R_iload o 4 dX7_wordy_94 rfl ?_
    refine R_if_eq o 142 dX7_wordy_96 (by decide) ?_ ?_
    · refine R_iconst (v := 0) o dX7_wordy_142 (by decide) ?_
      refine R_istore (lv2 := [(0, rA g 64), (1, .int x1), (2, .int x2), (3, .int x3), (4, .int 0), (5, .int x5)]) o dX7_wordy_143 (by decide) rfl ?_
      refine R_iinc (v := (x5 + 1)) (lv2 := [(0, rA g 64), (1, .int x1), (2, .int x2), (3, .int x3), (4, .int 0), (5, .int (x5 + 1))]) o 5 dX7_wordy_145 rfl rfl (by decide) rfl ?_
      refine R_goto o 83 dX7_wordy_148 (by decide) ?_
      exact T_some (fun p => p)
    · refine R_aload_n o 0 dX7_wordy_99 rfl rfl ?_
      refine R_iload_n o 3 dX7_wordy_100 rfl rfl ?_
      refine R_iload o 5 dX7_wordy_101 rfl ?_
      refine K_i (callV' (As := [.int x3, .int x5]) (rest := []) o dX7_wordy_103 lk_X7_110 rfl sh_64 rfl rfl rfl rfl (Nat.le_of_ble_eq_true rfl)) (c_X7_rowAt g l h x3 x5) (fun r103 => ?_)
      refine R_iconst (v := 1) o dX7_wordy_106 (by decide) ?_
      refine R_bipush (v := 9) o dX7_wordy_107 (by decide) ?_
      refine K_z (callS' (av := [.int r103, .int 1, .int 9]) (rest := []) o dX7_wordy_109 lk_X7_92 rfl rfl rfl (Nat.le_of_ble_eq_true rfl)) (c_X7_in g l h r103 1 9) (fun r109 => ?_)
      refine R_bif_eq o 142 dX7_wordy_112 (by decide) ?_ ?_
      · refine R_aload_n o 0 dX7_wordy_115 rfl rfl ?_
        refine R_iload_n o 2 dX7_wordy_116 rfl rfl ?_
        refine R_iload o 5 dX7_wordy_117 rfl ?_
        refine K_i (callV' (As := [.int x2, .int x5]) (rest := []) o dX7_wordy_119 lk_X7_110 rfl sh_64 rfl rfl rfl rfl (Nat.le_of_ble_eq_true rfl)) (c_X7_rowAt g l h x2 x5) (fun r119 => ?_)
        refine R_iconst (v := 0) o dX7_wordy_122 (by decide) ?_
        refine R_aload_n o 0 dX7_wordy_123 rfl rfl ?_
        refine R_iload_n o 3 dX7_wordy_124 rfl rfl ?_
        refine R_iload o 5 dX7_wordy_125 rfl ?_
        refine K_i (callV' (As := [.int x3, .int x5]) (rest := [.int 0, .int r119]) o dX7_wordy_127 lk_X7_110 rfl sh_64 rfl rfl rfl rfl (Nat.le_of_ble_eq_true rfl)) (c_X7_rowAt g l h x3 x5) (fun r127 => ?_)
        refine R_iconst (v := 1) o dX7_wordy_130 (by decide) ?_
        refine R_isub o dX7_wordy_131 ?_
        refine K_z (callS' (av := [.int r119, .int 0, .int (r127 - 1)]) (rest := []) o dX7_wordy_132 lk_X7_92 rfl rfl rfl (Nat.le_of_ble_eq_true rfl)) (c_X7_in g l h r119 0 (r127 - 1)) (fun r132 => ?_)
        refine R_bif_eq o 142 dX7_wordy_135 (by decide) ?_ ?_
        · refine R_iconst (v := 1) o dX7_wordy_138 (by decide) ?_
          refine R_goto o 143 dX7_wordy_139 (by decide) ?_
          refine R_istore (lv2 := [(0, rA g 64), (1, .int x1), (2, .int x2), (3, .int x3), (4, .int 1), (5, .int x5)]) o dX7_wordy_143 (by decide) rfl ?_
          refine R_iinc (v := (x5 + 1)) (lv2 := [(0, rA g 64), (1, .int x1), (2, .int x2), (3, .int x3), (4, .int 1), (5, .int (x5 + 1))]) o 5 dX7_wordy_145 rfl rfl (by decide) rfl ?_
          refine R_goto o 83 dX7_wordy_148 (by decide) ?_
          exact T_some (fun p => p)
        · refine R_iconst (v := 0) o dX7_wordy_142 (by decide) ?_
          refine R_istore (lv2 := [(0, rA g 64), (1, .int x1), (2, .int x2), (3, .int x3), (4, .int 0), (5, .int x5)]) o dX7_wordy_143 (by decide) rfl ?_
          refine R_iinc (v := (x5 + 1)) (lv2 := [(0, rA g 64), (1, .int x1), (2, .int x2), (3, .int x3), (4, .int 0), (5, .int (x5 + 1))]) o 5 dX7_wordy_145 rfl rfl (by decide) rfl ?_
          refine R_goto o 83 dX7_wordy_148 (by decide) ?_
          exact T_some (fun p => p)
      · refine R_iconst (v := 0) o dX7_wordy_142 (by decide) ?_
        refine R_istore (lv2 := [(0, rA g 64), (1, .int x1), (2, .int x2), (3, .int x3), (4, .int 0), (5, .int x5)]) o dX7_wordy_143 (by decide) rfl ?_
        refine R_iinc (v := (x5 + 1)) (lv2 := [(0, rA g 64), (1, .int x1), (2, .int x2), (3, .int x3), (4, .int 0), (5, .int (x5 + 1))]) o 5 dX7_wordy_145 rfl rfl (by decide) rfl ?_
        refine R_goto o 83 dX7_wordy_148 (by decide) ?_
        exact T_some (fun p => p)
  · refine R_drop (lv2 := [(0, rA g 64), (1, .int x1), (2, .int x2), (3, .int x3), (4, .int x4)]) o [0, 1, 2, 3, 4] rfl ?_
    exact T_some (fun p => p)
noncomputable def f_X7_wordy_L83 (h : MH) (x1 : Int32) (x2 : Int32) (x3 : Int32) (x4 : Int32) (x5 : Int32) : Option (Int32) :=
  lpo (fun s : Int32 × Int32 => f_X7_wordy_B83 h x1 x2 x3 s.1 s.2) (x4, x5)
theorem t_X7_wordy_L83 {g : Gx} {l : Launch} {V : VT} {Rt : Option Value → MH → Prop} (o : Ok g l RX7 cX7_wordy 6 2 46 0 V) (rr : ORi cX7_wordy V Rt) (h : MH) (x1 : Int32) (x2 : Int32) (x3 : Int32) (x4 : Int32) (x5 : Int32) : T (fun b => V 151 [(0, rA g 64), (1, .int x1), (2, .int x2), (3, .int x3), (4, .int b)] [] h) (f_X7_wordy_L83 h x1 x2 x3 x4 x5) (V 83 [(0, rA g 64), (1, .int x1), (2, .int x2), (3, .int x3), (4, .int x4), (5, .int x5)] [] h) := T_loop (head := fun s : Int32 × Int32 => V 83 [(0, rA g 64), (1, .int x1), (2, .int x2), (3, .int x3), (4, .int s.1), (5, .int s.2)] [] h) (fun s => t_X7_wordy_B83 o rr h x1 x2 x3 s.1 s.2 ) (x4, x5)
noncomputable def f_X7_wordy_B165 (h : MH) (x1 : Int32) (x2 : Int32) (x3 : Int32) (x5 : Int32) : Option ((Int32 × MH) ⊕ (MH)) :=
  gd (ix x2 6) ((if x5 < (h.1 66 x2.toNatClampNeg) then Option.bind (f_X7_rowAt h x3 x5) (fun r191 => gd (ix ((40 * x1) + x5) 240) (nm (uI h 74 ((40 * x1) + x5).toNatClampNeg r191) (fun h194 => some (.inl ((x5 + 1), h194))))) else some (.inr h)))
set_option maxRecDepth 100000 in
set_option maxHeartbeats 4000000 in
theorem t_X7_wordy_B165 {g : Gx} {l : Launch} {V : VT} {Rt : Option Value → MH → Prop} (o : Ok g l RX7 cX7_wordy 6 2 46 0 V) (rr : ORi cX7_wordy V Rt) (h : MH) (x1 : Int32) (x2 : Int32) (x3 : Int32) (x5 : Int32) : T (Sum.elim (fun s => V 165 [(0, rA g 64), (1, .int x1), (2, .int x2), (3, .int x3), (5, .int s.1)] [] s.2) (fun b => V 201 [(0, rA g 64), (1, .int x1), (2, .int x2)] [] b)) (f_X7_wordy_B165  h x1 x2 x3 x5) (V 165 [(0, rA g 64), (1, .int x1), (2, .int x2), (3, .int x3), (5, .int x5)] [] h) := by
  unfold f_X7_wordy_B165
  refine R_iload o 4 dX7_wordy_165 rfl ?_
  refine R_aload_n o 0 dX7_wordy_167 rfl rfl ?_
  refine R_getR (a2 := 66) o dX7_wordy_168 fl_X7_17 sh_64 (by decide) rfl rf_64_5 ?_
  refine R_iload_n o 2 dX7_wordy_171 rfl rfl ?_
  refine R_iald o dX7_wordy_172 sh_66 ?_
  refine R_icmp_ge o 201 dX7_wordy_173 (by decide) ?_ ?_
  · refine R_aload_n o 0 dX7_wordy_176 rfl rfl ?_
    refine R_getR (a2 := 74) o dX7_wordy_177 fl_X7_41 sh_64 (by decide) rfl rf_64_13 ?_
    refine R_bipush (v := 40) o dX7_wordy_180 (by decide) ?_
    refine R_iload_n o 1 dX7_wordy_182 rfl rfl ?_
    refine R_imul o dX7_wordy_183 ?_
    refine R_iload o 4 dX7_wordy_184 rfl ?_
    refine R_iadd o dX7_wordy_186 ?_
    refine R_aload_n o 0 dX7_wordy_187 rfl rfl ?_
    refine R_iload_n o 3 dX7_wordy_188 rfl rfl ?_
    refine R_iload o 4 dX7_wordy_189 rfl ?_
    refine K_i (callV' (As := [.int x3, .int x5]) (rest := [.int ((40 * x1) + x5), rA g 74]) o dX7_wordy_191 lk_X7_110 rfl sh_64 rfl rfl rfl rfl (Nat.le_of_ble_eq_true rfl)) (c_X7_rowAt g l h x3 x5) (fun r191 => ?_)
    refine R_iast o dX7_wordy_194 sh_74 ?_
    refine R_nmH (fun h194 => ?_)
    refine R_iinc (v := (x5 + 1)) (lv2 := [(0, rA g 64), (1, .int x1), (2, .int x2), (3, .int x3), (5, .int (x5 + 1))]) o 4 dX7_wordy_195 rfl rfl (by decide) rfl ?_
    refine R_goto o 165 dX7_wordy_198 (by decide) ?_
    exact T_some (fun p => p)
  · refine R_drop (lv2 := [(0, rA g 64), (1, .int x1), (2, .int x2)]) o [0, 1, 2] rfl ?_
    exact T_some (fun p => p)
noncomputable def f_X7_wordy_L165 (h : MH) (x1 : Int32) (x2 : Int32) (x3 : Int32) (x5 : Int32) : Option (MH) :=
  lpo (fun s : Int32 × MH => f_X7_wordy_B165 s.2 x1 x2 x3 s.1) (x5, h)
theorem t_X7_wordy_L165 {g : Gx} {l : Launch} {V : VT} {Rt : Option Value → MH → Prop} (o : Ok g l RX7 cX7_wordy 6 2 46 0 V) (rr : ORi cX7_wordy V Rt) (h : MH) (x1 : Int32) (x2 : Int32) (x3 : Int32) (x5 : Int32) : T (fun b => V 201 [(0, rA g 64), (1, .int x1), (2, .int x2)] [] b) (f_X7_wordy_L165 h x1 x2 x3 x5) (V 165 [(0, rA g 64), (1, .int x1), (2, .int x2), (3, .int x3), (5, .int x5)] [] h) := T_loop (head := fun s : Int32 × MH => V 165 [(0, rA g 64), (1, .int x1), (2, .int x2), (3, .int x3), (5, .int s.1)] [] s.2) (fun s => t_X7_wordy_B165 o rr s.2 x1 x2 x3 s.1 ) (x5, h)
noncomputable def f_X7_wordy (h : MH) (x1 : Int32) (x2 : Int32) (x3 : Int32) : Option (Int32 × MH) :=
  Option.bind (f_X7_isCover x1) (fun r1 => (if r1 = true then Option.bind (f_X7_isRow x2) (fun r8 => (if r8 = true then Option.bind (f_X7_isRow x3) (fun r15 => (if r15 = true then gd (ix x2 6) ((if (h.1 66 x2.toNatClampNeg) < 0 then bnd2 (f_X7_meets h 1) (fun r43 h43 => some (r43, h43)) else gd (ix x3 6) ((if (h.1 66 x3.toNatClampNeg) < 0 then bnd2 (f_X7_meets h 1) (fun r43 h43 => some (r43, h43)) else gd (ix x2 6) ((if (h.1 66 x2.toNatClampNeg) = 0 then bnd2 (f_X7_meets h 5) (fun r73 h73 => some (r73, h73)) else gd (ix x2 6) (gd (ix x3 6) ((if (h.1 66 x2.toNatClampNeg) = (h.1 66 x3.toNatClampNeg) then Option.bind (f_X7_wordy_L83 h x1 x2 x3 1 0) (fun b83 => (if b83 = 0 then bnd2 (f_X7_meets h 3) (fun r158 h158 => some (r158, h158)) else Option.bind (f_X7_wordy_L165 h x1 x2 x3 0) (fun b165 => bnd2 (f_X7_come b165 x1 3 x2) (fun r205 h205 => some (r205, h205))))) else bnd2 (f_X7_meets h 5) (fun r73 h73 => some (r73, h73))))))))))) else some ((-1), h))) else some ((-1), h))) else some ((-1), h)))
set_option maxRecDepth 100000 in
set_option maxHeartbeats 4000000 in
theorem b_X7_wordy {g : Gx} {l : Launch} {V : VT} {Rt : Option Value → MH → Prop} (o : Ok g l RX7 cX7_wordy 6 2 46 0 V) (rr : ORi cX7_wordy V Rt) (h : MH) (x1 : Int32) (x2 : Int32) (x3 : Int32) : T (fun r => Rt (some (.int r.1)) r.2) (f_X7_wordy h x1 x2 x3) (V 0 [(0, rA g 64), (1, .int x1), (2, .int x2), (3, .int x3)] [] h) := by
  unfold f_X7_wordy
  refine R_iload_n o 1 dX7_wordy_0 rfl rfl ?_
  refine K_z (callS' (av := [.int x1]) (rest := []) o dX7_wordy_1 lk_X7_123 rfl rfl rfl (Nat.le_of_ble_eq_true rfl)) (c_X7_isCover g l h x1) (fun r1 => ?_)
  refine R_bif_eq o 21 dX7_wordy_4 (by decide) ?_ ?_
  · refine R_iload_n o 2 dX7_wordy_7 rfl rfl ?_
    refine K_z (callS' (av := [.int x2]) (rest := []) o dX7_wordy_8 lk_X7_96 rfl rfl rfl (Nat.le_of_ble_eq_true rfl)) (c_X7_isRow g l h x2) (fun r8 => ?_)
    refine R_bif_eq o 21 dX7_wordy_11 (by decide) ?_ ?_
    · refine R_iload_n o 3 dX7_wordy_14 rfl rfl ?_
      refine K_z (callS' (av := [.int x3]) (rest := []) o dX7_wordy_15 lk_X7_96 rfl rfl rfl (Nat.le_of_ble_eq_true rfl)) (c_X7_isRow g l h x3) (fun r15 => ?_)
      refine R_bif_ne o 23 dX7_wordy_18 (by decide) ?_ ?_
      · refine R_aload_n o 0 dX7_wordy_23 rfl rfl ?_
        refine R_getR (a2 := 66) o dX7_wordy_24 fl_X7_17 sh_64 (by decide) rfl rf_64_5 ?_
        refine R_iload_n o 2 dX7_wordy_27 rfl rfl ?_
        refine R_iald o dX7_wordy_28 sh_66 ?_
        refine R_if_lt o 41 dX7_wordy_29 (by decide) ?_ ?_
        · refine R_aload_n o 0 dX7_wordy_41 rfl rfl ?_
          refine R_iconst (v := 1) o dX7_wordy_42 (by decide) ?_
          refine K_ih (callV' (As := [.int 1]) (rest := []) o dX7_wordy_43 lk_X7_100 rfl sh_64 rfl rfl rfl rfl (Nat.le_of_ble_eq_true rfl)) (c_X7_meets g l h 1) (fun r43 h43 => ?_)
          exact T_some (fun p => rr _ _ _ _ dX7_wordy_46 p)
        · refine R_aload_n o 0 dX7_wordy_32 rfl rfl ?_
          refine R_getR (a2 := 66) o dX7_wordy_33 fl_X7_17 sh_64 (by decide) rfl rf_64_5 ?_
          refine R_iload_n o 3 dX7_wordy_36 rfl rfl ?_
          refine R_iald o dX7_wordy_37 sh_66 ?_
          refine R_if_ge o 47 dX7_wordy_38 (by decide) ?_ ?_
          · refine R_aload_n o 0 dX7_wordy_41 rfl rfl ?_
            refine R_iconst (v := 1) o dX7_wordy_42 (by decide) ?_
            refine K_ih (callV' (As := [.int 1]) (rest := []) o dX7_wordy_43 lk_X7_100 rfl sh_64 rfl rfl rfl rfl (Nat.le_of_ble_eq_true rfl)) (c_X7_meets g l h 1) (fun r43 h43 => ?_)
            exact T_some (fun p => rr _ _ _ _ dX7_wordy_46 p)
          · refine R_aload_n o 0 dX7_wordy_47 rfl rfl ?_
            refine R_getR (a2 := 66) o dX7_wordy_48 fl_X7_17 sh_64 (by decide) rfl rf_64_5 ?_
            refine R_iload_n o 2 dX7_wordy_51 rfl rfl ?_
            refine R_iald o dX7_wordy_52 sh_66 ?_
            refine R_if_eq o 71 dX7_wordy_53 (by decide) ?_ ?_
            · refine R_aload_n o 0 dX7_wordy_71 rfl rfl ?_
              refine R_iconst (v := 5) o dX7_wordy_72 (by decide) ?_
              refine K_ih (callV' (As := [.int 5]) (rest := []) o dX7_wordy_73 lk_X7_100 rfl sh_64 rfl rfl rfl rfl (Nat.le_of_ble_eq_true rfl)) (c_X7_meets g l h 5) (fun r73 h73 => ?_)
              exact T_some (fun p => rr _ _ _ _ dX7_wordy_76 p)
            · refine R_aload_n o 0 dX7_wordy_56 rfl rfl ?_
              refine R_getR (a2 := 66) o dX7_wordy_57 fl_X7_17 sh_64 (by decide) rfl rf_64_5 ?_
              refine R_iload_n o 2 dX7_wordy_60 rfl rfl ?_
              refine R_iald o dX7_wordy_61 sh_66 ?_
              refine R_aload_n o 0 dX7_wordy_62 rfl rfl ?_
              refine R_getR (a2 := 66) o dX7_wordy_63 fl_X7_17 sh_64 (by decide) rfl rf_64_5 ?_
              refine R_iload_n o 3 dX7_wordy_66 rfl rfl ?_
              refine R_iald o dX7_wordy_67 sh_66 ?_
              refine R_icmp_eq o 77 dX7_wordy_68 (by decide) ?_ ?_
              · refine R_iconst (v := 1) o dX7_wordy_77 (by decide) ?_
                refine R_istore (lv2 := [(0, rA g 64), (1, .int x1), (2, .int x2), (3, .int x3), (4, .int 1)]) o dX7_wordy_78 (by decide) rfl ?_
                refine R_iconst (v := 0) o dX7_wordy_80 (by decide) ?_
                refine R_istore (lv2 := [(0, rA g 64), (1, .int x1), (2, .int x2), (3, .int x3), (4, .int 1), (5, .int 0)]) o dX7_wordy_81 (by decide) rfl ?_
                refine T_bind (t_X7_wordy_L83 o rr h x1 x2 x3 1 0) (fun b83 => ?_)
                refine R_iload o 4 dX7_wordy_151 rfl ?_
                refine R_if_ne o 162 dX7_wordy_153 (by decide) ?_ ?_
                · refine R_aload_n o 0 dX7_wordy_156 rfl rfl ?_
                  refine R_iconst (v := 3) o dX7_wordy_157 (by decide) ?_
                  refine K_ih (callV' (As := [.int 3]) (rest := []) o dX7_wordy_158 lk_X7_100 rfl sh_64 rfl rfl rfl rfl (Nat.le_of_ble_eq_true rfl)) (c_X7_meets g l h 3) (fun r158 h158 => ?_)
                  exact T_some (fun p => rr _ _ _ _ dX7_wordy_161 p)
                · refine R_iconst (v := 0) o dX7_wordy_162 (by decide) ?_
                  refine R_istore (lv2 := [(0, rA g 64), (1, .int x1), (2, .int x2), (3, .int x3), (4, .int b83), (5, .int 0)]) o dX7_wordy_163 (by decide) rfl ?_
                  refine R_drop (lv2 := [(0, rA g 64), (1, .int x1), (2, .int x2), (3, .int x3), (5, .int 0)]) o [0, 1, 2, 3, 5] rfl ?_
                  refine T_bind (t_X7_wordy_L165 o rr h x1 x2 x3 0) (fun b165 => ?_)
                  refine R_aload_n o 0 dX7_wordy_201 rfl rfl ?_
                  refine R_iload_n o 1 dX7_wordy_202 rfl rfl ?_
                  refine R_iconst (v := 3) o dX7_wordy_203 (by decide) ?_
                  refine R_iload_n o 2 dX7_wordy_204 rfl rfl ?_
                  refine K_ih (callV' (As := [.int x1, .int 3, .int x2]) (rest := []) o dX7_wordy_205 lk_X7_130 rfl sh_64 rfl rfl rfl rfl (Nat.le_of_ble_eq_true rfl)) (c_X7_come g l b165 x1 3 x2) (fun r205 h205 => ?_)
                  exact T_some (fun p => rr _ _ _ _ dX7_wordy_208 p)
              · refine R_aload_n o 0 dX7_wordy_71 rfl rfl ?_
                refine R_iconst (v := 5) o dX7_wordy_72 (by decide) ?_
                refine K_ih (callV' (As := [.int 5]) (rest := []) o dX7_wordy_73 lk_X7_100 rfl sh_64 rfl rfl rfl rfl (Nat.le_of_ble_eq_true rfl)) (c_X7_meets g l h 5) (fun r73 h73 => ?_)
                exact T_some (fun p => rr _ _ _ _ dX7_wordy_76 p)
      · refine R_iconst (v := (-1)) o dX7_wordy_21 (by decide) ?_
        exact T_some (fun p => rr _ _ _ _ dX7_wordy_22 p)
    · refine R_iconst (v := (-1)) o dX7_wordy_21 (by decide) ?_
      exact T_some (fun p => rr _ _ _ _ dX7_wordy_22 p)
  · refine R_iconst (v := (-1)) o dX7_wordy_21 (by decide) ?_
    exact T_some (fun p => rr _ _ _ _ dX7_wordy_22 p)
theorem c_X7_wordy (g : Gx) (l : Launch) (h : MH) (x1 : Int32) (x2 : Int32) (x3 : Int32) (r : (Int32 × MH)) (e : f_X7_wordy h x1 x2 x3 = some r) : Ctr g l yX7_wordy cX7_wordy 6 (some .int) 2 46 0 [rA g 64, .int x1, .int x2, .int x3] h (some (.int r.1)) r.2 := mkCi (plainFor_of_name (by decide)) (Nat.le_of_ble_eq_true rfl) (fun V Rt o rr p => b_X7_wordy o rr h x1 x2 x3  r e p)
/-! X7_isWet -/
noncomputable def f_X7_isWet_J35 (h : MH) (x1 : Int32) (x2 : Int32) : Option Bool :=
  (if x2 < 31 then gd (ix x1 6) (Option.bind (f_X7_has (h.1 76 x1.toNatClampNeg) x2) (fun r48 => (if r48 = true then some true else some false))) else some false)
set_option maxRecDepth 100000 in
set_option maxHeartbeats 4000000 in
theorem t_X7_isWet_J35 {g : Gx} {l : Launch} {V : VT} {Rt : Option Value → MH → Prop} (o : Ok g l RX7 cX7_isWet 3 1 21 0 V) (rr : ORz cX7_isWet V Rt) (h : MH) (x1 : Int32) (x2 : Int32) : T (fun r => Rt (some (.int (b2i r))) h) (f_X7_isWet_J35  h x1 x2) (V 35 [(0, rA g 64), (1, .int x1), (2, .int x2)] [] h) := by
  unfold f_X7_isWet_J35
  refine R_iload_n o 2 dX7_isWet_35 rfl rfl ?_
  refine R_bipush (v := 31) o dX7_isWet_36 (by decide) ?_
  refine R_icmp_ge o 58 dX7_isWet_38 (by decide) ?_ ?_
  · refine R_aload_n o 0 dX7_isWet_41 rfl rfl ?_
    refine R_getR (a2 := 76) o dX7_isWet_42 fl_X7_47 sh_64 (by decide) rfl rf_64_15 ?_
    refine R_iload_n o 1 dX7_isWet_45 rfl rfl ?_
    refine R_iald o dX7_isWet_46 sh_76 ?_
    refine R_iload_n o 2 dX7_isWet_47 rfl rfl ?_
    refine K_z (callS' (av := [.int (h.1 76 x1.toNatClampNeg), .int x2]) (rest := []) o dX7_isWet_48 lk_X7_134 rfl rfl rfl (Nat.le_of_ble_eq_true rfl)) (c_X7_has g l h (h.1 76 x1.toNatClampNeg) x2) (fun r48 => ?_)
    refine R_bif_eq o 58 dX7_isWet_51 (by decide) ?_ ?_
    · refine R_iconst (v := 1) o dX7_isWet_54 (by decide) ?_
      refine R_goto o 59 dX7_isWet_55 (by decide) ?_
      exact T_some (fun p => rr _ _ true _ dX7_isWet_59 p)
    · refine R_iconst (v := 0) o dX7_isWet_58 (by decide) ?_
      exact T_some (fun p => rr _ _ false _ dX7_isWet_59 p)
  · refine R_iconst (v := 0) o dX7_isWet_58 (by decide) ?_
    exact T_some (fun p => rr _ _ false _ dX7_isWet_59 p)
noncomputable def f_X7_isWet (h : MH) (x1 : Int32) (x2 : Int32) : Option Bool :=
  gd (ix x1 6) ((if (h.1 72 x1.toNatClampNeg) = 4 then some true else gd (ix x1 6) ((if (h.1 72 x1.toNatClampNeg) = 3 then gd (ix ((40 * x1) + x2) 240) ((if (h.1 74 ((40 * x1) + x2).toNatClampNeg) = 1 then some true else f_X7_isWet_J35 h x1 x2)) else f_X7_isWet_J35 h x1 x2))))
set_option maxRecDepth 100000 in
set_option maxHeartbeats 4000000 in
theorem b_X7_isWet {g : Gx} {l : Launch} {V : VT} {Rt : Option Value → MH → Prop} (o : Ok g l RX7 cX7_isWet 3 1 21 0 V) (rr : ORz cX7_isWet V Rt) (h : MH) (x1 : Int32) (x2 : Int32) : T (fun r => Rt (some (.int (b2i r))) h) (f_X7_isWet h x1 x2) (V 0 [(0, rA g 64), (1, .int x1), (2, .int x2)] [] h) := by
  unfold f_X7_isWet
  refine R_aload_n o 0 dX7_isWet_0 rfl rfl ?_
  refine R_getR (a2 := 72) o dX7_isWet_1 fl_X7_35 sh_64 (by decide) rfl rf_64_11 ?_
  refine R_iload_n o 1 dX7_isWet_4 rfl rfl ?_
  refine R_iald o dX7_isWet_5 sh_72 ?_
  refine R_iconst (v := 4) o dX7_isWet_6 (by decide) ?_
  refine R_icmp_eq o 54 dX7_isWet_7 (by decide) ?_ ?_
  · refine R_iconst (v := 1) o dX7_isWet_54 (by decide) ?_
    refine R_goto o 59 dX7_isWet_55 (by decide) ?_
    exact T_some (fun p => rr _ _ true _ dX7_isWet_59 p)
  · refine R_aload_n o 0 dX7_isWet_10 rfl rfl ?_
    refine R_getR (a2 := 72) o dX7_isWet_11 fl_X7_35 sh_64 (by decide) rfl rf_64_11 ?_
    refine R_iload_n o 1 dX7_isWet_14 rfl rfl ?_
    refine R_iald o dX7_isWet_15 sh_72 ?_
    refine R_iconst (v := 3) o dX7_isWet_16 (by decide) ?_
    refine R_icmp_ne o 35 dX7_isWet_17 (by decide) ?_ ?_
    · refine R_aload_n o 0 dX7_isWet_20 rfl rfl ?_
      refine R_getR (a2 := 74) o dX7_isWet_21 fl_X7_41 sh_64 (by decide) rfl rf_64_13 ?_
      refine R_bipush (v := 40) o dX7_isWet_24 (by decide) ?_
      refine R_iload_n o 1 dX7_isWet_26 rfl rfl ?_
      refine R_imul o dX7_isWet_27 ?_
      refine R_iload_n o 2 dX7_isWet_28 rfl rfl ?_
      refine R_iadd o dX7_isWet_29 ?_
      refine R_iald o dX7_isWet_30 sh_74 ?_
      refine R_iconst (v := 1) o dX7_isWet_31 (by decide) ?_
      refine R_icmp_eq o 54 dX7_isWet_32 (by decide) ?_ ?_
      · refine R_iconst (v := 1) o dX7_isWet_54 (by decide) ?_
        refine R_goto o 59 dX7_isWet_55 (by decide) ?_
        exact T_some (fun p => rr _ _ true _ dX7_isWet_59 p)
      · exact t_X7_isWet_J35 o rr h x1 x2
    · exact t_X7_isWet_J35 o rr h x1 x2
theorem c_X7_isWet (g : Gx) (l : Launch) (h : MH) (x1 : Int32) (x2 : Int32) (r : Bool) (e : f_X7_isWet h x1 x2 = some r) : Ctr g l yX7_isWet cX7_isWet 3 (some .boolean) 1 21 0 [rA g 64, .int x1, .int x2] h (some (.int (b2i r))) h := mkCz (plainFor_of_name (by decide)) (Nat.le_of_ble_eq_true rfl) (fun V Rt o rr p => b_X7_isWet o rr h x1 x2  r e p)
/-! X7_wet -/
noncomputable def f_X7_wet_B31 (h : MH) (x1 : Int32) (x4 : Int32) (x5 : Int32) : Option ((Int32 × Int32) ⊕ (Int32)) :=
  gd (ix x1 6) ((if x5 < (h.1 71 x1.toNatClampNeg) then Option.bind (f_X7_isWet h x1 x5) (fun r48 => (if r48 = true then nm (x4 + 1) (fun v60 => some (.inl (v60, (x5 + 1)))) else nm (x4 + 0) (fun v60 => some (.inl (v60, (x5 + 1)))))) else some (.inr x4)))
set_option maxRecDepth 100000 in
set_option maxHeartbeats 4000000 in
theorem t_X7_wet_B31 {g : Gx} {l : Launch} {V : VT} {Rt : Option Value → MH → Prop} (o : Ok g l RX7 cX7_wet 6 3 63 0 V) (rr : ORi cX7_wet V Rt) (h : MH) (x1 : Int32) (x4 : Int32) (x5 : Int32) : T (Sum.elim (fun s => V 31 [(0, rA g 64), (1, .int x1), (4, .int s.1), (5, .int s.2)] [] h) (fun b => V 68 [(4, .int b)] [] h)) (f_X7_wet_B31  h x1 x4 x5) (V 31 [(0, rA g 64), (1, .int x1), (4, .int x4), (5, .int x5)] [] h) := by
  unfold f_X7_wet_B31
  refine R_iload o 3 dX7_wet_31 rfl ?_
  refine R_aload_n o 0 dX7_wet_33 rfl rfl ?_
  refine R_getR (a2 := 71) o dX7_wet_34 fl_X7_32 sh_64 (by decide) rfl rf_64_10 ?_
  refine R_iload_n o 1 dX7_wet_37 rfl rfl ?_
  refine R_iald o dX7_wet_38 sh_71 ?_
  refine R_icmp_ge o 68 dX7_wet_39 (by decide) ?_ ?_
  · refine R_iload o 2 dX7_wet_42 rfl ?_
    refine R_aload_n o 0 dX7_wet_44 rfl rfl ?_
    refine R_iload_n o 1 dX7_wet_45 rfl rfl ?_
    refine R_iload o 3 dX7_wet_46 rfl ?_
    refine K_z (callV' (As := [.int x1, .int x5]) (rest := [.int x4]) o dX7_wet_48 lk_X7_141 rfl sh_64 rfl rfl rfl rfl (Nat.le_of_ble_eq_true rfl)) (c_X7_isWet g l h x1 x5) (fun r48 => ?_)
    refine R_bif_eq o 58 dX7_wet_51 (by decide) ?_ ?_
    · refine R_iconst (v := 1) o dX7_wet_54 (by decide) ?_
      refine R_goto o 59 dX7_wet_55 (by decide) ?_
      refine R_iadd o dX7_wet_59 ?_
      refine R_nmI (fun v60 => ?_)
      refine R_istore (lv2 := [(0, rA g 64), (1, .int x1), (4, .int v60), (5, .int x5)]) o dX7_wet_60 (by decide) rfl ?_
      refine R_iinc (v := (x5 + 1)) (lv2 := [(0, rA g 64), (1, .int x1), (4, .int v60), (5, .int (x5 + 1))]) o 3 dX7_wet_62 rfl rfl (by decide) rfl ?_
      refine R_goto o 31 dX7_wet_65 (by decide) ?_
      exact T_some (fun p => p)
    · refine R_iconst (v := 0) o dX7_wet_58 (by decide) ?_
      refine R_iadd o dX7_wet_59 ?_
      refine R_nmI (fun v60 => ?_)
      refine R_istore (lv2 := [(0, rA g 64), (1, .int x1), (4, .int v60), (5, .int x5)]) o dX7_wet_60 (by decide) rfl ?_
      refine R_iinc (v := (x5 + 1)) (lv2 := [(0, rA g 64), (1, .int x1), (4, .int v60), (5, .int (x5 + 1))]) o 3 dX7_wet_62 rfl rfl (by decide) rfl ?_
      refine R_goto o 31 dX7_wet_65 (by decide) ?_
      exact T_some (fun p => p)
  · refine R_drop (lv2 := [(4, .int x4)]) o [2] rfl ?_
    exact T_some (fun p => p)
noncomputable def f_X7_wet_L31 (h : MH) (x1 : Int32) (x4 : Int32) (x5 : Int32) : Option (Int32) :=
  lpo (fun s : Int32 × Int32 => f_X7_wet_B31 h x1 s.1 s.2) (x4, x5)
theorem t_X7_wet_L31 {g : Gx} {l : Launch} {V : VT} {Rt : Option Value → MH → Prop} (o : Ok g l RX7 cX7_wet 6 3 63 0 V) (rr : ORi cX7_wet V Rt) (h : MH) (x1 : Int32) (x4 : Int32) (x5 : Int32) : T (fun b => V 68 [(4, .int b)] [] h) (f_X7_wet_L31 h x1 x4 x5) (V 31 [(0, rA g 64), (1, .int x1), (4, .int x4), (5, .int x5)] [] h) := T_loop (head := fun s : Int32 × Int32 => V 31 [(0, rA g 64), (1, .int x1), (4, .int s.1), (5, .int s.2)] [] h) (fun s => t_X7_wet_B31 o rr h x1 s.1 s.2 ) (x4, x5)
noncomputable def f_X7_wet (h : MH) (x1 : Int32) (x2 : Int32) : Option (Int32 × MH) :=
  (if x2 < 0 then some ((-1), h) else bnd2 (f_X7_askedCover h x1) (fun r8 h8 => (if r8 < 0 then some (r8, h8) else gd (ix x1 6) (nm (uI h8 76 x1.toNatClampNeg x2) (fun h24 => Option.bind (f_X7_wet_L31 h24 x1 0 0) (fun b31 => some (b31, h24)))))))
set_option maxRecDepth 100000 in
set_option maxHeartbeats 4000000 in
theorem b_X7_wet {g : Gx} {l : Launch} {V : VT} {Rt : Option Value → MH → Prop} (o : Ok g l RX7 cX7_wet 6 3 63 0 V) (rr : ORi cX7_wet V Rt) (h : MH) (x1 : Int32) (x2 : Int32) : T (fun r => Rt (some (.int r.1)) r.2) (f_X7_wet h x1 x2) (V 0 [(0, rA g 64), (1, .int x1), (2, .int x2)] [] h) := by
  unfold f_X7_wet
  refine R_iload_n o 2 dX7_wet_0 rfl rfl ?_
  refine R_if_ge o 6 dX7_wet_1 (by decide) ?_ ?_
  · refine R_iconst (v := (-1)) o dX7_wet_4 (by decide) ?_
    exact T_some (fun p => rr _ _ _ _ dX7_wet_5 p)
  · refine R_aload_n o 0 dX7_wet_6 rfl rfl ?_
    refine R_iload_n o 1 dX7_wet_7 rfl rfl ?_
    refine K_ih (callV' (As := [.int x1]) (rest := []) o dX7_wet_8 lk_X7_138 rfl sh_64 rfl rfl rfl rfl (Nat.le_of_ble_eq_true rfl)) (c_X7_askedCover g l h x1) (fun r8 h8 => ?_)
    refine R_istore_n (lv2 := [(0, rA g 64), (1, .int x1), (2, .int x2), (3, .int r8)]) o dX7_wet_11 rfl (by decide) rfl ?_
    refine R_iload_n o 3 dX7_wet_12 rfl rfl ?_
    refine R_if_ge o 18 dX7_wet_13 (by decide) ?_ ?_
    · refine R_iload_n o 3 dX7_wet_16 rfl rfl ?_
      exact T_some (fun p => rr _ _ _ _ dX7_wet_17 p)
    · refine R_aload_n o 0 dX7_wet_18 rfl rfl ?_
      refine R_getR (a2 := 76) o dX7_wet_19 fl_X7_47 sh_64 (by decide) rfl rf_64_15 ?_
      refine R_iload_n o 1 dX7_wet_22 rfl rfl ?_
      refine R_iload_n o 2 dX7_wet_23 rfl rfl ?_
      refine R_iast o dX7_wet_24 sh_76 ?_
      refine R_nmH (fun h24 => ?_)
      refine R_iconst (v := 0) o dX7_wet_25 (by decide) ?_
      refine R_istore (lv2 := [(0, rA g 64), (1, .int x1), (2, .int x2), (3, .int r8), (4, .int 0)]) o dX7_wet_26 (by decide) rfl ?_
      refine R_iconst (v := 0) o dX7_wet_28 (by decide) ?_
      refine R_istore (lv2 := [(0, rA g 64), (1, .int x1), (2, .int x2), (3, .int r8), (4, .int 0), (5, .int 0)]) o dX7_wet_29 (by decide) rfl ?_
      refine R_drop (lv2 := [(0, rA g 64), (1, .int x1), (4, .int 0), (5, .int 0)]) o [0, 1, 4, 5] rfl ?_
      refine T_bind (t_X7_wet_L31 o rr h24 x1 0 0) (fun b31 => ?_)
      refine R_iload o 0 dX7_wet_68 rfl ?_
      exact T_some (fun p => rr _ _ _ _ dX7_wet_70 p)
theorem c_X7_wet (g : Gx) (l : Launch) (h : MH) (x1 : Int32) (x2 : Int32) (r : (Int32 × MH)) (e : f_X7_wet h x1 x2 = some r) : Ctr g l yX7_wet cX7_wet 6 (some .int) 3 63 0 [rA g 64, .int x1, .int x2] h (some (.int r.1)) r.2 := mkCi (plainFor_of_name (by decide)) (Nat.le_of_ble_eq_true rfl) (fun V Rt o rr p => b_X7_wet o rr h x1 x2  r e p)
/-! X7_drop -/
noncomputable def f_X7_drop (h : MH) (x1 : Int32) : Option (Int32 × MH) :=
  bnd2 (f_X7_askedCover h x1) (fun r2 h2 => (if r2 < 0 then some (r2, h2) else gd (ix x1 6) (nm (uI h2 71 x1.toNatClampNeg 0) (fun h18 => some (1, h18)))))
set_option maxRecDepth 100000 in
set_option maxHeartbeats 4000000 in
theorem b_X7_drop {g : Gx} {l : Launch} {V : VT} {Rt : Option Value → MH → Prop} (o : Ok g l RX7 cX7_drop 3 3 63 0 V) (rr : ORi cX7_drop V Rt) (h : MH) (x1 : Int32) : T (fun r => Rt (some (.int r.1)) r.2) (f_X7_drop h x1) (V 0 [(0, rA g 64), (1, .int x1)] [] h) := by
  unfold f_X7_drop
  refine R_aload_n o 0 dX7_drop_0 rfl rfl ?_
  refine R_iload_n o 1 dX7_drop_1 rfl rfl ?_
  refine K_ih (callV' (As := [.int x1]) (rest := []) o dX7_drop_2 lk_X7_138 rfl sh_64 rfl rfl rfl rfl (Nat.le_of_ble_eq_true rfl)) (c_X7_askedCover g l h x1) (fun r2 h2 => ?_)
  refine R_istore_n (lv2 := [(0, rA g 64), (1, .int x1), (2, .int r2)]) o dX7_drop_5 rfl (by decide) rfl ?_
  refine R_iload_n o 2 dX7_drop_6 rfl rfl ?_
  refine R_if_ge o 12 dX7_drop_7 (by decide) ?_ ?_
  · refine R_iload_n o 2 dX7_drop_10 rfl rfl ?_
    exact T_some (fun p => rr _ _ _ _ dX7_drop_11 p)
  · refine R_aload_n o 0 dX7_drop_12 rfl rfl ?_
    refine R_getR (a2 := 71) o dX7_drop_13 fl_X7_32 sh_64 (by decide) rfl rf_64_10 ?_
    refine R_iload_n o 1 dX7_drop_16 rfl rfl ?_
    refine R_iconst (v := 0) o dX7_drop_17 (by decide) ?_
    refine R_iast o dX7_drop_18 sh_71 ?_
    refine R_nmH (fun h18 => ?_)
    refine R_iconst (v := 1) o dX7_drop_19 (by decide) ?_
    exact T_some (fun p => rr _ _ _ _ dX7_drop_20 p)
theorem c_X7_drop (g : Gx) (l : Launch) (h : MH) (x1 : Int32) (r : (Int32 × MH)) (e : f_X7_drop h x1 = some r) : Ctr g l yX7_drop cX7_drop 3 (some .int) 3 63 0 [rA g 64, .int x1] h (some (.int r.1)) r.2 := mkCi (plainFor_of_name (by decide)) (Nat.le_of_ble_eq_true rfl) (fun V Rt o rr p => b_X7_drop o rr h x1  r e p)
/-! X7_dots -/
noncomputable def f_X7_dots_B36 (h : MH) (x1 : Int32) (x2 : Int32) (x4 : Int32) : Option ((Int32 × MH) ⊕ (MH)) :=
  gd (ix x1 6) ((if x4 < (h.1 71 x1.toNatClampNeg) then Option.bind (f_X7_dotAt h x1 x4) (fun r62 => gd (ix ((40 * x2) + x4) 240) (nm (uI h 67 ((40 * x2) + x4).toNatClampNeg r62) (fun h65 => some (.inl ((x4 + 1), h65))))) else some (.inr h)))
set_option maxRecDepth 100000 in
set_option maxHeartbeats 4000000 in
theorem t_X7_dots_B36 {g : Gx} {l : Launch} {V : VT} {Rt : Option Value → MH → Prop} (o : Ok g l RX7 cX7_dots 5 3 65 0 V) (rr : ORi cX7_dots V Rt) (h : MH) (x1 : Int32) (x2 : Int32) (x4 : Int32) : T (Sum.elim (fun s => V 36 [(0, rA g 64), (1, .int x1), (2, .int x2), (4, .int s.1)] [] s.2) (fun b => V 72 [(0, rA g 64), (1, .int x1)] [] b)) (f_X7_dots_B36  h x1 x2 x4) (V 36 [(0, rA g 64), (1, .int x1), (2, .int x2), (4, .int x4)] [] h) := by
  unfold f_X7_dots_B36
  refine R_iload o 3 dX7_dots_36 rfl ?_
  refine R_aload_n o 0 dX7_dots_38 rfl rfl ?_
  refine R_getR (a2 := 71) o dX7_dots_39 fl_X7_32 sh_64 (by decide) rfl rf_64_10 ?_
  refine R_iload_n o 1 dX7_dots_42 rfl rfl ?_
  refine R_iald o dX7_dots_43 sh_71 ?_
  refine R_icmp_ge o 72 dX7_dots_44 (by decide) ?_ ?_
  · refine R_aload_n o 0 dX7_dots_47 rfl rfl ?_
    refine R_getR (a2 := 67) o dX7_dots_48 fl_X7_20 sh_64 (by decide) rfl rf_64_6 ?_
    refine R_bipush (v := 40) o dX7_dots_51 (by decide) ?_
    refine R_iload_n o 2 dX7_dots_53 rfl rfl ?_
    refine R_imul o dX7_dots_54 ?_
    refine R_iload o 3 dX7_dots_55 rfl ?_
    refine R_iadd o dX7_dots_57 ?_
    refine R_aload_n o 0 dX7_dots_58 rfl rfl ?_
    refine R_iload_n o 1 dX7_dots_59 rfl rfl ?_
    refine R_iload o 3 dX7_dots_60 rfl ?_
    refine K_i (callV' (As := [.int x1, .int x4]) (rest := [.int ((40 * x2) + x4), rA g 67]) o dX7_dots_62 lk_X7_147 rfl sh_64 rfl rfl rfl rfl (Nat.le_of_ble_eq_true rfl)) (c_X7_dotAt g l h x1 x4) (fun r62 => ?_)
    refine R_iast o dX7_dots_65 sh_67 ?_
    refine R_nmH (fun h65 => ?_)
    refine R_iinc (v := (x4 + 1)) (lv2 := [(0, rA g 64), (1, .int x1), (2, .int x2), (4, .int (x4 + 1))]) o 3 dX7_dots_66 rfl rfl (by decide) rfl ?_
    refine R_goto o 36 dX7_dots_69 (by decide) ?_
    exact T_some (fun p => p)
  · refine R_drop (lv2 := [(0, rA g 64), (1, .int x1)]) o [0, 1] rfl ?_
    exact T_some (fun p => p)
noncomputable def f_X7_dots_L36 (h : MH) (x1 : Int32) (x2 : Int32) (x4 : Int32) : Option (MH) :=
  lpo (fun s : Int32 × MH => f_X7_dots_B36 s.2 x1 x2 s.1) (x4, h)
theorem t_X7_dots_L36 {g : Gx} {l : Launch} {V : VT} {Rt : Option Value → MH → Prop} (o : Ok g l RX7 cX7_dots 5 3 65 0 V) (rr : ORi cX7_dots V Rt) (h : MH) (x1 : Int32) (x2 : Int32) (x4 : Int32) : T (fun b => V 72 [(0, rA g 64), (1, .int x1)] [] b) (f_X7_dots_L36 h x1 x2 x4) (V 36 [(0, rA g 64), (1, .int x1), (2, .int x2), (4, .int x4)] [] h) := T_loop (head := fun s : Int32 × MH => V 36 [(0, rA g 64), (1, .int x1), (2, .int x2), (4, .int s.1)] [] s.2) (fun s => t_X7_dots_B36 o rr s.2 x1 x2 s.1 ) (x4, h)
noncomputable def f_X7_dots (h : MH) (x1 : Int32) (x2 : Int32) : Option (Int32 × MH) :=
  Option.bind (f_X7_isRow x2) (fun r1 => (if r1 = true then bnd2 (f_X7_askedCover h x1) (fun r11 h11 => (if r11 < 0 then some (r11, h11) else gd (ix x1 6) (bnd2 (f_X7_row h11 x2 (h11.1 71 x1.toNatClampNeg)) (fun r29 h29 => Option.bind (f_X7_dots_L36 h29 x1 x2 0) (fun b36 => gd (ix x1 6) (some ((b36.1 71 x1.toNatClampNeg), b36))))))) else some ((-1), h)))
set_option maxRecDepth 100000 in
set_option maxHeartbeats 4000000 in
theorem b_X7_dots {g : Gx} {l : Launch} {V : VT} {Rt : Option Value → MH → Prop} (o : Ok g l RX7 cX7_dots 5 3 65 0 V) (rr : ORi cX7_dots V Rt) (h : MH) (x1 : Int32) (x2 : Int32) : T (fun r => Rt (some (.int r.1)) r.2) (f_X7_dots h x1 x2) (V 0 [(0, rA g 64), (1, .int x1), (2, .int x2)] [] h) := by
  unfold f_X7_dots
  refine R_iload_n o 2 dX7_dots_0 rfl rfl ?_
  refine K_z (callS' (av := [.int x2]) (rest := []) o dX7_dots_1 lk_X7_96 rfl rfl rfl (Nat.le_of_ble_eq_true rfl)) (c_X7_isRow g l h x2) (fun r1 => ?_)
  refine R_bif_ne o 9 dX7_dots_4 (by decide) ?_ ?_
  · refine R_aload_n o 0 dX7_dots_9 rfl rfl ?_
    refine R_iload_n o 1 dX7_dots_10 rfl rfl ?_
    refine K_ih (callV' (As := [.int x1]) (rest := []) o dX7_dots_11 lk_X7_138 rfl sh_64 rfl rfl rfl rfl (Nat.le_of_ble_eq_true rfl)) (c_X7_askedCover g l h x1) (fun r11 h11 => ?_)
    refine R_istore_n (lv2 := [(0, rA g 64), (1, .int x1), (2, .int x2), (3, .int r11)]) o dX7_dots_14 rfl (by decide) rfl ?_
    refine R_iload_n o 3 dX7_dots_15 rfl rfl ?_
    refine R_if_ge o 21 dX7_dots_16 (by decide) ?_ ?_
    · refine R_iload_n o 3 dX7_dots_19 rfl rfl ?_
      exact T_some (fun p => rr _ _ _ _ dX7_dots_20 p)
    · refine R_aload_n o 0 dX7_dots_21 rfl rfl ?_
      refine R_iload_n o 2 dX7_dots_22 rfl rfl ?_
      refine R_aload_n o 0 dX7_dots_23 rfl rfl ?_
      refine R_getR (a2 := 71) o dX7_dots_24 fl_X7_32 sh_64 (by decide) rfl rf_64_10 ?_
      refine R_iload_n o 1 dX7_dots_27 rfl rfl ?_
      refine R_iald o dX7_dots_28 sh_71 ?_
      refine K_ih (callV' (As := [.int x2, .int (h11.1 71 x1.toNatClampNeg)]) (rest := []) o dX7_dots_29 lk_X7_144 rfl sh_64 rfl rfl rfl rfl (Nat.le_of_ble_eq_true rfl)) (c_X7_row g l h11 x2 (h11.1 71 x1.toNatClampNeg)) (fun r29 h29 => ?_)
      refine R_pop o dX7_dots_32 rfl ?_
      refine R_iconst (v := 0) o dX7_dots_33 (by decide) ?_
      refine R_istore (lv2 := [(0, rA g 64), (1, .int x1), (2, .int x2), (3, .int r11), (4, .int 0)]) o dX7_dots_34 (by decide) rfl ?_
      refine R_drop (lv2 := [(0, rA g 64), (1, .int x1), (2, .int x2), (4, .int 0)]) o [0, 1, 2, 4] rfl ?_
      refine T_bind (t_X7_dots_L36 o rr h29 x1 x2 0) (fun b36 => ?_)
      refine R_aload_n o 0 dX7_dots_72 rfl rfl ?_
      refine R_getR (a2 := 71) o dX7_dots_73 fl_X7_32 sh_64 (by decide) rfl rf_64_10 ?_
      refine R_iload_n o 1 dX7_dots_76 rfl rfl ?_
      refine R_iald o dX7_dots_77 sh_71 ?_
      exact T_some (fun p => rr _ _ _ _ dX7_dots_78 p)
  · refine R_iconst (v := (-1)) o dX7_dots_7 (by decide) ?_
    exact T_some (fun p => rr _ _ _ _ dX7_dots_8 p)
theorem c_X7_dots (g : Gx) (l : Launch) (h : MH) (x1 : Int32) (x2 : Int32) (r : (Int32 × MH)) (e : f_X7_dots h x1 x2 = some r) : Ctr g l yX7_dots cX7_dots 5 (some .int) 3 65 0 [rA g 64, .int x1, .int x2] h (some (.int r.1)) r.2 := mkCi (plainFor_of_name (by decide)) (Nat.le_of_ble_eq_true rfl) (fun V Rt o rr p => b_X7_dots o rr h x1 x2  r e p)
/-! X7_bitOf -/
noncomputable def f_X7_bitOf (h : MH) (x1 : Int32) (x2 : Int32) : Option Int32 :=
  gd (ix x1 6) ((if (h.1 72 x1.toNatClampNeg) = 2 then Option.bind (f_X7_dotAt h x1 x2) (fun r13 => some ((shr r13 1) &&& 1)) else Option.bind (f_X7_dotAt h x1 x2) (fun r26 => some (r26 &&& 1))))
set_option maxRecDepth 100000 in
set_option maxHeartbeats 4000000 in
theorem b_X7_bitOf {g : Gx} {l : Launch} {V : VT} {Rt : Option Value → MH → Prop} (o : Ok g l RX7 cX7_bitOf 3 1 22 0 V) (rr : ORi cX7_bitOf V Rt) (h : MH) (x1 : Int32) (x2 : Int32) : T (fun r => Rt (some (.int r)) h) (f_X7_bitOf h x1 x2) (V 0 [(0, rA g 64), (1, .int x1), (2, .int x2)] [] h) := by
  unfold f_X7_bitOf
  refine R_aload_n o 0 dX7_bitOf_0 rfl rfl ?_
  refine R_getR (a2 := 72) o dX7_bitOf_1 fl_X7_35 sh_64 (by decide) rfl rf_64_11 ?_
  refine R_iload_n o 1 dX7_bitOf_4 rfl rfl ?_
  refine R_iald o dX7_bitOf_5 sh_72 ?_
  refine R_iconst (v := 2) o dX7_bitOf_6 (by decide) ?_
  refine R_icmp_ne o 23 dX7_bitOf_7 (by decide) ?_ ?_
  · refine R_aload_n o 0 dX7_bitOf_10 rfl rfl ?_
    refine R_iload_n o 1 dX7_bitOf_11 rfl rfl ?_
    refine R_iload_n o 2 dX7_bitOf_12 rfl rfl ?_
    refine K_i (callV' (As := [.int x1, .int x2]) (rest := []) o dX7_bitOf_13 lk_X7_147 rfl sh_64 rfl rfl rfl rfl (Nat.le_of_ble_eq_true rfl)) (c_X7_dotAt g l h x1 x2) (fun r13 => ?_)
    refine R_iconst (v := 1) o dX7_bitOf_16 (by decide) ?_
    refine R_ishr o dX7_bitOf_17 ?_
    refine R_iconst (v := 1) o dX7_bitOf_18 (by decide) ?_
    refine R_iand o dX7_bitOf_19 ?_
    refine R_goto o 31 dX7_bitOf_20 (by decide) ?_
    exact T_some (fun p => rr _ _ _ _ dX7_bitOf_31 p)
  · refine R_aload_n o 0 dX7_bitOf_23 rfl rfl ?_
    refine R_iload_n o 1 dX7_bitOf_24 rfl rfl ?_
    refine R_iload_n o 2 dX7_bitOf_25 rfl rfl ?_
    refine K_i (callV' (As := [.int x1, .int x2]) (rest := []) o dX7_bitOf_26 lk_X7_147 rfl sh_64 rfl rfl rfl rfl (Nat.le_of_ble_eq_true rfl)) (c_X7_dotAt g l h x1 x2) (fun r26 => ?_)
    refine R_iconst (v := 1) o dX7_bitOf_29 (by decide) ?_
    refine R_iand o dX7_bitOf_30 ?_
    exact T_some (fun p => rr _ _ _ _ dX7_bitOf_31 p)
theorem c_X7_bitOf (g : Gx) (l : Launch) (h : MH) (x1 : Int32) (x2 : Int32) (r : Int32) (e : f_X7_bitOf h x1 x2 = some r) : Ctr g l yX7_bitOf cX7_bitOf 3 (some .int) 1 22 0 [rA g 64, .int x1, .int x2] h (some (.int r)) h := mkCi (plainFor_of_name (by decide)) (Nat.le_of_ble_eq_true rfl) (fun V Rt o rr p => b_X7_bitOf o rr h x1 x2  r e p)
/-! X7_flipped -/
noncomputable def f_X7_flipped (h : MH) (x1 : Int32) (x2 : Int32) : Option Int32 :=
  Option.bind (f_X7_dotAt h x1 x2) (fun r3 => gd (ix x1 6) ((if (h.1 72 x1.toNatClampNeg) = 3 then gd (ix ((40 * x1) + x2) 240) (nm (h.1 74 ((40 * x1) + x2).toNatClampNeg) (fun v28 => (if v28 = 1 then some r3 else (if r3 = (v28 - 1) then some (r3 - 1) else some (r3 + 1))))) else gd (ix x1 6) ((if (h.1 72 x1.toNatClampNeg) = 2 then some (r3 ^^^ 2) else some (r3 ^^^ 1))))))
set_option maxRecDepth 100000 in
set_option maxHeartbeats 4000000 in
theorem b_X7_flipped {g : Gx} {l : Launch} {V : VT} {Rt : Option Value → MH → Prop} (o : Ok g l RX7 cX7_flipped 5 1 22 0 V) (rr : ORi cX7_flipped V Rt) (h : MH) (x1 : Int32) (x2 : Int32) : T (fun r => Rt (some (.int r)) h) (f_X7_flipped h x1 x2) (V 0 [(0, rA g 64), (1, .int x1), (2, .int x2)] [] h) := by
  unfold f_X7_flipped
  refine R_aload_n o 0 dX7_flipped_0 rfl rfl ?_
  refine R_iload_n o 1 dX7_flipped_1 rfl rfl ?_
  refine R_iload_n o 2 dX7_flipped_2 rfl rfl ?_
  refine K_i (callV' (As := [.int x1, .int x2]) (rest := []) o dX7_flipped_3 lk_X7_147 rfl sh_64 rfl rfl rfl rfl (Nat.le_of_ble_eq_true rfl)) (c_X7_dotAt g l h x1 x2) (fun r3 => ?_)
  refine R_istore_n (lv2 := [(0, rA g 64), (1, .int x1), (2, .int x2), (3, .int r3)]) o dX7_flipped_6 rfl (by decide) rfl ?_
  refine R_aload_n o 0 dX7_flipped_7 rfl rfl ?_
  refine R_getR (a2 := 72) o dX7_flipped_8 fl_X7_35 sh_64 (by decide) rfl rf_64_11 ?_
  refine R_iload_n o 1 dX7_flipped_11 rfl rfl ?_
  refine R_iald o dX7_flipped_12 sh_72 ?_
  refine R_iconst (v := 3) o dX7_flipped_13 (by decide) ?_
  refine R_icmp_ne o 58 dX7_flipped_14 (by decide) ?_ ?_
  · refine R_aload_n o 0 dX7_flipped_17 rfl rfl ?_
    refine R_getR (a2 := 74) o dX7_flipped_18 fl_X7_41 sh_64 (by decide) rfl rf_64_13 ?_
    refine R_bipush (v := 40) o dX7_flipped_21 (by decide) ?_
    refine R_iload_n o 1 dX7_flipped_23 rfl rfl ?_
    refine R_imul o dX7_flipped_24 ?_
    refine R_iload_n o 2 dX7_flipped_25 rfl rfl ?_
    refine R_iadd o dX7_flipped_26 ?_
    refine R_iald o dX7_flipped_27 sh_74 ?_
    refine R_nmI (fun v28 => ?_)
    refine R_istore (lv2 := [(0, rA g 64), (1, .int x1), (2, .int x2), (3, .int r3), (4, .int v28)]) o dX7_flipped_28 (by decide) rfl ?_
    refine R_iload o 4 dX7_flipped_30 rfl ?_
    refine R_iconst (v := 1) o dX7_flipped_32 (by decide) ?_
    refine R_icmp_ne o 40 dX7_flipped_33 (by decide) ?_ ?_
    · refine R_iload_n o 3 dX7_flipped_36 rfl rfl ?_
      refine R_goto o 57 dX7_flipped_37 (by decide) ?_
      exact T_some (fun p => rr _ _ _ _ dX7_flipped_57 p)
    · refine R_iload_n o 3 dX7_flipped_40 rfl rfl ?_
      refine R_iload o 4 dX7_flipped_41 rfl ?_
      refine R_iconst (v := 1) o dX7_flipped_43 (by decide) ?_
      refine R_isub o dX7_flipped_44 ?_
      refine R_icmp_ne o 54 dX7_flipped_45 (by decide) ?_ ?_
      · refine R_iload_n o 3 dX7_flipped_48 rfl rfl ?_
        refine R_iconst (v := 1) o dX7_flipped_49 (by decide) ?_
        refine R_isub o dX7_flipped_50 ?_
        refine R_goto o 57 dX7_flipped_51 (by decide) ?_
        exact T_some (fun p => rr _ _ _ _ dX7_flipped_57 p)
      · refine R_iload_n o 3 dX7_flipped_54 rfl rfl ?_
        refine R_iconst (v := 1) o dX7_flipped_55 (by decide) ?_
        refine R_iadd o dX7_flipped_56 ?_
        exact T_some (fun p => rr _ _ _ _ dX7_flipped_57 p)
  · refine R_iload_n o 3 dX7_flipped_58 rfl rfl ?_
    refine R_aload_n o 0 dX7_flipped_59 rfl rfl ?_
    refine R_getR (a2 := 72) o dX7_flipped_60 fl_X7_35 sh_64 (by decide) rfl rf_64_11 ?_
    refine R_iload_n o 1 dX7_flipped_63 rfl rfl ?_
    refine R_iald o dX7_flipped_64 sh_72 ?_
    refine R_iconst (v := 2) o dX7_flipped_65 (by decide) ?_
    refine R_icmp_ne o 73 dX7_flipped_66 (by decide) ?_ ?_
    · refine R_iconst (v := 2) o dX7_flipped_69 (by decide) ?_
      refine R_goto o 74 dX7_flipped_70 (by decide) ?_
      refine R_ixor o dX7_flipped_74 ?_
      exact T_some (fun p => rr _ _ _ _ dX7_flipped_75 p)
    · refine R_iconst (v := 1) o dX7_flipped_73 (by decide) ?_
      refine R_ixor o dX7_flipped_74 ?_
      exact T_some (fun p => rr _ _ _ _ dX7_flipped_75 p)
theorem c_X7_flipped (g : Gx) (l : Launch) (h : MH) (x1 : Int32) (x2 : Int32) (r : Int32) (e : f_X7_flipped h x1 x2 = some r) : Ctr g l yX7_flipped cX7_flipped 5 (some .int) 1 22 0 [rA g 64, .int x1, .int x2] h (some (.int r)) h := mkCi (plainFor_of_name (by decide)) (Nat.le_of_ble_eq_true rfl) (fun V Rt o rr p => b_X7_flipped o rr h x1 x2  r e p)
/-! X7_priceOf -/
noncomputable def f_X7_priceOf_J134_61 (h : MH) (x1 : Int32) (x2 : Int32) (x3 : Int32) (x4 : Int32) (x5 : Int32) (s0 : Int32) : Option ((Int32 × Int32) ⊕ (Int32)) :=
  (if s0 = 0 then nm (x4 + 0) (fun v165 => some (.inl (v165, (x5 + 1)))) else Option.bind (f_X7_dotAt h x1 x2) (fun r146 => Option.bind (f_X7_dotAt h x1 x5) (fun r153 => Option.bind (f_X7_abs (r146 - r153)) (fun r157 => nm (x4 + r157) (fun v165 => some (.inl (v165, (x5 + 1))))))))
set_option maxRecDepth 100000 in
set_option maxHeartbeats 4000000 in
theorem t_X7_priceOf_J134_61 {g : Gx} {l : Launch} {V : VT} {Rt : Option Value → MH → Prop} (o : Ok g l RX7 cX7_priceOf 7 1 22 0 V) (rr : ORi cX7_priceOf V Rt) (h : MH) (x1 : Int32) (x2 : Int32) (x3 : Int32) (x4 : Int32) (x5 : Int32) (s0 : Int32) : T (Sum.elim (fun s => V 61 [(0, rA g 64), (1, .int x1), (2, .int x2), (3, .int x3), (4, .int s.1), (5, .int s.2)] [] h) (fun b => V 173 [(0, rA g 64), (1, .int x1), (4, .int b)] [] h)) (f_X7_priceOf_J134_61  h x1 x2 x3 x4 x5 s0) (V 134 [(0, rA g 64), (1, .int x1), (2, .int x2), (3, .int x3), (4, .int x4), (5, .int x5)] [.int s0] h) := by
  unfold f_X7_priceOf_J134_61
  refine R_istore (lv2 := [(0, rA g 64), (1, .int x1), (2, .int x2), (3, .int x3), (4, .int x4), (5, .int x5), (6, .int s0)]) o dX7_priceOf_134 (by decide) rfl ?_
  refine R_iload o 4 dX7_priceOf_136 rfl ?_
  refine R_iload o 6 dX7_priceOf_138 rfl ?_
  refine R_if_eq o 163 dX7_priceOf_140 (by decide) ?_ ?_
  · refine R_iconst (v := 0) o dX7_priceOf_163 (by decide) ?_
    refine R_iadd o dX7_priceOf_164 ?_
    refine R_nmI (fun v165 => ?_)
    refine R_istore (lv2 := [(0, rA g 64), (1, .int x1), (2, .int x2), (3, .int x3), (4, .int v165), (5, .int x5), (6, .int s0)]) o dX7_priceOf_165 (by decide) rfl ?_
    refine R_iinc (v := (x5 + 1)) (lv2 := [(0, rA g 64), (1, .int x1), (2, .int x2), (3, .int x3), (4, .int v165), (5, .int (x5 + 1)), (6, .int s0)]) o 5 dX7_priceOf_167 rfl rfl (by decide) rfl ?_
    refine R_goto o 61 dX7_priceOf_170 (by decide) ?_
    refine R_drop (lv2 := [(0, rA g 64), (1, .int x1), (2, .int x2), (3, .int x3), (4, .int v165), (5, .int (x5 + 1))]) o [0, 1, 2, 3, 4, 5] rfl ?_
    exact T_some (fun p => p)
  · refine R_aload_n o 0 dX7_priceOf_143 rfl rfl ?_
    refine R_iload_n o 1 dX7_priceOf_144 rfl rfl ?_
    refine R_iload_n o 2 dX7_priceOf_145 rfl rfl ?_
    refine K_i (callV' (As := [.int x1, .int x2]) (rest := [.int x4]) o dX7_priceOf_146 lk_X7_147 rfl sh_64 rfl rfl rfl rfl (Nat.le_of_ble_eq_true rfl)) (c_X7_dotAt g l h x1 x2) (fun r146 => ?_)
    refine R_aload_n o 0 dX7_priceOf_149 rfl rfl ?_
    refine R_iload_n o 1 dX7_priceOf_150 rfl rfl ?_
    refine R_iload o 5 dX7_priceOf_151 rfl ?_
    refine K_i (callV' (As := [.int x1, .int x5]) (rest := [.int r146, .int x4]) o dX7_priceOf_153 lk_X7_147 rfl sh_64 rfl rfl rfl rfl (Nat.le_of_ble_eq_true rfl)) (c_X7_dotAt g l h x1 x5) (fun r153 => ?_)
    refine R_isub o dX7_priceOf_156 ?_
    refine K_i (callS' (av := [.int (r146 - r153)]) (rest := [.int x4]) o dX7_priceOf_157 lk_X7_150 rfl rfl rfl (Nat.le_of_ble_eq_true rfl)) (c_X7_abs g l h (r146 - r153)) (fun r157 => ?_)
    refine R_goto o 164 dX7_priceOf_160 (by decide) ?_
    refine R_iadd o dX7_priceOf_164 ?_
    refine R_nmI (fun v165 => ?_)
    refine R_istore (lv2 := [(0, rA g 64), (1, .int x1), (2, .int x2), (3, .int x3), (4, .int v165), (5, .int x5), (6, .int s0)]) o dX7_priceOf_165 (by decide) rfl ?_
    refine R_iinc (v := (x5 + 1)) (lv2 := [(0, rA g 64), (1, .int x1), (2, .int x2), (3, .int x3), (4, .int v165), (5, .int (x5 + 1)), (6, .int s0)]) o 5 dX7_priceOf_167 rfl rfl (by decide) rfl ?_
    refine R_goto o 61 dX7_priceOf_170 (by decide) ?_
    refine R_drop (lv2 := [(0, rA g 64), (1, .int x1), (2, .int x2), (3, .int x3), (4, .int v165), (5, .int (x5 + 1))]) o [0, 1, 2, 3, 4, 5] rfl ?_
    exact T_some (fun p => p)
noncomputable def f_X7_priceOf_J133_61 (h : MH) (x1 : Int32) (x2 : Int32) (x3 : Int32) (x4 : Int32) (x5 : Int32) : Option ((Int32 × Int32) ⊕ (Int32)) :=
  f_X7_priceOf_J134_61 h x1 x2 x3 x4 x5 0
set_option maxRecDepth 100000 in
set_option maxHeartbeats 4000000 in
theorem t_X7_priceOf_J133_61 {g : Gx} {l : Launch} {V : VT} {Rt : Option Value → MH → Prop} (o : Ok g l RX7 cX7_priceOf 7 1 22 0 V) (rr : ORi cX7_priceOf V Rt) (h : MH) (x1 : Int32) (x2 : Int32) (x3 : Int32) (x4 : Int32) (x5 : Int32) : T (Sum.elim (fun s => V 61 [(0, rA g 64), (1, .int x1), (2, .int x2), (3, .int x3), (4, .int s.1), (5, .int s.2)] [] h) (fun b => V 173 [(0, rA g 64), (1, .int x1), (4, .int b)] [] h)) (f_X7_priceOf_J133_61  h x1 x2 x3 x4 x5) (V 133 [(0, rA g 64), (1, .int x1), (2, .int x2), (3, .int x3), (4, .int x4), (5, .int x5)] [] h) := by
  unfold f_X7_priceOf_J133_61
  refine R_iconst (v := 0) o dX7_priceOf_133 (by decide) ?_
  exact t_X7_priceOf_J134_61 o rr h x1 x2 x3 x4 x5 0
noncomputable def f_X7_priceOf_J129_61 (h : MH) (x1 : Int32) (x2 : Int32) (x3 : Int32) (x4 : Int32) (x5 : Int32) : Option ((Int32 × Int32) ⊕ (Int32)) :=
  f_X7_priceOf_J134_61 h x1 x2 x3 x4 x5 1
set_option maxRecDepth 100000 in
set_option maxHeartbeats 4000000 in
theorem t_X7_priceOf_J129_61 {g : Gx} {l : Launch} {V : VT} {Rt : Option Value → MH → Prop} (o : Ok g l RX7 cX7_priceOf 7 1 22 0 V) (rr : ORi cX7_priceOf V Rt) (h : MH) (x1 : Int32) (x2 : Int32) (x3 : Int32) (x4 : Int32) (x5 : Int32) : T (Sum.elim (fun s => V 61 [(0, rA g 64), (1, .int x1), (2, .int x2), (3, .int x3), (4, .int s.1), (5, .int s.2)] [] h) (fun b => V 173 [(0, rA g 64), (1, .int x1), (4, .int b)] [] h)) (f_X7_priceOf_J129_61  h x1 x2 x3 x4 x5) (V 129 [(0, rA g 64), (1, .int x1), (2, .int x2), (3, .int x3), (4, .int x4), (5, .int x5)] [] h) := by
  unfold f_X7_priceOf_J129_61
  refine R_iconst (v := 1) o dX7_priceOf_129 (by decide) ?_
  refine R_goto o 134 dX7_priceOf_130 (by decide) ?_
  exact t_X7_priceOf_J134_61 o rr h x1 x2 x3 x4 x5 1
noncomputable def f_X7_priceOf_J93_61 (h : MH) (x1 : Int32) (x2 : Int32) (x3 : Int32) (x4 : Int32) (x5 : Int32) : Option ((Int32 × Int32) ⊕ (Int32)) :=
  Option.bind (f_X7_abs (x2 - x5)) (fun r97 => (if r97 = x3 then gd (nz x3) (gd (nz x3) ((if (irm x2 x3) = (irm x5 x3) then gd (nz x3) (gd (nz x3) (Option.bind (f_X7_abs ((x2 / x3) - (x5 / x3))) (fun r122 => (if r122 = 1 then f_X7_priceOf_J129_61 h x1 x2 x3 x4 x5 else f_X7_priceOf_J133_61 h x1 x2 x3 x4 x5)))) else f_X7_priceOf_J133_61 h x1 x2 x3 x4 x5))) else f_X7_priceOf_J133_61 h x1 x2 x3 x4 x5))
set_option maxRecDepth 100000 in
set_option maxHeartbeats 4000000 in
theorem t_X7_priceOf_J93_61 {g : Gx} {l : Launch} {V : VT} {Rt : Option Value → MH → Prop} (o : Ok g l RX7 cX7_priceOf 7 1 22 0 V) (rr : ORi cX7_priceOf V Rt) (h : MH) (x1 : Int32) (x2 : Int32) (x3 : Int32) (x4 : Int32) (x5 : Int32) : T (Sum.elim (fun s => V 61 [(0, rA g 64), (1, .int x1), (2, .int x2), (3, .int x3), (4, .int s.1), (5, .int s.2)] [] h) (fun b => V 173 [(0, rA g 64), (1, .int x1), (4, .int b)] [] h)) (f_X7_priceOf_J93_61  h x1 x2 x3 x4 x5) (V 93 [(0, rA g 64), (1, .int x1), (2, .int x2), (3, .int x3), (4, .int x4), (5, .int x5)] [] h) := by
  unfold f_X7_priceOf_J93_61
  refine R_iload_n o 2 dX7_priceOf_93 rfl rfl ?_
  refine R_iload o 5 dX7_priceOf_94 rfl ?_
  refine R_isub o dX7_priceOf_96 ?_
  refine K_i (callS' (av := [.int (x2 - x5)]) (rest := []) o dX7_priceOf_97 lk_X7_150 rfl rfl rfl (Nat.le_of_ble_eq_true rfl)) (c_X7_abs g l h (x2 - x5)) (fun r97 => ?_)
  refine R_iload_n o 3 dX7_priceOf_100 rfl rfl ?_
  refine R_icmp_ne o 133 dX7_priceOf_101 (by decide) ?_ ?_
  · refine R_iload_n o 2 dX7_priceOf_104 rfl rfl ?_
    refine R_iload_n o 3 dX7_priceOf_105 rfl rfl ?_
    refine R_irem o dX7_priceOf_106 ?_
    refine R_iload o 5 dX7_priceOf_107 rfl ?_
    refine R_iload_n o 3 dX7_priceOf_109 rfl rfl ?_
    refine R_irem o dX7_priceOf_110 ?_
    refine R_icmp_ne o 133 dX7_priceOf_111 (by decide) ?_ ?_
    · refine R_iload_n o 2 dX7_priceOf_114 rfl rfl ?_
      refine R_iload_n o 3 dX7_priceOf_115 rfl rfl ?_
      refine R_idiv o dX7_priceOf_116 ?_
      refine R_iload o 5 dX7_priceOf_117 rfl ?_
      refine R_iload_n o 3 dX7_priceOf_119 rfl rfl ?_
      refine R_idiv o dX7_priceOf_120 ?_
      refine R_isub o dX7_priceOf_121 ?_
      refine K_i (callS' (av := [.int ((x2 / x3) - (x5 / x3))]) (rest := []) o dX7_priceOf_122 lk_X7_150 rfl rfl rfl (Nat.le_of_ble_eq_true rfl)) (c_X7_abs g l h ((x2 / x3) - (x5 / x3))) (fun r122 => ?_)
      refine R_iconst (v := 1) o dX7_priceOf_125 (by decide) ?_
      refine R_icmp_ne o 133 dX7_priceOf_126 (by decide) ?_ ?_
      · exact t_X7_priceOf_J129_61 o rr h x1 x2 x3 x4 x5
      · exact t_X7_priceOf_J133_61 o rr h x1 x2 x3 x4 x5
    · exact t_X7_priceOf_J133_61 o rr h x1 x2 x3 x4 x5
  · exact t_X7_priceOf_J133_61 o rr h x1 x2 x3 x4 x5
noncomputable def f_X7_priceOf_B61 (h : MH) (x1 : Int32) (x2 : Int32) (x3 : Int32) (x4 : Int32) (x5 : Int32) : Option ((Int32 × Int32) ⊕ (Int32)) :=
  gd (ix x1 6) ((if x5 < (h.1 71 x1.toNatClampNeg) then gd (nz x3) (gd (nz x3) ((if (x5 / x3) = (x2 / x3) then Option.bind (f_X7_abs (x2 - x5)) (fun r86 => (if r86 = 1 then f_X7_priceOf_J129_61 h x1 x2 x3 x4 x5 else f_X7_priceOf_J93_61 h x1 x2 x3 x4 x5)) else f_X7_priceOf_J93_61 h x1 x2 x3 x4 x5))) else some (.inr x4)))
set_option maxRecDepth 100000 in
set_option maxHeartbeats 4000000 in
theorem t_X7_priceOf_B61 {g : Gx} {l : Launch} {V : VT} {Rt : Option Value → MH → Prop} (o : Ok g l RX7 cX7_priceOf 7 1 22 0 V) (rr : ORi cX7_priceOf V Rt) (h : MH) (x1 : Int32) (x2 : Int32) (x3 : Int32) (x4 : Int32) (x5 : Int32) : T (Sum.elim (fun s => V 61 [(0, rA g 64), (1, .int x1), (2, .int x2), (3, .int x3), (4, .int s.1), (5, .int s.2)] [] h) (fun b => V 173 [(0, rA g 64), (1, .int x1), (4, .int b)] [] h)) (f_X7_priceOf_B61  h x1 x2 x3 x4 x5) (V 61 [(0, rA g 64), (1, .int x1), (2, .int x2), (3, .int x3), (4, .int x4), (5, .int x5)] [] h) := by
  unfold f_X7_priceOf_B61
  refine R_iload o 5 dX7_priceOf_61 rfl ?_
  refine R_aload_n o 0 dX7_priceOf_63 rfl rfl ?_
  refine R_getR (a2 := 71) o dX7_priceOf_64 fl_X7_32 sh_64 (by decide) rfl rf_64_10 ?_
  refine R_iload_n o 1 dX7_priceOf_67 rfl rfl ?_
  refine R_iald o dX7_priceOf_68 sh_71 ?_
  refine R_icmp_ge o 173 dX7_priceOf_69 (by decide) ?_ ?_
  · refine R_iload o 5 dX7_priceOf_72 rfl ?_
    refine R_iload_n o 3 dX7_priceOf_74 rfl rfl ?_
    refine R_idiv o dX7_priceOf_75 ?_
    refine R_iload_n o 2 dX7_priceOf_76 rfl rfl ?_
    refine R_iload_n o 3 dX7_priceOf_77 rfl rfl ?_
    refine R_idiv o dX7_priceOf_78 ?_
    refine R_icmp_ne o 93 dX7_priceOf_79 (by decide) ?_ ?_
    · refine R_iload_n o 2 dX7_priceOf_82 rfl rfl ?_
      refine R_iload o 5 dX7_priceOf_83 rfl ?_
      refine R_isub o dX7_priceOf_85 ?_
      refine K_i (callS' (av := [.int (x2 - x5)]) (rest := []) o dX7_priceOf_86 lk_X7_150 rfl rfl rfl (Nat.le_of_ble_eq_true rfl)) (c_X7_abs g l h (x2 - x5)) (fun r86 => ?_)
      refine R_iconst (v := 1) o dX7_priceOf_89 (by decide) ?_
      refine R_icmp_eq o 129 dX7_priceOf_90 (by decide) ?_ ?_
      · exact t_X7_priceOf_J129_61 o rr h x1 x2 x3 x4 x5
      · exact t_X7_priceOf_J93_61 o rr h x1 x2 x3 x4 x5
    · exact t_X7_priceOf_J93_61 o rr h x1 x2 x3 x4 x5
  · refine R_drop (lv2 := [(0, rA g 64), (1, .int x1), (4, .int x4)]) o [0, 1, 4] rfl ?_
    exact T_some (fun p => p)
noncomputable def f_X7_priceOf_L61 (h : MH) (x1 : Int32) (x2 : Int32) (x3 : Int32) (x4 : Int32) (x5 : Int32) : Option (Int32) :=
  lpo (fun s : Int32 × Int32 => f_X7_priceOf_B61 h x1 x2 x3 s.1 s.2) (x4, x5)
theorem t_X7_priceOf_L61 {g : Gx} {l : Launch} {V : VT} {Rt : Option Value → MH → Prop} (o : Ok g l RX7 cX7_priceOf 7 1 22 0 V) (rr : ORi cX7_priceOf V Rt) (h : MH) (x1 : Int32) (x2 : Int32) (x3 : Int32) (x4 : Int32) (x5 : Int32) : T (fun b => V 173 [(0, rA g 64), (1, .int x1), (4, .int b)] [] h) (f_X7_priceOf_L61 h x1 x2 x3 x4 x5) (V 61 [(0, rA g 64), (1, .int x1), (2, .int x2), (3, .int x3), (4, .int x4), (5, .int x5)] [] h) := T_loop (head := fun s : Int32 × Int32 => V 61 [(0, rA g 64), (1, .int x1), (2, .int x2), (3, .int x3), (4, .int s.1), (5, .int s.2)] [] h) (fun s => t_X7_priceOf_B61 o rr h x1 x2 x3 s.1 s.2 ) (x4, x5)
noncomputable def f_X7_priceOf_J48 (h : MH) (x1 : Int32) (x2 : Int32) : Option Int32 :=
  gd (ix x1 6) (nm (h.1 75 x1.toNatClampNeg) (fun v54 => Option.bind (f_X7_priceOf_L61 h x1 x2 v54 1 0) (fun b61 => gd (nz b61) (nm ((60 / b61) + 1) (fun v180 => gd (ix x1 6) ((if (h.1 72 x1.toNatClampNeg) = 2 then some (2 * v180) else some v180)))))))
set_option maxRecDepth 100000 in
set_option maxHeartbeats 4000000 in
theorem t_X7_priceOf_J48 {g : Gx} {l : Launch} {V : VT} {Rt : Option Value → MH → Prop} (o : Ok g l RX7 cX7_priceOf 7 1 22 0 V) (rr : ORi cX7_priceOf V Rt) (h : MH) (x1 : Int32) (x2 : Int32) : T (fun r => Rt (some (.int r)) h) (f_X7_priceOf_J48  h x1 x2) (V 48 [(0, rA g 64), (1, .int x1), (2, .int x2)] [] h) := by
  unfold f_X7_priceOf_J48
  refine R_aload_n o 0 dX7_priceOf_48 rfl rfl ?_
  refine R_getR (a2 := 75) o dX7_priceOf_49 fl_X7_44 sh_64 (by decide) rfl rf_64_14 ?_
  refine R_iload_n o 1 dX7_priceOf_52 rfl rfl ?_
  refine R_iald o dX7_priceOf_53 sh_75 ?_
  refine R_nmI (fun v54 => ?_)
  refine R_istore_n (lv2 := [(0, rA g 64), (1, .int x1), (2, .int x2), (3, .int v54)]) o dX7_priceOf_54 rfl (by decide) rfl ?_
  refine R_iconst (v := 1) o dX7_priceOf_55 (by decide) ?_
  refine R_istore (lv2 := [(0, rA g 64), (1, .int x1), (2, .int x2), (3, .int v54), (4, .int 1)]) o dX7_priceOf_56 (by decide) rfl ?_
  refine R_iconst (v := 0) o dX7_priceOf_58 (by decide) ?_
  refine R_istore (lv2 := [(0, rA g 64), (1, .int x1), (2, .int x2), (3, .int v54), (4, .int 1), (5, .int 0)]) o dX7_priceOf_59 (by decide) rfl ?_
  refine T_bind (t_X7_priceOf_L61 o rr h x1 x2 v54 1 0) (fun b61 => ?_)
  refine R_bipush (v := 60) o dX7_priceOf_173 (by decide) ?_
  refine R_iload o 2 dX7_priceOf_175 rfl ?_
  refine R_idiv o dX7_priceOf_177 ?_
  refine R_iconst (v := 1) o dX7_priceOf_178 (by decide) ?_
  refine R_iadd o dX7_priceOf_179 ?_
  refine R_nmI (fun v180 => ?_)
  refine R_istore (lv2 := [(0, rA g 64), (1, .int x1), (4, .int b61), (5, .int v180)]) o dX7_priceOf_180 (by decide) rfl ?_
  refine R_aload_n o 0 dX7_priceOf_182 rfl rfl ?_
  refine R_getR (a2 := 72) o dX7_priceOf_183 fl_X7_35 sh_64 (by decide) rfl rf_64_11 ?_
  refine R_iload_n o 1 dX7_priceOf_186 rfl rfl ?_
  refine R_iald o dX7_priceOf_187 sh_72 ?_
  refine R_iconst (v := 2) o dX7_priceOf_188 (by decide) ?_
  refine R_icmp_ne o 199 dX7_priceOf_189 (by decide) ?_ ?_
  · refine R_iconst (v := 2) o dX7_priceOf_192 (by decide) ?_
    refine R_iload o 3 dX7_priceOf_193 rfl ?_
    refine R_imul o dX7_priceOf_195 ?_
    refine R_goto o 201 dX7_priceOf_196 (by decide) ?_
    exact T_some (fun p => rr _ _ _ _ dX7_priceOf_201 p)
  · refine R_iload o 3 dX7_priceOf_199 rfl ?_
    exact T_some (fun p => rr _ _ _ _ dX7_priceOf_201 p)
noncomputable def f_X7_priceOf (h : MH) (x1 : Int32) (x2 : Int32) : Option Int32 :=
  gd (ix x1 6) ((if (h.1 72 x1.toNatClampNeg) = 3 then gd (ix ((40 * x1) + x2) 240) (gd (nz (h.1 74 ((40 * x1) + x2).toNatClampNeg)) (some (12 / (h.1 74 ((40 * x1) + x2).toNatClampNeg)))) else gd (ix x1 6) ((if (h.1 72 x1.toNatClampNeg) = 1 then f_X7_priceOf_J48 h x1 x2 else gd (ix x1 6) ((if (h.1 72 x1.toNatClampNeg) = 2 then f_X7_priceOf_J48 h x1 x2 else some 10))))))
set_option maxRecDepth 100000 in
set_option maxHeartbeats 4000000 in
theorem b_X7_priceOf {g : Gx} {l : Launch} {V : VT} {Rt : Option Value → MH → Prop} (o : Ok g l RX7 cX7_priceOf 7 1 22 0 V) (rr : ORi cX7_priceOf V Rt) (h : MH) (x1 : Int32) (x2 : Int32) : T (fun r => Rt (some (.int r)) h) (f_X7_priceOf h x1 x2) (V 0 [(0, rA g 64), (1, .int x1), (2, .int x2)] [] h) := by
  unfold f_X7_priceOf
  refine R_aload_n o 0 dX7_priceOf_0 rfl rfl ?_
  refine R_getR (a2 := 72) o dX7_priceOf_1 fl_X7_35 sh_64 (by decide) rfl rf_64_11 ?_
  refine R_iload_n o 1 dX7_priceOf_4 rfl rfl ?_
  refine R_iald o dX7_priceOf_5 sh_72 ?_
  refine R_iconst (v := 3) o dX7_priceOf_6 (by decide) ?_
  refine R_icmp_ne o 25 dX7_priceOf_7 (by decide) ?_ ?_
  · refine R_bipush (v := 12) o dX7_priceOf_10 (by decide) ?_
    refine R_aload_n o 0 dX7_priceOf_12 rfl rfl ?_
    refine R_getR (a2 := 74) o dX7_priceOf_13 fl_X7_41 sh_64 (by decide) rfl rf_64_13 ?_
    refine R_bipush (v := 40) o dX7_priceOf_16 (by decide) ?_
    refine R_iload_n o 1 dX7_priceOf_18 rfl rfl ?_
    refine R_imul o dX7_priceOf_19 ?_
    refine R_iload_n o 2 dX7_priceOf_20 rfl rfl ?_
    refine R_iadd o dX7_priceOf_21 ?_
    refine R_iald o dX7_priceOf_22 sh_74 ?_
    refine R_idiv o dX7_priceOf_23 ?_
    exact T_some (fun p => rr _ _ _ _ dX7_priceOf_24 p)
  · refine R_aload_n o 0 dX7_priceOf_25 rfl rfl ?_
    refine R_getR (a2 := 72) o dX7_priceOf_26 fl_X7_35 sh_64 (by decide) rfl rf_64_11 ?_
    refine R_iload_n o 1 dX7_priceOf_29 rfl rfl ?_
    refine R_iald o dX7_priceOf_30 sh_72 ?_
    refine R_iconst (v := 1) o dX7_priceOf_31 (by decide) ?_
    refine R_icmp_eq o 48 dX7_priceOf_32 (by decide) ?_ ?_
    · exact t_X7_priceOf_J48 o rr h x1 x2
    · refine R_aload_n o 0 dX7_priceOf_35 rfl rfl ?_
      refine R_getR (a2 := 72) o dX7_priceOf_36 fl_X7_35 sh_64 (by decide) rfl rf_64_11 ?_
      refine R_iload_n o 1 dX7_priceOf_39 rfl rfl ?_
      refine R_iald o dX7_priceOf_40 sh_72 ?_
      refine R_iconst (v := 2) o dX7_priceOf_41 (by decide) ?_
      refine R_icmp_eq o 48 dX7_priceOf_42 (by decide) ?_ ?_
      · exact t_X7_priceOf_J48 o rr h x1 x2
      · refine R_bipush (v := 10) o dX7_priceOf_45 (by decide) ?_
        exact T_some (fun p => rr _ _ _ _ dX7_priceOf_47 p)
theorem c_X7_priceOf (g : Gx) (l : Launch) (h : MH) (x1 : Int32) (x2 : Int32) (r : Int32) (e : f_X7_priceOf h x1 x2 = some r) : Ctr g l yX7_priceOf cX7_priceOf 7 (some .int) 1 22 0 [rA g 64, .int x1, .int x2] h (some (.int r)) h := mkCi (plainFor_of_name (by decide)) (Nat.le_of_ble_eq_true rfl) (fun V Rt o rr p => b_X7_priceOf o rr h x1 x2  r e p)
