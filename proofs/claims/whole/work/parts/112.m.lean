/-! X7_askedCounts -/
noncomputable def f_X7_askedCounts_J40_7 (h : MH) (x1 : Int32) (x2 : Int32) (x4 : Int32) (s0 : Int32) : Option ((Int32 × Int32 × Int32) ⊕ (Int32 × Int32)) :=
  (if s0 = 0 then nm (x2 + 0) (fun v58 => some (.inl (v58, s0, (x4 + 1)))) else Option.bind (f_X7_rowAt h x1 x4) (fun r50 => nm (x2 + r50) (fun v58 => some (.inl (v58, s0, (x4 + 1))))))
set_option maxRecDepth 100000 in
set_option maxHeartbeats 4000000 in
theorem t_X7_askedCounts_J40_7 {g : Gx} {l : Launch} {V : VT} {Rt : Option Value → MH → Prop} (o : Ok g l RX7 cX7_askedCounts 5 1 22 0 V) (rr : ORi cX7_askedCounts V Rt) (h : MH) (x1 : Int32) (x2 : Int32) (x4 : Int32) (s0 : Int32) : T (Sum.elim (fun s => V 7 [(0, rA g 64), (1, .int x1), (2, .int s.1), (3, .int s.2.1), (4, .int s.2.2)] [] h) (fun b => V 65 [(0, rA g 64), (2, .int b.1), (3, .int b.2)] [] h)) (f_X7_askedCounts_J40_7  h x1 x2 x4 s0) (V 40 [(0, rA g 64), (1, .int x1), (2, .int x2), (4, .int x4)] [.int s0] h) := by
  unfold f_X7_askedCounts_J40_7
  refine R_istore_n (lv2 := [(0, rA g 64), (1, .int x1), (2, .int x2), (3, .int s0), (4, .int x4)]) o dX7_askedCounts_40 rfl (by decide) rfl ?_
  refine R_iload_n o 2 dX7_askedCounts_41 rfl rfl ?_
  refine R_iload_n o 3 dX7_askedCounts_42 rfl rfl ?_
  refine R_if_eq o 56 dX7_askedCounts_43 (by decide) ?_ ?_
  · refine R_iconst (v := 0) o dX7_askedCounts_56 (by decide) ?_
    refine R_iadd o dX7_askedCounts_57 ?_
    refine R_nmI (fun v58 => ?_)
    refine R_istore_n (lv2 := [(0, rA g 64), (1, .int x1), (2, .int v58), (3, .int s0), (4, .int x4)]) o dX7_askedCounts_58 rfl (by decide) rfl ?_
    refine R_iinc (v := (x4 + 1)) (lv2 := [(0, rA g 64), (1, .int x1), (2, .int v58), (3, .int s0), (4, .int (x4 + 1))]) o 4 dX7_askedCounts_59 rfl rfl (by decide) rfl ?_
    refine R_goto o 7 dX7_askedCounts_62 (by decide) ?_
    exact T_some (fun p => p)
  · refine R_aload_n o 0 dX7_askedCounts_46 rfl rfl ?_
    refine R_iload_n o 1 dX7_askedCounts_47 rfl rfl ?_
    refine R_iload o 4 dX7_askedCounts_48 rfl ?_
    refine K_i (callV' (As := [.int x1, .int x4]) (rest := [.int x2]) o dX7_askedCounts_50 lk_X7_110 rfl sh_64 rfl rfl rfl rfl (Nat.le_of_ble_eq_true rfl)) (c_X7_rowAt g l h x1 x4) (fun r50 => ?_)
    refine R_goto o 57 dX7_askedCounts_53 (by decide) ?_
    refine R_iadd o dX7_askedCounts_57 ?_
    refine R_nmI (fun v58 => ?_)
    refine R_istore_n (lv2 := [(0, rA g 64), (1, .int x1), (2, .int v58), (3, .int s0), (4, .int x4)]) o dX7_askedCounts_58 rfl (by decide) rfl ?_
    refine R_iinc (v := (x4 + 1)) (lv2 := [(0, rA g 64), (1, .int x1), (2, .int v58), (3, .int s0), (4, .int (x4 + 1))]) o 4 dX7_askedCounts_59 rfl rfl (by decide) rfl ?_
    refine R_goto o 7 dX7_askedCounts_62 (by decide) ?_
    exact T_some (fun p => p)
noncomputable def f_X7_askedCounts_J39_7 (h : MH) (x1 : Int32) (x2 : Int32) (x4 : Int32) : Option ((Int32 × Int32 × Int32) ⊕ (Int32 × Int32)) :=
  f_X7_askedCounts_J40_7 h x1 x2 x4 0
set_option maxRecDepth 100000 in
set_option maxHeartbeats 4000000 in
theorem t_X7_askedCounts_J39_7 {g : Gx} {l : Launch} {V : VT} {Rt : Option Value → MH → Prop} (o : Ok g l RX7 cX7_askedCounts 5 1 22 0 V) (rr : ORi cX7_askedCounts V Rt) (h : MH) (x1 : Int32) (x2 : Int32) (x4 : Int32) : T (Sum.elim (fun s => V 7 [(0, rA g 64), (1, .int x1), (2, .int s.1), (3, .int s.2.1), (4, .int s.2.2)] [] h) (fun b => V 65 [(0, rA g 64), (2, .int b.1), (3, .int b.2)] [] h)) (f_X7_askedCounts_J39_7  h x1 x2 x4) (V 39 [(0, rA g 64), (1, .int x1), (2, .int x2), (4, .int x4)] [] h) := by
  unfold f_X7_askedCounts_J39_7
  refine R_iconst (v := 0) o dX7_askedCounts_39 (by decide) ?_
  exact t_X7_askedCounts_J40_7 o rr h x1 x2 x4 0
noncomputable def f_X7_askedCounts_B7 (h : MH) (x1 : Int32) (x2 : Int32) (x3 : Int32) (x4 : Int32) : Option ((Int32 × Int32 × Int32) ⊕ (Int32 × Int32)) :=
  (if x4 < 8 then (if x3 = 0 then f_X7_askedCounts_J39_7 h x1 x2 x4 else Option.bind (f_X7_rowAt h x1 x4) (fun r22 => Option.bind (f_X7_in r22 0 999) (fun r29 => (if r29 = true then f_X7_askedCounts_J40_7 h x1 x2 x4 1 else f_X7_askedCounts_J39_7 h x1 x2 x4)))) else some (.inr (x2, x3)))
set_option maxRecDepth 100000 in
set_option maxHeartbeats 4000000 in
theorem t_X7_askedCounts_B7 {g : Gx} {l : Launch} {V : VT} {Rt : Option Value → MH → Prop} (o : Ok g l RX7 cX7_askedCounts 5 1 22 0 V) (rr : ORi cX7_askedCounts V Rt) (h : MH) (x1 : Int32) (x2 : Int32) (x3 : Int32) (x4 : Int32) : T (Sum.elim (fun s => V 7 [(0, rA g 64), (1, .int x1), (2, .int s.1), (3, .int s.2.1), (4, .int s.2.2)] [] h) (fun b => V 65 [(0, rA g 64), (2, .int b.1), (3, .int b.2)] [] h)) (f_X7_askedCounts_B7  h x1 x2 x3 x4) (V 7 [(0, rA g 64), (1, .int x1), (2, .int x2), (3, .int x3), (4, .int x4)] [] h) := by
  unfold f_X7_askedCounts_B7
  refine R_iload o 4 dX7_askedCounts_7 rfl ?_
  refine R_bipush (v := 8) o dX7_askedCounts_9 (by decide) ?_
  refine R_icmp_ge o 65 dX7_askedCounts_11 (by decide) ?_ ?_
  · refine R_iload_n o 3 dX7_askedCounts_14 rfl rfl ?_
    refine R_if_eq o 39 dX7_askedCounts_15 (by decide) ?_ ?_
    · refine R_drop (lv2 := [(0, rA g 64), (1, .int x1), (2, .int x2), (4, .int x4)]) o [0, 1, 2, 4] rfl ?_
      exact t_X7_askedCounts_J39_7 o rr h x1 x2 x4
    · refine R_aload_n o 0 dX7_askedCounts_18 rfl rfl ?_
      refine R_iload_n o 1 dX7_askedCounts_19 rfl rfl ?_
      refine R_iload o 4 dX7_askedCounts_20 rfl ?_
      refine K_i (callV' (As := [.int x1, .int x4]) (rest := []) o dX7_askedCounts_22 lk_X7_110 rfl sh_64 rfl rfl rfl rfl (Nat.le_of_ble_eq_true rfl)) (c_X7_rowAt g l h x1 x4) (fun r22 => ?_)
      refine R_iconst (v := 0) o dX7_askedCounts_25 (by decide) ?_
      refine R_sipush (v := 999) o dX7_askedCounts_26 (by decide) ?_
      refine K_z (callS' (av := [.int r22, .int 0, .int 999]) (rest := []) o dX7_askedCounts_29 lk_X7_92 rfl rfl rfl (Nat.le_of_ble_eq_true rfl)) (c_X7_in g l h r22 0 999) (fun r29 => ?_)
      refine R_bif_eq o 39 dX7_askedCounts_32 (by decide) ?_ ?_
      · refine R_iconst (v := 1) o dX7_askedCounts_35 (by decide) ?_
        refine R_goto o 40 dX7_askedCounts_36 (by decide) ?_
        refine R_drop (lv2 := [(0, rA g 64), (1, .int x1), (2, .int x2), (4, .int x4)]) o [0, 1, 2, 4] rfl ?_
        exact t_X7_askedCounts_J40_7 o rr h x1 x2 x4 1
      · refine R_drop (lv2 := [(0, rA g 64), (1, .int x1), (2, .int x2), (4, .int x4)]) o [0, 1, 2, 4] rfl ?_
        exact t_X7_askedCounts_J39_7 o rr h x1 x2 x4
  · refine R_drop (lv2 := [(0, rA g 64), (2, .int x2), (3, .int x3)]) o [0, 2, 3] rfl ?_
    exact T_some (fun p => p)
noncomputable def f_X7_askedCounts_L7 (h : MH) (x1 : Int32) (x2 : Int32) (x3 : Int32) (x4 : Int32) : Option (Int32 × Int32) :=
  lpo (fun s : Int32 × Int32 × Int32 => f_X7_askedCounts_B7 h x1 s.1 s.2.1 s.2.2) (x2, x3, x4)
theorem t_X7_askedCounts_L7 {g : Gx} {l : Launch} {V : VT} {Rt : Option Value → MH → Prop} (o : Ok g l RX7 cX7_askedCounts 5 1 22 0 V) (rr : ORi cX7_askedCounts V Rt) (h : MH) (x1 : Int32) (x2 : Int32) (x3 : Int32) (x4 : Int32) : T (fun b => V 65 [(0, rA g 64), (2, .int b.1), (3, .int b.2)] [] h) (f_X7_askedCounts_L7 h x1 x2 x3 x4) (V 7 [(0, rA g 64), (1, .int x1), (2, .int x2), (3, .int x3), (4, .int x4)] [] h) := T_loop (head := fun s : Int32 × Int32 × Int32 => V 7 [(0, rA g 64), (1, .int x1), (2, .int s.1), (3, .int s.2.1), (4, .int s.2.2)] [] h) (fun s => t_X7_askedCounts_B7 o rr h x1 s.1 s.2.1 s.2.2 ) (x2, x3, x4)
noncomputable def f_X7_askedCounts (h : MH) (x1 : Int32) : Option (Int32 × MH) :=
  Option.bind (f_X7_askedCounts_L7 h x1 0 1 0) (fun b7 => (if b7.2 = 0 then bnd2 (f_X7_meets h 3) (fun r71 h71 => some (r71, h71)) else some (b7.1, h)))
set_option maxRecDepth 100000 in
set_option maxHeartbeats 4000000 in
theorem b_X7_askedCounts {g : Gx} {l : Launch} {V : VT} {Rt : Option Value → MH → Prop} (o : Ok g l RX7 cX7_askedCounts 5 1 22 0 V) (rr : ORi cX7_askedCounts V Rt) (h : MH) (x1 : Int32) : T (fun r => Rt (some (.int r.1)) r.2) (f_X7_askedCounts h x1) (V 0 [(0, rA g 64), (1, .int x1)] [] h) := by
  unfold f_X7_askedCounts
  refine R_iconst (v := 0) o dX7_askedCounts_0 (by decide) ?_
  refine R_istore_n (lv2 := [(0, rA g 64), (1, .int x1), (2, .int 0)]) o dX7_askedCounts_1 rfl (by decide) rfl ?_
  refine R_iconst (v := 1) o dX7_askedCounts_2 (by decide) ?_
  refine R_istore_n (lv2 := [(0, rA g 64), (1, .int x1), (2, .int 0), (3, .int 1)]) o dX7_askedCounts_3 rfl (by decide) rfl ?_
  refine R_iconst (v := 0) o dX7_askedCounts_4 (by decide) ?_
  refine R_istore (lv2 := [(0, rA g 64), (1, .int x1), (2, .int 0), (3, .int 1), (4, .int 0)]) o dX7_askedCounts_5 (by decide) rfl ?_
  refine T_bind (t_X7_askedCounts_L7 o rr h x1 0 1 0) (fun b7 => ?_)
  refine R_iload_n o 2 dX7_askedCounts_65 rfl rfl ?_
  refine R_if_ne o 77 dX7_askedCounts_66 (by decide) ?_ ?_
  · refine R_aload_n o 0 dX7_askedCounts_69 rfl rfl ?_
    refine R_iconst (v := 3) o dX7_askedCounts_70 (by decide) ?_
    refine K_ih (callV' (As := [.int 3]) (rest := []) o dX7_askedCounts_71 lk_X7_100 rfl sh_64 rfl rfl rfl rfl (Nat.le_of_ble_eq_true rfl)) (c_X7_meets g l h 3) (fun r71 h71 => ?_)
    refine R_goto o 78 dX7_askedCounts_74 (by decide) ?_
    exact T_some (fun p => rr _ _ _ _ dX7_askedCounts_78 p)
  · refine R_iload_n o 1 dX7_askedCounts_77 rfl rfl ?_
    exact T_some (fun p => rr _ _ _ _ dX7_askedCounts_78 p)
theorem c_X7_askedCounts (g : Gx) (l : Launch) (h : MH) (x1 : Int32) (r : (Int32 × MH)) (e : f_X7_askedCounts h x1 = some r) : Ctr g l yX7_askedCounts cX7_askedCounts 5 (some .int) 1 22 0 [rA g 64, .int x1] h (some (.int r.1)) r.2 := mkCi (plainFor_of_name (by decide)) (Nat.le_of_ble_eq_true rfl) (fun V Rt o rr p => b_X7_askedCounts o rr h x1  r e p)
/-! X7_setCounted -/
noncomputable def f_X7_setCounted_B2 (h : MH) (x1 : Int32) (x2 : Int32) : Option ((Int32 × MH) ⊕ (MH)) :=
  (if x2 < 8 then gd (ix x2 8) (nm (uI h 86 x2.toNatClampNeg 0) (fun h14 => some (.inl ((x2 + 1), h14)))) else some (.inr h))
set_option maxRecDepth 100000 in
set_option maxHeartbeats 4000000 in
theorem t_X7_setCounted_B2 {g : Gx} {l : Launch} {V : VT} {Rt : Option Value → MH → Prop} (o : Ok g l RX7 cX7_setCounted 3 1 22 0 V) (rr : ORv cX7_setCounted V Rt) (h : MH) (x1 : Int32) (x2 : Int32) : T (Sum.elim (fun s => V 2 [(0, rA g 64), (1, .int x1), (2, .int s.1)] [] s.2) (fun b => V 21 [(0, rA g 64), (1, .int x1)] [] b)) (f_X7_setCounted_B2  h x1 x2) (V 2 [(0, rA g 64), (1, .int x1), (2, .int x2)] [] h) := by
  unfold f_X7_setCounted_B2
  refine R_iload_n o 2 dX7_setCounted_2 rfl rfl ?_
  refine R_bipush (v := 8) o dX7_setCounted_3 (by decide) ?_
  refine R_icmp_ge o 21 dX7_setCounted_5 (by decide) ?_ ?_
  · refine R_aload_n o 0 dX7_setCounted_8 rfl rfl ?_
    refine R_getR (a2 := 86) o dX7_setCounted_9 fl_X7_79 sh_64 (by decide) rfl rf_64_30 ?_
    refine R_iload_n o 2 dX7_setCounted_12 rfl rfl ?_
    refine R_iconst (v := 0) o dX7_setCounted_13 (by decide) ?_
    refine R_iast o dX7_setCounted_14 sh_86 ?_
    refine R_nmH (fun h14 => ?_)
    refine R_iinc (v := (x2 + 1)) (lv2 := [(0, rA g 64), (1, .int x1), (2, .int (x2 + 1))]) o 2 dX7_setCounted_15 rfl rfl (by decide) rfl ?_
    refine R_goto o 2 dX7_setCounted_18 (by decide) ?_
    exact T_some (fun p => p)
  · refine R_drop (lv2 := [(0, rA g 64), (1, .int x1)]) o [0, 1] rfl ?_
    exact T_some (fun p => p)
noncomputable def f_X7_setCounted_L2 (h : MH) (x1 : Int32) (x2 : Int32) : Option (MH) :=
  lpo (fun s : Int32 × MH => f_X7_setCounted_B2 s.2 x1 s.1) (x2, h)
theorem t_X7_setCounted_L2 {g : Gx} {l : Launch} {V : VT} {Rt : Option Value → MH → Prop} (o : Ok g l RX7 cX7_setCounted 3 1 22 0 V) (rr : ORv cX7_setCounted V Rt) (h : MH) (x1 : Int32) (x2 : Int32) : T (fun b => V 21 [(0, rA g 64), (1, .int x1)] [] b) (f_X7_setCounted_L2 h x1 x2) (V 2 [(0, rA g 64), (1, .int x1), (2, .int x2)] [] h) := T_loop (head := fun s : Int32 × MH => V 2 [(0, rA g 64), (1, .int x1), (2, .int s.1)] [] s.2) (fun s => t_X7_setCounted_B2 o rr s.2 x1 s.1 ) (x2, h)
noncomputable def f_X7_setCounted_B23 (h : MH) (x1 : Int32) (x2 : Int32) : Option ((Int32 × MH) ⊕ (MH)) :=
  gd (ix x1 6) ((if x2 < (h.1 71 x1.toNatClampNeg) then Option.bind (f_X7_dotAt h x1 x2) (fun r40 => gd (ix (irm r40 8) 8) (gd (ix (irm r40 8) 8) (nm (uI h 86 (irm r40 8).toNatClampNeg ((h.1 86 (irm r40 8).toNatClampNeg) + 1)) (fun h50 => some (.inl ((x2 + 1), h50)))))) else some (.inr h)))
set_option maxRecDepth 100000 in
set_option maxHeartbeats 4000000 in
theorem t_X7_setCounted_B23 {g : Gx} {l : Launch} {V : VT} {Rt : Option Value → MH → Prop} (o : Ok g l RX7 cX7_setCounted 3 1 22 0 V) (rr : ORv cX7_setCounted V Rt) (h : MH) (x1 : Int32) (x2 : Int32) : T (Sum.elim (fun s => V 23 [(0, rA g 64), (1, .int x1), (2, .int s.1)] [] s.2) (fun b => V 57 [] [] b)) (f_X7_setCounted_B23  h x1 x2) (V 23 [(0, rA g 64), (1, .int x1), (2, .int x2)] [] h) := by
  unfold f_X7_setCounted_B23
  refine R_iload_n o 2 dX7_setCounted_23 rfl rfl ?_
  refine R_aload_n o 0 dX7_setCounted_24 rfl rfl ?_
  refine R_getR (a2 := 71) o dX7_setCounted_25 fl_X7_32 sh_64 (by decide) rfl rf_64_10 ?_
  refine R_iload_n o 1 dX7_setCounted_28 rfl rfl ?_
  refine R_iald o dX7_setCounted_29 sh_71 ?_
  refine R_icmp_ge o 57 dX7_setCounted_30 (by decide) ?_ ?_
  · refine R_aload_n o 0 dX7_setCounted_33 rfl rfl ?_
    refine R_getR (a2 := 86) o dX7_setCounted_34 fl_X7_79 sh_64 (by decide) rfl rf_64_30 ?_
    refine R_aload_n o 0 dX7_setCounted_37 rfl rfl ?_
    refine R_iload_n o 1 dX7_setCounted_38 rfl rfl ?_
    refine R_iload_n o 2 dX7_setCounted_39 rfl rfl ?_
    refine K_i (callV' (As := [.int x1, .int x2]) (rest := [rA g 86]) o dX7_setCounted_40 lk_X7_147 rfl sh_64 rfl rfl rfl rfl (Nat.le_of_ble_eq_true rfl)) (c_X7_dotAt g l h x1 x2) (fun r40 => ?_)
    refine R_bipush (v := 8) o dX7_setCounted_43 (by decide) ?_
    refine R_irem_c o dX7_setCounted_45 (by decide) ?_
    refine R_dup2 o dX7_setCounted_46 rfl rfl ?_
    refine R_iald o dX7_setCounted_47 sh_86 ?_
    refine R_iconst (v := 1) o dX7_setCounted_48 (by decide) ?_
    refine R_iadd o dX7_setCounted_49 ?_
    refine R_iast o dX7_setCounted_50 sh_86 ?_
    refine R_nmH (fun h50 => ?_)
    refine R_iinc (v := (x2 + 1)) (lv2 := [(0, rA g 64), (1, .int x1), (2, .int (x2 + 1))]) o 2 dX7_setCounted_51 rfl rfl (by decide) rfl ?_
    refine R_goto o 23 dX7_setCounted_54 (by decide) ?_
    exact T_some (fun p => p)
  · refine R_drop (lv2 := []) o [] rfl ?_
    exact T_some (fun p => p)
noncomputable def f_X7_setCounted_L23 (h : MH) (x1 : Int32) (x2 : Int32) : Option (MH) :=
  lpo (fun s : Int32 × MH => f_X7_setCounted_B23 s.2 x1 s.1) (x2, h)
theorem t_X7_setCounted_L23 {g : Gx} {l : Launch} {V : VT} {Rt : Option Value → MH → Prop} (o : Ok g l RX7 cX7_setCounted 3 1 22 0 V) (rr : ORv cX7_setCounted V Rt) (h : MH) (x1 : Int32) (x2 : Int32) : T (fun b => V 57 [] [] b) (f_X7_setCounted_L23 h x1 x2) (V 23 [(0, rA g 64), (1, .int x1), (2, .int x2)] [] h) := T_loop (head := fun s : Int32 × MH => V 23 [(0, rA g 64), (1, .int x1), (2, .int s.1)] [] s.2) (fun s => t_X7_setCounted_B23 o rr s.2 x1 s.1 ) (x2, h)
noncomputable def f_X7_setCounted (h : MH) (x1 : Int32) : Option MH :=
  Option.bind (f_X7_setCounted_L2 h x1 0) (fun b2 => Option.bind (f_X7_setCounted_L23 b2 x1 0) (fun b23 => some b23))
set_option maxRecDepth 100000 in
set_option maxHeartbeats 4000000 in
theorem b_X7_setCounted {g : Gx} {l : Launch} {V : VT} {Rt : Option Value → MH → Prop} (o : Ok g l RX7 cX7_setCounted 3 1 22 0 V) (rr : ORv cX7_setCounted V Rt) (h : MH) (x1 : Int32) : T (fun r => Rt none r) (f_X7_setCounted h x1) (V 0 [(0, rA g 64), (1, .int x1)] [] h) := by
  unfold f_X7_setCounted
  refine R_iconst (v := 0) o dX7_setCounted_0 (by decide) ?_
  refine R_istore_n (lv2 := [(0, rA g 64), (1, .int x1), (2, .int 0)]) o dX7_setCounted_1 rfl (by decide) rfl ?_
  refine T_bind (t_X7_setCounted_L2 o rr h x1 0) (fun b2 => ?_)
  refine R_iconst (v := 0) o dX7_setCounted_21 (by decide) ?_
  refine R_istore_n (lv2 := [(0, rA g 64), (1, .int x1), (2, .int 0)]) o dX7_setCounted_22 rfl (by decide) rfl ?_
  refine T_bind (t_X7_setCounted_L23 o rr b2 x1 0) (fun b23 => ?_)
  exact T_some (fun p => rr _ _ _ dX7_setCounted_57 p)
theorem c_X7_setCounted (g : Gx) (l : Launch) (h : MH) (x1 : Int32) (r : MH) (e : f_X7_setCounted h x1 = some r) : Ctr g l yX7_setCounted cX7_setCounted 3 none 1 22 0 [rA g 64, .int x1] h none r := mkCv (plainFor_of_name (by decide)) (Nat.le_of_ble_eq_true rfl) (fun V Rt o rr p => b_X7_setCounted o rr h x1  r e p)
/-! X7_howFar -/
noncomputable def f_X7_howFar_B90 (h : MH) (x1 : Int32) (x2 : Int32) (x3 : Int32) (x4 : Int32) (x5 : Int32) : Option ((Int32 × Int32) ⊕ (Int32)) :=
  (if x5 < 8 then gd (ix x5 8) (Option.bind (f_X7_rowAt h x2 x5) (fun r112 => gd (ix x1 6) (Option.bind (f_X7_abs (((h.1 86 x5.toNatClampNeg) * x3) - (r112 * (h.1 71 x1.toNatClampNeg)))) (fun r123 => nm (x4 + r123) (fun v127 => some (.inl (v127, (x5 + 1)))))))) else some (.inr x4))
set_option maxRecDepth 100000 in
set_option maxHeartbeats 4000000 in
theorem t_X7_howFar_B90 {g : Gx} {l : Launch} {V : VT} {Rt : Option Value → MH → Prop} (o : Ok g l RX7 cX7_howFar 6 2 46 0 V) (rr : ORi cX7_howFar V Rt) (h : MH) (x1 : Int32) (x2 : Int32) (x3 : Int32) (x4 : Int32) (x5 : Int32) : T (Sum.elim (fun s => V 90 [(0, rA g 64), (1, .int x1), (2, .int x2), (3, .int x3), (4, .int s.1), (5, .int s.2)] [] h) (fun b => V 135 [(0, rA g 64), (1, .int x1), (3, .int x3), (4, .int b)] [] h)) (f_X7_howFar_B90  h x1 x2 x3 x4 x5) (V 90 [(0, rA g 64), (1, .int x1), (2, .int x2), (3, .int x3), (4, .int x4), (5, .int x5)] [] h) := by
  unfold f_X7_howFar_B90
  refine R_iload o 5 dX7_howFar_90 rfl ?_
  refine R_bipush (v := 8) o dX7_howFar_92 (by decide) ?_
  refine R_icmp_ge o 135 dX7_howFar_94 (by decide) ?_ ?_
  · refine R_iload o 4 dX7_howFar_97 rfl ?_
    refine R_aload_n o 0 dX7_howFar_99 rfl rfl ?_
    refine R_getR (a2 := 86) o dX7_howFar_100 fl_X7_79 sh_64 (by decide) rfl rf_64_30 ?_
    refine R_iload o 5 dX7_howFar_103 rfl ?_
    refine R_iald o dX7_howFar_105 sh_86 ?_
    refine R_iload_n o 3 dX7_howFar_106 rfl rfl ?_
    refine R_imul o dX7_howFar_107 ?_
    refine R_aload_n o 0 dX7_howFar_108 rfl rfl ?_
    refine R_iload_n o 2 dX7_howFar_109 rfl rfl ?_
    refine R_iload o 5 dX7_howFar_110 rfl ?_
    refine K_i (callV' (As := [.int x2, .int x5]) (rest := [.int ((h.1 86 x5.toNatClampNeg) * x3), .int x4]) o dX7_howFar_112 lk_X7_110 rfl sh_64 rfl rfl rfl rfl (Nat.le_of_ble_eq_true rfl)) (c_X7_rowAt g l h x2 x5) (fun r112 => ?_)
    refine R_aload_n o 0 dX7_howFar_115 rfl rfl ?_
    refine R_getR (a2 := 71) o dX7_howFar_116 fl_X7_32 sh_64 (by decide) rfl rf_64_10 ?_
    refine R_iload_n o 1 dX7_howFar_119 rfl rfl ?_
    refine R_iald o dX7_howFar_120 sh_71 ?_
    refine R_imul o dX7_howFar_121 ?_
    refine R_isub o dX7_howFar_122 ?_
    refine K_i (callS' (av := [.int (((h.1 86 x5.toNatClampNeg) * x3) - (r112 * (h.1 71 x1.toNatClampNeg)))]) (rest := [.int x4]) o dX7_howFar_123 lk_X7_150 rfl rfl rfl (Nat.le_of_ble_eq_true rfl)) (c_X7_abs g l h (((h.1 86 x5.toNatClampNeg) * x3) - (r112 * (h.1 71 x1.toNatClampNeg)))) (fun r123 => ?_)
    refine R_iadd o dX7_howFar_126 ?_
    refine R_nmI (fun v127 => ?_)
    refine R_istore (lv2 := [(0, rA g 64), (1, .int x1), (2, .int x2), (3, .int x3), (4, .int v127), (5, .int x5)]) o dX7_howFar_127 (by decide) rfl ?_
    refine R_iinc (v := (x5 + 1)) (lv2 := [(0, rA g 64), (1, .int x1), (2, .int x2), (3, .int x3), (4, .int v127), (5, .int (x5 + 1))]) o 5 dX7_howFar_129 rfl rfl (by decide) rfl ?_
    refine R_goto o 90 dX7_howFar_132 (by decide) ?_
    exact T_some (fun p => p)
  · refine R_drop (lv2 := [(0, rA g 64), (1, .int x1), (3, .int x3), (4, .int x4)]) o [0, 1, 3, 4] rfl ?_
    exact T_some (fun p => p)
noncomputable def f_X7_howFar_L90 (h : MH) (x1 : Int32) (x2 : Int32) (x3 : Int32) (x4 : Int32) (x5 : Int32) : Option (Int32) :=
  lpo (fun s : Int32 × Int32 => f_X7_howFar_B90 h x1 x2 x3 s.1 s.2) (x4, x5)
theorem t_X7_howFar_L90 {g : Gx} {l : Launch} {V : VT} {Rt : Option Value → MH → Prop} (o : Ok g l RX7 cX7_howFar 6 2 46 0 V) (rr : ORi cX7_howFar V Rt) (h : MH) (x1 : Int32) (x2 : Int32) (x3 : Int32) (x4 : Int32) (x5 : Int32) : T (fun b => V 135 [(0, rA g 64), (1, .int x1), (3, .int x3), (4, .int b)] [] h) (f_X7_howFar_L90 h x1 x2 x3 x4 x5) (V 90 [(0, rA g 64), (1, .int x1), (2, .int x2), (3, .int x3), (4, .int x4), (5, .int x5)] [] h) := T_loop (head := fun s : Int32 × Int32 => V 90 [(0, rA g 64), (1, .int x1), (2, .int x2), (3, .int x3), (4, .int s.1), (5, .int s.2)] [] h) (fun s => t_X7_howFar_B90 o rr h x1 x2 x3 s.1 s.2 ) (x4, x5)
noncomputable def f_X7_howFar (h : MH) (x1 : Int32) (x2 : Int32) : Option (Int32 × MH) :=
  Option.bind (f_X7_isCover x1) (fun r1 => (if r1 = true then Option.bind (f_X7_isRow x2) (fun r8 => (if r8 = true then gd (ix x1 6) ((if (h.1 71 x1.toNatClampNeg) = 0 then bnd2 (f_X7_meets h 1) (fun r36 h36 => some (r36, h36)) else gd (ix x2 6) ((if (h.1 66 x2.toNatClampNeg) < 0 then bnd2 (f_X7_meets h 1) (fun r36 h36 => some (r36, h36)) else gd (ix x2 6) ((if (h.1 66 x2.toNatClampNeg) = 8 then bnd2 (f_X7_askedCounts h x2) (fun r59 h59 => (if r59 < 0 then some (r59, h59) else (if r59 = 0 then bnd2 (f_X7_meets h59 4) (fun r75 h75 => some (r75, h75)) else Option.bind (f_X7_setCounted h59 x1) (fun h81 => Option.bind (f_X7_howFar_L90 h81 x1 x2 r59 0 0) (fun b90 => gd (ix x1 6) (bnd2 (f_X7_tell h81 (Int32.toInt64 b90) ((2 * (Int32.toInt64 r59)) * (Int32.toInt64 (h81.1 71 x1.toNatClampNeg))) 1) (fun r154 h154 => some (r154, h154)))))))) else bnd2 (f_X7_meets h 5) (fun r53 h53 => some (r53, h53)))))))) else some ((-1), h))) else some ((-1), h)))
set_option maxRecDepth 100000 in
set_option maxHeartbeats 4000000 in
theorem b_X7_howFar {g : Gx} {l : Launch} {V : VT} {Rt : Option Value → MH → Prop} (o : Ok g l RX7 cX7_howFar 6 2 46 0 V) (rr : ORi cX7_howFar V Rt) (h : MH) (x1 : Int32) (x2 : Int32) : T (fun r => Rt (some (.int r.1)) r.2) (f_X7_howFar h x1 x2) (V 0 [(0, rA g 64), (1, .int x1), (2, .int x2)] [] h) := by
  unfold f_X7_howFar
  refine R_iload_n o 1 dX7_howFar_0 rfl rfl ?_
  refine K_z (callS' (av := [.int x1]) (rest := []) o dX7_howFar_1 lk_X7_123 rfl rfl rfl (Nat.le_of_ble_eq_true rfl)) (c_X7_isCover g l h x1) (fun r1 => ?_)
  refine R_bif_eq o 14 dX7_howFar_4 (by decide) ?_ ?_
  · refine R_iload_n o 2 dX7_howFar_7 rfl rfl ?_
    refine K_z (callS' (av := [.int x2]) (rest := []) o dX7_howFar_8 lk_X7_96 rfl rfl rfl (Nat.le_of_ble_eq_true rfl)) (c_X7_isRow g l h x2) (fun r8 => ?_)
    refine R_bif_ne o 16 dX7_howFar_11 (by decide) ?_ ?_
    · refine R_aload_n o 0 dX7_howFar_16 rfl rfl ?_
      refine R_getR (a2 := 71) o dX7_howFar_17 fl_X7_32 sh_64 (by decide) rfl rf_64_10 ?_
      refine R_iload_n o 1 dX7_howFar_20 rfl rfl ?_
      refine R_iald o dX7_howFar_21 sh_71 ?_
      refine R_if_eq o 34 dX7_howFar_22 (by decide) ?_ ?_
      · refine R_aload_n o 0 dX7_howFar_34 rfl rfl ?_
        refine R_iconst (v := 1) o dX7_howFar_35 (by decide) ?_
        refine K_ih (callV' (As := [.int 1]) (rest := []) o dX7_howFar_36 lk_X7_100 rfl sh_64 rfl rfl rfl rfl (Nat.le_of_ble_eq_true rfl)) (c_X7_meets g l h 1) (fun r36 h36 => ?_)
        exact T_some (fun p => rr _ _ _ _ dX7_howFar_39 p)
      · refine R_aload_n o 0 dX7_howFar_25 rfl rfl ?_
        refine R_getR (a2 := 66) o dX7_howFar_26 fl_X7_17 sh_64 (by decide) rfl rf_64_5 ?_
        refine R_iload_n o 2 dX7_howFar_29 rfl rfl ?_
        refine R_iald o dX7_howFar_30 sh_66 ?_
        refine R_if_ge o 40 dX7_howFar_31 (by decide) ?_ ?_
        · refine R_aload_n o 0 dX7_howFar_34 rfl rfl ?_
          refine R_iconst (v := 1) o dX7_howFar_35 (by decide) ?_
          refine K_ih (callV' (As := [.int 1]) (rest := []) o dX7_howFar_36 lk_X7_100 rfl sh_64 rfl rfl rfl rfl (Nat.le_of_ble_eq_true rfl)) (c_X7_meets g l h 1) (fun r36 h36 => ?_)
          exact T_some (fun p => rr _ _ _ _ dX7_howFar_39 p)
        · refine R_aload_n o 0 dX7_howFar_40 rfl rfl ?_
          refine R_getR (a2 := 66) o dX7_howFar_41 fl_X7_17 sh_64 (by decide) rfl rf_64_5 ?_
          refine R_iload_n o 2 dX7_howFar_44 rfl rfl ?_
          refine R_iald o dX7_howFar_45 sh_66 ?_
          refine R_bipush (v := 8) o dX7_howFar_46 (by decide) ?_
          refine R_icmp_eq o 57 dX7_howFar_48 (by decide) ?_ ?_
          · refine R_aload_n o 0 dX7_howFar_57 rfl rfl ?_
            refine R_iload_n o 2 dX7_howFar_58 rfl rfl ?_
            refine K_ih (callV' (As := [.int x2]) (rest := []) o dX7_howFar_59 lk_X7_253 rfl sh_64 rfl rfl rfl rfl (Nat.le_of_ble_eq_true rfl)) (c_X7_askedCounts g l h x2) (fun r59 h59 => ?_)
            refine R_istore_n (lv2 := [(0, rA g 64), (1, .int x1), (2, .int x2), (3, .int r59)]) o dX7_howFar_62 rfl (by decide) rfl ?_
            refine R_iload_n o 3 dX7_howFar_63 rfl rfl ?_
            refine R_if_ge o 69 dX7_howFar_64 (by decide) ?_ ?_
            · refine R_iload_n o 3 dX7_howFar_67 rfl rfl ?_
              exact T_some (fun p => rr _ _ _ _ dX7_howFar_68 p)
            · refine R_iload_n o 3 dX7_howFar_69 rfl rfl ?_
              refine R_if_ne o 79 dX7_howFar_70 (by decide) ?_ ?_
              · refine R_aload_n o 0 dX7_howFar_73 rfl rfl ?_
                refine R_iconst (v := 4) o dX7_howFar_74 (by decide) ?_
                refine K_ih (callV' (As := [.int 4]) (rest := []) o dX7_howFar_75 lk_X7_100 rfl sh_64 rfl rfl rfl rfl (Nat.le_of_ble_eq_true rfl)) (c_X7_meets g l h59 4) (fun r75 h75 => ?_)
                exact T_some (fun p => rr _ _ _ _ dX7_howFar_78 p)
              · refine R_aload_n o 0 dX7_howFar_79 rfl rfl ?_
                refine R_iload_n o 1 dX7_howFar_80 rfl rfl ?_
                refine K_vh (callV' (As := [.int x1]) (rest := []) o dX7_howFar_81 lk_X7_256 rfl sh_64 rfl rfl rfl rfl (Nat.le_of_ble_eq_true rfl)) (c_X7_setCounted g l h59 x1) (fun h81 => ?_)
                refine R_iconst (v := 0) o dX7_howFar_84 (by decide) ?_
                refine R_istore (lv2 := [(0, rA g 64), (1, .int x1), (2, .int x2), (3, .int r59), (4, .int 0)]) o dX7_howFar_85 (by decide) rfl ?_
                refine R_iconst (v := 0) o dX7_howFar_87 (by decide) ?_
                refine R_istore (lv2 := [(0, rA g 64), (1, .int x1), (2, .int x2), (3, .int r59), (4, .int 0), (5, .int 0)]) o dX7_howFar_88 (by decide) rfl ?_
                refine T_bind (t_X7_howFar_L90 o rr h81 x1 x2 r59 0 0) (fun b90 => ?_)
                refine R_aload_n o 0 dX7_howFar_135 rfl rfl ?_
                refine R_iload o 3 dX7_howFar_136 rfl ?_
                refine R_i2l o dX7_howFar_138 ?_
                refine R_ldc2 (v := 2) o dX7_howFar_139 kc_X7_242 ?_
                refine R_iload_n o 2 dX7_howFar_142 rfl rfl ?_
                refine R_i2l o dX7_howFar_143 ?_
                refine R_lmul o dX7_howFar_144 ?_
                refine R_aload_n o 0 dX7_howFar_145 rfl rfl ?_
                refine R_getR (a2 := 71) o dX7_howFar_146 fl_X7_32 sh_64 (by decide) rfl rf_64_10 ?_
                refine R_iload_n o 1 dX7_howFar_149 rfl rfl ?_
                refine R_iald o dX7_howFar_150 sh_71 ?_
                refine R_i2l o dX7_howFar_151 ?_
                refine R_lmul o dX7_howFar_152 ?_
                refine R_iconst (v := 1) o dX7_howFar_153 (by decide) ?_
                refine K_ih (callV' (As := [.long (Int32.toInt64 b90), .long ((2 * (Int32.toInt64 r59)) * (Int32.toInt64 (h81.1 71 x1.toNatClampNeg))), .int 1]) (rest := []) o dX7_howFar_154 lk_X7_229 rfl sh_64 rfl rfl rfl rfl (Nat.le_of_ble_eq_true rfl)) (c_X7_tell g l h81 (Int32.toInt64 b90) ((2 * (Int32.toInt64 r59)) * (Int32.toInt64 (h81.1 71 x1.toNatClampNeg))) 1) (fun r154 h154 => ?_)
                exact T_some (fun p => rr _ _ _ _ dX7_howFar_157 p)
          · refine R_aload_n o 0 dX7_howFar_51 rfl rfl ?_
            refine R_iconst (v := 5) o dX7_howFar_52 (by decide) ?_
            refine K_ih (callV' (As := [.int 5]) (rest := []) o dX7_howFar_53 lk_X7_100 rfl sh_64 rfl rfl rfl rfl (Nat.le_of_ble_eq_true rfl)) (c_X7_meets g l h 5) (fun r53 h53 => ?_)
            exact T_some (fun p => rr _ _ _ _ dX7_howFar_56 p)
    · refine R_iconst (v := (-1)) o dX7_howFar_14 (by decide) ?_
      exact T_some (fun p => rr _ _ _ _ dX7_howFar_15 p)
  · refine R_iconst (v := (-1)) o dX7_howFar_14 (by decide) ?_
    exact T_some (fun p => rr _ _ _ _ dX7_howFar_15 p)
theorem c_X7_howFar (g : Gx) (l : Launch) (h : MH) (x1 : Int32) (x2 : Int32) (r : (Int32 × MH)) (e : f_X7_howFar h x1 x2 = some r) : Ctr g l yX7_howFar cX7_howFar 6 (some .int) 2 46 0 [rA g 64, .int x1, .int x2] h (some (.int r.1)) r.2 := mkCi (plainFor_of_name (by decide)) (Nat.le_of_ble_eq_true rfl) (fun V Rt o rr p => b_X7_howFar o rr h x1 x2  r e p)
/-! X7_bestTest -/
noncomputable def f_X7_bestTest_J169_119 (h : MH) (x1 : Int32) (x2 : Int32) (x3 : Int32) (x4 : Int32) (x7 : Int32) (x8 : Int32) (l9 : Int64) (s0 : Int64) (s1 : Int64) : Option ((Int64 × Int32 × Int32) ⊕ (Int64 × Int32)) :=
  nm (s0 + s1) (fun v170 => (if 0 < l9 then nm (x7 ||| (shl 1 x8)) (fun v190 => some (.inl (v170, v190, (x8 + 1)))) else nm (x7 ||| 0) (fun v190 => some (.inl (v170, v190, (x8 + 1))))))
set_option maxRecDepth 100000 in
set_option maxHeartbeats 4000000 in
theorem t_X7_bestTest_J169_119 {g : Gx} {l : Launch} {V : VT} {Rt : Option Value → MH → Prop} (o : Ok g l RX7 cX7_bestTest 11 2 46 0 V) (rr : ORi cX7_bestTest V Rt) (h : MH) (x1 : Int32) (x2 : Int32) (x3 : Int32) (x4 : Int32) (x7 : Int32) (x8 : Int32) (l9 : Int64) (s0 : Int64) (s1 : Int64) : T (Sum.elim (fun s => V 119 [(0, rA g 64), (1, .int x1), (2, .int x2), (3, .int x3), (4, .int x4), (5, .long s.1), (7, .int s.2.1), (8, .int s.2.2)] [] h) (fun b => V 198 [(0, rA g 64), (3, .int x3), (4, .int x4), (5, .long b.1), (7, .int b.2)] [] h)) (f_X7_bestTest_J169_119  h x1 x2 x3 x4 x7 x8 l9 s0 s1) (V 169 [(0, rA g 64), (1, .int x1), (2, .int x2), (3, .int x3), (4, .int x4), (7, .int x7), (8, .int x8), (9, .long l9)] [.long s1, .long s0] h) := by
  unfold f_X7_bestTest_J169_119
  refine R_ladd o dX7_bestTest_169 ?_
  refine R_nmL (fun v170 => ?_)
  refine R_lstore (lv2 := [(0, rA g 64), (1, .int x1), (2, .int x2), (3, .int x3), (4, .int x4), (5, .long v170), (7, .int x7), (8, .int x8), (9, .long l9)]) o dX7_bestTest_170 (by decide) rfl ?_
  refine R_iload o 6 dX7_bestTest_172 rfl ?_
  refine R_lload o 8 dX7_bestTest_174 rfl ?_
  refine R_lconst (v := 0) o dX7_bestTest_176 (by decide) ?_
  refine R_lcmp_le o 188 dX7_bestTest_177 dX7_bestTest_178 (by decide) ?_ ?_
  · refine R_iconst (v := 1) o dX7_bestTest_181 (by decide) ?_
    refine R_iload o 7 dX7_bestTest_182 rfl ?_
    refine R_ishl o dX7_bestTest_184 ?_
    refine R_goto o 189 dX7_bestTest_185 (by decide) ?_
    refine R_ior o dX7_bestTest_189 ?_
    refine R_nmI (fun v190 => ?_)
    refine R_istore (lv2 := [(0, rA g 64), (1, .int x1), (2, .int x2), (3, .int x3), (4, .int x4), (5, .long v170), (7, .int v190), (8, .int x8), (9, .long l9)]) o dX7_bestTest_190 (by decide) rfl ?_
    refine R_iinc (v := (x8 + 1)) (lv2 := [(0, rA g 64), (1, .int x1), (2, .int x2), (3, .int x3), (4, .int x4), (5, .long v170), (7, .int v190), (8, .int (x8 + 1)), (9, .long l9)]) o 7 dX7_bestTest_192 rfl rfl (by decide) rfl ?_
    refine R_goto o 119 dX7_bestTest_195 (by decide) ?_
    refine R_drop (lv2 := [(0, rA g 64), (1, .int x1), (2, .int x2), (3, .int x3), (4, .int x4), (5, .long v170), (7, .int v190), (8, .int (x8 + 1))]) o [0, 1, 2, 3, 4, 5, 6, 7] rfl ?_
    exact T_some (fun p => p)
  · refine R_iconst (v := 0) o dX7_bestTest_188 (by decide) ?_
    refine R_ior o dX7_bestTest_189 ?_
    refine R_nmI (fun v190 => ?_)
    refine R_istore (lv2 := [(0, rA g 64), (1, .int x1), (2, .int x2), (3, .int x3), (4, .int x4), (5, .long v170), (7, .int v190), (8, .int x8), (9, .long l9)]) o dX7_bestTest_190 (by decide) rfl ?_
    refine R_iinc (v := (x8 + 1)) (lv2 := [(0, rA g 64), (1, .int x1), (2, .int x2), (3, .int x3), (4, .int x4), (5, .long v170), (7, .int v190), (8, .int (x8 + 1)), (9, .long l9)]) o 7 dX7_bestTest_192 rfl rfl (by decide) rfl ?_
    refine R_goto o 119 dX7_bestTest_195 (by decide) ?_
    refine R_drop (lv2 := [(0, rA g 64), (1, .int x1), (2, .int x2), (3, .int x3), (4, .int x4), (5, .long v170), (7, .int v190), (8, .int (x8 + 1))]) o [0, 1, 2, 3, 4, 5, 6, 7] rfl ?_
    exact T_some (fun p => p)
noncomputable def f_X7_bestTest_B119 (h : MH) (x1 : Int32) (x2 : Int32) (x3 : Int32) (x4 : Int32) (l5 : Int64) (x7 : Int32) (x8 : Int32) : Option ((Int64 × Int32 × Int32) ⊕ (Int64 × Int32)) :=
  (if x8 < 8 then Option.bind (f_X7_rowAt h x1 x8) (fun r130 => Option.bind (f_X7_rowAt h x2 x8) (fun r142 => nm (((Int32.toInt64 r130) * (Int32.toInt64 x4)) - ((Int32.toInt64 r142) * (Int32.toInt64 x3))) (fun v150 => (if v150 < 0 then f_X7_bestTest_J169_119 h x1 x2 x3 x4 x7 x8 v150 l5 (-v150) else f_X7_bestTest_J169_119 h x1 x2 x3 x4 x7 x8 v150 l5 v150)))) else some (.inr (l5, x7)))
set_option maxRecDepth 100000 in
set_option maxHeartbeats 4000000 in
theorem t_X7_bestTest_B119 {g : Gx} {l : Launch} {V : VT} {Rt : Option Value → MH → Prop} (o : Ok g l RX7 cX7_bestTest 11 2 46 0 V) (rr : ORi cX7_bestTest V Rt) (h : MH) (x1 : Int32) (x2 : Int32) (x3 : Int32) (x4 : Int32) (l5 : Int64) (x7 : Int32) (x8 : Int32) : T (Sum.elim (fun s => V 119 [(0, rA g 64), (1, .int x1), (2, .int x2), (3, .int x3), (4, .int x4), (5, .long s.1), (7, .int s.2.1), (8, .int s.2.2)] [] h) (fun b => V 198 [(0, rA g 64), (3, .int x3), (4, .int x4), (5, .long b.1), (7, .int b.2)] [] h)) (f_X7_bestTest_B119  h x1 x2 x3 x4 l5 x7 x8) (V 119 [(0, rA g 64), (1, .int x1), (2, .int x2), (3, .int x3), (4, .int x4), (5, .long l5), (7, .int x7), (8, .int x8)] [] h) := by
  unfold f_X7_bestTest_B119
  refine R_iload o 7 dX7_bestTest_119 rfl ?_
  refine R_bipush (v := 8) o dX7_bestTest_121 (by decide) ?_
  refine R_icmp_ge o 198 dX7_bestTest_123 (by decide) ?_ ?_
  · refine R_aload_n o 0 dX7_bestTest_126 rfl rfl ?_
    refine R_iload_n o 1 dX7_bestTest_127 rfl rfl ?_
    refine R_iload o 7 dX7_bestTest_128 rfl ?_
    refine K_i (callV' (As := [.int x1, .int x8]) (rest := []) o dX7_bestTest_130 lk_X7_110 rfl sh_64 rfl rfl rfl rfl (Nat.le_of_ble_eq_true rfl)) (c_X7_rowAt g l h x1 x8) (fun r130 => ?_)
    refine R_i2l o dX7_bestTest_133 ?_
    refine R_iload o 4 dX7_bestTest_134 rfl ?_
    refine R_i2l o dX7_bestTest_136 ?_
    refine R_lmul o dX7_bestTest_137 ?_
    refine R_aload_n o 0 dX7_bestTest_138 rfl rfl ?_
    refine R_iload_n o 2 dX7_bestTest_139 rfl rfl ?_
    refine R_iload o 7 dX7_bestTest_140 rfl ?_
    refine K_i (callV' (As := [.int x2, .int x8]) (rest := [.long ((Int32.toInt64 r130) * (Int32.toInt64 x4))]) o dX7_bestTest_142 lk_X7_110 rfl sh_64 rfl rfl rfl rfl (Nat.le_of_ble_eq_true rfl)) (c_X7_rowAt g l h x2 x8) (fun r142 => ?_)
    refine R_i2l o dX7_bestTest_145 ?_
    refine R_iload_n o 3 dX7_bestTest_146 rfl rfl ?_
    refine R_i2l o dX7_bestTest_147 ?_
    refine R_lmul o dX7_bestTest_148 ?_
    refine R_lsub o dX7_bestTest_149 ?_
    refine R_nmL (fun v150 => ?_)
    refine R_lstore (lv2 := [(0, rA g 64), (1, .int x1), (2, .int x2), (3, .int x3), (4, .int x4), (5, .long l5), (7, .int x7), (8, .int x8), (9, .long v150)]) o dX7_bestTest_150 (by decide) rfl ?_
    refine R_lload o 5 dX7_bestTest_152 rfl ?_
    refine R_lload o 8 dX7_bestTest_154 rfl ?_
    refine R_lconst (v := 0) o dX7_bestTest_156 (by decide) ?_
    refine R_lcmp_ge o 167 dX7_bestTest_157 dX7_bestTest_158 (by decide) ?_ ?_
    · refine R_lload o 8 dX7_bestTest_161 rfl ?_
      refine R_lneg o dX7_bestTest_163 ?_
      refine R_goto o 169 dX7_bestTest_164 (by decide) ?_
      refine R_drop (lv2 := [(0, rA g 64), (1, .int x1), (2, .int x2), (3, .int x3), (4, .int x4), (7, .int x7), (8, .int x8), (9, .long v150)]) o [0, 1, 2, 3, 4, 6, 7, 8] rfl ?_
      exact t_X7_bestTest_J169_119 o rr h x1 x2 x3 x4 x7 x8 v150 l5 (-v150)
    · refine R_lload o 8 dX7_bestTest_167 rfl ?_
      refine R_drop (lv2 := [(0, rA g 64), (1, .int x1), (2, .int x2), (3, .int x3), (4, .int x4), (7, .int x7), (8, .int x8), (9, .long v150)]) o [0, 1, 2, 3, 4, 6, 7, 8] rfl ?_
      exact t_X7_bestTest_J169_119 o rr h x1 x2 x3 x4 x7 x8 v150 l5 v150
  · refine R_drop (lv2 := [(0, rA g 64), (3, .int x3), (4, .int x4), (5, .long l5), (7, .int x7)]) o [0, 3, 4, 5, 6] rfl ?_
    exact T_some (fun p => p)
noncomputable def f_X7_bestTest_L119 (h : MH) (x1 : Int32) (x2 : Int32) (x3 : Int32) (x4 : Int32) (l5 : Int64) (x7 : Int32) (x8 : Int32) : Option (Int64 × Int32) :=
  lpo (fun s : Int64 × Int32 × Int32 => f_X7_bestTest_B119 h x1 x2 x3 x4 s.1 s.2.1 s.2.2) (l5, x7, x8)
theorem t_X7_bestTest_L119 {g : Gx} {l : Launch} {V : VT} {Rt : Option Value → MH → Prop} (o : Ok g l RX7 cX7_bestTest 11 2 46 0 V) (rr : ORi cX7_bestTest V Rt) (h : MH) (x1 : Int32) (x2 : Int32) (x3 : Int32) (x4 : Int32) (l5 : Int64) (x7 : Int32) (x8 : Int32) : T (fun b => V 198 [(0, rA g 64), (3, .int x3), (4, .int x4), (5, .long b.1), (7, .int b.2)] [] h) (f_X7_bestTest_L119 h x1 x2 x3 x4 l5 x7 x8) (V 119 [(0, rA g 64), (1, .int x1), (2, .int x2), (3, .int x3), (4, .int x4), (5, .long l5), (7, .int x7), (8, .int x8)] [] h) := T_loop (head := fun s : Int64 × Int32 × Int32 => V 119 [(0, rA g 64), (1, .int x1), (2, .int x2), (3, .int x3), (4, .int x4), (5, .long s.1), (7, .int s.2.1), (8, .int s.2.2)] [] h) (fun s => t_X7_bestTest_B119 o rr h x1 x2 x3 x4 s.1 s.2.1 s.2.2 ) (l5, x7, x8)
noncomputable def f_X7_bestTest (h : MH) (x1 : Int32) (x2 : Int32) : Option (Int32 × MH) :=
  Option.bind (f_X7_isRow x1) (fun r1 => (if r1 = true then Option.bind (f_X7_isRow x2) (fun r8 => (if r8 = true then gd (ix x1 6) ((if (h.1 66 x1.toNatClampNeg) < 0 then bnd2 (f_X7_meets h 1) (fun r36 h36 => some (r36, h36)) else gd (ix x2 6) ((if (h.1 66 x2.toNatClampNeg) < 0 then bnd2 (f_X7_meets h 1) (fun r36 h36 => some (r36, h36)) else gd (ix x1 6) ((if (h.1 66 x1.toNatClampNeg) = 8 then gd (ix x2 6) ((if (h.1 66 x2.toNatClampNeg) = 8 then bnd2 (f_X7_askedCounts h x1) (fun r70 h70 => (if r70 < 0 then some (r70, h70) else bnd2 (f_X7_askedCounts h70 x2) (fun r82 h82 => (if r82 < 0 then some (r82, h82) else (if r70 = 0 then bnd2 (f_X7_meets h82 4) (fun r106 h106 => some (r106, h106)) else (if r82 = 0 then bnd2 (f_X7_meets h82 4) (fun r106 h106 => some (r106, h106)) else Option.bind (f_X7_bestTest_L119 h82 x1 x2 r70 r82 0 0 0) (fun b119 => bnd2 (f_X7_ask h82 b119.2 1) (fun r226 h226 => bnd2 (f_X7_tell h226 (((2 * (Int32.toInt64 r70)) * (Int32.toInt64 r82)) - b119.1) ((2 * (Int32.toInt64 r70)) * (Int32.toInt64 r82)) r226) (fun r229 h229 => some (r229, h229)))))))))) else bnd2 (f_X7_meets h 5) (fun r64 h64 => some (r64, h64)))) else bnd2 (f_X7_meets h 5) (fun r64 h64 => some (r64, h64)))))))) else some ((-1), h))) else some ((-1), h)))
set_option maxRecDepth 100000 in
set_option maxHeartbeats 4000000 in
theorem b_X7_bestTest {g : Gx} {l : Launch} {V : VT} {Rt : Option Value → MH → Prop} (o : Ok g l RX7 cX7_bestTest 11 2 46 0 V) (rr : ORi cX7_bestTest V Rt) (h : MH) (x1 : Int32) (x2 : Int32) : T (fun r => Rt (some (.int r.1)) r.2) (f_X7_bestTest h x1 x2) (V 0 [(0, rA g 64), (1, .int x1), (2, .int x2)] [] h) := by
  unfold f_X7_bestTest
  refine R_iload_n o 1 dX7_bestTest_0 rfl rfl ?_
  refine K_z (callS' (av := [.int x1]) (rest := []) o dX7_bestTest_1 lk_X7_96 rfl rfl rfl (Nat.le_of_ble_eq_true rfl)) (c_X7_isRow g l h x1) (fun r1 => ?_)
  refine R_bif_eq o 14 dX7_bestTest_4 (by decide) ?_ ?_
  · refine R_iload_n o 2 dX7_bestTest_7 rfl rfl ?_
    refine K_z (callS' (av := [.int x2]) (rest := []) o dX7_bestTest_8 lk_X7_96 rfl rfl rfl (Nat.le_of_ble_eq_true rfl)) (c_X7_isRow g l h x2) (fun r8 => ?_)
    refine R_bif_ne o 16 dX7_bestTest_11 (by decide) ?_ ?_
    · refine R_aload_n o 0 dX7_bestTest_16 rfl rfl ?_
      refine R_getR (a2 := 66) o dX7_bestTest_17 fl_X7_17 sh_64 (by decide) rfl rf_64_5 ?_
      refine R_iload_n o 1 dX7_bestTest_20 rfl rfl ?_
      refine R_iald o dX7_bestTest_21 sh_66 ?_
      refine R_if_lt o 34 dX7_bestTest_22 (by decide) ?_ ?_
      · refine R_aload_n o 0 dX7_bestTest_34 rfl rfl ?_
        refine R_iconst (v := 1) o dX7_bestTest_35 (by decide) ?_
        refine K_ih (callV' (As := [.int 1]) (rest := []) o dX7_bestTest_36 lk_X7_100 rfl sh_64 rfl rfl rfl rfl (Nat.le_of_ble_eq_true rfl)) (c_X7_meets g l h 1) (fun r36 h36 => ?_)
        exact T_some (fun p => rr _ _ _ _ dX7_bestTest_39 p)
      · refine R_aload_n o 0 dX7_bestTest_25 rfl rfl ?_
        refine R_getR (a2 := 66) o dX7_bestTest_26 fl_X7_17 sh_64 (by decide) rfl rf_64_5 ?_
        refine R_iload_n o 2 dX7_bestTest_29 rfl rfl ?_
        refine R_iald o dX7_bestTest_30 sh_66 ?_
        refine R_if_ge o 40 dX7_bestTest_31 (by decide) ?_ ?_
        · refine R_aload_n o 0 dX7_bestTest_34 rfl rfl ?_
          refine R_iconst (v := 1) o dX7_bestTest_35 (by decide) ?_
          refine K_ih (callV' (As := [.int 1]) (rest := []) o dX7_bestTest_36 lk_X7_100 rfl sh_64 rfl rfl rfl rfl (Nat.le_of_ble_eq_true rfl)) (c_X7_meets g l h 1) (fun r36 h36 => ?_)
          exact T_some (fun p => rr _ _ _ _ dX7_bestTest_39 p)
        · refine R_aload_n o 0 dX7_bestTest_40 rfl rfl ?_
          refine R_getR (a2 := 66) o dX7_bestTest_41 fl_X7_17 sh_64 (by decide) rfl rf_64_5 ?_
          refine R_iload_n o 1 dX7_bestTest_44 rfl rfl ?_
          refine R_iald o dX7_bestTest_45 sh_66 ?_
          refine R_bipush (v := 8) o dX7_bestTest_46 (by decide) ?_
          refine R_icmp_ne o 62 dX7_bestTest_48 (by decide) ?_ ?_
          · refine R_aload_n o 0 dX7_bestTest_51 rfl rfl ?_
            refine R_getR (a2 := 66) o dX7_bestTest_52 fl_X7_17 sh_64 (by decide) rfl rf_64_5 ?_
            refine R_iload_n o 2 dX7_bestTest_55 rfl rfl ?_
            refine R_iald o dX7_bestTest_56 sh_66 ?_
            refine R_bipush (v := 8) o dX7_bestTest_57 (by decide) ?_
            refine R_icmp_eq o 68 dX7_bestTest_59 (by decide) ?_ ?_
            · refine R_aload_n o 0 dX7_bestTest_68 rfl rfl ?_
              refine R_iload_n o 1 dX7_bestTest_69 rfl rfl ?_
              refine K_ih (callV' (As := [.int x1]) (rest := []) o dX7_bestTest_70 lk_X7_253 rfl sh_64 rfl rfl rfl rfl (Nat.le_of_ble_eq_true rfl)) (c_X7_askedCounts g l h x1) (fun r70 h70 => ?_)
              refine R_istore_n (lv2 := [(0, rA g 64), (1, .int x1), (2, .int x2), (3, .int r70)]) o dX7_bestTest_73 rfl (by decide) rfl ?_
              refine R_iload_n o 3 dX7_bestTest_74 rfl rfl ?_
              refine R_if_ge o 80 dX7_bestTest_75 (by decide) ?_ ?_
              · refine R_iload_n o 3 dX7_bestTest_78 rfl rfl ?_
                exact T_some (fun p => rr _ _ _ _ dX7_bestTest_79 p)
              · refine R_aload_n o 0 dX7_bestTest_80 rfl rfl ?_
                refine R_iload_n o 2 dX7_bestTest_81 rfl rfl ?_
                refine K_ih (callV' (As := [.int x2]) (rest := []) o dX7_bestTest_82 lk_X7_253 rfl sh_64 rfl rfl rfl rfl (Nat.le_of_ble_eq_true rfl)) (c_X7_askedCounts g l h70 x2) (fun r82 h82 => ?_)
                refine R_istore (lv2 := [(0, rA g 64), (1, .int x1), (2, .int x2), (3, .int r70), (4, .int r82)]) o dX7_bestTest_85 (by decide) rfl ?_
                refine R_iload o 4 dX7_bestTest_87 rfl ?_
                refine R_if_ge o 95 dX7_bestTest_89 (by decide) ?_ ?_
                · refine R_iload o 4 dX7_bestTest_92 rfl ?_
                  exact T_some (fun p => rr _ _ _ _ dX7_bestTest_94 p)
                · refine R_iload_n o 3 dX7_bestTest_95 rfl rfl ?_
                  refine R_if_eq o 104 dX7_bestTest_96 (by decide) ?_ ?_
                  · refine R_aload_n o 0 dX7_bestTest_104 rfl rfl ?_
                    refine R_iconst (v := 4) o dX7_bestTest_105 (by decide) ?_
                    refine K_ih (callV' (As := [.int 4]) (rest := []) o dX7_bestTest_106 lk_X7_100 rfl sh_64 rfl rfl rfl rfl (Nat.le_of_ble_eq_true rfl)) (c_X7_meets g l h82 4) (fun r106 h106 => ?_)
                    exact T_some (fun p => rr _ _ _ _ dX7_bestTest_109 p)
                  · refine R_iload o 4 dX7_bestTest_99 rfl ?_
                    refine R_if_ne o 110 dX7_bestTest_101 (by decide) ?_ ?_
                    · refine R_aload_n o 0 dX7_bestTest_104 rfl rfl ?_
                      refine R_iconst (v := 4) o dX7_bestTest_105 (by decide) ?_
                      refine K_ih (callV' (As := [.int 4]) (rest := []) o dX7_bestTest_106 lk_X7_100 rfl sh_64 rfl rfl rfl rfl (Nat.le_of_ble_eq_true rfl)) (c_X7_meets g l h82 4) (fun r106 h106 => ?_)
                      exact T_some (fun p => rr _ _ _ _ dX7_bestTest_109 p)
                    · refine R_lconst (v := 0) o dX7_bestTest_110 (by decide) ?_
                      refine R_lstore (lv2 := [(0, rA g 64), (1, .int x1), (2, .int x2), (3, .int r70), (4, .int r82), (5, .long 0)]) o dX7_bestTest_111 (by decide) rfl ?_
                      refine R_iconst (v := 0) o dX7_bestTest_113 (by decide) ?_
                      refine R_istore (lv2 := [(0, rA g 64), (1, .int x1), (2, .int x2), (3, .int r70), (4, .int r82), (5, .long 0), (7, .int 0)]) o dX7_bestTest_114 (by decide) rfl ?_
                      refine R_iconst (v := 0) o dX7_bestTest_116 (by decide) ?_
                      refine R_istore (lv2 := [(0, rA g 64), (1, .int x1), (2, .int x2), (3, .int r70), (4, .int r82), (5, .long 0), (7, .int 0), (8, .int 0)]) o dX7_bestTest_117 (by decide) rfl ?_
                      refine T_bind (t_X7_bestTest_L119 o rr h82 x1 x2 r70 r82 0 0 0) (fun b119 => ?_)
                      refine R_aload_n o 0 dX7_bestTest_198 rfl rfl ?_
                      refine R_ldc2 (v := 2) o dX7_bestTest_199 kc_X7_242 ?_
                      refine R_iload_n o 1 dX7_bestTest_202 rfl rfl ?_
                      refine R_i2l o dX7_bestTest_203 ?_
                      refine R_lmul o dX7_bestTest_204 ?_
                      refine R_iload o 2 dX7_bestTest_205 rfl ?_
                      refine R_i2l o dX7_bestTest_207 ?_
                      refine R_lmul o dX7_bestTest_208 ?_
                      refine R_lload o 3 dX7_bestTest_209 rfl ?_
                      refine R_lsub o dX7_bestTest_211 ?_
                      refine R_ldc2 (v := 2) o dX7_bestTest_212 kc_X7_242 ?_
                      refine R_iload_n o 1 dX7_bestTest_215 rfl rfl ?_
                      refine R_i2l o dX7_bestTest_216 ?_
                      refine R_lmul o dX7_bestTest_217 ?_
                      refine R_iload o 2 dX7_bestTest_218 rfl ?_
                      refine R_i2l o dX7_bestTest_220 ?_
                      refine R_lmul o dX7_bestTest_221 ?_
                      refine R_aload_n o 0 dX7_bestTest_222 rfl rfl ?_
                      refine R_iload o 4 dX7_bestTest_223 rfl ?_
                      refine R_iconst (v := 1) o dX7_bestTest_225 (by decide) ?_
                      refine K_ih (callV' (As := [.int b119.2, .int 1]) (rest := [.long ((2 * (Int32.toInt64 r70)) * (Int32.toInt64 r82)), .long (((2 * (Int32.toInt64 r70)) * (Int32.toInt64 r82)) - b119.1), rA g 64]) o dX7_bestTest_226 lk_X7_114 rfl sh_64 rfl rfl rfl rfl (Nat.le_of_ble_eq_true rfl)) (c_X7_ask g l h82 b119.2 1) (fun r226 h226 => ?_)
                      refine K_ih (callV' (As := [.long (((2 * (Int32.toInt64 r70)) * (Int32.toInt64 r82)) - b119.1), .long ((2 * (Int32.toInt64 r70)) * (Int32.toInt64 r82)), .int r226]) (rest := []) o dX7_bestTest_229 lk_X7_229 rfl sh_64 rfl rfl rfl rfl (Nat.le_of_ble_eq_true rfl)) (c_X7_tell g l h226 (((2 * (Int32.toInt64 r70)) * (Int32.toInt64 r82)) - b119.1) ((2 * (Int32.toInt64 r70)) * (Int32.toInt64 r82)) r226) (fun r229 h229 => ?_)
                      exact T_some (fun p => rr _ _ _ _ dX7_bestTest_232 p)
            · refine R_aload_n o 0 dX7_bestTest_62 rfl rfl ?_
              refine R_iconst (v := 5) o dX7_bestTest_63 (by decide) ?_
              refine K_ih (callV' (As := [.int 5]) (rest := []) o dX7_bestTest_64 lk_X7_100 rfl sh_64 rfl rfl rfl rfl (Nat.le_of_ble_eq_true rfl)) (c_X7_meets g l h 5) (fun r64 h64 => ?_)
              exact T_some (fun p => rr _ _ _ _ dX7_bestTest_67 p)
          · refine R_aload_n o 0 dX7_bestTest_62 rfl rfl ?_
            refine R_iconst (v := 5) o dX7_bestTest_63 (by decide) ?_
            refine K_ih (callV' (As := [.int 5]) (rest := []) o dX7_bestTest_64 lk_X7_100 rfl sh_64 rfl rfl rfl rfl (Nat.le_of_ble_eq_true rfl)) (c_X7_meets g l h 5) (fun r64 h64 => ?_)
            exact T_some (fun p => rr _ _ _ _ dX7_bestTest_67 p)
    · refine R_iconst (v := (-1)) o dX7_bestTest_14 (by decide) ?_
      exact T_some (fun p => rr _ _ _ _ dX7_bestTest_15 p)
  · refine R_iconst (v := (-1)) o dX7_bestTest_14 (by decide) ?_
    exact T_some (fun p => rr _ _ _ _ dX7_bestTest_15 p)
theorem c_X7_bestTest (g : Gx) (l : Launch) (h : MH) (x1 : Int32) (x2 : Int32) (r : (Int32 × MH)) (e : f_X7_bestTest h x1 x2 = some r) : Ctr g l yX7_bestTest cX7_bestTest 11 (some .int) 2 46 0 [rA g 64, .int x1, .int x2] h (some (.int r.1)) r.2 := mkCi (plainFor_of_name (by decide)) (Nat.le_of_ble_eq_true rfl) (fun V Rt o rr p => b_X7_bestTest o rr h x1 x2  r e p)
/-! X7_learn -/
noncomputable def f_X7_learn_B40 (h : MH) (x2 : Int32) (x4 : Int32) (x5 : Int32) : Option ((Int32 × Int32 × MH) ⊕ (Int32 × MH)) :=
  (if x5 < 8 then gd (ix x5 8) (gd (ix ((40 * x2) + x5) 240) (nm (uI h 67 ((40 * x2) + x5).toNatClampNeg (h.1 86 x5.toNatClampNeg)) (fun h65 => gd (ix x5 8) ((if 0 < (h65.1 86 x5.toNatClampNeg) then nm (x4 + 1) (fun v84 => some (.inl (v84, (x5 + 1), h65))) else nm (x4 + 0) (fun v84 => some (.inl (v84, (x5 + 1), h65)))))))) else some (.inr (x4, h)))
set_option maxRecDepth 100000 in
set_option maxHeartbeats 4000000 in
theorem t_X7_learn_B40 {g : Gx} {l : Launch} {V : VT} {Rt : Option Value → MH → Prop} (o : Ok g l RX7 cX7_learn 6 3 65 0 V) (rr : ORi cX7_learn V Rt) (h : MH) (x2 : Int32) (x4 : Int32) (x5 : Int32) : T (Sum.elim (fun s => V 40 [(0, rA g 64), (2, .int x2), (4, .int s.1), (5, .int s.2.1)] [] s.2.2) (fun b => V 92 [(4, .int b.1)] [] b.2)) (f_X7_learn_B40  h x2 x4 x5) (V 40 [(0, rA g 64), (2, .int x2), (4, .int x4), (5, .int x5)] [] h) := by
  unfold f_X7_learn_B40
  refine R_iload o 3 dX7_learn_40 rfl ?_
  refine R_bipush (v := 8) o dX7_learn_42 (by decide) ?_
  refine R_icmp_ge o 92 dX7_learn_44 (by decide) ?_ ?_
  · refine R_aload_n o 0 dX7_learn_47 rfl rfl ?_
    refine R_getR (a2 := 67) o dX7_learn_48 fl_X7_20 sh_64 (by decide) rfl rf_64_6 ?_
    refine R_bipush (v := 40) o dX7_learn_51 (by decide) ?_
    refine R_iload_n o 1 dX7_learn_53 rfl rfl ?_
    refine R_imul o dX7_learn_54 ?_
    refine R_iload o 3 dX7_learn_55 rfl ?_
    refine R_iadd o dX7_learn_57 ?_
    refine R_aload_n o 0 dX7_learn_58 rfl rfl ?_
    refine R_getR (a2 := 86) o dX7_learn_59 fl_X7_79 sh_64 (by decide) rfl rf_64_30 ?_
    refine R_iload o 3 dX7_learn_62 rfl ?_
    refine R_iald o dX7_learn_64 sh_86 ?_
    refine R_iast o dX7_learn_65 sh_67 ?_
    refine R_nmH (fun h65 => ?_)
    refine R_iload o 2 dX7_learn_66 rfl ?_
    refine R_aload_n o 0 dX7_learn_68 rfl rfl ?_
    refine R_getR (a2 := 86) o dX7_learn_69 fl_X7_79 sh_64 (by decide) rfl rf_64_30 ?_
    refine R_iload o 3 dX7_learn_72 rfl ?_
    refine R_iald o dX7_learn_74 sh_86 ?_
    refine R_if_le o 82 dX7_learn_75 (by decide) ?_ ?_
    · refine R_iconst (v := 1) o dX7_learn_78 (by decide) ?_
      refine R_goto o 83 dX7_learn_79 (by decide) ?_
      refine R_iadd o dX7_learn_83 ?_
      refine R_nmI (fun v84 => ?_)
      refine R_istore (lv2 := [(0, rA g 64), (2, .int x2), (4, .int v84), (5, .int x5)]) o dX7_learn_84 (by decide) rfl ?_
      refine R_iinc (v := (x5 + 1)) (lv2 := [(0, rA g 64), (2, .int x2), (4, .int v84), (5, .int (x5 + 1))]) o 3 dX7_learn_86 rfl rfl (by decide) rfl ?_
      refine R_goto o 40 dX7_learn_89 (by decide) ?_
      exact T_some (fun p => p)
    · refine R_iconst (v := 0) o dX7_learn_82 (by decide) ?_
      refine R_iadd o dX7_learn_83 ?_
      refine R_nmI (fun v84 => ?_)
      refine R_istore (lv2 := [(0, rA g 64), (2, .int x2), (4, .int v84), (5, .int x5)]) o dX7_learn_84 (by decide) rfl ?_
      refine R_iinc (v := (x5 + 1)) (lv2 := [(0, rA g 64), (2, .int x2), (4, .int v84), (5, .int (x5 + 1))]) o 3 dX7_learn_86 rfl rfl (by decide) rfl ?_
      refine R_goto o 40 dX7_learn_89 (by decide) ?_
      exact T_some (fun p => p)
  · refine R_drop (lv2 := [(4, .int x4)]) o [2] rfl ?_
    exact T_some (fun p => p)
noncomputable def f_X7_learn_L40 (h : MH) (x2 : Int32) (x4 : Int32) (x5 : Int32) : Option (Int32 × MH) :=
  lpo (fun s : Int32 × Int32 × MH => f_X7_learn_B40 s.2.2 x2 s.1 s.2.1) (x4, x5, h)
theorem t_X7_learn_L40 {g : Gx} {l : Launch} {V : VT} {Rt : Option Value → MH → Prop} (o : Ok g l RX7 cX7_learn 6 3 65 0 V) (rr : ORi cX7_learn V Rt) (h : MH) (x2 : Int32) (x4 : Int32) (x5 : Int32) : T (fun b => V 92 [(4, .int b.1)] [] b.2) (f_X7_learn_L40 h x2 x4 x5) (V 40 [(0, rA g 64), (2, .int x2), (4, .int x4), (5, .int x5)] [] h) := T_loop (head := fun s : Int32 × Int32 × MH => V 40 [(0, rA g 64), (2, .int x2), (4, .int s.1), (5, .int s.2.1)] [] s.2.2) (fun s => t_X7_learn_B40 o rr s.2.2 x2 s.1 s.2.1 ) (x4, x5, h)
noncomputable def f_X7_learn (h : MH) (x1 : Int32) (x2 : Int32) : Option (Int32 × MH) :=
  Option.bind (f_X7_isRow x2) (fun r1 => (if r1 = true then bnd2 (f_X7_askedCover h x1) (fun r11 h11 => (if r11 < 0 then some (r11, h11) else Option.bind (f_X7_setCounted h11 x1) (fun h23 => bnd2 (f_X7_row h23 x2 8) (fun r30 h30 => Option.bind (f_X7_learn_L40 h30 x2 0 0) (fun b40 => some (b40.1, b40.2)))))) else some ((-1), h)))
set_option maxRecDepth 100000 in
set_option maxHeartbeats 4000000 in
theorem b_X7_learn {g : Gx} {l : Launch} {V : VT} {Rt : Option Value → MH → Prop} (o : Ok g l RX7 cX7_learn 6 3 65 0 V) (rr : ORi cX7_learn V Rt) (h : MH) (x1 : Int32) (x2 : Int32) : T (fun r => Rt (some (.int r.1)) r.2) (f_X7_learn h x1 x2) (V 0 [(0, rA g 64), (1, .int x1), (2, .int x2)] [] h) := by
  unfold f_X7_learn
  refine R_iload_n o 2 dX7_learn_0 rfl rfl ?_
  refine K_z (callS' (av := [.int x2]) (rest := []) o dX7_learn_1 lk_X7_96 rfl rfl rfl (Nat.le_of_ble_eq_true rfl)) (c_X7_isRow g l h x2) (fun r1 => ?_)
  refine R_bif_ne o 9 dX7_learn_4 (by decide) ?_ ?_
  · refine R_aload_n o 0 dX7_learn_9 rfl rfl ?_
    refine R_iload_n o 1 dX7_learn_10 rfl rfl ?_
    refine K_ih (callV' (As := [.int x1]) (rest := []) o dX7_learn_11 lk_X7_138 rfl sh_64 rfl rfl rfl rfl (Nat.le_of_ble_eq_true rfl)) (c_X7_askedCover g l h x1) (fun r11 h11 => ?_)
    refine R_istore_n (lv2 := [(0, rA g 64), (1, .int x1), (2, .int x2), (3, .int r11)]) o dX7_learn_14 rfl (by decide) rfl ?_
    refine R_iload_n o 3 dX7_learn_15 rfl rfl ?_
    refine R_if_ge o 21 dX7_learn_16 (by decide) ?_ ?_
    · refine R_iload_n o 3 dX7_learn_19 rfl rfl ?_
      exact T_some (fun p => rr _ _ _ _ dX7_learn_20 p)
    · refine R_aload_n o 0 dX7_learn_21 rfl rfl ?_
      refine R_iload_n o 1 dX7_learn_22 rfl rfl ?_
      refine K_vh (callV' (As := [.int x1]) (rest := []) o dX7_learn_23 lk_X7_256 rfl sh_64 rfl rfl rfl rfl (Nat.le_of_ble_eq_true rfl)) (c_X7_setCounted g l h11 x1) (fun h23 => ?_)
      refine R_aload_n o 0 dX7_learn_26 rfl rfl ?_
      refine R_iload_n o 2 dX7_learn_27 rfl rfl ?_
      refine R_bipush (v := 8) o dX7_learn_28 (by decide) ?_
      refine K_ih (callV' (As := [.int x2, .int 8]) (rest := []) o dX7_learn_30 lk_X7_144 rfl sh_64 rfl rfl rfl rfl (Nat.le_of_ble_eq_true rfl)) (c_X7_row g l h23 x2 8) (fun r30 h30 => ?_)
      refine R_pop o dX7_learn_33 rfl ?_
      refine R_iconst (v := 0) o dX7_learn_34 (by decide) ?_
      refine R_istore (lv2 := [(0, rA g 64), (1, .int x1), (2, .int x2), (3, .int r11), (4, .int 0)]) o dX7_learn_35 (by decide) rfl ?_
      refine R_iconst (v := 0) o dX7_learn_37 (by decide) ?_
      refine R_istore (lv2 := [(0, rA g 64), (1, .int x1), (2, .int x2), (3, .int r11), (4, .int 0), (5, .int 0)]) o dX7_learn_38 (by decide) rfl ?_
      refine R_drop (lv2 := [(0, rA g 64), (2, .int x2), (4, .int 0), (5, .int 0)]) o [0, 2, 4, 5] rfl ?_
      refine T_bind (t_X7_learn_L40 o rr h30 x2 0 0) (fun b40 => ?_)
      refine R_iload o 0 dX7_learn_92 rfl ?_
      exact T_some (fun p => rr _ _ _ _ dX7_learn_94 p)
  · refine R_iconst (v := (-1)) o dX7_learn_7 (by decide) ?_
    exact T_some (fun p => rr _ _ _ _ dX7_learn_8 p)
theorem c_X7_learn (g : Gx) (l : Launch) (h : MH) (x1 : Int32) (x2 : Int32) (r : (Int32 × MH)) (e : f_X7_learn h x1 x2 = some r) : Ctr g l yX7_learn cX7_learn 6 (some .int) 3 65 0 [rA g 64, .int x1, .int x2] h (some (.int r.1)) r.2 := mkCi (plainFor_of_name (by decide)) (Nat.le_of_ble_eq_true rfl) (fun V Rt o rr p => b_X7_learn o rr h x1 x2  r e p)
/-! X7_pairs -/
noncomputable def f_X7_pairs_J72_40 (h : MH) (x1 : Int32) (l3 : Int64) (l5 : Int64) (x7 : Int32) (x8 : Int32) (x10 : Int32) (x11 : Int32) (s0 : Int32) (s1 : Int32) : Option ((Int32 × Int32 × Int32) ⊕ (Int32 × Int32)) :=
  nm (s0 + s1) (fun v73 => Option.bind (f_X7_dotAt h x1 x11) (fun r81 => (if r81 = ((2 * x8) + 1) then nm (x10 + 1) (fun v99 => some (.inl (v73, v99, (x11 + 1)))) else nm (x10 + 0) (fun v99 => some (.inl (v73, v99, (x11 + 1)))))))
set_option maxRecDepth 100000 in
set_option maxHeartbeats 4000000 in
theorem t_X7_pairs_J72_40 {g : Gx} {l : Launch} {V : VT} {Rt : Option Value → MH → Prop} (o : Ok g l RX7 cX7_pairs 12 3 63 0 V) (rr : ORi cX7_pairs V Rt) (h : MH) (x1 : Int32) (l3 : Int64) (l5 : Int64) (x7 : Int32) (x8 : Int32) (x10 : Int32) (x11 : Int32) (s0 : Int32) (s1 : Int32) : T (Sum.elim (fun s => V 40 [(0, rA g 64), (1, .int x1), (3, .long l3), (5, .long l5), (7, .int x7), (8, .int x8), (9, .int s.1), (10, .int s.2.1), (11, .int s.2.2)] [] h) (fun b => V 107 [(0, rA g 64), (1, .int x1), (3, .long l3), (5, .long l5), (7, .int x7), (8, .int x8), (9, .int b.1), (10, .int b.2)] [] h)) (f_X7_pairs_J72_40  h x1 l3 l5 x7 x8 x10 x11 s0 s1) (V 72 [(0, rA g 64), (1, .int x1), (3, .long l3), (5, .long l5), (7, .int x7), (8, .int x8), (10, .int x10), (11, .int x11)] [.int s1, .int s0] h) := by
  unfold f_X7_pairs_J72_40
  refine R_iadd o dX7_pairs_72 ?_
  refine R_nmI (fun v73 => ?_)
  refine R_istore (lv2 := [(0, rA g 64), (1, .int x1), (3, .long l3), (5, .long l5), (7, .int x7), (8, .int x8), (9, .int v73), (10, .int x10), (11, .int x11)]) o dX7_pairs_73 (by decide) rfl ?_
  refine R_iload o 7 dX7_pairs_75 rfl ?_
  refine R_aload_n o 0 dX7_pairs_77 rfl rfl ?_
  refine R_iload_n o 1 dX7_pairs_78 rfl rfl ?_
  refine R_iload o 8 dX7_pairs_79 rfl ?_
  refine K_i (callV' (As := [.int x1, .int x11]) (rest := [.int x10]) o dX7_pairs_81 lk_X7_147 rfl sh_64 rfl rfl rfl rfl (Nat.le_of_ble_eq_true rfl)) (c_X7_dotAt g l h x1 x11) (fun r81 => ?_)
  refine R_iconst (v := 2) o dX7_pairs_84 (by decide) ?_
  refine R_iload o 5 dX7_pairs_85 rfl ?_
  refine R_imul o dX7_pairs_87 ?_
  refine R_iconst (v := 1) o dX7_pairs_88 (by decide) ?_
  refine R_iadd o dX7_pairs_89 ?_
  refine R_icmp_ne o 97 dX7_pairs_90 (by decide) ?_ ?_
  · refine R_iconst (v := 1) o dX7_pairs_93 (by decide) ?_
    refine R_goto o 98 dX7_pairs_94 (by decide) ?_
    refine R_iadd o dX7_pairs_98 ?_
    refine R_nmI (fun v99 => ?_)
    refine R_istore (lv2 := [(0, rA g 64), (1, .int x1), (3, .long l3), (5, .long l5), (7, .int x7), (8, .int x8), (9, .int v73), (10, .int v99), (11, .int x11)]) o dX7_pairs_99 (by decide) rfl ?_
    refine R_iinc (v := (x11 + 1)) (lv2 := [(0, rA g 64), (1, .int x1), (3, .long l3), (5, .long l5), (7, .int x7), (8, .int x8), (9, .int v73), (10, .int v99), (11, .int (x11 + 1))]) o 8 dX7_pairs_101 rfl rfl (by decide) rfl ?_
    refine R_goto o 40 dX7_pairs_104 (by decide) ?_
    exact T_some (fun p => p)
  · refine R_iconst (v := 0) o dX7_pairs_97 (by decide) ?_
    refine R_iadd o dX7_pairs_98 ?_
    refine R_nmI (fun v99 => ?_)
    refine R_istore (lv2 := [(0, rA g 64), (1, .int x1), (3, .long l3), (5, .long l5), (7, .int x7), (8, .int x8), (9, .int v73), (10, .int v99), (11, .int x11)]) o dX7_pairs_99 (by decide) rfl ?_
    refine R_iinc (v := (x11 + 1)) (lv2 := [(0, rA g 64), (1, .int x1), (3, .long l3), (5, .long l5), (7, .int x7), (8, .int x8), (9, .int v73), (10, .int v99), (11, .int (x11 + 1))]) o 8 dX7_pairs_101 rfl rfl (by decide) rfl ?_
    refine R_goto o 40 dX7_pairs_104 (by decide) ?_
    exact T_some (fun p => p)
noncomputable def f_X7_pairs_B40 (h : MH) (x1 : Int32) (l3 : Int64) (l5 : Int64) (x7 : Int32) (x8 : Int32) (x9 : Int32) (x10 : Int32) (x11 : Int32) : Option ((Int32 × Int32 × Int32) ⊕ (Int32 × Int32)) :=
  gd (ix x1 6) ((if x11 < (h.1 71 x1.toNatClampNeg) then Option.bind (f_X7_dotAt h x1 x11) (fun r57 => (if r57 = (2 * x8) then f_X7_pairs_J72_40 h x1 l3 l5 x7 x8 x10 x11 x9 1 else f_X7_pairs_J72_40 h x1 l3 l5 x7 x8 x10 x11 x9 0)) else some (.inr (x9, x10))))
set_option maxRecDepth 100000 in
set_option maxHeartbeats 4000000 in
theorem t_X7_pairs_B40 {g : Gx} {l : Launch} {V : VT} {Rt : Option Value → MH → Prop} (o : Ok g l RX7 cX7_pairs 12 3 63 0 V) (rr : ORi cX7_pairs V Rt) (h : MH) (x1 : Int32) (l3 : Int64) (l5 : Int64) (x7 : Int32) (x8 : Int32) (x9 : Int32) (x10 : Int32) (x11 : Int32) : T (Sum.elim (fun s => V 40 [(0, rA g 64), (1, .int x1), (3, .long l3), (5, .long l5), (7, .int x7), (8, .int x8), (9, .int s.1), (10, .int s.2.1), (11, .int s.2.2)] [] h) (fun b => V 107 [(0, rA g 64), (1, .int x1), (3, .long l3), (5, .long l5), (7, .int x7), (8, .int x8), (9, .int b.1), (10, .int b.2)] [] h)) (f_X7_pairs_B40  h x1 l3 l5 x7 x8 x9 x10 x11) (V 40 [(0, rA g 64), (1, .int x1), (3, .long l3), (5, .long l5), (7, .int x7), (8, .int x8), (9, .int x9), (10, .int x10), (11, .int x11)] [] h) := by
  unfold f_X7_pairs_B40
  refine R_iload o 8 dX7_pairs_40 rfl ?_
  refine R_aload_n o 0 dX7_pairs_42 rfl rfl ?_
  refine R_getR (a2 := 71) o dX7_pairs_43 fl_X7_32 sh_64 (by decide) rfl rf_64_10 ?_
  refine R_iload_n o 1 dX7_pairs_46 rfl rfl ?_
  refine R_iald o dX7_pairs_47 sh_71 ?_
  refine R_icmp_ge o 107 dX7_pairs_48 (by decide) ?_ ?_
  · refine R_iload o 6 dX7_pairs_51 rfl ?_
    refine R_aload_n o 0 dX7_pairs_53 rfl rfl ?_
    refine R_iload_n o 1 dX7_pairs_54 rfl rfl ?_
    refine R_iload o 8 dX7_pairs_55 rfl ?_
    refine K_i (callV' (As := [.int x1, .int x11]) (rest := [.int x9]) o dX7_pairs_57 lk_X7_147 rfl sh_64 rfl rfl rfl rfl (Nat.le_of_ble_eq_true rfl)) (c_X7_dotAt g l h x1 x11) (fun r57 => ?_)
    refine R_iconst (v := 2) o dX7_pairs_60 (by decide) ?_
    refine R_iload o 5 dX7_pairs_61 rfl ?_
    refine R_imul o dX7_pairs_63 ?_
    refine R_icmp_ne o 71 dX7_pairs_64 (by decide) ?_ ?_
    · refine R_iconst (v := 1) o dX7_pairs_67 (by decide) ?_
      refine R_goto o 72 dX7_pairs_68 (by decide) ?_
      refine R_drop (lv2 := [(0, rA g 64), (1, .int x1), (3, .long l3), (5, .long l5), (7, .int x7), (8, .int x8), (10, .int x10), (11, .int x11)]) o [0, 1, 2, 3, 4, 5, 7, 8] rfl ?_
      exact t_X7_pairs_J72_40 o rr h x1 l3 l5 x7 x8 x10 x11 x9 1
    · refine R_iconst (v := 0) o dX7_pairs_71 (by decide) ?_
      refine R_drop (lv2 := [(0, rA g 64), (1, .int x1), (3, .long l3), (5, .long l5), (7, .int x7), (8, .int x8), (10, .int x10), (11, .int x11)]) o [0, 1, 2, 3, 4, 5, 7, 8] rfl ?_
      exact t_X7_pairs_J72_40 o rr h x1 l3 l5 x7 x8 x10 x11 x9 0
  · refine R_drop (lv2 := [(0, rA g 64), (1, .int x1), (3, .long l3), (5, .long l5), (7, .int x7), (8, .int x8), (9, .int x9), (10, .int x10)]) o [0, 1, 2, 3, 4, 5, 6, 7] rfl ?_
    exact T_some (fun p => p)
noncomputable def f_X7_pairs_L40 (h : MH) (x1 : Int32) (l3 : Int64) (l5 : Int64) (x7 : Int32) (x8 : Int32) (x9 : Int32) (x10 : Int32) (x11 : Int32) : Option (Int32 × Int32) :=
  lpo (fun s : Int32 × Int32 × Int32 => f_X7_pairs_B40 h x1 l3 l5 x7 x8 s.1 s.2.1 s.2.2) (x9, x10, x11)
theorem t_X7_pairs_L40 {g : Gx} {l : Launch} {V : VT} {Rt : Option Value → MH → Prop} (o : Ok g l RX7 cX7_pairs 12 3 63 0 V) (rr : ORi cX7_pairs V Rt) (h : MH) (x1 : Int32) (l3 : Int64) (l5 : Int64) (x7 : Int32) (x8 : Int32) (x9 : Int32) (x10 : Int32) (x11 : Int32) : T (fun b => V 107 [(0, rA g 64), (1, .int x1), (3, .long l3), (5, .long l5), (7, .int x7), (8, .int x8), (9, .int b.1), (10, .int b.2)] [] h) (f_X7_pairs_L40 h x1 l3 l5 x7 x8 x9 x10 x11) (V 40 [(0, rA g 64), (1, .int x1), (3, .long l3), (5, .long l5), (7, .int x7), (8, .int x8), (9, .int x9), (10, .int x10), (11, .int x11)] [] h) := T_loop (head := fun s : Int32 × Int32 × Int32 => V 40 [(0, rA g 64), (1, .int x1), (3, .long l3), (5, .long l5), (7, .int x7), (8, .int x8), (9, .int s.1), (10, .int s.2.1), (11, .int s.2.2)] [] h) (fun s => t_X7_pairs_B40 o rr h x1 l3 l5 x7 x8 s.1 s.2.1 s.2.2 ) (x9, x10, x11)
noncomputable def f_X7_pairs_B23 (h : MH) (x1 : Int32) (l3 : Int64) (l5 : Int64) (x7 : Int32) (x8 : Int32) : Option ((Int64 × Int64 × Int32 × Int32 × MH) ⊕ (Int64 × Int64 × Int32 × MH)) :=
  (if x8 < 128 then Option.bind (f_X7_pairs_L40 h x1 l3 l5 x7 x8 0 0 0) (fun b40 => (if 0 < (b40.1 + b40.2) then nm ((l3 * (Int32.toInt64 (b40.1 + b40.2))) + (((Int32.toInt64 (b40.1 - b40.2)) * (Int32.toInt64 (b40.1 - b40.2))) * l5)) (fun v143 => nm (l5 * (Int32.toInt64 (b40.1 + b40.2))) (fun v153 => bnd2 (f_X7_tell h v143 v153 1) (fun r160 h160 => nm (h160.2.1 64 3) (fun v169 => nm (h160.2.1 64 4) (fun v174 => some (.inl (v169, v174, (x7 + 1), (x8 + 1), h160))))))) else some (.inl (l3, l5, x7, (x8 + 1), h)))) else some (.inr (l3, l5, x7, h)))
set_option maxRecDepth 100000 in
set_option maxHeartbeats 4000000 in
theorem t_X7_pairs_B23 {g : Gx} {l : Launch} {V : VT} {Rt : Option Value → MH → Prop} (o : Ok g l RX7 cX7_pairs 12 3 63 0 V) (rr : ORi cX7_pairs V Rt) (h : MH) (x1 : Int32) (l3 : Int64) (l5 : Int64) (x7 : Int32) (x8 : Int32) : T (Sum.elim (fun s => V 23 [(0, rA g 64), (1, .int x1), (3, .long s.1), (5, .long s.2.1), (7, .int s.2.2.1), (8, .int s.2.2.2.1)] [] s.2.2.2.2) (fun b => V 182 [(0, rA g 64), (3, .long b.1), (5, .long b.2.1), (7, .int b.2.2.1)] [] b.2.2.2)) (f_X7_pairs_B23  h x1 l3 l5 x7 x8) (V 23 [(0, rA g 64), (1, .int x1), (3, .long l3), (5, .long l5), (7, .int x7), (8, .int x8)] [] h) := by
  unfold f_X7_pairs_B23
  refine R_iload o 5 dX7_pairs_23 rfl ?_
  refine R_sipush (v := 128) o dX7_pairs_25 (by decide) ?_
  refine R_icmp_ge o 182 dX7_pairs_28 (by decide) ?_ ?_
  · refine R_iconst (v := 0) o dX7_pairs_31 (by decide) ?_
    refine R_istore (lv2 := [(0, rA g 64), (1, .int x1), (3, .long l3), (5, .long l5), (7, .int x7), (8, .int x8), (9, .int 0)]) o dX7_pairs_32 (by decide) rfl ?_
    refine R_iconst (v := 0) o dX7_pairs_34 (by decide) ?_
    refine R_istore (lv2 := [(0, rA g 64), (1, .int x1), (3, .long l3), (5, .long l5), (7, .int x7), (8, .int x8), (9, .int 0), (10, .int 0)]) o dX7_pairs_35 (by decide) rfl ?_
    refine R_iconst (v := 0) o dX7_pairs_37 (by decide) ?_
    refine R_istore (lv2 := [(0, rA g 64), (1, .int x1), (3, .long l3), (5, .long l5), (7, .int x7), (8, .int x8), (9, .int 0), (10, .int 0), (11, .int 0)]) o dX7_pairs_38 (by decide) rfl ?_
    refine T_bind (t_X7_pairs_L40 o rr h x1 l3 l5 x7 x8 0 0 0) (fun b40 => ?_)
    refine R_iload o 6 dX7_pairs_107 rfl ?_
    refine R_iload o 7 dX7_pairs_109 rfl ?_
    refine R_iadd o dX7_pairs_111 ?_
    refine R_if_le o 176 dX7_pairs_112 (by decide) ?_ ?_
    · refine R_iinc (v := (x7 + 1)) (lv2 := [(0, rA g 64), (1, .int x1), (3, .long l3), (5, .long l5), (7, .int (x7 + 1)), (8, .int x8), (9, .int b40.1), (10, .int b40.2)]) o 4 dX7_pairs_115 rfl rfl (by decide) rfl ?_
      refine R_lload_n o 2 dX7_pairs_118 rfl rfl ?_
      refine R_iload o 6 dX7_pairs_119 rfl ?_
      refine R_iload o 7 dX7_pairs_121 rfl ?_
      refine R_iadd o dX7_pairs_123 ?_
      refine R_i2l o dX7_pairs_124 ?_
      refine R_lmul o dX7_pairs_125 ?_
      refine R_iload o 6 dX7_pairs_126 rfl ?_
      refine R_iload o 7 dX7_pairs_128 rfl ?_
      refine R_isub o dX7_pairs_130 ?_
      refine R_i2l o dX7_pairs_131 ?_
      refine R_iload o 6 dX7_pairs_132 rfl ?_
      refine R_iload o 7 dX7_pairs_134 rfl ?_
      refine R_isub o dX7_pairs_136 ?_
      refine R_i2l o dX7_pairs_137 ?_
      refine R_lmul o dX7_pairs_138 ?_
      refine R_lload o 3 dX7_pairs_139 rfl ?_
      refine R_lmul o dX7_pairs_141 ?_
      refine R_ladd o dX7_pairs_142 ?_
      refine R_nmL (fun v143 => ?_)
      refine R_lstore_n (lv2 := [(0, rA g 64), (1, .int x1), (3, .long v143), (5, .long l5), (7, .int (x7 + 1)), (8, .int x8), (9, .int b40.1), (10, .int b40.2)]) o dX7_pairs_143 rfl (by decide) rfl ?_
      refine R_lload o 3 dX7_pairs_144 rfl ?_
      refine R_iload o 6 dX7_pairs_146 rfl ?_
      refine R_iload o 7 dX7_pairs_148 rfl ?_
      refine R_iadd o dX7_pairs_150 ?_
      refine R_i2l o dX7_pairs_151 ?_
      refine R_lmul o dX7_pairs_152 ?_
      refine R_nmL (fun v153 => ?_)
      refine R_lstore (lv2 := [(0, rA g 64), (1, .int x1), (3, .long v143), (5, .long v153), (7, .int (x7 + 1)), (8, .int x8), (9, .int b40.1), (10, .int b40.2)]) o dX7_pairs_153 (by decide) rfl ?_
      refine R_aload_n o 0 dX7_pairs_155 rfl rfl ?_
      refine R_lload_n o 2 dX7_pairs_156 rfl rfl ?_
      refine R_lload o 3 dX7_pairs_157 rfl ?_
      refine R_iconst (v := 1) o dX7_pairs_159 (by decide) ?_
      refine K_ih (callV' (As := [.long v143, .long v153, .int 1]) (rest := []) o dX7_pairs_160 lk_X7_229 rfl sh_64 rfl rfl rfl rfl (Nat.le_of_ble_eq_true rfl)) (c_X7_tell g l h v143 v153 1) (fun r160 h160 => ?_)
      refine R_istore (lv2 := [(0, rA g 64), (1, .int x1), (3, .long v143), (5, .long v153), (7, .int (x7 + 1)), (8, .int x8), (9, .int b40.1), (10, .int b40.2), (11, .int r160)]) o dX7_pairs_163 (by decide) rfl ?_
      refine R_aload_n o 0 dX7_pairs_165 rfl rfl ?_
      refine R_getL o dX7_pairs_166 fl_X7_89 sh_64 (by decide) rfl ?_
      refine R_nmL (fun v169 => ?_)
      refine R_lstore_n (lv2 := [(0, rA g 64), (1, .int x1), (3, .long v169), (5, .long v153), (7, .int (x7 + 1)), (8, .int x8), (9, .int b40.1), (10, .int b40.2), (11, .int r160)]) o dX7_pairs_169 rfl (by decide) rfl ?_
      refine R_aload_n o 0 dX7_pairs_170 rfl rfl ?_
      refine R_getL o dX7_pairs_171 fl_X7_13 sh_64 (by decide) rfl ?_
      refine R_nmL (fun v174 => ?_)
      refine R_lstore (lv2 := [(0, rA g 64), (1, .int x1), (3, .long v169), (5, .long v174), (7, .int (x7 + 1)), (8, .int x8), (9, .int b40.1), (10, .int b40.2), (11, .int r160)]) o dX7_pairs_174 (by decide) rfl ?_
      refine R_iinc (v := (x8 + 1)) (lv2 := [(0, rA g 64), (1, .int x1), (3, .long v169), (5, .long v174), (7, .int (x7 + 1)), (8, .int (x8 + 1)), (9, .int b40.1), (10, .int b40.2), (11, .int r160)]) o 5 dX7_pairs_176 rfl rfl (by decide) rfl ?_
      refine R_goto o 23 dX7_pairs_179 (by decide) ?_
      refine R_drop (lv2 := [(0, rA g 64), (1, .int x1), (3, .long v169), (5, .long v174), (7, .int (x7 + 1)), (8, .int (x8 + 1))]) o [0, 1, 2, 3, 4, 5] rfl ?_
      exact T_some (fun p => p)
    · refine R_iinc (v := (x8 + 1)) (lv2 := [(0, rA g 64), (1, .int x1), (3, .long l3), (5, .long l5), (7, .int x7), (8, .int (x8 + 1)), (9, .int b40.1), (10, .int b40.2)]) o 5 dX7_pairs_176 rfl rfl (by decide) rfl ?_
      refine R_goto o 23 dX7_pairs_179 (by decide) ?_
      refine R_drop (lv2 := [(0, rA g 64), (1, .int x1), (3, .long l3), (5, .long l5), (7, .int x7), (8, .int (x8 + 1))]) o [0, 1, 2, 3, 4, 5] rfl ?_
      exact T_some (fun p => p)
  · refine R_drop (lv2 := [(0, rA g 64), (3, .long l3), (5, .long l5), (7, .int x7)]) o [0, 2, 3, 4] rfl ?_
    exact T_some (fun p => p)
noncomputable def f_X7_pairs_L23 (h : MH) (x1 : Int32) (l3 : Int64) (l5 : Int64) (x7 : Int32) (x8 : Int32) : Option (Int64 × Int64 × Int32 × MH) :=
  lpo (fun s : Int64 × Int64 × Int32 × Int32 × MH => f_X7_pairs_B23 s.2.2.2.2 x1 s.1 s.2.1 s.2.2.1 s.2.2.2.1) (l3, l5, x7, x8, h)
theorem t_X7_pairs_L23 {g : Gx} {l : Launch} {V : VT} {Rt : Option Value → MH → Prop} (o : Ok g l RX7 cX7_pairs 12 3 63 0 V) (rr : ORi cX7_pairs V Rt) (h : MH) (x1 : Int32) (l3 : Int64) (l5 : Int64) (x7 : Int32) (x8 : Int32) : T (fun b => V 182 [(0, rA g 64), (3, .long b.1), (5, .long b.2.1), (7, .int b.2.2.1)] [] b.2.2.2) (f_X7_pairs_L23 h x1 l3 l5 x7 x8) (V 23 [(0, rA g 64), (1, .int x1), (3, .long l3), (5, .long l5), (7, .int x7), (8, .int x8)] [] h) := T_loop (head := fun s : Int64 × Int64 × Int32 × Int32 × MH => V 23 [(0, rA g 64), (1, .int x1), (3, .long s.1), (5, .long s.2.1), (7, .int s.2.2.1), (8, .int s.2.2.2.1)] [] s.2.2.2.2) (fun s => t_X7_pairs_B23 o rr s.2.2.2.2 x1 s.1 s.2.1 s.2.2.1 s.2.2.2.1 ) (l3, l5, x7, x8, h)
noncomputable def f_X7_pairs (h : MH) (x1 : Int32) : Option (Int32 × MH) :=
  bnd2 (f_X7_askedCover h x1) (fun r2 h2 => (if r2 < 0 then some (r2, h2) else Option.bind (f_X7_pairs_L23 h2 x1 0 1 0 0) (fun b23 => bnd2 (f_X7_tell b23.2.2.2 b23.1 b23.2.1 b23.2.2.1) (fun r188 h188 => some (r188, h188)))))
set_option maxRecDepth 100000 in
set_option maxHeartbeats 4000000 in
theorem b_X7_pairs {g : Gx} {l : Launch} {V : VT} {Rt : Option Value → MH → Prop} (o : Ok g l RX7 cX7_pairs 12 3 63 0 V) (rr : ORi cX7_pairs V Rt) (h : MH) (x1 : Int32) : T (fun r => Rt (some (.int r.1)) r.2) (f_X7_pairs h x1) (V 0 [(0, rA g 64), (1, .int x1)] [] h) := by
  unfold f_X7_pairs
  refine R_aload_n o 0 dX7_pairs_0 rfl rfl ?_
  refine R_iload_n o 1 dX7_pairs_1 rfl rfl ?_
  refine K_ih (callV' (As := [.int x1]) (rest := []) o dX7_pairs_2 lk_X7_138 rfl sh_64 rfl rfl rfl rfl (Nat.le_of_ble_eq_true rfl)) (c_X7_askedCover g l h x1) (fun r2 h2 => ?_)
  refine R_istore_n (lv2 := [(0, rA g 64), (1, .int x1), (2, .int r2)]) o dX7_pairs_5 rfl (by decide) rfl ?_
  refine R_iload_n o 2 dX7_pairs_6 rfl rfl ?_
  refine R_if_ge o 12 dX7_pairs_7 (by decide) ?_ ?_
  · refine R_iload_n o 2 dX7_pairs_10 rfl rfl ?_
    exact T_some (fun p => rr _ _ _ _ dX7_pairs_11 p)
  · refine R_lconst (v := 0) o dX7_pairs_12 (by decide) ?_
    refine R_lstore_n (lv2 := [(0, rA g 64), (1, .int x1), (2, .int r2), (3, .long 0)]) o dX7_pairs_13 rfl (by decide) rfl ?_
    refine R_lconst (v := 1) o dX7_pairs_14 (by decide) ?_
    refine R_lstore (lv2 := [(0, rA g 64), (1, .int x1), (2, .int r2), (3, .long 0), (5, .long 1)]) o dX7_pairs_15 (by decide) rfl ?_
    refine R_iconst (v := 0) o dX7_pairs_17 (by decide) ?_
    refine R_istore (lv2 := [(0, rA g 64), (1, .int x1), (2, .int r2), (3, .long 0), (5, .long 1), (7, .int 0)]) o dX7_pairs_18 (by decide) rfl ?_
    refine R_iconst (v := 0) o dX7_pairs_20 (by decide) ?_
    refine R_istore (lv2 := [(0, rA g 64), (1, .int x1), (2, .int r2), (3, .long 0), (5, .long 1), (7, .int 0), (8, .int 0)]) o dX7_pairs_21 (by decide) rfl ?_
    refine R_drop (lv2 := [(0, rA g 64), (1, .int x1), (3, .long 0), (5, .long 1), (7, .int 0), (8, .int 0)]) o [0, 1, 3, 4, 5, 6] rfl ?_
    refine T_bind (t_X7_pairs_L23 o rr h2 x1 0 1 0 0) (fun b23 => ?_)
    refine R_aload_n o 0 dX7_pairs_182 rfl rfl ?_
    refine R_lload_n o 1 dX7_pairs_183 rfl rfl ?_
    refine R_lload o 2 dX7_pairs_184 rfl ?_
    refine R_iload o 3 dX7_pairs_186 rfl ?_
    refine K_ih (callV' (As := [.long b23.1, .long b23.2.1, .int b23.2.2.1]) (rest := []) o dX7_pairs_188 lk_X7_229 rfl sh_64 rfl rfl rfl rfl (Nat.le_of_ble_eq_true rfl)) (c_X7_tell g l b23.2.2.2 b23.1 b23.2.1 b23.2.2.1) (fun r188 h188 => ?_)
    exact T_some (fun p => rr _ _ _ _ dX7_pairs_191 p)
theorem c_X7_pairs (g : Gx) (l : Launch) (h : MH) (x1 : Int32) (r : (Int32 × MH)) (e : f_X7_pairs h x1 = some r) : Ctr g l yX7_pairs cX7_pairs 12 (some .int) 3 63 0 [rA g 64, .int x1] h (some (.int r.1)) r.2 := mkCi (plainFor_of_name (by decide)) (Nat.le_of_ble_eq_true rfl) (fun V Rt o rr p => b_X7_pairs o rr h x1  r e p)
/-! X7_rank -/
noncomputable def f_X7_rank_B53 (h : MH) (x1 : Int32) (l3 : Int64) (x5 : Int32) (x6 : Int32) (x7 : Int32) : Option ((Int32 × Int32) ⊕ (Int32)) :=
  gd (ix x1 6) ((if x7 < (h.1 71 x1.toNatClampNeg) then Option.bind (f_X7_dotAt h x1 x7) (fun r70 => Option.bind (f_X7_dotAt h x1 x5) (fun r77 => (if r70 < r77 then nm (x6 + 1) (fun v89 => some (.inl (v89, (x7 + 1)))) else nm (x6 + 0) (fun v89 => some (.inl (v89, (x7 + 1))))))) else some (.inr x6)))
set_option maxRecDepth 100000 in
set_option maxHeartbeats 4000000 in
theorem t_X7_rank_B53 {g : Gx} {l : Launch} {V : VT} {Rt : Option Value → MH → Prop} (o : Ok g l RX7 cX7_rank 8 3 63 0 V) (rr : ORi cX7_rank V Rt) (h : MH) (x1 : Int32) (l3 : Int64) (x5 : Int32) (x6 : Int32) (x7 : Int32) : T (Sum.elim (fun s => V 53 [(0, rA g 64), (1, .int x1), (3, .long l3), (5, .int x5), (6, .int s.1), (7, .int s.2)] [] h) (fun b => V 97 [(0, rA g 64), (1, .int x1), (3, .long l3), (5, .int x5), (6, .int b)] [] h)) (f_X7_rank_B53  h x1 l3 x5 x6 x7) (V 53 [(0, rA g 64), (1, .int x1), (3, .long l3), (5, .int x5), (6, .int x6), (7, .int x7)] [] h) := by
  unfold f_X7_rank_B53
  refine R_iload o 5 dX7_rank_53 rfl ?_
  refine R_aload_n o 0 dX7_rank_55 rfl rfl ?_
  refine R_getR (a2 := 71) o dX7_rank_56 fl_X7_32 sh_64 (by decide) rfl rf_64_10 ?_
  refine R_iload_n o 1 dX7_rank_59 rfl rfl ?_
  refine R_iald o dX7_rank_60 sh_71 ?_
  refine R_icmp_ge o 97 dX7_rank_61 (by decide) ?_ ?_
  · refine R_iload o 4 dX7_rank_64 rfl ?_
    refine R_aload_n o 0 dX7_rank_66 rfl rfl ?_
    refine R_iload_n o 1 dX7_rank_67 rfl rfl ?_
    refine R_iload o 5 dX7_rank_68 rfl ?_
    refine K_i (callV' (As := [.int x1, .int x7]) (rest := [.int x6]) o dX7_rank_70 lk_X7_147 rfl sh_64 rfl rfl rfl rfl (Nat.le_of_ble_eq_true rfl)) (c_X7_dotAt g l h x1 x7) (fun r70 => ?_)
    refine R_aload_n o 0 dX7_rank_73 rfl rfl ?_
    refine R_iload_n o 1 dX7_rank_74 rfl rfl ?_
    refine R_iload o 3 dX7_rank_75 rfl ?_
    refine K_i (callV' (As := [.int x1, .int x5]) (rest := [.int r70, .int x6]) o dX7_rank_77 lk_X7_147 rfl sh_64 rfl rfl rfl rfl (Nat.le_of_ble_eq_true rfl)) (c_X7_dotAt g l h x1 x5) (fun r77 => ?_)
    refine R_icmp_ge o 87 dX7_rank_80 (by decide) ?_ ?_
    · refine R_iconst (v := 1) o dX7_rank_83 (by decide) ?_
      refine R_goto o 88 dX7_rank_84 (by decide) ?_
      refine R_iadd o dX7_rank_88 ?_
      refine R_nmI (fun v89 => ?_)
      refine R_istore (lv2 := [(0, rA g 64), (1, .int x1), (3, .long l3), (5, .int x5), (6, .int v89), (7, .int x7)]) o dX7_rank_89 (by decide) rfl ?_
      refine R_iinc (v := (x7 + 1)) (lv2 := [(0, rA g 64), (1, .int x1), (3, .long l3), (5, .int x5), (6, .int v89), (7, .int (x7 + 1))]) o 5 dX7_rank_91 rfl rfl (by decide) rfl ?_
      refine R_goto o 53 dX7_rank_94 (by decide) ?_
      exact T_some (fun p => p)
    · refine R_iconst (v := 0) o dX7_rank_87 (by decide) ?_
      refine R_iadd o dX7_rank_88 ?_
      refine R_nmI (fun v89 => ?_)
      refine R_istore (lv2 := [(0, rA g 64), (1, .int x1), (3, .long l3), (5, .int x5), (6, .int v89), (7, .int x7)]) o dX7_rank_89 (by decide) rfl ?_
      refine R_iinc (v := (x7 + 1)) (lv2 := [(0, rA g 64), (1, .int x1), (3, .long l3), (5, .int x5), (6, .int v89), (7, .int (x7 + 1))]) o 5 dX7_rank_91 rfl rfl (by decide) rfl ?_
      refine R_goto o 53 dX7_rank_94 (by decide) ?_
      exact T_some (fun p => p)
  · refine R_drop (lv2 := [(0, rA g 64), (1, .int x1), (3, .long l3), (5, .int x5), (6, .int x6)]) o [0, 1, 2, 3, 4] rfl ?_
    exact T_some (fun p => p)
noncomputable def f_X7_rank_L53 (h : MH) (x1 : Int32) (l3 : Int64) (x5 : Int32) (x6 : Int32) (x7 : Int32) : Option (Int32) :=
  lpo (fun s : Int32 × Int32 => f_X7_rank_B53 h x1 l3 x5 s.1 s.2) (x6, x7)
theorem t_X7_rank_L53 {g : Gx} {l : Launch} {V : VT} {Rt : Option Value → MH → Prop} (o : Ok g l RX7 cX7_rank 8 3 63 0 V) (rr : ORi cX7_rank V Rt) (h : MH) (x1 : Int32) (l3 : Int64) (x5 : Int32) (x6 : Int32) (x7 : Int32) : T (fun b => V 97 [(0, rA g 64), (1, .int x1), (3, .long l3), (5, .int x5), (6, .int b)] [] h) (f_X7_rank_L53 h x1 l3 x5 x6 x7) (V 53 [(0, rA g 64), (1, .int x1), (3, .long l3), (5, .int x5), (6, .int x6), (7, .int x7)] [] h) := T_loop (head := fun s : Int32 × Int32 => V 53 [(0, rA g 64), (1, .int x1), (3, .long l3), (5, .int x5), (6, .int s.1), (7, .int s.2)] [] h) (fun s => t_X7_rank_B53 o rr h x1 l3 x5 s.1 s.2 ) (x6, x7)
noncomputable def f_X7_rank_B33 (h : MH) (x1 : Int32) (l3 : Int64) (x5 : Int32) : Option ((Int64 × Int32) ⊕ (Int64)) :=
  gd (ix x1 6) ((if x5 < (h.1 71 x1.toNatClampNeg) then nm (x5 + 1) (fun v51 => Option.bind (f_X7_rank_L53 h x1 l3 x5 0 v51) (fun b53 => gd (ix x1 6) (nm (lrm ((l3 * (Int32.toInt64 ((h.1 71 x1.toNatClampNeg) - x5))) + (Int32.toInt64 b53)) 1000003) (fun v117 => some (.inl (v117, (x5 + 1))))))) else some (.inr l3)))
set_option maxRecDepth 100000 in
set_option maxHeartbeats 4000000 in
theorem t_X7_rank_B33 {g : Gx} {l : Launch} {V : VT} {Rt : Option Value → MH → Prop} (o : Ok g l RX7 cX7_rank 8 3 63 0 V) (rr : ORi cX7_rank V Rt) (h : MH) (x1 : Int32) (l3 : Int64) (x5 : Int32) : T (Sum.elim (fun s => V 33 [(0, rA g 64), (1, .int x1), (3, .long s.1), (5, .int s.2)] [] h) (fun b => V 124 [(3, .long b)] [] h)) (f_X7_rank_B33  h x1 l3 x5) (V 33 [(0, rA g 64), (1, .int x1), (3, .long l3), (5, .int x5)] [] h) := by
  unfold f_X7_rank_B33
  refine R_iload o 3 dX7_rank_33 rfl ?_
  refine R_aload_n o 0 dX7_rank_35 rfl rfl ?_
  refine R_getR (a2 := 71) o dX7_rank_36 fl_X7_32 sh_64 (by decide) rfl rf_64_10 ?_
  refine R_iload_n o 1 dX7_rank_39 rfl rfl ?_
  refine R_iald o dX7_rank_40 sh_71 ?_
  refine R_icmp_ge o 124 dX7_rank_41 (by decide) ?_ ?_
  · refine R_iconst (v := 0) o dX7_rank_44 (by decide) ?_
    refine R_istore (lv2 := [(0, rA g 64), (1, .int x1), (3, .long l3), (5, .int x5), (6, .int 0)]) o dX7_rank_45 (by decide) rfl ?_
    refine R_iload o 3 dX7_rank_47 rfl ?_
    refine R_iconst (v := 1) o dX7_rank_49 (by decide) ?_
    refine R_iadd o dX7_rank_50 ?_
    refine R_nmI (fun v51 => ?_)
    refine R_istore (lv2 := [(0, rA g 64), (1, .int x1), (3, .long l3), (5, .int x5), (6, .int 0), (7, .int v51)]) o dX7_rank_51 (by decide) rfl ?_
    refine T_bind (t_X7_rank_L53 o rr h x1 l3 x5 0 v51) (fun b53 => ?_)
    refine R_lload_n o 2 dX7_rank_97 rfl rfl ?_
    refine R_aload_n o 0 dX7_rank_98 rfl rfl ?_
    refine R_getR (a2 := 71) o dX7_rank_99 fl_X7_32 sh_64 (by decide) rfl rf_64_10 ?_
    refine R_iload_n o 1 dX7_rank_102 rfl rfl ?_
    refine R_iald o dX7_rank_103 sh_71 ?_
    refine R_iload o 3 dX7_rank_104 rfl ?_
    refine R_isub o dX7_rank_106 ?_
    refine R_i2l o dX7_rank_107 ?_
    refine R_lmul o dX7_rank_108 ?_
    refine R_iload o 4 dX7_rank_109 rfl ?_
    refine R_i2l o dX7_rank_111 ?_
    refine R_ladd o dX7_rank_112 ?_
    refine R_ldc2 (v := 1000003) o dX7_rank_113 kc_X7_260 ?_
    refine R_lrem_c o dX7_rank_116 (by decide) ?_
    refine R_nmL (fun v117 => ?_)
    refine R_lstore_n (lv2 := [(0, rA g 64), (1, .int x1), (3, .long v117), (5, .int x5), (6, .int b53)]) o dX7_rank_117 rfl (by decide) rfl ?_
    refine R_iinc (v := (x5 + 1)) (lv2 := [(0, rA g 64), (1, .int x1), (3, .long v117), (5, .int (x5 + 1)), (6, .int b53)]) o 3 dX7_rank_118 rfl rfl (by decide) rfl ?_
    refine R_goto o 33 dX7_rank_121 (by decide) ?_
    refine R_drop (lv2 := [(0, rA g 64), (1, .int x1), (3, .long v117), (5, .int (x5 + 1))]) o [0, 1, 2, 3] rfl ?_
    exact T_some (fun p => p)
  · refine R_drop (lv2 := [(3, .long l3)]) o [2] rfl ?_
    exact T_some (fun p => p)
noncomputable def f_X7_rank_L33 (h : MH) (x1 : Int32) (l3 : Int64) (x5 : Int32) : Option (Int64) :=
  lpo (fun s : Int64 × Int32 => f_X7_rank_B33 h x1 s.1 s.2) (l3, x5)
theorem t_X7_rank_L33 {g : Gx} {l : Launch} {V : VT} {Rt : Option Value → MH → Prop} (o : Ok g l RX7 cX7_rank 8 3 63 0 V) (rr : ORi cX7_rank V Rt) (h : MH) (x1 : Int32) (l3 : Int64) (x5 : Int32) : T (fun b => V 124 [(3, .long b)] [] h) (f_X7_rank_L33 h x1 l3 x5) (V 33 [(0, rA g 64), (1, .int x1), (3, .long l3), (5, .int x5)] [] h) := T_loop (head := fun s : Int64 × Int32 => V 33 [(0, rA g 64), (1, .int x1), (3, .long s.1), (5, .int s.2)] [] h) (fun s => t_X7_rank_B33 o rr h x1 s.1 s.2 ) (l3, x5)
noncomputable def f_X7_rank (h : MH) (x1 : Int32) : Option (Int32 × MH) :=
  bnd2 (f_X7_askedCover h x1) (fun r2 h2 => (if r2 < 0 then some (r2, h2) else gd (ix x1 6) ((if (h2.1 72 x1.toNatClampNeg) = 4 then Option.bind (f_X7_rank_L33 h2 x1 0 0) (fun b33 => some ((Int64.toInt32 b33), h2)) else bnd2 (f_X7_meets h2 3) (fun r24 h24 => some (r24, h24))))))
set_option maxRecDepth 100000 in
set_option maxHeartbeats 4000000 in
theorem b_X7_rank {g : Gx} {l : Launch} {V : VT} {Rt : Option Value → MH → Prop} (o : Ok g l RX7 cX7_rank 8 3 63 0 V) (rr : ORi cX7_rank V Rt) (h : MH) (x1 : Int32) : T (fun r => Rt (some (.int r.1)) r.2) (f_X7_rank h x1) (V 0 [(0, rA g 64), (1, .int x1)] [] h) := by
  unfold f_X7_rank
  refine R_aload_n o 0 dX7_rank_0 rfl rfl ?_
  refine R_iload_n o 1 dX7_rank_1 rfl rfl ?_
  refine K_ih (callV' (As := [.int x1]) (rest := []) o dX7_rank_2 lk_X7_138 rfl sh_64 rfl rfl rfl rfl (Nat.le_of_ble_eq_true rfl)) (c_X7_askedCover g l h x1) (fun r2 h2 => ?_)
  refine R_istore_n (lv2 := [(0, rA g 64), (1, .int x1), (2, .int r2)]) o dX7_rank_5 rfl (by decide) rfl ?_
  refine R_iload_n o 2 dX7_rank_6 rfl rfl ?_
  refine R_if_ge o 12 dX7_rank_7 (by decide) ?_ ?_
  · refine R_iload_n o 2 dX7_rank_10 rfl rfl ?_
    exact T_some (fun p => rr _ _ _ _ dX7_rank_11 p)
  · refine R_aload_n o 0 dX7_rank_12 rfl rfl ?_
    refine R_getR (a2 := 72) o dX7_rank_13 fl_X7_35 sh_64 (by decide) rfl rf_64_11 ?_
    refine R_iload_n o 1 dX7_rank_16 rfl rfl ?_
    refine R_iald o dX7_rank_17 sh_72 ?_
    refine R_iconst (v := 4) o dX7_rank_18 (by decide) ?_
    refine R_icmp_eq o 28 dX7_rank_19 (by decide) ?_ ?_
    · refine R_lconst (v := 0) o dX7_rank_28 (by decide) ?_
      refine R_lstore_n (lv2 := [(0, rA g 64), (1, .int x1), (2, .int r2), (3, .long 0)]) o dX7_rank_29 rfl (by decide) rfl ?_
      refine R_iconst (v := 0) o dX7_rank_30 (by decide) ?_
      refine R_istore (lv2 := [(0, rA g 64), (1, .int x1), (2, .int r2), (3, .long 0), (5, .int 0)]) o dX7_rank_31 (by decide) rfl ?_
      refine R_drop (lv2 := [(0, rA g 64), (1, .int x1), (3, .long 0), (5, .int 0)]) o [0, 1, 3, 4] rfl ?_
      refine T_bind (t_X7_rank_L33 o rr h2 x1 0 0) (fun b33 => ?_)
      refine R_lload_n o 0 dX7_rank_124 rfl rfl ?_
      refine R_l2i o dX7_rank_125 ?_
      exact T_some (fun p => rr _ _ _ _ dX7_rank_126 p)
    · refine R_aload_n o 0 dX7_rank_22 rfl rfl ?_
      refine R_iconst (v := 3) o dX7_rank_23 (by decide) ?_
      refine K_ih (callV' (As := [.int 3]) (rest := []) o dX7_rank_24 lk_X7_100 rfl sh_64 rfl rfl rfl rfl (Nat.le_of_ble_eq_true rfl)) (c_X7_meets g l h2 3) (fun r24 h24 => ?_)
      exact T_some (fun p => rr _ _ _ _ dX7_rank_27 p)
theorem c_X7_rank (g : Gx) (l : Launch) (h : MH) (x1 : Int32) (r : (Int32 × MH)) (e : f_X7_rank h x1 = some r) : Ctr g l yX7_rank cX7_rank 8 (some .int) 3 63 0 [rA g 64, .int x1] h (some (.int r.1)) r.2 := mkCi (plainFor_of_name (by decide)) (Nat.le_of_ble_eq_true rfl) (fun V Rt o rr p => b_X7_rank o rr h x1  r e p)
/-! X7_dotsInto -/
noncomputable def f_X7_dotsInto_B14 (h : MH) (x1 : Int32) (x2 : Int32) (x3 : Int32) (x4 : Int32) : Option ((Int32 × Int32 × MH) ⊕ (Int32 × MH)) :=
  gd (ix x1 6) ((if x4 < (h.1 71 x1.toNatClampNeg) then Option.bind (f_X7_dotAt h x1 x4) (fun r29 => (if r29 = x3 then gd (ix x2 40) (nm (uI h 68 x2.toNatClampNeg x3) (fun h42 => some (.inl ((x2 + 1), (x4 + 1), h42)))) else some (.inl (x2, (x4 + 1), h)))) else some (.inr (x2, h))))
set_option maxRecDepth 100000 in
set_option maxHeartbeats 4000000 in
theorem t_X7_dotsInto_B14 {g : Gx} {l : Launch} {V : VT} {Rt : Option Value → MH → Prop} (o : Ok g l RX7 cX7_dotsInto 5 1 22 0 V) (rr : ORi cX7_dotsInto V Rt) (h : MH) (x1 : Int32) (x2 : Int32) (x3 : Int32) (x4 : Int32) : T (Sum.elim (fun s => V 14 [(0, rA g 64), (1, .int x1), (2, .int s.1), (3, .int x3), (4, .int s.2.1)] [] s.2.2) (fun b => V 52 [(0, rA g 64), (1, .int x1), (2, .int b.1), (3, .int x3)] [] b.2)) (f_X7_dotsInto_B14  h x1 x2 x3 x4) (V 14 [(0, rA g 64), (1, .int x1), (2, .int x2), (3, .int x3), (4, .int x4)] [] h) := by
  unfold f_X7_dotsInto_B14
  refine R_iload o 4 dX7_dotsInto_14 rfl ?_
  refine R_aload_n o 0 dX7_dotsInto_16 rfl rfl ?_
  refine R_getR (a2 := 71) o dX7_dotsInto_17 fl_X7_32 sh_64 (by decide) rfl rf_64_10 ?_
  refine R_iload_n o 1 dX7_dotsInto_20 rfl rfl ?_
  refine R_iald o dX7_dotsInto_21 sh_71 ?_
  refine R_icmp_ge o 52 dX7_dotsInto_22 (by decide) ?_ ?_
  · refine R_aload_n o 0 dX7_dotsInto_25 rfl rfl ?_
    refine R_iload_n o 1 dX7_dotsInto_26 rfl rfl ?_
    refine R_iload o 4 dX7_dotsInto_27 rfl ?_
    refine K_i (callV' (As := [.int x1, .int x4]) (rest := []) o dX7_dotsInto_29 lk_X7_147 rfl sh_64 rfl rfl rfl rfl (Nat.le_of_ble_eq_true rfl)) (c_X7_dotAt g l h x1 x4) (fun r29 => ?_)
    refine R_iload_n o 3 dX7_dotsInto_32 rfl rfl ?_
    refine R_icmp_ne o 46 dX7_dotsInto_33 (by decide) ?_ ?_
    · refine R_aload_n o 0 dX7_dotsInto_36 rfl rfl ?_
      refine R_getR (a2 := 68) o dX7_dotsInto_37 fl_X7_23 sh_64 (by decide) rfl rf_64_7 ?_
      refine R_iload_n o 2 dX7_dotsInto_40 rfl rfl ?_
      refine R_iload_n o 3 dX7_dotsInto_41 rfl rfl ?_
      refine R_iast o dX7_dotsInto_42 sh_68 ?_
      refine R_nmH (fun h42 => ?_)
      refine R_iinc (v := (x2 + 1)) (lv2 := [(0, rA g 64), (1, .int x1), (2, .int (x2 + 1)), (3, .int x3), (4, .int x4)]) o 2 dX7_dotsInto_43 rfl rfl (by decide) rfl ?_
      refine R_iinc (v := (x4 + 1)) (lv2 := [(0, rA g 64), (1, .int x1), (2, .int (x2 + 1)), (3, .int x3), (4, .int (x4 + 1))]) o 4 dX7_dotsInto_46 rfl rfl (by decide) rfl ?_
      refine R_goto o 14 dX7_dotsInto_49 (by decide) ?_
      exact T_some (fun p => p)
    · refine R_iinc (v := (x4 + 1)) (lv2 := [(0, rA g 64), (1, .int x1), (2, .int x2), (3, .int x3), (4, .int (x4 + 1))]) o 4 dX7_dotsInto_46 rfl rfl (by decide) rfl ?_
      refine R_goto o 14 dX7_dotsInto_49 (by decide) ?_
      exact T_some (fun p => p)
  · refine R_drop (lv2 := [(0, rA g 64), (1, .int x1), (2, .int x2), (3, .int x3)]) o [0, 1, 2, 3] rfl ?_
    exact T_some (fun p => p)
noncomputable def f_X7_dotsInto_L14 (h : MH) (x1 : Int32) (x2 : Int32) (x3 : Int32) (x4 : Int32) : Option (Int32 × MH) :=
  lpo (fun s : Int32 × Int32 × MH => f_X7_dotsInto_B14 s.2.2 x1 s.1 x3 s.2.1) (x2, x4, h)
theorem t_X7_dotsInto_L14 {g : Gx} {l : Launch} {V : VT} {Rt : Option Value → MH → Prop} (o : Ok g l RX7 cX7_dotsInto 5 1 22 0 V) (rr : ORi cX7_dotsInto V Rt) (h : MH) (x1 : Int32) (x2 : Int32) (x3 : Int32) (x4 : Int32) : T (fun b => V 52 [(0, rA g 64), (1, .int x1), (2, .int b.1), (3, .int x3)] [] b.2) (f_X7_dotsInto_L14 h x1 x2 x3 x4) (V 14 [(0, rA g 64), (1, .int x1), (2, .int x2), (3, .int x3), (4, .int x4)] [] h) := T_loop (head := fun s : Int32 × Int32 × MH => V 14 [(0, rA g 64), (1, .int x1), (2, .int s.1), (3, .int x3), (4, .int s.2.1)] [] s.2.2) (fun s => t_X7_dotsInto_B14 o rr s.2.2 x1 s.1 x3 s.2.1 ) (x2, x4, h)
noncomputable def f_X7_dotsInto_B4 (h : MH) (x1 : Int32) (x2 : Int32) (x3 : Int32) : Option ((Int32 × Int32 × MH) ⊕ (MH)) :=
  (if x3 < 256 then Option.bind (f_X7_dotsInto_L14 h x1 x2 x3 0) (fun b14 => some (.inl (b14.1, (x3 + 1), b14.2))) else some (.inr h))
set_option maxRecDepth 100000 in
set_option maxHeartbeats 4000000 in
theorem t_X7_dotsInto_B4 {g : Gx} {l : Launch} {V : VT} {Rt : Option Value → MH → Prop} (o : Ok g l RX7 cX7_dotsInto 5 1 22 0 V) (rr : ORi cX7_dotsInto V Rt) (h : MH) (x1 : Int32) (x2 : Int32) (x3 : Int32) : T (Sum.elim (fun s => V 4 [(0, rA g 64), (1, .int x1), (2, .int s.1), (3, .int s.2.1)] [] s.2.2) (fun b => V 58 [] [] b)) (f_X7_dotsInto_B4  h x1 x2 x3) (V 4 [(0, rA g 64), (1, .int x1), (2, .int x2), (3, .int x3)] [] h) := by
  unfold f_X7_dotsInto_B4
  refine R_iload_n o 3 dX7_dotsInto_4 rfl rfl ?_
  refine R_sipush (v := 256) o dX7_dotsInto_5 (by decide) ?_
  refine R_icmp_ge o 58 dX7_dotsInto_8 (by decide) ?_ ?_
  · refine R_iconst (v := 0) o dX7_dotsInto_11 (by decide) ?_
    refine R_istore (lv2 := [(0, rA g 64), (1, .int x1), (2, .int x2), (3, .int x3), (4, .int 0)]) o dX7_dotsInto_12 (by decide) rfl ?_
    refine T_bind (t_X7_dotsInto_L14 o rr h x1 x2 x3 0) (fun b14 => ?_)
    refine R_iinc (v := (x3 + 1)) (lv2 := [(0, rA g 64), (1, .int x1), (2, .int b14.1), (3, .int (x3 + 1))]) o 3 dX7_dotsInto_52 rfl rfl (by decide) rfl ?_
    refine R_goto o 4 dX7_dotsInto_55 (by decide) ?_
    exact T_some (fun p => p)
  · refine R_drop (lv2 := []) o [] rfl ?_
    exact T_some (fun p => p)
noncomputable def f_X7_dotsInto_L4 (h : MH) (x1 : Int32) (x2 : Int32) (x3 : Int32) : Option (MH) :=
  lpo (fun s : Int32 × Int32 × MH => f_X7_dotsInto_B4 s.2.2 x1 s.1 s.2.1) (x2, x3, h)
theorem t_X7_dotsInto_L4 {g : Gx} {l : Launch} {V : VT} {Rt : Option Value → MH → Prop} (o : Ok g l RX7 cX7_dotsInto 5 1 22 0 V) (rr : ORi cX7_dotsInto V Rt) (h : MH) (x1 : Int32) (x2 : Int32) (x3 : Int32) : T (fun b => V 58 [] [] b) (f_X7_dotsInto_L4 h x1 x2 x3) (V 4 [(0, rA g 64), (1, .int x1), (2, .int x2), (3, .int x3)] [] h) := T_loop (head := fun s : Int32 × Int32 × MH => V 4 [(0, rA g 64), (1, .int x1), (2, .int s.1), (3, .int s.2.1)] [] s.2.2) (fun s => t_X7_dotsInto_B4 o rr s.2.2 x1 s.1 s.2.1 ) (x2, x3, h)
noncomputable def f_X7_dotsInto (h : MH) (x1 : Int32) : Option (Int32 × MH) :=
  Option.bind (f_X7_dotsInto_L4 h x1 0 0) (fun b4 => some (1, b4))
set_option maxRecDepth 100000 in
set_option maxHeartbeats 4000000 in
theorem b_X7_dotsInto {g : Gx} {l : Launch} {V : VT} {Rt : Option Value → MH → Prop} (o : Ok g l RX7 cX7_dotsInto 5 1 22 0 V) (rr : ORi cX7_dotsInto V Rt) (h : MH) (x1 : Int32) : T (fun r => Rt (some (.int r.1)) r.2) (f_X7_dotsInto h x1) (V 0 [(0, rA g 64), (1, .int x1)] [] h) := by
  unfold f_X7_dotsInto
  refine R_iconst (v := 0) o dX7_dotsInto_0 (by decide) ?_
  refine R_istore_n (lv2 := [(0, rA g 64), (1, .int x1), (2, .int 0)]) o dX7_dotsInto_1 rfl (by decide) rfl ?_
  refine R_iconst (v := 0) o dX7_dotsInto_2 (by decide) ?_
  refine R_istore_n (lv2 := [(0, rA g 64), (1, .int x1), (2, .int 0), (3, .int 0)]) o dX7_dotsInto_3 rfl (by decide) rfl ?_
  refine T_bind (t_X7_dotsInto_L4 o rr h x1 0 0) (fun b4 => ?_)
  refine R_iconst (v := 1) o dX7_dotsInto_58 (by decide) ?_
  exact T_some (fun p => rr _ _ _ _ dX7_dotsInto_59 p)
theorem c_X7_dotsInto (g : Gx) (l : Launch) (h : MH) (x1 : Int32) (r : (Int32 × MH)) (e : f_X7_dotsInto h x1 = some r) : Ctr g l yX7_dotsInto cX7_dotsInto 5 (some .int) 1 22 0 [rA g 64, .int x1] h (some (.int r.1)) r.2 := mkCi (plainFor_of_name (by decide)) (Nat.le_of_ble_eq_true rfl) (fun V Rt o rr p => b_X7_dotsInto o rr h x1  r e p)
/-! X7_arrange -/
noncomputable def f_X7_arrange_B58 (h : MH) (x1 : Int32) (x2 : Int32) (x4 : Int32) (x5 : Int32) (x6 : Int32) : Option ((Int32 × Int32) ⊕ (Int32)) :=
  (if x4 < x6 then some (.inr x5) else nm (x5 * x6) (fun v70 => some (.inl (v70, (x6 + 1)))))
set_option maxRecDepth 100000 in
set_option maxHeartbeats 4000000 in
theorem t_X7_arrange_B58 {g : Gx} {l : Launch} {V : VT} {Rt : Option Value → MH → Prop} (o : Ok g l RX7 cX7_arrange 11 3 63 0 V) (rr : ORi cX7_arrange V Rt) (h : MH) (x1 : Int32) (x2 : Int32) (x4 : Int32) (x5 : Int32) (x6 : Int32) : T (Sum.elim (fun s => V 58 [(0, rA g 64), (1, .int x1), (2, .int x2), (4, .int x4), (5, .int s.1), (6, .int s.2)] [] h) (fun b => V 78 [(0, rA g 64), (1, .int x1), (2, .int x2), (4, .int x4), (5, .int b)] [] h)) (f_X7_arrange_B58  h x1 x2 x4 x5 x6) (V 58 [(0, rA g 64), (1, .int x1), (2, .int x2), (4, .int x4), (5, .int x5), (6, .int x6)] [] h) := by
  unfold f_X7_arrange_B58
  refine R_iload o 5 dX7_arrange_58 rfl ?_
  refine R_iload o 3 dX7_arrange_60 rfl ?_
  refine R_icmp_gt o 78 dX7_arrange_62 (by decide) ?_ ?_
  · refine R_drop (lv2 := [(0, rA g 64), (1, .int x1), (2, .int x2), (4, .int x4), (5, .int x5)]) o [0, 1, 2, 3, 4] rfl ?_
    exact T_some (fun p => p)
  · refine R_iload o 4 dX7_arrange_65 rfl ?_
    refine R_iload o 5 dX7_arrange_67 rfl ?_
    refine R_imul o dX7_arrange_69 ?_
    refine R_nmI (fun v70 => ?_)
    refine R_istore (lv2 := [(0, rA g 64), (1, .int x1), (2, .int x2), (4, .int x4), (5, .int v70), (6, .int x6)]) o dX7_arrange_70 (by decide) rfl ?_
    refine R_iinc (v := (x6 + 1)) (lv2 := [(0, rA g 64), (1, .int x1), (2, .int x2), (4, .int x4), (5, .int v70), (6, .int (x6 + 1))]) o 5 dX7_arrange_72 rfl rfl (by decide) rfl ?_
    refine R_goto o 58 dX7_arrange_75 (by decide) ?_
    exact T_some (fun p => p)
noncomputable def f_X7_arrange_L58 (h : MH) (x1 : Int32) (x2 : Int32) (x4 : Int32) (x5 : Int32) (x6 : Int32) : Option (Int32) :=
  lpo (fun s : Int32 × Int32 => f_X7_arrange_B58 h x1 x2 x4 s.1 s.2) (x5, x6)
theorem t_X7_arrange_L58 {g : Gx} {l : Launch} {V : VT} {Rt : Option Value → MH → Prop} (o : Ok g l RX7 cX7_arrange 11 3 63 0 V) (rr : ORi cX7_arrange V Rt) (h : MH) (x1 : Int32) (x2 : Int32) (x4 : Int32) (x5 : Int32) (x6 : Int32) : T (fun b => V 78 [(0, rA g 64), (1, .int x1), (2, .int x2), (4, .int x4), (5, .int b)] [] h) (f_X7_arrange_L58 h x1 x2 x4 x5 x6) (V 58 [(0, rA g 64), (1, .int x1), (2, .int x2), (4, .int x4), (5, .int x5), (6, .int x6)] [] h) := T_loop (head := fun s : Int32 × Int32 => V 58 [(0, rA g 64), (1, .int x1), (2, .int x2), (4, .int x4), (5, .int s.1), (6, .int s.2)] [] h) (fun s => t_X7_arrange_B58 o rr h x1 x2 x4 s.1 s.2 ) (x5, x6)
noncomputable def f_X7_arrange_B157 (h : MH) (x1 : Int32) (x4 : Int32) (x5 : Int32) (x6 : Int32) (x7 : Int32) (x8 : Int32) (x10 : Int32) : Option ((Int32 × MH) ⊕ (MH)) :=
  (if x10 < ((x4 - 1) - x8) then gd (ix (x10 + 1) 40) (gd (ix x10 40) (nm (uI h 68 x10.toNatClampNeg (h.1 68 (x10 + 1).toNatClampNeg)) (fun h184 => some (.inl ((x10 + 1), h184))))) else some (.inr h))
set_option maxRecDepth 100000 in
set_option maxHeartbeats 4000000 in
theorem t_X7_arrange_B157 {g : Gx} {l : Launch} {V : VT} {Rt : Option Value → MH → Prop} (o : Ok g l RX7 cX7_arrange 11 3 63 0 V) (rr : ORi cX7_arrange V Rt) (h : MH) (x1 : Int32) (x4 : Int32) (x5 : Int32) (x6 : Int32) (x7 : Int32) (x8 : Int32) (x10 : Int32) : T (Sum.elim (fun s => V 157 [(0, rA g 64), (1, .int x1), (4, .int x4), (5, .int x5), (6, .int x6), (7, .int x7), (8, .int x8), (10, .int s.1)] [] s.2) (fun b => V 191 [(0, rA g 64), (1, .int x1), (4, .int x4), (5, .int x5), (6, .int x6), (7, .int x7), (8, .int x8)] [] b)) (f_X7_arrange_B157  h x1 x4 x5 x6 x7 x8 x10) (V 157 [(0, rA g 64), (1, .int x1), (4, .int x4), (5, .int x5), (6, .int x6), (7, .int x7), (8, .int x8), (10, .int x10)] [] h) := by
  unfold f_X7_arrange_B157
  refine R_iload o 7 dX7_arrange_157 rfl ?_
  refine R_iload o 2 dX7_arrange_159 rfl ?_
  refine R_iconst (v := 1) o dX7_arrange_161 (by decide) ?_
  refine R_isub o dX7_arrange_162 ?_
  refine R_iload o 6 dX7_arrange_163 rfl ?_
  refine R_isub o dX7_arrange_165 ?_
  refine R_icmp_ge o 191 dX7_arrange_166 (by decide) ?_ ?_
  · refine R_aload_n o 0 dX7_arrange_169 rfl rfl ?_
    refine R_getR (a2 := 68) o dX7_arrange_170 fl_X7_23 sh_64 (by decide) rfl rf_64_7 ?_
    refine R_iload o 7 dX7_arrange_173 rfl ?_
    refine R_aload_n o 0 dX7_arrange_175 rfl rfl ?_
    refine R_getR (a2 := 68) o dX7_arrange_176 fl_X7_23 sh_64 (by decide) rfl rf_64_7 ?_
    refine R_iload o 7 dX7_arrange_179 rfl ?_
    refine R_iconst (v := 1) o dX7_arrange_181 (by decide) ?_
    refine R_iadd o dX7_arrange_182 ?_
    refine R_iald o dX7_arrange_183 sh_68 ?_
    refine R_iast o dX7_arrange_184 sh_68 ?_
    refine R_nmH (fun h184 => ?_)
    refine R_iinc (v := (x10 + 1)) (lv2 := [(0, rA g 64), (1, .int x1), (4, .int x4), (5, .int x5), (6, .int x6), (7, .int x7), (8, .int x8), (10, .int (x10 + 1))]) o 7 dX7_arrange_185 rfl rfl (by decide) rfl ?_
    refine R_goto o 157 dX7_arrange_188 (by decide) ?_
    exact T_some (fun p => p)
  · refine R_drop (lv2 := [(0, rA g 64), (1, .int x1), (4, .int x4), (5, .int x5), (6, .int x6), (7, .int x7), (8, .int x8)]) o [0, 1, 2, 3, 4, 5, 6] rfl ?_
    exact T_some (fun p => p)
noncomputable def f_X7_arrange_L157 (h : MH) (x1 : Int32) (x4 : Int32) (x5 : Int32) (x6 : Int32) (x7 : Int32) (x8 : Int32) (x10 : Int32) : Option (MH) :=
  lpo (fun s : Int32 × MH => f_X7_arrange_B157 s.2 x1 x4 x5 x6 x7 x8 s.1) (x10, h)
theorem t_X7_arrange_L157 {g : Gx} {l : Launch} {V : VT} {Rt : Option Value → MH → Prop} (o : Ok g l RX7 cX7_arrange 11 3 63 0 V) (rr : ORi cX7_arrange V Rt) (h : MH) (x1 : Int32) (x4 : Int32) (x5 : Int32) (x6 : Int32) (x7 : Int32) (x8 : Int32) (x10 : Int32) : T (fun b => V 191 [(0, rA g 64), (1, .int x1), (4, .int x4), (5, .int x5), (6, .int x6), (7, .int x7), (8, .int x8)] [] b) (f_X7_arrange_L157 h x1 x4 x5 x6 x7 x8 x10) (V 157 [(0, rA g 64), (1, .int x1), (4, .int x4), (5, .int x5), (6, .int x6), (7, .int x7), (8, .int x8), (10, .int x10)] [] h) := T_loop (head := fun s : Int32 × MH => V 157 [(0, rA g 64), (1, .int x1), (4, .int x4), (5, .int x5), (6, .int x6), (7, .int x7), (8, .int x8), (10, .int s.1)] [] s.2) (fun s => t_X7_arrange_B157 o rr s.2 x1 x4 x5 x6 x7 x8 s.1 ) (x10, h)
noncomputable def f_X7_arrange_B103 (h : MH) (x1 : Int32) (x4 : Int32) (x5 : Int32) (x6 : Int32) (x7 : Int32) (x8 : Int32) : Option ((Int32 × Int32 × Int32 × MH) ⊕ (MH)) :=
  (if x8 < x4 then gd (nz (x4 - x8)) (nm (x5 / (x4 - x8)) (fun v118 => gd (nz v118) (nm (x7 / v118) (fun v125 => gd (nz v118) (nm (irm x7 v118) (fun v132 => gd (ix v125 40) (gd (ix ((40 * x1) + x8) 240) (nm (uI h 73 ((40 * x1) + x8).toNatClampNeg (h.1 68 v125.toNatClampNeg)) (fun h152 => Option.bind (f_X7_arrange_L157 h152 x1 x4 v118 x6 v132 x8 v125) (fun b157 => some (.inl (v118, v132, (x8 + 1), b157)))))))))))) else some (.inr h))
set_option maxRecDepth 100000 in
set_option maxHeartbeats 4000000 in
theorem t_X7_arrange_B103 {g : Gx} {l : Launch} {V : VT} {Rt : Option Value → MH → Prop} (o : Ok g l RX7 cX7_arrange 11 3 63 0 V) (rr : ORi cX7_arrange V Rt) (h : MH) (x1 : Int32) (x4 : Int32) (x5 : Int32) (x6 : Int32) (x7 : Int32) (x8 : Int32) : T (Sum.elim (fun s => V 103 [(0, rA g 64), (1, .int x1), (4, .int x4), (5, .int s.1), (6, .int x6), (7, .int s.2.1), (8, .int s.2.2.1)] [] s.2.2.2) (fun b => V 197 [(6, .int x6)] [] b)) (f_X7_arrange_B103  h x1 x4 x5 x6 x7 x8) (V 103 [(0, rA g 64), (1, .int x1), (4, .int x4), (5, .int x5), (6, .int x6), (7, .int x7), (8, .int x8)] [] h) := by
  unfold f_X7_arrange_B103
  refine R_iload o 6 dX7_arrange_103 rfl ?_
  refine R_iload o 2 dX7_arrange_105 rfl ?_
  refine R_icmp_ge o 197 dX7_arrange_107 (by decide) ?_ ?_
  · refine R_iload o 3 dX7_arrange_110 rfl ?_
    refine R_iload o 2 dX7_arrange_112 rfl ?_
    refine R_iload o 6 dX7_arrange_114 rfl ?_
    refine R_isub o dX7_arrange_116 ?_
    refine R_idiv o dX7_arrange_117 ?_
    refine R_nmI (fun v118 => ?_)
    refine R_istore (lv2 := [(0, rA g 64), (1, .int x1), (4, .int x4), (5, .int v118), (6, .int x6), (7, .int x7), (8, .int x8)]) o dX7_arrange_118 (by decide) rfl ?_
    refine R_iload o 5 dX7_arrange_120 rfl ?_
    refine R_iload o 3 dX7_arrange_122 rfl ?_
    refine R_idiv o dX7_arrange_124 ?_
    refine R_nmI (fun v125 => ?_)
    refine R_istore (lv2 := [(0, rA g 64), (1, .int x1), (4, .int x4), (5, .int v118), (6, .int x6), (7, .int x7), (8, .int x8), (9, .int v125)]) o dX7_arrange_125 (by decide) rfl ?_
    refine R_iload o 5 dX7_arrange_127 rfl ?_
    refine R_iload o 3 dX7_arrange_129 rfl ?_
    refine R_irem o dX7_arrange_131 ?_
    refine R_nmI (fun v132 => ?_)
    refine R_istore (lv2 := [(0, rA g 64), (1, .int x1), (4, .int x4), (5, .int v118), (6, .int x6), (7, .int v132), (8, .int x8), (9, .int v125)]) o dX7_arrange_132 (by decide) rfl ?_
    refine R_aload_n o 0 dX7_arrange_134 rfl rfl ?_
    refine R_getR (a2 := 73) o dX7_arrange_135 fl_X7_38 sh_64 (by decide) rfl rf_64_12 ?_
    refine R_bipush (v := 40) o dX7_arrange_138 (by decide) ?_
    refine R_iload_n o 1 dX7_arrange_140 rfl rfl ?_
    refine R_imul o dX7_arrange_141 ?_
    refine R_iload o 6 dX7_arrange_142 rfl ?_
    refine R_iadd o dX7_arrange_144 ?_
    refine R_aload_n o 0 dX7_arrange_145 rfl rfl ?_
    refine R_getR (a2 := 68) o dX7_arrange_146 fl_X7_23 sh_64 (by decide) rfl rf_64_7 ?_
    refine R_iload o 7 dX7_arrange_149 rfl ?_
    refine R_iald o dX7_arrange_151 sh_68 ?_
    refine R_iast o dX7_arrange_152 sh_73 ?_
    refine R_nmH (fun h152 => ?_)
    refine R_iload o 7 dX7_arrange_153 rfl ?_
    refine R_istore (lv2 := [(0, rA g 64), (1, .int x1), (4, .int x4), (5, .int v118), (6, .int x6), (7, .int v132), (8, .int x8), (9, .int v125), (10, .int v125)]) o dX7_arrange_155 (by decide) rfl ?_
    refine R_drop (lv2 := [(0, rA g 64), (1, .int x1), (4, .int x4), (5, .int v118), (6, .int x6), (7, .int v132), (8, .int x8), (10, .int v125)]) o [0, 1, 2, 3, 4, 5, 6, 8] rfl ?_
    refine T_bind (t_X7_arrange_L157 o rr h152 x1 x4 v118 x6 v132 x8 v125) (fun b157 => ?_)
    refine R_iinc (v := (x8 + 1)) (lv2 := [(0, rA g 64), (1, .int x1), (4, .int x4), (5, .int v118), (6, .int x6), (7, .int v132), (8, .int (x8 + 1))]) o 6 dX7_arrange_191 rfl rfl (by decide) rfl ?_
    refine R_goto o 103 dX7_arrange_194 (by decide) ?_
    exact T_some (fun p => p)
  · refine R_drop (lv2 := [(6, .int x6)]) o [4] rfl ?_
    exact T_some (fun p => p)
noncomputable def f_X7_arrange_L103 (h : MH) (x1 : Int32) (x4 : Int32) (x5 : Int32) (x6 : Int32) (x7 : Int32) (x8 : Int32) : Option (MH) :=
  lpo (fun s : Int32 × Int32 × Int32 × MH => f_X7_arrange_B103 s.2.2.2 x1 x4 s.1 x6 s.2.1 s.2.2.1) (x5, x7, x8, h)
theorem t_X7_arrange_L103 {g : Gx} {l : Launch} {V : VT} {Rt : Option Value → MH → Prop} (o : Ok g l RX7 cX7_arrange 11 3 63 0 V) (rr : ORi cX7_arrange V Rt) (h : MH) (x1 : Int32) (x4 : Int32) (x5 : Int32) (x6 : Int32) (x7 : Int32) (x8 : Int32) : T (fun b => V 197 [(6, .int x6)] [] b) (f_X7_arrange_L103 h x1 x4 x5 x6 x7 x8) (V 103 [(0, rA g 64), (1, .int x1), (4, .int x4), (5, .int x5), (6, .int x6), (7, .int x7), (8, .int x8)] [] h) := T_loop (head := fun s : Int32 × Int32 × Int32 × MH => V 103 [(0, rA g 64), (1, .int x1), (4, .int x4), (5, .int s.1), (6, .int x6), (7, .int s.2.1), (8, .int s.2.2.1)] [] s.2.2.2) (fun s => t_X7_arrange_B103 o rr s.2.2.2 x1 x4 s.1 x6 s.2.1 s.2.2.1 ) (x5, x7, x8, h)
noncomputable def f_X7_arrange (h : MH) (x1 : Int32) (x2 : Int32) : Option (Int32 × MH) :=
  (if x2 < 0 then some ((-1), h) else bnd2 (f_X7_askedCover h x1) (fun r8 h8 => (if r8 < 0 then some (r8, h8) else gd (ix x1 6) ((if (h8.1 72 x1.toNatClampNeg) = 4 then gd (ix x1 6) (nm (h8.1 71 x1.toNatClampNeg) (fun v40 => (if 10 < v40 then some ((-6), h8) else Option.bind (f_X7_arrange_L58 h8 x1 x2 v40 1 2) (fun b58 => (if x2 < b58 then bnd2 (f_X7_dotsInto h8 x1) (fun r92 h92 => Option.bind (f_X7_arrange_L103 h92 x1 v40 b58 r92 x2 0) (fun b103 => some (r92, b103))) else bnd2 (f_X7_meets h8 2) (fun r86 h86 => some (r86, h86))))))) else bnd2 (f_X7_meets h8 3) (fun r30 h30 => some (r30, h30)))))))
set_option maxRecDepth 100000 in
set_option maxHeartbeats 4000000 in
theorem b_X7_arrange {g : Gx} {l : Launch} {V : VT} {Rt : Option Value → MH → Prop} (o : Ok g l RX7 cX7_arrange 11 3 63 0 V) (rr : ORi cX7_arrange V Rt) (h : MH) (x1 : Int32) (x2 : Int32) : T (fun r => Rt (some (.int r.1)) r.2) (f_X7_arrange h x1 x2) (V 0 [(0, rA g 64), (1, .int x1), (2, .int x2)] [] h) := by
  unfold f_X7_arrange
  refine R_iload_n o 2 dX7_arrange_0 rfl rfl ?_
  refine R_if_ge o 6 dX7_arrange_1 (by decide) ?_ ?_
  · refine R_iconst (v := (-1)) o dX7_arrange_4 (by decide) ?_
    exact T_some (fun p => rr _ _ _ _ dX7_arrange_5 p)
  · refine R_aload_n o 0 dX7_arrange_6 rfl rfl ?_
    refine R_iload_n o 1 dX7_arrange_7 rfl rfl ?_
    refine K_ih (callV' (As := [.int x1]) (rest := []) o dX7_arrange_8 lk_X7_138 rfl sh_64 rfl rfl rfl rfl (Nat.le_of_ble_eq_true rfl)) (c_X7_askedCover g l h x1) (fun r8 h8 => ?_)
    refine R_istore_n (lv2 := [(0, rA g 64), (1, .int x1), (2, .int x2), (3, .int r8)]) o dX7_arrange_11 rfl (by decide) rfl ?_
    refine R_iload_n o 3 dX7_arrange_12 rfl rfl ?_
    refine R_if_ge o 18 dX7_arrange_13 (by decide) ?_ ?_
    · refine R_iload_n o 3 dX7_arrange_16 rfl rfl ?_
      exact T_some (fun p => rr _ _ _ _ dX7_arrange_17 p)
    · refine R_aload_n o 0 dX7_arrange_18 rfl rfl ?_
      refine R_getR (a2 := 72) o dX7_arrange_19 fl_X7_35 sh_64 (by decide) rfl rf_64_11 ?_
      refine R_iload_n o 1 dX7_arrange_22 rfl rfl ?_
      refine R_iald o dX7_arrange_23 sh_72 ?_
      refine R_iconst (v := 4) o dX7_arrange_24 (by decide) ?_
      refine R_icmp_eq o 34 dX7_arrange_25 (by decide) ?_ ?_
      · refine R_aload_n o 0 dX7_arrange_34 rfl rfl ?_
        refine R_getR (a2 := 71) o dX7_arrange_35 fl_X7_32 sh_64 (by decide) rfl rf_64_10 ?_
        refine R_iload_n o 1 dX7_arrange_38 rfl rfl ?_
        refine R_iald o dX7_arrange_39 sh_71 ?_
        refine R_nmI (fun v40 => ?_)
        refine R_istore (lv2 := [(0, rA g 64), (1, .int x1), (2, .int x2), (3, .int r8), (4, .int v40)]) o dX7_arrange_40 (by decide) rfl ?_
        refine R_iload o 4 dX7_arrange_42 rfl ?_
        refine R_bipush (v := 10) o dX7_arrange_44 (by decide) ?_
        refine R_icmp_le o 52 dX7_arrange_46 (by decide) ?_ ?_
        · refine R_bipush (v := (-6)) o dX7_arrange_49 (by decide) ?_
          exact T_some (fun p => rr _ _ _ _ dX7_arrange_51 p)
        · refine R_iconst (v := 1) o dX7_arrange_52 (by decide) ?_
          refine R_istore (lv2 := [(0, rA g 64), (1, .int x1), (2, .int x2), (3, .int r8), (4, .int v40), (5, .int 1)]) o dX7_arrange_53 (by decide) rfl ?_
          refine R_iconst (v := 2) o dX7_arrange_55 (by decide) ?_
          refine R_istore (lv2 := [(0, rA g 64), (1, .int x1), (2, .int x2), (3, .int r8), (4, .int v40), (5, .int 1), (6, .int 2)]) o dX7_arrange_56 (by decide) rfl ?_
          refine R_drop (lv2 := [(0, rA g 64), (1, .int x1), (2, .int x2), (4, .int v40), (5, .int 1), (6, .int 2)]) o [0, 1, 2, 4, 5, 6] rfl ?_
          refine T_bind (t_X7_arrange_L58 o rr h8 x1 x2 v40 1 2) (fun b58 => ?_)
          refine R_iload_n o 2 dX7_arrange_78 rfl rfl ?_
          refine R_iload o 4 dX7_arrange_79 rfl ?_
          refine R_icmp_lt o 90 dX7_arrange_81 (by decide) ?_ ?_
          · refine R_aload_n o 0 dX7_arrange_90 rfl rfl ?_
            refine R_iload_n o 1 dX7_arrange_91 rfl rfl ?_
            refine K_ih (callV' (As := [.int x1]) (rest := []) o dX7_arrange_92 lk_X7_262 rfl sh_64 rfl rfl rfl rfl (Nat.le_of_ble_eq_true rfl)) (c_X7_dotsInto g l h8 x1) (fun r92 h92 => ?_)
            refine R_istore (lv2 := [(0, rA g 64), (1, .int x1), (2, .int x2), (4, .int v40), (5, .int b58), (6, .int r92)]) o dX7_arrange_95 (by decide) rfl ?_
            refine R_iload_n o 2 dX7_arrange_97 rfl rfl ?_
            refine R_istore (lv2 := [(0, rA g 64), (1, .int x1), (2, .int x2), (4, .int v40), (5, .int b58), (6, .int r92), (7, .int x2)]) o dX7_arrange_98 (by decide) rfl ?_
            refine R_iconst (v := 0) o dX7_arrange_100 (by decide) ?_
            refine R_istore (lv2 := [(0, rA g 64), (1, .int x1), (2, .int x2), (4, .int v40), (5, .int b58), (6, .int r92), (7, .int x2), (8, .int 0)]) o dX7_arrange_101 (by decide) rfl ?_
            refine R_drop (lv2 := [(0, rA g 64), (1, .int x1), (4, .int v40), (5, .int b58), (6, .int r92), (7, .int x2), (8, .int 0)]) o [0, 1, 3, 4, 5, 6, 7] rfl ?_
            refine T_bind (t_X7_arrange_L103 o rr h92 x1 v40 b58 r92 x2 0) (fun b103 => ?_)
            refine R_iload o 0 dX7_arrange_197 rfl ?_
            exact T_some (fun p => rr _ _ _ _ dX7_arrange_199 p)
          · refine R_aload_n o 0 dX7_arrange_84 rfl rfl ?_
            refine R_iconst (v := 2) o dX7_arrange_85 (by decide) ?_
            refine K_ih (callV' (As := [.int 2]) (rest := []) o dX7_arrange_86 lk_X7_100 rfl sh_64 rfl rfl rfl rfl (Nat.le_of_ble_eq_true rfl)) (c_X7_meets g l h8 2) (fun r86 h86 => ?_)
            exact T_some (fun p => rr _ _ _ _ dX7_arrange_89 p)
      · refine R_aload_n o 0 dX7_arrange_28 rfl rfl ?_
        refine R_iconst (v := 3) o dX7_arrange_29 (by decide) ?_
        refine K_ih (callV' (As := [.int 3]) (rest := []) o dX7_arrange_30 lk_X7_100 rfl sh_64 rfl rfl rfl rfl (Nat.le_of_ble_eq_true rfl)) (c_X7_meets g l h8 3) (fun r30 h30 => ?_)
        exact T_some (fun p => rr _ _ _ _ dX7_arrange_33 p)
theorem c_X7_arrange (g : Gx) (l : Launch) (h : MH) (x1 : Int32) (x2 : Int32) (r : (Int32 × MH)) (e : f_X7_arrange h x1 x2 = some r) : Ctr g l yX7_arrange cX7_arrange 11 (some .int) 3 63 0 [rA g 64, .int x1, .int x2] h (some (.int r.1)) r.2 := mkCi (plainFor_of_name (by decide)) (Nat.le_of_ble_eq_true rfl) (fun V Rt o rr p => b_X7_arrange o rr h x1 x2  r e p)
