/-! X7_dotTells -/
noncomputable def f_X7_dotTells (h : MH) (x1 : Int32) (x2 : Int32) (x3 : Int32) : Option Int32 :=
  sw x3 0 [Option.bind (f_X7_dotAt h x1 x2) (fun r35 => some r35), Option.bind (f_X7_bitOf h x1 x2) (fun r42 => some r42), Option.bind (f_X7_flipped h x1 x2) (fun r49 => some r49), Option.bind (f_X7_priceOf h x1 x2) (fun r56 => some r56)] (Option.bind (f_X7_isWet h x1 x2) (fun r63 => (if r63 = true then some 1 else some 0)))
set_option maxRecDepth 100000 in
set_option maxHeartbeats 4000000 in
theorem b_X7_dotTells {g : Gx} {l : Launch} {V : VT} {Rt : Option Value → MH → Prop} (o : Ok g l RX7 cX7_dotTells 4 2 48 0 V) (rr : ORi cX7_dotTells V Rt) (h : MH) (x1 : Int32) (x2 : Int32) (x3 : Int32) : T (fun r => Rt (some (.int r)) h) (f_X7_dotTells h x1 x2 x3) (V 0 [(0, rA g 64), (1, .int x1), (2, .int x2), (3, .int x3)] [] h) := by
  unfold f_X7_dotTells
  refine R_iload_n o 3 dX7_dotTells_0 rfl rfl ?_
  refine R_tsw (lo0 := 0) (hi0 := 3) (N := 4) o dX7_dotTells_1 rfl (by decide) rfl [32, 39, 46, 53] 60 (by decide +kernel) (by decide) ?_ ?_
  · intro j X tj hX hj
    match j, hX, hj with
    | 0, hX, hj =>
      cases hX
      cases hj
      refine R_aload_n o 0 dX7_dotTells_32 rfl rfl ?_
      refine R_iload_n o 1 dX7_dotTells_33 rfl rfl ?_
      refine R_iload_n o 2 dX7_dotTells_34 rfl rfl ?_
      refine K_i (callV' (As := [.int x1, .int x2]) (rest := []) o dX7_dotTells_35 lk_X7_147 rfl sh_64 rfl rfl rfl rfl (Nat.le_of_ble_eq_true rfl)) (c_X7_dotAt g l h x1 x2) (fun r35 => ?_)
      exact T_some (fun p => rr _ _ _ _ dX7_dotTells_38 p)
    | 1, hX, hj =>
      cases hX
      cases hj
      refine R_aload_n o 0 dX7_dotTells_39 rfl rfl ?_
      refine R_iload_n o 1 dX7_dotTells_40 rfl rfl ?_
      refine R_iload_n o 2 dX7_dotTells_41 rfl rfl ?_
      refine K_i (callV' (As := [.int x1, .int x2]) (rest := []) o dX7_dotTells_42 lk_X7_153 rfl sh_64 rfl rfl rfl rfl (Nat.le_of_ble_eq_true rfl)) (c_X7_bitOf g l h x1 x2) (fun r42 => ?_)
      exact T_some (fun p => rr _ _ _ _ dX7_dotTells_45 p)
    | 2, hX, hj =>
      cases hX
      cases hj
      refine R_aload_n o 0 dX7_dotTells_46 rfl rfl ?_
      refine R_iload_n o 1 dX7_dotTells_47 rfl rfl ?_
      refine R_iload_n o 2 dX7_dotTells_48 rfl rfl ?_
      refine K_i (callV' (As := [.int x1, .int x2]) (rest := []) o dX7_dotTells_49 lk_X7_156 rfl sh_64 rfl rfl rfl rfl (Nat.le_of_ble_eq_true rfl)) (c_X7_flipped g l h x1 x2) (fun r49 => ?_)
      exact T_some (fun p => rr _ _ _ _ dX7_dotTells_52 p)
    | 3, hX, hj =>
      cases hX
      cases hj
      refine R_aload_n o 0 dX7_dotTells_53 rfl rfl ?_
      refine R_iload_n o 1 dX7_dotTells_54 rfl rfl ?_
      refine R_iload_n o 2 dX7_dotTells_55 rfl rfl ?_
      refine K_i (callV' (As := [.int x1, .int x2]) (rest := []) o dX7_dotTells_56 lk_X7_159 rfl sh_64 rfl rfl rfl rfl (Nat.le_of_ble_eq_true rfl)) (c_X7_priceOf g l h x1 x2) (fun r56 => ?_)
      exact T_some (fun p => rr _ _ _ _ dX7_dotTells_59 p)
    | j + 4, hX, _ => simp at hX
  · refine R_aload_n o 0 dX7_dotTells_60 rfl rfl ?_
    refine R_iload_n o 1 dX7_dotTells_61 rfl rfl ?_
    refine R_iload_n o 2 dX7_dotTells_62 rfl rfl ?_
    refine K_z (callV' (As := [.int x1, .int x2]) (rest := []) o dX7_dotTells_63 lk_X7_141 rfl sh_64 rfl rfl rfl rfl (Nat.le_of_ble_eq_true rfl)) (c_X7_isWet g l h x1 x2) (fun r63 => ?_)
    refine R_bif_eq o 73 dX7_dotTells_66 (by decide) ?_ ?_
    · refine R_iconst (v := 1) o dX7_dotTells_69 (by decide) ?_
      refine R_goto o 74 dX7_dotTells_70 (by decide) ?_
      exact T_some (fun p => rr _ _ _ _ dX7_dotTells_74 p)
    · refine R_iconst (v := 0) o dX7_dotTells_73 (by decide) ?_
      exact T_some (fun p => rr _ _ _ _ dX7_dotTells_74 p)
theorem c_X7_dotTells (g : Gx) (l : Launch) (h : MH) (x1 : Int32) (x2 : Int32) (x3 : Int32) (r : Int32) (e : f_X7_dotTells h x1 x2 x3 = some r) : Ctr g l yX7_dotTells cX7_dotTells 4 (some .int) 2 48 0 [rA g 64, .int x1, .int x2, .int x3] h (some (.int r)) h := mkCi (plainFor_of_name (by decide)) (Nat.le_of_ble_eq_true rfl) (fun V Rt o rr p => b_X7_dotTells o rr h x1 x2 x3  r e p)
/-! X7_dot -/
noncomputable def f_X7_dot (h : MH) (x1 : Int32) (x2 : Int32) (x3 : Int32) : Option (Int32 × MH) :=
  Option.bind (f_X7_in x3 0 4) (fun r3 => (if r3 = true then bnd2 (f_X7_askedCover h x1) (fun r13 h13 => (if r13 < 0 then some (r13, h13) else gd (ix x1 6) (Option.bind (f_X7_in x2 0 ((h13.1 71 x1.toNatClampNeg) - 1)) (fun r36 => (if r36 = true then Option.bind (f_X7_dotTells h13 x1 x2 x3) (fun r47 => bnd2 (f_X7_ask h13 r47 1) (fun r51 h51 => some (r51, h51))) else bnd2 (f_X7_meets h13 2) (fun r59 h59 => some (r59, h59))))))) else some ((-1), h)))
set_option maxRecDepth 100000 in
set_option maxHeartbeats 4000000 in
theorem b_X7_dot {g : Gx} {l : Launch} {V : VT} {Rt : Option Value → MH → Prop} (o : Ok g l RX7 cX7_dot 5 3 71 0 V) (rr : ORi cX7_dot V Rt) (h : MH) (x1 : Int32) (x2 : Int32) (x3 : Int32) : T (fun r => Rt (some (.int r.1)) r.2) (f_X7_dot h x1 x2 x3) (V 0 [(0, rA g 64), (1, .int x1), (2, .int x2), (3, .int x3)] [] h) := by
  unfold f_X7_dot
  refine R_iload_n o 3 dX7_dot_0 rfl rfl ?_
  refine R_iconst (v := 0) o dX7_dot_1 (by decide) ?_
  refine R_iconst (v := 4) o dX7_dot_2 (by decide) ?_
  refine K_z (callS' (av := [.int x3, .int 0, .int 4]) (rest := []) o dX7_dot_3 lk_X7_92 rfl rfl rfl (Nat.le_of_ble_eq_true rfl)) (c_X7_in g l h x3 0 4) (fun r3 => ?_)
  refine R_bif_ne o 11 dX7_dot_6 (by decide) ?_ ?_
  · refine R_aload_n o 0 dX7_dot_11 rfl rfl ?_
    refine R_iload_n o 1 dX7_dot_12 rfl rfl ?_
    refine K_ih (callV' (As := [.int x1]) (rest := []) o dX7_dot_13 lk_X7_138 rfl sh_64 rfl rfl rfl rfl (Nat.le_of_ble_eq_true rfl)) (c_X7_askedCover g l h x1) (fun r13 h13 => ?_)
    refine R_istore (lv2 := [(0, rA g 64), (1, .int x1), (2, .int x2), (3, .int x3), (4, .int r13)]) o dX7_dot_16 (by decide) rfl ?_
    refine R_iload o 4 dX7_dot_18 rfl ?_
    refine R_if_ge o 26 dX7_dot_20 (by decide) ?_ ?_
    · refine R_iload o 4 dX7_dot_23 rfl ?_
      exact T_some (fun p => rr _ _ _ _ dX7_dot_25 p)
    · refine R_iload_n o 2 dX7_dot_26 rfl rfl ?_
      refine R_iconst (v := 0) o dX7_dot_27 (by decide) ?_
      refine R_aload_n o 0 dX7_dot_28 rfl rfl ?_
      refine R_getR (a2 := 71) o dX7_dot_29 fl_X7_32 sh_64 (by decide) rfl rf_64_10 ?_
      refine R_iload_n o 1 dX7_dot_32 rfl rfl ?_
      refine R_iald o dX7_dot_33 sh_71 ?_
      refine R_iconst (v := 1) o dX7_dot_34 (by decide) ?_
      refine R_isub o dX7_dot_35 ?_
      refine K_z (callS' (av := [.int x2, .int 0, .int ((h13.1 71 x1.toNatClampNeg) - 1)]) (rest := []) o dX7_dot_36 lk_X7_92 rfl rfl rfl (Nat.le_of_ble_eq_true rfl)) (c_X7_in g l h13 x2 0 ((h13.1 71 x1.toNatClampNeg) - 1)) (fun r36 => ?_)
      refine R_bif_eq o 57 dX7_dot_39 (by decide) ?_ ?_
      · refine R_aload_n o 0 dX7_dot_42 rfl rfl ?_
        refine R_aload_n o 0 dX7_dot_43 rfl rfl ?_
        refine R_iload_n o 1 dX7_dot_44 rfl rfl ?_
        refine R_iload_n o 2 dX7_dot_45 rfl rfl ?_
        refine R_iload_n o 3 dX7_dot_46 rfl rfl ?_
        refine K_i (callV' (As := [.int x1, .int x2, .int x3]) (rest := [rA g 64]) o dX7_dot_47 lk_X7_162 rfl sh_64 rfl rfl rfl rfl (Nat.le_of_ble_eq_true rfl)) (c_X7_dotTells g l h13 x1 x2 x3) (fun r47 => ?_)
        refine R_iconst (v := 1) o dX7_dot_50 (by decide) ?_
        refine K_ih (callV' (As := [.int r47, .int 1]) (rest := []) o dX7_dot_51 lk_X7_114 rfl sh_64 rfl rfl rfl rfl (Nat.le_of_ble_eq_true rfl)) (c_X7_ask g l h13 r47 1) (fun r51 h51 => ?_)
        refine R_goto o 62 dX7_dot_54 (by decide) ?_
        exact T_some (fun p => rr _ _ _ _ dX7_dot_62 p)
      · refine R_aload_n o 0 dX7_dot_57 rfl rfl ?_
        refine R_iconst (v := 2) o dX7_dot_58 (by decide) ?_
        refine K_ih (callV' (As := [.int 2]) (rest := []) o dX7_dot_59 lk_X7_100 rfl sh_64 rfl rfl rfl rfl (Nat.le_of_ble_eq_true rfl)) (c_X7_meets g l h13 2) (fun r59 h59 => ?_)
        exact T_some (fun p => rr _ _ _ _ dX7_dot_62 p)
  · refine R_iconst (v := (-1)) o dX7_dot_9 (by decide) ?_
    exact T_some (fun p => rr _ _ _ _ dX7_dot_10 p)
theorem c_X7_dot (g : Gx) (l : Launch) (h : MH) (x1 : Int32) (x2 : Int32) (x3 : Int32) (r : (Int32 × MH)) (e : f_X7_dot h x1 x2 x3 = some r) : Ctr g l yX7_dot cX7_dot 5 (some .int) 3 71 0 [rA g 64, .int x1, .int x2, .int x3] h (some (.int r.1)) r.2 := mkCi (plainFor_of_name (by decide)) (Nat.le_of_ble_eq_true rfl) (fun V Rt o rr p => b_X7_dot o rr h x1 x2 x3  r e p)
/-! X7_kind -/
noncomputable def f_X7_kind (h : MH) (x1 : Int32) : Option (Int32 × MH) :=
  bnd2 (f_X7_askedCover h x1) (fun r2 h2 => (if r2 < 0 then some (r2, h2) else gd (ix x1 6) (some ((h2.1 72 x1.toNatClampNeg), h2))))
set_option maxRecDepth 100000 in
set_option maxHeartbeats 4000000 in
theorem b_X7_kind {g : Gx} {l : Launch} {V : VT} {Rt : Option Value → MH → Prop} (o : Ok g l RX7 cX7_kind 3 3 63 0 V) (rr : ORi cX7_kind V Rt) (h : MH) (x1 : Int32) : T (fun r => Rt (some (.int r.1)) r.2) (f_X7_kind h x1) (V 0 [(0, rA g 64), (1, .int x1)] [] h) := by
  unfold f_X7_kind
  refine R_aload_n o 0 dX7_kind_0 rfl rfl ?_
  refine R_iload_n o 1 dX7_kind_1 rfl rfl ?_
  refine K_ih (callV' (As := [.int x1]) (rest := []) o dX7_kind_2 lk_X7_138 rfl sh_64 rfl rfl rfl rfl (Nat.le_of_ble_eq_true rfl)) (c_X7_askedCover g l h x1) (fun r2 h2 => ?_)
  refine R_istore_n (lv2 := [(0, rA g 64), (1, .int x1), (2, .int r2)]) o dX7_kind_5 rfl (by decide) rfl ?_
  refine R_iload_n o 2 dX7_kind_6 rfl rfl ?_
  refine R_if_ge o 14 dX7_kind_7 (by decide) ?_ ?_
  · refine R_iload_n o 2 dX7_kind_10 rfl rfl ?_
    refine R_goto o 20 dX7_kind_11 (by decide) ?_
    exact T_some (fun p => rr _ _ _ _ dX7_kind_20 p)
  · refine R_aload_n o 0 dX7_kind_14 rfl rfl ?_
    refine R_getR (a2 := 72) o dX7_kind_15 fl_X7_35 sh_64 (by decide) rfl rf_64_11 ?_
    refine R_iload_n o 1 dX7_kind_18 rfl rfl ?_
    refine R_iald o dX7_kind_19 sh_72 ?_
    exact T_some (fun p => rr _ _ _ _ dX7_kind_20 p)
theorem c_X7_kind (g : Gx) (l : Launch) (h : MH) (x1 : Int32) (r : (Int32 × MH)) (e : f_X7_kind h x1 = some r) : Ctr g l yX7_kind cX7_kind 3 (some .int) 3 63 0 [rA g 64, .int x1] h (some (.int r.1)) r.2 := mkCi (plainFor_of_name (by decide)) (Nat.le_of_ble_eq_true rfl) (fun V Rt o rr p => b_X7_kind o rr h x1  r e p)
/-! X7_mark -/
noncomputable def f_X7_mark_B60 (h : MH) (x1 : Int32) (x2 : Int32) (x4 : Int32) (x5 : Int32) : Option ((Int32 × Int32) ⊕ (Int32)) :=
  gd (ix x1 6) ((if x5 < (h.1 71 x1.toNatClampNeg) then (if x2 = 1 then gd (ix x1 6) (gd (nz (h.1 75 x1.toNatClampNeg)) ((if (irm x5 (h.1 75 x1.toNatClampNeg)) = 0 then nm (x4 + 1) (fun v173 => some (.inl (v173, (x5 + 1)))) else nm (x4 + 0) (fun v173 => some (.inl (v173, (x5 + 1))))))) else (if x2 = 2 then Option.bind (f_X7_dotAt h x1 x5) (fun r107 => (if 127 < r107 then nm (x4 + 1) (fun v173 => some (.inl (v173, (x5 + 1)))) else nm (x4 + 0) (fun v173 => some (.inl (v173, (x5 + 1)))))) else (if x2 = 3 then gd (ix ((40 * x1) + x5) 240) (nm (x4 + (h.1 74 ((40 * x1) + x5).toNatClampNeg)) (fun v173 => some (.inl (v173, (x5 + 1))))) else (if 0 < x5 then Option.bind (f_X7_dotAt h x1 x5) (fun r152 => Option.bind (f_X7_dotAt h x1 (x5 - 1)) (fun r161 => (if r152 < r161 then nm (x4 + 1) (fun v173 => some (.inl (v173, (x5 + 1)))) else nm (x4 + 0) (fun v173 => some (.inl (v173, (x5 + 1))))))) else nm (x4 + 0) (fun v173 => some (.inl (v173, (x5 + 1)))))))) else some (.inr x4)))
set_option maxRecDepth 100000 in
set_option maxHeartbeats 4000000 in
theorem t_X7_mark_B60 {g : Gx} {l : Launch} {V : VT} {Rt : Option Value → MH → Prop} (o : Ok g l RX7 cX7_mark 6 3 63 0 V) (rr : ORi cX7_mark V Rt) (h : MH) (x1 : Int32) (x2 : Int32) (x4 : Int32) (x5 : Int32) : T (Sum.elim (fun s => V 60 [(0, rA g 64), (1, .int x1), (2, .int x2), (4, .int s.1), (5, .int s.2)] [] h) (fun b => V 181 [(4, .int b)] [] h)) (f_X7_mark_B60  h x1 x2 x4 x5) (V 60 [(0, rA g 64), (1, .int x1), (2, .int x2), (4, .int x4), (5, .int x5)] [] h) := by
  unfold f_X7_mark_B60
  refine R_iload o 4 dX7_mark_60 rfl ?_
  refine R_aload_n o 0 dX7_mark_62 rfl rfl ?_
  refine R_getR (a2 := 71) o dX7_mark_63 fl_X7_32 sh_64 (by decide) rfl rf_64_10 ?_
  refine R_iload_n o 1 dX7_mark_66 rfl rfl ?_
  refine R_iald o dX7_mark_67 sh_71 ?_
  refine R_icmp_ge o 181 dX7_mark_68 (by decide) ?_ ?_
  · refine R_iload o 3 dX7_mark_71 rfl ?_
    refine R_iload_n o 2 dX7_mark_73 rfl rfl ?_
    refine R_iconst (v := 1) o dX7_mark_74 (by decide) ?_
    refine R_icmp_ne o 98 dX7_mark_75 (by decide) ?_ ?_
    · refine R_iload o 4 dX7_mark_78 rfl ?_
      refine R_aload_n o 0 dX7_mark_80 rfl rfl ?_
      refine R_getR (a2 := 75) o dX7_mark_81 fl_X7_44 sh_64 (by decide) rfl rf_64_14 ?_
      refine R_iload_n o 1 dX7_mark_84 rfl rfl ?_
      refine R_iald o dX7_mark_85 sh_75 ?_
      refine R_irem o dX7_mark_86 ?_
      refine R_if_ne o 94 dX7_mark_87 (by decide) ?_ ?_
      · refine R_iconst (v := 1) o dX7_mark_90 (by decide) ?_
        refine R_goto o 172 dX7_mark_91 (by decide) ?_
        refine R_iadd o dX7_mark_172 ?_
        refine R_nmI (fun v173 => ?_)
        refine R_istore (lv2 := [(0, rA g 64), (1, .int x1), (2, .int x2), (4, .int v173), (5, .int x5)]) o dX7_mark_173 (by decide) rfl ?_
        refine R_iinc (v := (x5 + 1)) (lv2 := [(0, rA g 64), (1, .int x1), (2, .int x2), (4, .int v173), (5, .int (x5 + 1))]) o 4 dX7_mark_175 rfl rfl (by decide) rfl ?_
        refine R_goto o 60 dX7_mark_178 (by decide) ?_
        exact T_some (fun p => p)
      · refine R_iconst (v := 0) o dX7_mark_94 (by decide) ?_
        refine R_goto o 172 dX7_mark_95 (by decide) ?_
        refine R_iadd o dX7_mark_172 ?_
        refine R_nmI (fun v173 => ?_)
        refine R_istore (lv2 := [(0, rA g 64), (1, .int x1), (2, .int x2), (4, .int v173), (5, .int x5)]) o dX7_mark_173 (by decide) rfl ?_
        refine R_iinc (v := (x5 + 1)) (lv2 := [(0, rA g 64), (1, .int x1), (2, .int x2), (4, .int v173), (5, .int (x5 + 1))]) o 4 dX7_mark_175 rfl rfl (by decide) rfl ?_
        refine R_goto o 60 dX7_mark_178 (by decide) ?_
        exact T_some (fun p => p)
    · refine R_iload_n o 2 dX7_mark_98 rfl rfl ?_
      refine R_iconst (v := 2) o dX7_mark_99 (by decide) ?_
      refine R_icmp_ne o 123 dX7_mark_100 (by decide) ?_ ?_
      · refine R_aload_n o 0 dX7_mark_103 rfl rfl ?_
        refine R_iload_n o 1 dX7_mark_104 rfl rfl ?_
        refine R_iload o 4 dX7_mark_105 rfl ?_
        refine K_i (callV' (As := [.int x1, .int x5]) (rest := [.int x4]) o dX7_mark_107 lk_X7_147 rfl sh_64 rfl rfl rfl rfl (Nat.le_of_ble_eq_true rfl)) (c_X7_dotAt g l h x1 x5) (fun r107 => ?_)
        refine R_bipush (v := 127) o dX7_mark_110 (by decide) ?_
        refine R_icmp_le o 119 dX7_mark_112 (by decide) ?_ ?_
        · refine R_iconst (v := 1) o dX7_mark_115 (by decide) ?_
          refine R_goto o 172 dX7_mark_116 (by decide) ?_
          refine R_iadd o dX7_mark_172 ?_
          refine R_nmI (fun v173 => ?_)
          refine R_istore (lv2 := [(0, rA g 64), (1, .int x1), (2, .int x2), (4, .int v173), (5, .int x5)]) o dX7_mark_173 (by decide) rfl ?_
          refine R_iinc (v := (x5 + 1)) (lv2 := [(0, rA g 64), (1, .int x1), (2, .int x2), (4, .int v173), (5, .int (x5 + 1))]) o 4 dX7_mark_175 rfl rfl (by decide) rfl ?_
          refine R_goto o 60 dX7_mark_178 (by decide) ?_
          exact T_some (fun p => p)
        · refine R_iconst (v := 0) o dX7_mark_119 (by decide) ?_
          refine R_goto o 172 dX7_mark_120 (by decide) ?_
          refine R_iadd o dX7_mark_172 ?_
          refine R_nmI (fun v173 => ?_)
          refine R_istore (lv2 := [(0, rA g 64), (1, .int x1), (2, .int x2), (4, .int v173), (5, .int x5)]) o dX7_mark_173 (by decide) rfl ?_
          refine R_iinc (v := (x5 + 1)) (lv2 := [(0, rA g 64), (1, .int x1), (2, .int x2), (4, .int v173), (5, .int (x5 + 1))]) o 4 dX7_mark_175 rfl rfl (by decide) rfl ?_
          refine R_goto o 60 dX7_mark_178 (by decide) ?_
          exact T_some (fun p => p)
      · refine R_iload_n o 2 dX7_mark_123 rfl rfl ?_
        refine R_iconst (v := 3) o dX7_mark_124 (by decide) ?_
        refine R_icmp_ne o 143 dX7_mark_125 (by decide) ?_ ?_
        · refine R_aload_n o 0 dX7_mark_128 rfl rfl ?_
          refine R_getR (a2 := 74) o dX7_mark_129 fl_X7_41 sh_64 (by decide) rfl rf_64_13 ?_
          refine R_bipush (v := 40) o dX7_mark_132 (by decide) ?_
          refine R_iload_n o 1 dX7_mark_134 rfl rfl ?_
          refine R_imul o dX7_mark_135 ?_
          refine R_iload o 4 dX7_mark_136 rfl ?_
          refine R_iadd o dX7_mark_138 ?_
          refine R_iald o dX7_mark_139 sh_74 ?_
          refine R_goto o 172 dX7_mark_140 (by decide) ?_
          refine R_iadd o dX7_mark_172 ?_
          refine R_nmI (fun v173 => ?_)
          refine R_istore (lv2 := [(0, rA g 64), (1, .int x1), (2, .int x2), (4, .int v173), (5, .int x5)]) o dX7_mark_173 (by decide) rfl ?_
          refine R_iinc (v := (x5 + 1)) (lv2 := [(0, rA g 64), (1, .int x1), (2, .int x2), (4, .int v173), (5, .int (x5 + 1))]) o 4 dX7_mark_175 rfl rfl (by decide) rfl ?_
          refine R_goto o 60 dX7_mark_178 (by decide) ?_
          exact T_some (fun p => p)
        · refine R_iload o 4 dX7_mark_143 rfl ?_
          refine R_if_le o 171 dX7_mark_145 (by decide) ?_ ?_
          · refine R_aload_n o 0 dX7_mark_148 rfl rfl ?_
            refine R_iload_n o 1 dX7_mark_149 rfl rfl ?_
            refine R_iload o 4 dX7_mark_150 rfl ?_
            refine K_i (callV' (As := [.int x1, .int x5]) (rest := [.int x4]) o dX7_mark_152 lk_X7_147 rfl sh_64 rfl rfl rfl rfl (Nat.le_of_ble_eq_true rfl)) (c_X7_dotAt g l h x1 x5) (fun r152 => ?_)
            refine R_aload_n o 0 dX7_mark_155 rfl rfl ?_
            refine R_iload_n o 1 dX7_mark_156 rfl rfl ?_
            refine R_iload o 4 dX7_mark_157 rfl ?_
            refine R_iconst (v := 1) o dX7_mark_159 (by decide) ?_
            refine R_isub o dX7_mark_160 ?_
            refine K_i (callV' (As := [.int x1, .int (x5 - 1)]) (rest := [.int r152, .int x4]) o dX7_mark_161 lk_X7_147 rfl sh_64 rfl rfl rfl rfl (Nat.le_of_ble_eq_true rfl)) (c_X7_dotAt g l h x1 (x5 - 1)) (fun r161 => ?_)
            refine R_icmp_ge o 171 dX7_mark_164 (by decide) ?_ ?_
            · refine R_iconst (v := 1) o dX7_mark_167 (by decide) ?_
              refine R_goto o 172 dX7_mark_168 (by decide) ?_
              refine R_iadd o dX7_mark_172 ?_
              refine R_nmI (fun v173 => ?_)
              refine R_istore (lv2 := [(0, rA g 64), (1, .int x1), (2, .int x2), (4, .int v173), (5, .int x5)]) o dX7_mark_173 (by decide) rfl ?_
              refine R_iinc (v := (x5 + 1)) (lv2 := [(0, rA g 64), (1, .int x1), (2, .int x2), (4, .int v173), (5, .int (x5 + 1))]) o 4 dX7_mark_175 rfl rfl (by decide) rfl ?_
              refine R_goto o 60 dX7_mark_178 (by decide) ?_
              exact T_some (fun p => p)
            · refine R_iconst (v := 0) o dX7_mark_171 (by decide) ?_
              refine R_iadd o dX7_mark_172 ?_
              refine R_nmI (fun v173 => ?_)
              refine R_istore (lv2 := [(0, rA g 64), (1, .int x1), (2, .int x2), (4, .int v173), (5, .int x5)]) o dX7_mark_173 (by decide) rfl ?_
              refine R_iinc (v := (x5 + 1)) (lv2 := [(0, rA g 64), (1, .int x1), (2, .int x2), (4, .int v173), (5, .int (x5 + 1))]) o 4 dX7_mark_175 rfl rfl (by decide) rfl ?_
              refine R_goto o 60 dX7_mark_178 (by decide) ?_
              exact T_some (fun p => p)
          · refine R_iconst (v := 0) o dX7_mark_171 (by decide) ?_
            refine R_iadd o dX7_mark_172 ?_
            refine R_nmI (fun v173 => ?_)
            refine R_istore (lv2 := [(0, rA g 64), (1, .int x1), (2, .int x2), (4, .int v173), (5, .int x5)]) o dX7_mark_173 (by decide) rfl ?_
            refine R_iinc (v := (x5 + 1)) (lv2 := [(0, rA g 64), (1, .int x1), (2, .int x2), (4, .int v173), (5, .int (x5 + 1))]) o 4 dX7_mark_175 rfl rfl (by decide) rfl ?_
            refine R_goto o 60 dX7_mark_178 (by decide) ?_
            exact T_some (fun p => p)
  · refine R_drop (lv2 := [(4, .int x4)]) o [3] rfl ?_
    exact T_some (fun p => p)
noncomputable def f_X7_mark_L60 (h : MH) (x1 : Int32) (x2 : Int32) (x4 : Int32) (x5 : Int32) : Option (Int32) :=
  lpo (fun s : Int32 × Int32 => f_X7_mark_B60 h x1 x2 s.1 s.2) (x4, x5)
theorem t_X7_mark_L60 {g : Gx} {l : Launch} {V : VT} {Rt : Option Value → MH → Prop} (o : Ok g l RX7 cX7_mark 6 3 63 0 V) (rr : ORi cX7_mark V Rt) (h : MH) (x1 : Int32) (x2 : Int32) (x4 : Int32) (x5 : Int32) : T (fun b => V 181 [(4, .int b)] [] h) (f_X7_mark_L60 h x1 x2 x4 x5) (V 60 [(0, rA g 64), (1, .int x1), (2, .int x2), (4, .int x4), (5, .int x5)] [] h) := T_loop (head := fun s : Int32 × Int32 => V 60 [(0, rA g 64), (1, .int x1), (2, .int x2), (4, .int s.1), (5, .int s.2)] [] h) (fun s => t_X7_mark_B60 o rr h x1 x2 s.1 s.2 ) (x4, x5)
noncomputable def f_X7_mark_J54 (h : MH) (x1 : Int32) (x2 : Int32) : Option (Int32 × MH) :=
  Option.bind (f_X7_mark_L60 h x1 x2 0 0) (fun b60 => some (b60, h))
set_option maxRecDepth 100000 in
set_option maxHeartbeats 4000000 in
theorem t_X7_mark_J54 {g : Gx} {l : Launch} {V : VT} {Rt : Option Value → MH → Prop} (o : Ok g l RX7 cX7_mark 6 3 63 0 V) (rr : ORi cX7_mark V Rt) (h : MH) (x1 : Int32) (x2 : Int32) : T (fun r => Rt (some (.int r.1)) r.2) (f_X7_mark_J54  h x1 x2) (V 54 [(0, rA g 64), (1, .int x1), (2, .int x2)] [] h) := by
  unfold f_X7_mark_J54
  refine R_iconst (v := 0) o dX7_mark_54 (by decide) ?_
  refine R_istore (lv2 := [(0, rA g 64), (1, .int x1), (2, .int x2), (4, .int 0)]) o dX7_mark_55 (by decide) rfl ?_
  refine R_iconst (v := 0) o dX7_mark_57 (by decide) ?_
  refine R_istore (lv2 := [(0, rA g 64), (1, .int x1), (2, .int x2), (4, .int 0), (5, .int 0)]) o dX7_mark_58 (by decide) rfl ?_
  refine T_bind (t_X7_mark_L60 o rr h x1 x2 0 0) (fun b60 => ?_)
  refine R_iload o 0 dX7_mark_181 rfl ?_
  exact T_some (fun p => rr _ _ _ _ dX7_mark_183 p)
noncomputable def f_X7_mark (h : MH) (x1 : Int32) (x2 : Int32) : Option (Int32 × MH) :=
  Option.bind (f_X7_in x2 1 4) (fun r3 => (if r3 = true then bnd2 (f_X7_askedCover h x1) (fun r13 h13 => (if r13 < 0 then some (r13, h13) else gd (ix x1 6) ((if (h13.1 72 x1.toNatClampNeg) = x2 then f_X7_mark_J54 h13 x1 x2 else (if x2 = 1 then gd (ix x1 6) ((if (h13.1 72 x1.toNatClampNeg) = 2 then f_X7_mark_J54 h13 x1 x2 else bnd2 (f_X7_meets h13 3) (fun r50 h50 => some (r50, h50)))) else bnd2 (f_X7_meets h13 3) (fun r50 h50 => some (r50, h50))))))) else some ((-1), h)))
set_option maxRecDepth 100000 in
set_option maxHeartbeats 4000000 in
theorem b_X7_mark {g : Gx} {l : Launch} {V : VT} {Rt : Option Value → MH → Prop} (o : Ok g l RX7 cX7_mark 6 3 63 0 V) (rr : ORi cX7_mark V Rt) (h : MH) (x1 : Int32) (x2 : Int32) : T (fun r => Rt (some (.int r.1)) r.2) (f_X7_mark h x1 x2) (V 0 [(0, rA g 64), (1, .int x1), (2, .int x2)] [] h) := by
  unfold f_X7_mark
  refine R_iload_n o 2 dX7_mark_0 rfl rfl ?_
  refine R_iconst (v := 1) o dX7_mark_1 (by decide) ?_
  refine R_iconst (v := 4) o dX7_mark_2 (by decide) ?_
  refine K_z (callS' (av := [.int x2, .int 1, .int 4]) (rest := []) o dX7_mark_3 lk_X7_92 rfl rfl rfl (Nat.le_of_ble_eq_true rfl)) (c_X7_in g l h x2 1 4) (fun r3 => ?_)
  refine R_bif_ne o 11 dX7_mark_6 (by decide) ?_ ?_
  · refine R_aload_n o 0 dX7_mark_11 rfl rfl ?_
    refine R_iload_n o 1 dX7_mark_12 rfl rfl ?_
    refine K_ih (callV' (As := [.int x1]) (rest := []) o dX7_mark_13 lk_X7_138 rfl sh_64 rfl rfl rfl rfl (Nat.le_of_ble_eq_true rfl)) (c_X7_askedCover g l h x1) (fun r13 h13 => ?_)
    refine R_istore_n (lv2 := [(0, rA g 64), (1, .int x1), (2, .int x2), (3, .int r13)]) o dX7_mark_16 rfl (by decide) rfl ?_
    refine R_iload_n o 3 dX7_mark_17 rfl rfl ?_
    refine R_if_ge o 23 dX7_mark_18 (by decide) ?_ ?_
    · refine R_iload_n o 3 dX7_mark_21 rfl rfl ?_
      exact T_some (fun p => rr _ _ _ _ dX7_mark_22 p)
    · refine R_aload_n o 0 dX7_mark_23 rfl rfl ?_
      refine R_getR (a2 := 72) o dX7_mark_24 fl_X7_35 sh_64 (by decide) rfl rf_64_11 ?_
      refine R_iload_n o 1 dX7_mark_27 rfl rfl ?_
      refine R_iald o dX7_mark_28 sh_72 ?_
      refine R_iload_n o 2 dX7_mark_29 rfl rfl ?_
      refine R_icmp_eq o 54 dX7_mark_30 (by decide) ?_ ?_
      · refine R_drop (lv2 := [(0, rA g 64), (1, .int x1), (2, .int x2)]) o [0, 1, 2] rfl ?_
        exact t_X7_mark_J54 o rr h13 x1 x2
      · refine R_iload_n o 2 dX7_mark_33 rfl rfl ?_
        refine R_iconst (v := 1) o dX7_mark_34 (by decide) ?_
        refine R_icmp_ne o 48 dX7_mark_35 (by decide) ?_ ?_
        · refine R_aload_n o 0 dX7_mark_38 rfl rfl ?_
          refine R_getR (a2 := 72) o dX7_mark_39 fl_X7_35 sh_64 (by decide) rfl rf_64_11 ?_
          refine R_iload_n o 1 dX7_mark_42 rfl rfl ?_
          refine R_iald o dX7_mark_43 sh_72 ?_
          refine R_iconst (v := 2) o dX7_mark_44 (by decide) ?_
          refine R_icmp_eq o 54 dX7_mark_45 (by decide) ?_ ?_
          · refine R_drop (lv2 := [(0, rA g 64), (1, .int x1), (2, .int x2)]) o [0, 1, 2] rfl ?_
            exact t_X7_mark_J54 o rr h13 x1 x2
          · refine R_aload_n o 0 dX7_mark_48 rfl rfl ?_
            refine R_iconst (v := 3) o dX7_mark_49 (by decide) ?_
            refine K_ih (callV' (As := [.int 3]) (rest := []) o dX7_mark_50 lk_X7_100 rfl sh_64 rfl rfl rfl rfl (Nat.le_of_ble_eq_true rfl)) (c_X7_meets g l h13 3) (fun r50 h50 => ?_)
            exact T_some (fun p => rr _ _ _ _ dX7_mark_53 p)
        · refine R_aload_n o 0 dX7_mark_48 rfl rfl ?_
          refine R_iconst (v := 3) o dX7_mark_49 (by decide) ?_
          refine K_ih (callV' (As := [.int 3]) (rest := []) o dX7_mark_50 lk_X7_100 rfl sh_64 rfl rfl rfl rfl (Nat.le_of_ble_eq_true rfl)) (c_X7_meets g l h13 3) (fun r50 h50 => ?_)
          exact T_some (fun p => rr _ _ _ _ dX7_mark_53 p)
  · refine R_iconst (v := (-1)) o dX7_mark_9 (by decide) ?_
    exact T_some (fun p => rr _ _ _ _ dX7_mark_10 p)
theorem c_X7_mark (g : Gx) (l : Launch) (h : MH) (x1 : Int32) (x2 : Int32) (r : (Int32 × MH)) (e : f_X7_mark h x1 x2 = some r) : Ctr g l yX7_mark cX7_mark 6 (some .int) 3 63 0 [rA g 64, .int x1, .int x2] h (some (.int r.1)) r.2 := mkCi (plainFor_of_name (by decide)) (Nat.le_of_ble_eq_true rfl) (fun V Rt o rr p => b_X7_mark o rr h x1 x2  r e p)
/-! X7_draw -/
noncomputable def f_X7_draw (h : MH) (x1 : Int32) : Option (Int32 × MH) :=
  nm (uI h 64 16 (((h.1 64 16) * 1103515245) + 12345)) (fun h12 => gd (nz x1) (some ((irm ((shr (h12.1 64 16) 16) &&& 32767) x1), h12)))
set_option maxRecDepth 100000 in
set_option maxHeartbeats 4000000 in
theorem b_X7_draw {g : Gx} {l : Launch} {V : VT} {Rt : Option Value → MH → Prop} (o : Ok g l RX7 cX7_draw 2 0 0 0 V) (rr : ORi cX7_draw V Rt) (h : MH) (x1 : Int32) : T (fun r => Rt (some (.int r.1)) r.2) (f_X7_draw h x1) (V 0 [(0, rA g 64), (1, .int x1)] [] h) := by
  unfold f_X7_draw
  refine R_aload_n o 0 dX7_draw_0 rfl rfl ?_
  refine R_aload_n o 0 dX7_draw_1 rfl rfl ?_
  refine R_getI o dX7_draw_2 fl_X7_165 sh_64 (by decide) rfl ?_
  refine R_ldc (v := 1103515245) o dX7_draw_5 kc_X7_168 ?_
  refine R_imul o dX7_draw_7 ?_
  refine R_sipush (v := 12345) o dX7_draw_8 (by decide) ?_
  refine R_iadd o dX7_draw_11 ?_
  refine R_putI o dX7_draw_12 fp_X7_165 sh_64 (by decide) rfl ?_
  refine R_nmH (fun h12 => ?_)
  refine R_aload_n o 0 dX7_draw_15 rfl rfl ?_
  refine R_getI o dX7_draw_16 fl_X7_165 sh_64 (by decide) rfl ?_
  refine R_bipush (v := 16) o dX7_draw_19 (by decide) ?_
  refine R_ishr o dX7_draw_21 ?_
  refine R_sipush (v := 32767) o dX7_draw_22 (by decide) ?_
  refine R_iand o dX7_draw_25 ?_
  refine R_iload_n o 1 dX7_draw_26 rfl rfl ?_
  refine R_irem o dX7_draw_27 ?_
  exact T_some (fun p => rr _ _ _ _ dX7_draw_28 p)
theorem c_X7_draw (g : Gx) (l : Launch) (h : MH) (x1 : Int32) (r : (Int32 × MH)) (e : f_X7_draw h x1 = some r) : Ctr g l yX7_draw cX7_draw 2 (some .int) 0 0 0 [rA g 64, .int x1] h (some (.int r.1)) r.2 := mkCi (plainFor_of_name (by decide)) (Nat.le_of_ble_eq_true rfl) (fun V Rt o rr p => b_X7_draw o rr h x1  r e p)
/-! X7_setOrder -/
noncomputable def f_X7_setOrder_B7 (h : MH) (x1 : Int32) (x3 : Int32) : Option ((Int32 × MH) ⊕ (MH)) :=
  (if x3 < x1 then gd (ix x3 40) (nm (uI h 77 x3.toNatClampNeg x3) (fun h18 => some (.inl ((x3 + 1), h18)))) else some (.inr h))
set_option maxRecDepth 100000 in
set_option maxHeartbeats 4000000 in
theorem t_X7_setOrder_B7 {g : Gx} {l : Launch} {V : VT} {Rt : Option Value → MH → Prop} (o : Ok g l RX7 cX7_setOrder 6 1 21 0 V) (rr : ORv cX7_setOrder V Rt) (h : MH) (x1 : Int32) (x3 : Int32) : T (Sum.elim (fun s => V 7 [(0, rA g 64), (1, .int x1), (3, .int s.1)] [] s.2) (fun b => V 25 [(0, rA g 64), (1, .int x1)] [] b)) (f_X7_setOrder_B7  h x1 x3) (V 7 [(0, rA g 64), (1, .int x1), (3, .int x3)] [] h) := by
  unfold f_X7_setOrder_B7
  refine R_iload_n o 2 dX7_setOrder_7 rfl rfl ?_
  refine R_iload_n o 1 dX7_setOrder_8 rfl rfl ?_
  refine R_icmp_ge o 25 dX7_setOrder_9 (by decide) ?_ ?_
  · refine R_aload_n o 0 dX7_setOrder_12 rfl rfl ?_
    refine R_getR (a2 := 77) o dX7_setOrder_13 fl_X7_50 sh_64 (by decide) rfl rf_64_17 ?_
    refine R_iload_n o 2 dX7_setOrder_16 rfl rfl ?_
    refine R_iload_n o 2 dX7_setOrder_17 rfl rfl ?_
    refine R_iast o dX7_setOrder_18 sh_77 ?_
    refine R_nmH (fun h18 => ?_)
    refine R_iinc (v := (x3 + 1)) (lv2 := [(0, rA g 64), (1, .int x1), (3, .int (x3 + 1))]) o 2 dX7_setOrder_19 rfl rfl (by decide) rfl ?_
    refine R_goto o 7 dX7_setOrder_22 (by decide) ?_
    exact T_some (fun p => p)
  · refine R_drop (lv2 := [(0, rA g 64), (1, .int x1)]) o [0, 1] rfl ?_
    exact T_some (fun p => p)
noncomputable def f_X7_setOrder_L7 (h : MH) (x1 : Int32) (x3 : Int32) : Option (MH) :=
  lpo (fun s : Int32 × MH => f_X7_setOrder_B7 s.2 x1 s.1) (x3, h)
theorem t_X7_setOrder_L7 {g : Gx} {l : Launch} {V : VT} {Rt : Option Value → MH → Prop} (o : Ok g l RX7 cX7_setOrder 6 1 21 0 V) (rr : ORv cX7_setOrder V Rt) (h : MH) (x1 : Int32) (x3 : Int32) : T (fun b => V 25 [(0, rA g 64), (1, .int x1)] [] b) (f_X7_setOrder_L7 h x1 x3) (V 7 [(0, rA g 64), (1, .int x1), (3, .int x3)] [] h) := T_loop (head := fun s : Int32 × MH => V 7 [(0, rA g 64), (1, .int x1), (3, .int s.1)] [] s.2) (fun s => t_X7_setOrder_B7 o rr s.2 x1 s.1 ) (x3, h)
noncomputable def f_X7_setOrder_B29 (h : MH) (x3 : Int32) : Option ((Int32 × MH) ⊕ (MH)) :=
  (if 0 < x3 then bnd2 (f_X7_draw h (x3 + 1)) (fun r37 h37 => gd (ix x3 40) (nm (h37.1 77 x3.toNatClampNeg) (fun v48 => gd (ix r37 40) (gd (ix x3 40) (nm (uI h37 77 x3.toNatClampNeg (h37.1 77 r37.toNatClampNeg)) (fun h62 => gd (ix r37 40) (nm (uI h62 77 r37.toNatClampNeg v48) (fun h71 => some (.inl ((x3 + (-1)), h71)))))))))) else some (.inr h))
set_option maxRecDepth 100000 in
set_option maxHeartbeats 4000000 in
theorem t_X7_setOrder_B29 {g : Gx} {l : Launch} {V : VT} {Rt : Option Value → MH → Prop} (o : Ok g l RX7 cX7_setOrder 6 1 21 0 V) (rr : ORv cX7_setOrder V Rt) (h : MH) (x3 : Int32) : T (Sum.elim (fun s => V 29 [(0, rA g 64), (3, .int s.1)] [] s.2) (fun b => V 78 [] [] b)) (f_X7_setOrder_B29  h x3) (V 29 [(0, rA g 64), (3, .int x3)] [] h) := by
  unfold f_X7_setOrder_B29
  refine R_iload_n o 1 dX7_setOrder_29 rfl rfl ?_
  refine R_if_le o 78 dX7_setOrder_30 (by decide) ?_ ?_
  · refine R_aload_n o 0 dX7_setOrder_33 rfl rfl ?_
    refine R_iload_n o 1 dX7_setOrder_34 rfl rfl ?_
    refine R_iconst (v := 1) o dX7_setOrder_35 (by decide) ?_
    refine R_iadd o dX7_setOrder_36 ?_
    refine K_ih (callV' (As := [.int (x3 + 1)]) (rest := []) o dX7_setOrder_37 lk_X7_169 rfl sh_64 rfl rfl rfl rfl (Nat.le_of_ble_eq_true rfl)) (c_X7_draw g l h (x3 + 1)) (fun r37 h37 => ?_)
    refine R_istore (lv2 := [(0, rA g 64), (3, .int x3), (4, .int r37)]) o dX7_setOrder_40 (by decide) rfl ?_
    refine R_aload_n o 0 dX7_setOrder_42 rfl rfl ?_
    refine R_getR (a2 := 77) o dX7_setOrder_43 fl_X7_50 sh_64 (by decide) rfl rf_64_17 ?_
    refine R_iload_n o 1 dX7_setOrder_46 rfl rfl ?_
    refine R_iald o dX7_setOrder_47 sh_77 ?_
    refine R_nmI (fun v48 => ?_)
    refine R_istore (lv2 := [(0, rA g 64), (3, .int x3), (4, .int r37), (5, .int v48)]) o dX7_setOrder_48 (by decide) rfl ?_
    refine R_aload_n o 0 dX7_setOrder_50 rfl rfl ?_
    refine R_getR (a2 := 77) o dX7_setOrder_51 fl_X7_50 sh_64 (by decide) rfl rf_64_17 ?_
    refine R_iload_n o 1 dX7_setOrder_54 rfl rfl ?_
    refine R_aload_n o 0 dX7_setOrder_55 rfl rfl ?_
    refine R_getR (a2 := 77) o dX7_setOrder_56 fl_X7_50 sh_64 (by decide) rfl rf_64_17 ?_
    refine R_iload o 2 dX7_setOrder_59 rfl ?_
    refine R_iald o dX7_setOrder_61 sh_77 ?_
    refine R_iast o dX7_setOrder_62 sh_77 ?_
    refine R_nmH (fun h62 => ?_)
    refine R_aload_n o 0 dX7_setOrder_63 rfl rfl ?_
    refine R_getR (a2 := 77) o dX7_setOrder_64 fl_X7_50 sh_64 (by decide) rfl rf_64_17 ?_
    refine R_iload o 2 dX7_setOrder_67 rfl ?_
    refine R_iload o 3 dX7_setOrder_69 rfl ?_
    refine R_iast o dX7_setOrder_71 sh_77 ?_
    refine R_nmH (fun h71 => ?_)
    refine R_iinc (v := (x3 + (-1))) (lv2 := [(0, rA g 64), (3, .int (x3 + (-1))), (4, .int r37), (5, .int v48)]) o 1 dX7_setOrder_72 rfl rfl (by decide) rfl ?_
    refine R_goto o 29 dX7_setOrder_75 (by decide) ?_
    refine R_drop (lv2 := [(0, rA g 64), (3, .int (x3 + (-1)))]) o [0, 1] rfl ?_
    exact T_some (fun p => p)
  · refine R_drop (lv2 := []) o [] rfl ?_
    exact T_some (fun p => p)
noncomputable def f_X7_setOrder_L29 (h : MH) (x3 : Int32) : Option (MH) :=
  lpo (fun s : Int32 × MH => f_X7_setOrder_B29 s.2 s.1) (x3, h)
theorem t_X7_setOrder_L29 {g : Gx} {l : Launch} {V : VT} {Rt : Option Value → MH → Prop} (o : Ok g l RX7 cX7_setOrder 6 1 21 0 V) (rr : ORv cX7_setOrder V Rt) (h : MH) (x3 : Int32) : T (fun b => V 78 [] [] b) (f_X7_setOrder_L29 h x3) (V 29 [(0, rA g 64), (3, .int x3)] [] h) := T_loop (head := fun s : Int32 × MH => V 29 [(0, rA g 64), (3, .int s.1)] [] s.2) (fun s => t_X7_setOrder_B29 o rr s.2 s.1 ) (x3, h)
noncomputable def f_X7_setOrder (h : MH) (x1 : Int32) (x2 : Int32) : Option MH :=
  nm (uI h 64 16 x2) (fun h2 => Option.bind (f_X7_setOrder_L7 h2 x1 0) (fun b7 => nm (x1 - 1) (fun v28 => Option.bind (f_X7_setOrder_L29 b7 v28) (fun b29 => some b29))))
set_option maxRecDepth 100000 in
set_option maxHeartbeats 4000000 in
theorem b_X7_setOrder {g : Gx} {l : Launch} {V : VT} {Rt : Option Value → MH → Prop} (o : Ok g l RX7 cX7_setOrder 6 1 21 0 V) (rr : ORv cX7_setOrder V Rt) (h : MH) (x1 : Int32) (x2 : Int32) : T (fun r => Rt none r) (f_X7_setOrder h x1 x2) (V 0 [(0, rA g 64), (1, .int x1), (2, .int x2)] [] h) := by
  unfold f_X7_setOrder
  refine R_aload_n o 0 dX7_setOrder_0 rfl rfl ?_
  refine R_iload_n o 2 dX7_setOrder_1 rfl rfl ?_
  refine R_putI o dX7_setOrder_2 fp_X7_165 sh_64 (by decide) rfl ?_
  refine R_nmH (fun h2 => ?_)
  refine R_iconst (v := 0) o dX7_setOrder_5 (by decide) ?_
  refine R_istore_n (lv2 := [(0, rA g 64), (1, .int x1), (2, .int x2), (3, .int 0)]) o dX7_setOrder_6 rfl (by decide) rfl ?_
  refine R_drop (lv2 := [(0, rA g 64), (1, .int x1), (3, .int 0)]) o [0, 1, 3] rfl ?_
  refine T_bind (t_X7_setOrder_L7 o rr h2 x1 0) (fun b7 => ?_)
  refine R_iload_n o 1 dX7_setOrder_25 rfl rfl ?_
  refine R_iconst (v := 1) o dX7_setOrder_26 (by decide) ?_
  refine R_isub o dX7_setOrder_27 ?_
  refine R_nmI (fun v28 => ?_)
  refine R_istore_n (lv2 := [(0, rA g 64), (1, .int x1), (3, .int v28)]) o dX7_setOrder_28 rfl (by decide) rfl ?_
  refine R_drop (lv2 := [(0, rA g 64), (3, .int v28)]) o [0, 2] rfl ?_
  refine T_bind (t_X7_setOrder_L29 o rr b7 v28) (fun b29 => ?_)
  exact T_some (fun p => rr _ _ _ dX7_setOrder_78 p)
theorem c_X7_setOrder (g : Gx) (l : Launch) (h : MH) (x1 : Int32) (x2 : Int32) (r : MH) (e : f_X7_setOrder h x1 x2 = some r) : Ctr g l yX7_setOrder cX7_setOrder 6 none 1 21 0 [rA g 64, .int x1, .int x2] h none r := mkCv (plainFor_of_name (by decide)) (Nat.le_of_ble_eq_true rfl) (fun V Rt o rr p => b_X7_setOrder o rr h x1 x2  r e p)
/-! X7_place -/
noncomputable def f_X7_place (h : MH) (x1 : Int32) (x2 : Int32) (x3 : Int32) : Option (Int32 × MH) :=
  bnd2 (f_X7_askedCover h x1) (fun r2 h2 => (if r2 < 0 then some (r2, h2) else gd (ix x1 6) (Option.bind (f_X7_in x3 0 ((h2.1 71 x1.toNatClampNeg) - 1)) (fun r25 => (if r25 = true then gd (ix x1 6) (Option.bind (f_X7_setOrder h2 (h2.1 71 x1.toNatClampNeg) x2) (fun h45 => gd (ix x3 40) (some ((h45.1 77 x3.toNatClampNeg), h45)))) else bnd2 (f_X7_meets h2 2) (fun r33 h33 => some (r33, h33)))))))
set_option maxRecDepth 100000 in
set_option maxHeartbeats 4000000 in
theorem b_X7_place {g : Gx} {l : Launch} {V : VT} {Rt : Option Value → MH → Prop} (o : Ok g l RX7 cX7_place 5 3 63 0 V) (rr : ORi cX7_place V Rt) (h : MH) (x1 : Int32) (x2 : Int32) (x3 : Int32) : T (fun r => Rt (some (.int r.1)) r.2) (f_X7_place h x1 x2 x3) (V 0 [(0, rA g 64), (1, .int x1), (2, .int x2), (3, .int x3)] [] h) := by
  unfold f_X7_place
  refine R_aload_n o 0 dX7_place_0 rfl rfl ?_
  refine R_iload_n o 1 dX7_place_1 rfl rfl ?_
  refine K_ih (callV' (As := [.int x1]) (rest := []) o dX7_place_2 lk_X7_138 rfl sh_64 rfl rfl rfl rfl (Nat.le_of_ble_eq_true rfl)) (c_X7_askedCover g l h x1) (fun r2 h2 => ?_)
  refine R_istore (lv2 := [(0, rA g 64), (1, .int x1), (2, .int x2), (3, .int x3), (4, .int r2)]) o dX7_place_5 (by decide) rfl ?_
  refine R_iload o 4 dX7_place_7 rfl ?_
  refine R_if_ge o 15 dX7_place_9 (by decide) ?_ ?_
  · refine R_iload o 4 dX7_place_12 rfl ?_
    exact T_some (fun p => rr _ _ _ _ dX7_place_14 p)
  · refine R_iload_n o 3 dX7_place_15 rfl rfl ?_
    refine R_iconst (v := 0) o dX7_place_16 (by decide) ?_
    refine R_aload_n o 0 dX7_place_17 rfl rfl ?_
    refine R_getR (a2 := 71) o dX7_place_18 fl_X7_32 sh_64 (by decide) rfl rf_64_10 ?_
    refine R_iload_n o 1 dX7_place_21 rfl rfl ?_
    refine R_iald o dX7_place_22 sh_71 ?_
    refine R_iconst (v := 1) o dX7_place_23 (by decide) ?_
    refine R_isub o dX7_place_24 ?_
    refine K_z (callS' (av := [.int x3, .int 0, .int ((h2.1 71 x1.toNatClampNeg) - 1)]) (rest := []) o dX7_place_25 lk_X7_92 rfl rfl rfl (Nat.le_of_ble_eq_true rfl)) (c_X7_in g l h2 x3 0 ((h2.1 71 x1.toNatClampNeg) - 1)) (fun r25 => ?_)
    refine R_bif_ne o 37 dX7_place_28 (by decide) ?_ ?_
    · refine R_aload_n o 0 dX7_place_37 rfl rfl ?_
      refine R_aload_n o 0 dX7_place_38 rfl rfl ?_
      refine R_getR (a2 := 71) o dX7_place_39 fl_X7_32 sh_64 (by decide) rfl rf_64_10 ?_
      refine R_iload_n o 1 dX7_place_42 rfl rfl ?_
      refine R_iald o dX7_place_43 sh_71 ?_
      refine R_iload_n o 2 dX7_place_44 rfl rfl ?_
      refine K_vh (callV' (As := [.int (h2.1 71 x1.toNatClampNeg), .int x2]) (rest := []) o dX7_place_45 lk_X7_172 rfl sh_64 rfl rfl rfl rfl (Nat.le_of_ble_eq_true rfl)) (c_X7_setOrder g l h2 (h2.1 71 x1.toNatClampNeg) x2) (fun h45 => ?_)
      refine R_aload_n o 0 dX7_place_48 rfl rfl ?_
      refine R_getR (a2 := 77) o dX7_place_49 fl_X7_50 sh_64 (by decide) rfl rf_64_17 ?_
      refine R_iload_n o 3 dX7_place_52 rfl rfl ?_
      refine R_iald o dX7_place_53 sh_77 ?_
      exact T_some (fun p => rr _ _ _ _ dX7_place_54 p)
    · refine R_aload_n o 0 dX7_place_31 rfl rfl ?_
      refine R_iconst (v := 2) o dX7_place_32 (by decide) ?_
      refine K_ih (callV' (As := [.int 2]) (rest := []) o dX7_place_33 lk_X7_100 rfl sh_64 rfl rfl rfl rfl (Nat.le_of_ble_eq_true rfl)) (c_X7_meets g l h2 2) (fun r33 h33 => ?_)
      exact T_some (fun p => rr _ _ _ _ dX7_place_36 p)
theorem c_X7_place (g : Gx) (l : Launch) (h : MH) (x1 : Int32) (x2 : Int32) (x3 : Int32) (r : (Int32 × MH)) (e : f_X7_place h x1 x2 x3 = some r) : Ctr g l yX7_place cX7_place 5 (some .int) 3 63 0 [rA g 64, .int x1, .int x2, .int x3] h (some (.int r.1)) r.2 := mkCi (plainFor_of_name (by decide)) (Nat.le_of_ble_eq_true rfl) (fun V Rt o rr p => b_X7_place o rr h x1 x2 x3  r e p)
/-! X7_byteAt -/
noncomputable def f_X7_byteAt (h : MH) (x1 : Int32) (x2 : Int32) : Option Int32 :=
  gd (ix x1 4) ((if x2 < (h.1 69 x1.toNatClampNeg) then gd (ix ((60 * x1) + x2) 240) (some (h.1 70 ((60 * x1) + x2).toNatClampNeg)) else some (-9)))
set_option maxRecDepth 100000 in
set_option maxHeartbeats 4000000 in
theorem b_X7_byteAt {g : Gx} {l : Launch} {V : VT} {Rt : Option Value → MH → Prop} (o : Ok g l RX7 cX7_byteAt 3 0 0 0 V) (rr : ORi cX7_byteAt V Rt) (h : MH) (x1 : Int32) (x2 : Int32) : T (fun r => Rt (some (.int r)) h) (f_X7_byteAt h x1 x2) (V 0 [(0, rA g 64), (1, .int x1), (2, .int x2)] [] h) := by
  unfold f_X7_byteAt
  refine R_iload_n o 2 dX7_byteAt_0 rfl rfl ?_
  refine R_aload_n o 0 dX7_byteAt_1 rfl rfl ?_
  refine R_getR (a2 := 69) o dX7_byteAt_2 fl_X7_26 sh_64 (by decide) rfl rf_64_8 ?_
  refine R_iload_n o 1 dX7_byteAt_5 rfl rfl ?_
  refine R_iald o dX7_byteAt_6 sh_69 ?_
  refine R_icmp_ge o 24 dX7_byteAt_7 (by decide) ?_ ?_
  · refine R_aload_n o 0 dX7_byteAt_10 rfl rfl ?_
    refine R_getR (a2 := 70) o dX7_byteAt_11 fl_X7_29 sh_64 (by decide) rfl rf_64_9 ?_
    refine R_bipush (v := 60) o dX7_byteAt_14 (by decide) ?_
    refine R_iload_n o 1 dX7_byteAt_16 rfl rfl ?_
    refine R_imul o dX7_byteAt_17 ?_
    refine R_iload_n o 2 dX7_byteAt_18 rfl rfl ?_
    refine R_iadd o dX7_byteAt_19 ?_
    refine R_iald o dX7_byteAt_20 sh_70 ?_
    refine R_goto o 26 dX7_byteAt_21 (by decide) ?_
    exact T_some (fun p => rr _ _ _ _ dX7_byteAt_26 p)
  · refine R_bipush (v := (-9)) o dX7_byteAt_24 (by decide) ?_
    exact T_some (fun p => rr _ _ _ _ dX7_byteAt_26 p)
theorem c_X7_byteAt (g : Gx) (l : Launch) (h : MH) (x1 : Int32) (x2 : Int32) (r : Int32) (e : f_X7_byteAt h x1 x2 = some r) : Ctr g l yX7_byteAt cX7_byteAt 3 (some .int) 0 0 0 [rA g 64, .int x1, .int x2] h (some (.int r)) h := mkCi (plainFor_of_name (by decide)) (Nat.le_of_ble_eq_true rfl) (fun V Rt o rr p => b_X7_byteAt o rr h x1 x2  r e p)
/-! X7_isSign -/
noncomputable def f_X7_isSign (x0 : Int32) : Option Bool :=
  (if x0 = 48 then some true else (if x0 = 49 then some true else some false))
set_option maxRecDepth 100000 in
set_option maxHeartbeats 4000000 in
theorem b_X7_isSign {g : Gx} {l : Launch} {V : VT} {Rt : Option Value → MH → Prop} (o : Ok g l RX7 cX7_isSign 1 0 0 0 V) (rr : ORz cX7_isSign V Rt) (h : MH) (x0 : Int32) : T (fun r => Rt (some (.int (b2i r))) h) (f_X7_isSign  x0) (V 0 [(0, .int x0)] [] h) := by
  unfold f_X7_isSign
  refine R_iload_n o 0 dX7_isSign_0 rfl rfl ?_
  refine R_bipush (v := 48) o dX7_isSign_1 (by decide) ?_
  refine R_icmp_eq o 12 dX7_isSign_3 (by decide) ?_ ?_
  · refine R_iconst (v := 1) o dX7_isSign_12 (by decide) ?_
    refine R_goto o 17 dX7_isSign_13 (by decide) ?_
    exact T_some (fun p => rr _ _ true _ dX7_isSign_17 p)
  · refine R_iload_n o 0 dX7_isSign_6 rfl rfl ?_
    refine R_bipush (v := 49) o dX7_isSign_7 (by decide) ?_
    refine R_icmp_ne o 16 dX7_isSign_9 (by decide) ?_ ?_
    · refine R_iconst (v := 1) o dX7_isSign_12 (by decide) ?_
      refine R_goto o 17 dX7_isSign_13 (by decide) ?_
      exact T_some (fun p => rr _ _ true _ dX7_isSign_17 p)
    · refine R_iconst (v := 0) o dX7_isSign_16 (by decide) ?_
      exact T_some (fun p => rr _ _ false _ dX7_isSign_17 p)
theorem c_X7_isSign (g : Gx) (l : Launch) (h : MH) (x0 : Int32) (r : Bool) (e : f_X7_isSign  x0 = some r) : Ctr g l yX7_isSign cX7_isSign 1 (some .boolean) 0 0 0 [.int x0] h (some (.int (b2i r))) h := mkCz (plainFor_of_name (by decide)) (Nat.le_of_ble_eq_true rfl) (fun V Rt o rr p => b_X7_isSign o rr h x0  r e p)
/-! X7_reads -/
noncomputable def f_X7_reads_B2 (h : MH) (x1 : Int32) (x2 : Int32) : Option ((Int32) ⊕ (Int32)) :=
  Option.bind (f_X7_byteAt h x1 x2) (fun r5 => (if r5 = 32 then some (.inl (x2 + 1)) else some (.inr x2)))
set_option maxRecDepth 100000 in
set_option maxHeartbeats 4000000 in
theorem t_X7_reads_B2 {g : Gx} {l : Launch} {V : VT} {Rt : Option Value → MH → Prop} (o : Ok g l RX7 cX7_reads 6 1 22 0 V) (rr : ORi cX7_reads V Rt) (h : MH) (x1 : Int32) (x2 : Int32) : T (Sum.elim (fun s => V 2 [(0, rA g 64), (1, .int x1), (2, .int s)] [] h) (fun b => V 19 [(0, rA g 64), (1, .int x1), (2, .int b)] [] h)) (f_X7_reads_B2  h x1 x2) (V 2 [(0, rA g 64), (1, .int x1), (2, .int x2)] [] h) := by
  unfold f_X7_reads_B2
  refine R_aload_n o 0 dX7_reads_2 rfl rfl ?_
  refine R_iload_n o 1 dX7_reads_3 rfl rfl ?_
  refine R_iload_n o 2 dX7_reads_4 rfl rfl ?_
  refine K_i (callV' (As := [.int x1, .int x2]) (rest := []) o dX7_reads_5 lk_X7_176 rfl sh_64 rfl rfl rfl rfl (Nat.le_of_ble_eq_true rfl)) (c_X7_byteAt g l h x1 x2) (fun r5 => ?_)
  refine R_bipush (v := 32) o dX7_reads_8 (by decide) ?_
  refine R_icmp_ne o 19 dX7_reads_10 (by decide) ?_ ?_
  · refine R_iinc (v := (x2 + 1)) (lv2 := [(0, rA g 64), (1, .int x1), (2, .int (x2 + 1))]) o 2 dX7_reads_13 rfl rfl (by decide) rfl ?_
    refine R_goto o 2 dX7_reads_16 (by decide) ?_
    exact T_some (fun p => p)
  · exact T_some (fun p => p)
noncomputable def f_X7_reads_L2 (h : MH) (x1 : Int32) (x2 : Int32) : Option (Int32) :=
  lpo (fun s : Int32 => f_X7_reads_B2 h x1 s) x2
theorem t_X7_reads_L2 {g : Gx} {l : Launch} {V : VT} {Rt : Option Value → MH → Prop} (o : Ok g l RX7 cX7_reads 6 1 22 0 V) (rr : ORi cX7_reads V Rt) (h : MH) (x1 : Int32) (x2 : Int32) : T (fun b => V 19 [(0, rA g 64), (1, .int x1), (2, .int b)] [] h) (f_X7_reads_L2 h x1 x2) (V 2 [(0, rA g 64), (1, .int x1), (2, .int x2)] [] h) := T_loop (head := fun s : Int32 => V 2 [(0, rA g 64), (1, .int x1), (2, .int s)] [] h) (fun s => t_X7_reads_B2 o rr h x1 s ) x2
noncomputable def f_X7_reads_B61 (h : MH) (x1 : Int32) (x2 : Int32) (x4 : Int32) (x5 : Int32) : Option ((Int32 × Int32 × MH) ⊕ (Int32 × Int32 × MH)) :=
  Option.bind (f_X7_byteAt h x1 x2) (fun r64 => Option.bind (f_X7_isSign r64) (fun r67 => (if r67 = true then (if x4 < x5 then gd (ix (h.1 64 21) 6) (Option.bind (f_X7_byteAt h x1 x2) (fun r93 => gd (ix (h.1 64 21) 6) (nm (uI h 81 (h.1 64 21).toNatClampNeg ((h.1 81 (h.1 64 21).toNatClampNeg) ||| (shl (r93 - 48) x4))) (fun h103 => some (.inl ((x2 + 1), (x4 + 1), h103)))))) else some (.inr (x2, x4, h))) else some (.inr (x2, x4, h)))))
set_option maxRecDepth 100000 in
set_option maxHeartbeats 4000000 in
theorem t_X7_reads_B61 {g : Gx} {l : Launch} {V : VT} {Rt : Option Value → MH → Prop} (o : Ok g l RX7 cX7_reads 6 1 22 0 V) (rr : ORi cX7_reads V Rt) (h : MH) (x1 : Int32) (x2 : Int32) (x4 : Int32) (x5 : Int32) : T (Sum.elim (fun s => V 61 [(0, rA g 64), (1, .int x1), (2, .int s.1), (4, .int s.2.1), (5, .int x5)] [] s.2.2) (fun b => V 113 [(0, rA g 64), (1, .int x1), (2, .int b.1), (4, .int b.2.1)] [] b.2.2)) (f_X7_reads_B61  h x1 x2 x4 x5) (V 61 [(0, rA g 64), (1, .int x1), (2, .int x2), (4, .int x4), (5, .int x5)] [] h) := by
  unfold f_X7_reads_B61
  refine R_aload_n o 0 dX7_reads_61 rfl rfl ?_
  refine R_iload_n o 1 dX7_reads_62 rfl rfl ?_
  refine R_iload_n o 2 dX7_reads_63 rfl rfl ?_
  refine K_i (callV' (As := [.int x1, .int x2]) (rest := []) o dX7_reads_64 lk_X7_176 rfl sh_64 rfl rfl rfl rfl (Nat.le_of_ble_eq_true rfl)) (c_X7_byteAt g l h x1 x2) (fun r64 => ?_)
  refine K_z (callS' (av := [.int r64]) (rest := []) o dX7_reads_67 lk_X7_185 rfl rfl rfl (Nat.le_of_ble_eq_true rfl)) (c_X7_isSign g l h r64) (fun r67 => ?_)
  refine R_bif_eq o 113 dX7_reads_70 (by decide) ?_ ?_
  · refine R_iload o 3 dX7_reads_73 rfl ?_
    refine R_iload o 4 dX7_reads_75 rfl ?_
    refine R_icmp_ge o 113 dX7_reads_77 (by decide) ?_ ?_
    · refine R_aload_n o 0 dX7_reads_80 rfl rfl ?_
      refine R_getR (a2 := 81) o dX7_reads_81 fl_X7_62 sh_64 (by decide) rfl rf_64_23 ?_
      refine R_aload_n o 0 dX7_reads_84 rfl rfl ?_
      refine R_getI o dX7_reads_85 fl_X7_179 sh_64 (by decide) rfl ?_
      refine R_dup2 o dX7_reads_88 rfl rfl ?_
      refine R_iald o dX7_reads_89 sh_81 ?_
      refine R_aload_n o 0 dX7_reads_90 rfl rfl ?_
      refine R_iload_n o 1 dX7_reads_91 rfl rfl ?_
      refine R_iload_n o 2 dX7_reads_92 rfl rfl ?_
      refine K_i (callV' (As := [.int x1, .int x2]) (rest := [.int (h.1 81 (h.1 64 21).toNatClampNeg), .int (h.1 64 21), rA g 81]) o dX7_reads_93 lk_X7_176 rfl sh_64 rfl rfl rfl rfl (Nat.le_of_ble_eq_true rfl)) (c_X7_byteAt g l h x1 x2) (fun r93 => ?_)
      refine R_bipush (v := 48) o dX7_reads_96 (by decide) ?_
      refine R_isub o dX7_reads_98 ?_
      refine R_iload o 3 dX7_reads_99 rfl ?_
      refine R_ishl o dX7_reads_101 ?_
      refine R_ior o dX7_reads_102 ?_
      refine R_iast o dX7_reads_103 sh_81 ?_
      refine R_nmH (fun h103 => ?_)
      refine R_iinc (v := (x4 + 1)) (lv2 := [(0, rA g 64), (1, .int x1), (2, .int x2), (4, .int (x4 + 1)), (5, .int x5)]) o 3 dX7_reads_104 rfl rfl (by decide) rfl ?_
      refine R_iinc (v := (x2 + 1)) (lv2 := [(0, rA g 64), (1, .int x1), (2, .int (x2 + 1)), (4, .int (x4 + 1)), (5, .int x5)]) o 2 dX7_reads_107 rfl rfl (by decide) rfl ?_
      refine R_goto o 61 dX7_reads_110 (by decide) ?_
      exact T_some (fun p => p)
    · refine R_drop (lv2 := [(0, rA g 64), (1, .int x1), (2, .int x2), (4, .int x4)]) o [0, 1, 2, 3] rfl ?_
      exact T_some (fun p => p)
  · refine R_drop (lv2 := [(0, rA g 64), (1, .int x1), (2, .int x2), (4, .int x4)]) o [0, 1, 2, 3] rfl ?_
    exact T_some (fun p => p)
noncomputable def f_X7_reads_L61 (h : MH) (x1 : Int32) (x2 : Int32) (x4 : Int32) (x5 : Int32) : Option (Int32 × Int32 × MH) :=
  lpo (fun s : Int32 × Int32 × MH => f_X7_reads_B61 s.2.2 x1 s.1 s.2.1 x5) (x2, x4, h)
theorem t_X7_reads_L61 {g : Gx} {l : Launch} {V : VT} {Rt : Option Value → MH → Prop} (o : Ok g l RX7 cX7_reads 6 1 22 0 V) (rr : ORi cX7_reads V Rt) (h : MH) (x1 : Int32) (x2 : Int32) (x4 : Int32) (x5 : Int32) : T (fun b => V 113 [(0, rA g 64), (1, .int x1), (2, .int b.1), (4, .int b.2.1)] [] b.2.2) (f_X7_reads_L61 h x1 x2 x4 x5) (V 61 [(0, rA g 64), (1, .int x1), (2, .int x2), (4, .int x4), (5, .int x5)] [] h) := T_loop (head := fun s : Int32 × Int32 × MH => V 61 [(0, rA g 64), (1, .int x1), (2, .int s.1), (4, .int s.2.1), (5, .int x5)] [] s.2.2) (fun s => t_X7_reads_B61 o rr s.2.2 x1 s.1 s.2.1 x5 ) (x2, x4, h)
noncomputable def f_X7_reads_J203_26 (h : MH) (x1 : Int32) (x2 : Int32) (x3 : Int32) : Option ((Int32 × Int32 × MH) ⊕ ((Int32 × MH) ⊕ ((Int32 × MH)))) :=
  (if x3 = 0 then nm (x2 + 0) (fun v214 => some (.inl (v214, x3, h))) else nm (x2 + 1) (fun v214 => some (.inl (v214, x3, h))))
set_option maxRecDepth 100000 in
set_option maxHeartbeats 4000000 in
theorem t_X7_reads_J203_26 {g : Gx} {l : Launch} {V : VT} {Rt : Option Value → MH → Prop} (o : Ok g l RX7 cX7_reads 6 1 22 0 V) (rr : ORi cX7_reads V Rt) (h : MH) (x1 : Int32) (x2 : Int32) (x3 : Int32) : T (Sum.elim (fun s => V 26 [(0, rA g 64), (1, .int x1), (2, .int s.1), (3, .int s.2.1)] [] s.2.2) (Sum.elim (fun b => V 218 [(0, rA g 64), (1, .int x1), (2, .int b.1)] [] b.2) (fun r => Rt (some (.int r.1)) r.2))) (f_X7_reads_J203_26  h x1 x2 x3) (V 203 [(0, rA g 64), (1, .int x1), (2, .int x2), (3, .int x3)] [] h) := by
  unfold f_X7_reads_J203_26
  refine R_iload_n o 2 dX7_reads_203 rfl rfl ?_
  refine R_iload_n o 3 dX7_reads_204 rfl rfl ?_
  refine R_if_eq o 212 dX7_reads_205 (by decide) ?_ ?_
  · refine R_iconst (v := 0) o dX7_reads_212 (by decide) ?_
    refine R_iadd o dX7_reads_213 ?_
    refine R_nmI (fun v214 => ?_)
    refine R_istore_n (lv2 := [(0, rA g 64), (1, .int x1), (2, .int v214), (3, .int x3)]) o dX7_reads_214 rfl (by decide) rfl ?_
    refine R_goto o 26 dX7_reads_215 (by decide) ?_
    exact T_some (fun p => p)
  · refine R_iconst (v := 1) o dX7_reads_208 (by decide) ?_
    refine R_goto o 213 dX7_reads_209 (by decide) ?_
    refine R_iadd o dX7_reads_213 ?_
    refine R_nmI (fun v214 => ?_)
    refine R_istore_n (lv2 := [(0, rA g 64), (1, .int x1), (2, .int v214), (3, .int x3)]) o dX7_reads_214 rfl (by decide) rfl ?_
    refine R_goto o 26 dX7_reads_215 (by decide) ?_
    exact T_some (fun p => p)
noncomputable def f_X7_reads_J187_26 (h : MH) (x1 : Int32) (x2 : Int32) (s0 : Int32) : Option ((Int32 × Int32 × MH) ⊕ ((Int32 × MH) ⊕ ((Int32 × MH)))) :=
  (if s0 = 0 then f_X7_reads_J203_26 h x1 x2 s0 else (if (h.1 64 21) = 6 then some (.inr (.inr (x2, h))) else f_X7_reads_J203_26 h x1 x2 s0))
set_option maxRecDepth 100000 in
set_option maxHeartbeats 4000000 in
theorem t_X7_reads_J187_26 {g : Gx} {l : Launch} {V : VT} {Rt : Option Value → MH → Prop} (o : Ok g l RX7 cX7_reads 6 1 22 0 V) (rr : ORi cX7_reads V Rt) (h : MH) (x1 : Int32) (x2 : Int32) (s0 : Int32) : T (Sum.elim (fun s => V 26 [(0, rA g 64), (1, .int x1), (2, .int s.1), (3, .int s.2.1)] [] s.2.2) (Sum.elim (fun b => V 218 [(0, rA g 64), (1, .int x1), (2, .int b.1)] [] b.2) (fun r => Rt (some (.int r.1)) r.2))) (f_X7_reads_J187_26  h x1 x2 s0) (V 187 [(0, rA g 64), (1, .int x1), (2, .int x2)] [.int s0] h) := by
  unfold f_X7_reads_J187_26
  refine R_istore_n (lv2 := [(0, rA g 64), (1, .int x1), (2, .int x2), (3, .int s0)]) o dX7_reads_187 rfl (by decide) rfl ?_
  refine R_iload_n o 3 dX7_reads_188 rfl rfl ?_
  refine R_if_eq o 203 dX7_reads_189 (by decide) ?_ ?_
  · exact t_X7_reads_J203_26 o rr h x1 x2 s0
  · refine R_aload_n o 0 dX7_reads_192 rfl rfl ?_
    refine R_getI o dX7_reads_193 fl_X7_179 sh_64 (by decide) rfl ?_
    refine R_bipush (v := 6) o dX7_reads_196 (by decide) ?_
    refine R_icmp_ne o 203 dX7_reads_198 (by decide) ?_ ?_
    · refine R_iload_n o 2 dX7_reads_201 rfl rfl ?_
      exact T_some (fun p => rr _ _ _ _ dX7_reads_202 p)
    · exact t_X7_reads_J203_26 o rr h x1 x2 s0
noncomputable def f_X7_reads_J130_26 (h : MH) (x1 : Int32) (x2 : Int32) (x4 : Int32) (s1 : Int32) : Option ((Int32 × Int32 × MH) ⊕ ((Int32 × MH) ⊕ ((Int32 × MH)))) :=
  nm (uI h 64 22 s1) (fun h130 => (if x4 = 0 then some (.inr (.inr (x2, h130))) else (if x4 < (h130.1 64 22) then some (.inr (.inr (x2, h130))) else Option.bind (f_X7_byteAt h130 x1 x2) (fun r150 => Option.bind (f_X7_isSign r150) (fun r153 => (if r153 = true then some (.inr (.inr (x2, h130))) else nm (uI h130 64 21 ((h130.1 64 21) + 1)) (fun h168 => Option.bind (f_X7_byteAt h168 x1 x2) (fun r174 => (if r174 = 47 then f_X7_reads_J187_26 h168 x1 x2 1 else f_X7_reads_J187_26 h168 x1 x2 0)))))))))
set_option maxRecDepth 100000 in
set_option maxHeartbeats 4000000 in
theorem t_X7_reads_J130_26 {g : Gx} {l : Launch} {V : VT} {Rt : Option Value → MH → Prop} (o : Ok g l RX7 cX7_reads 6 1 22 0 V) (rr : ORi cX7_reads V Rt) (h : MH) (x1 : Int32) (x2 : Int32) (x4 : Int32) (s1 : Int32) : T (Sum.elim (fun s => V 26 [(0, rA g 64), (1, .int x1), (2, .int s.1), (3, .int s.2.1)] [] s.2.2) (Sum.elim (fun b => V 218 [(0, rA g 64), (1, .int x1), (2, .int b.1)] [] b.2) (fun r => Rt (some (.int r.1)) r.2))) (f_X7_reads_J130_26  h x1 x2 x4 s1) (V 130 [(0, rA g 64), (1, .int x1), (2, .int x2), (4, .int x4)] [.int s1, rA g 64] h) := by
  unfold f_X7_reads_J130_26
  refine R_putI o dX7_reads_130 fp_X7_182 sh_64 (by decide) rfl ?_
  refine R_nmH (fun h130 => ?_)
  refine R_iload o 3 dX7_reads_133 rfl ?_
  refine R_if_eq o 159 dX7_reads_135 (by decide) ?_ ?_
  · refine R_iload_n o 2 dX7_reads_159 rfl rfl ?_
    exact T_some (fun p => rr _ _ _ _ dX7_reads_160 p)
  · refine R_iload o 3 dX7_reads_138 rfl ?_
    refine R_aload_n o 0 dX7_reads_140 rfl rfl ?_
    refine R_getI o dX7_reads_141 fl_X7_182 sh_64 (by decide) rfl ?_
    refine R_icmp_lt o 159 dX7_reads_144 (by decide) ?_ ?_
    · refine R_iload_n o 2 dX7_reads_159 rfl rfl ?_
      exact T_some (fun p => rr _ _ _ _ dX7_reads_160 p)
    · refine R_aload_n o 0 dX7_reads_147 rfl rfl ?_
      refine R_iload_n o 1 dX7_reads_148 rfl rfl ?_
      refine R_iload_n o 2 dX7_reads_149 rfl rfl ?_
      refine K_i (callV' (As := [.int x1, .int x2]) (rest := []) o dX7_reads_150 lk_X7_176 rfl sh_64 rfl rfl rfl rfl (Nat.le_of_ble_eq_true rfl)) (c_X7_byteAt g l h130 x1 x2) (fun r150 => ?_)
      refine K_z (callS' (av := [.int r150]) (rest := []) o dX7_reads_153 lk_X7_185 rfl rfl rfl (Nat.le_of_ble_eq_true rfl)) (c_X7_isSign g l h130 r150) (fun r153 => ?_)
      refine R_bif_eq o 161 dX7_reads_156 (by decide) ?_ ?_
      · refine R_iload_n o 2 dX7_reads_159 rfl rfl ?_
        exact T_some (fun p => rr _ _ _ _ dX7_reads_160 p)
      · refine R_aload_n o 0 dX7_reads_161 rfl rfl ?_
        refine R_dup o dX7_reads_162 rfl ?_
        refine R_getI o dX7_reads_163 fl_X7_179 sh_64 (by decide) rfl ?_
        refine R_iconst (v := 1) o dX7_reads_166 (by decide) ?_
        refine R_iadd o dX7_reads_167 ?_
        refine R_putI o dX7_reads_168 fp_X7_179 sh_64 (by decide) rfl ?_
        refine R_nmH (fun h168 => ?_)
        refine R_aload_n o 0 dX7_reads_171 rfl rfl ?_
        refine R_iload_n o 1 dX7_reads_172 rfl rfl ?_
        refine R_iload_n o 2 dX7_reads_173 rfl rfl ?_
        refine K_i (callV' (As := [.int x1, .int x2]) (rest := []) o dX7_reads_174 lk_X7_176 rfl sh_64 rfl rfl rfl rfl (Nat.le_of_ble_eq_true rfl)) (c_X7_byteAt g l h168 x1 x2) (fun r174 => ?_)
        refine R_bipush (v := 47) o dX7_reads_177 (by decide) ?_
        refine R_icmp_ne o 186 dX7_reads_179 (by decide) ?_ ?_
        · refine R_iconst (v := 1) o dX7_reads_182 (by decide) ?_
          refine R_goto o 187 dX7_reads_183 (by decide) ?_
          refine R_drop (lv2 := [(0, rA g 64), (1, .int x1), (2, .int x2)]) o [0, 1, 2] rfl ?_
          exact t_X7_reads_J187_26 o rr h168 x1 x2 1
        · refine R_iconst (v := 0) o dX7_reads_186 (by decide) ?_
          refine R_drop (lv2 := [(0, rA g 64), (1, .int x1), (2, .int x2)]) o [0, 1, 2] rfl ?_
          exact t_X7_reads_J187_26 o rr h168 x1 x2 0
noncomputable def f_X7_reads_J113_26 (h : MH) (x1 : Int32) (x2 : Int32) (x4 : Int32) : Option ((Int32 × Int32 × MH) ⊕ ((Int32 × MH) ⊕ ((Int32 × MH)))) :=
  (if (h.1 64 21) = 0 then f_X7_reads_J130_26 h x1 x2 x4 x4 else f_X7_reads_J130_26 h x1 x2 x4 (h.1 64 22))
set_option maxRecDepth 100000 in
set_option maxHeartbeats 4000000 in
theorem t_X7_reads_J113_26 {g : Gx} {l : Launch} {V : VT} {Rt : Option Value → MH → Prop} (o : Ok g l RX7 cX7_reads 6 1 22 0 V) (rr : ORi cX7_reads V Rt) (h : MH) (x1 : Int32) (x2 : Int32) (x4 : Int32) : T (Sum.elim (fun s => V 26 [(0, rA g 64), (1, .int x1), (2, .int s.1), (3, .int s.2.1)] [] s.2.2) (Sum.elim (fun b => V 218 [(0, rA g 64), (1, .int x1), (2, .int b.1)] [] b.2) (fun r => Rt (some (.int r.1)) r.2))) (f_X7_reads_J113_26  h x1 x2 x4) (V 113 [(0, rA g 64), (1, .int x1), (2, .int x2), (4, .int x4)] [] h) := by
  unfold f_X7_reads_J113_26
  refine R_aload_n o 0 dX7_reads_113 rfl rfl ?_
  refine R_aload_n o 0 dX7_reads_114 rfl rfl ?_
  refine R_getI o dX7_reads_115 fl_X7_179 sh_64 (by decide) rfl ?_
  refine R_if_ne o 126 dX7_reads_118 (by decide) ?_ ?_
  · refine R_iload o 3 dX7_reads_121 rfl ?_
    refine R_goto o 130 dX7_reads_123 (by decide) ?_
    exact t_X7_reads_J130_26 o rr h x1 x2 x4 x4
  · refine R_aload_n o 0 dX7_reads_126 rfl rfl ?_
    refine R_getI o dX7_reads_127 fl_X7_182 sh_64 (by decide) rfl ?_
    exact t_X7_reads_J130_26 o rr h x1 x2 x4 (h.1 64 22)
noncomputable def f_X7_reads_J59_26 (h : MH) (x1 : Int32) (x2 : Int32) (x4 : Int32) (s0 : Int32) : Option ((Int32 × Int32 × MH) ⊕ ((Int32 × MH) ⊕ ((Int32 × MH)))) :=
  Option.bind (f_X7_reads_L61 h x1 x2 x4 s0) (fun b61 => f_X7_reads_J113_26 b61.2.2 x1 b61.1 b61.2.1)
set_option maxRecDepth 100000 in
set_option maxHeartbeats 4000000 in
theorem t_X7_reads_J59_26 {g : Gx} {l : Launch} {V : VT} {Rt : Option Value → MH → Prop} (o : Ok g l RX7 cX7_reads 6 1 22 0 V) (rr : ORi cX7_reads V Rt) (h : MH) (x1 : Int32) (x2 : Int32) (x4 : Int32) (s0 : Int32) : T (Sum.elim (fun s => V 26 [(0, rA g 64), (1, .int x1), (2, .int s.1), (3, .int s.2.1)] [] s.2.2) (Sum.elim (fun b => V 218 [(0, rA g 64), (1, .int x1), (2, .int b.1)] [] b.2) (fun r => Rt (some (.int r.1)) r.2))) (f_X7_reads_J59_26  h x1 x2 x4 s0) (V 59 [(0, rA g 64), (1, .int x1), (2, .int x2), (4, .int x4)] [.int s0] h) := by
  unfold f_X7_reads_J59_26
  refine R_istore (lv2 := [(0, rA g 64), (1, .int x1), (2, .int x2), (4, .int x4), (5, .int s0)]) o dX7_reads_59 (by decide) rfl ?_
  refine T_bind (t_X7_reads_L61 o rr h x1 x2 x4 s0) (fun b61 => ?_)
  exact t_X7_reads_J113_26 o rr b61.2.2 x1 b61.1 b61.2.1
noncomputable def f_X7_reads_B26 (h : MH) (x1 : Int32) (x2 : Int32) (x3 : Int32) : Option ((Int32 × Int32 × MH) ⊕ ((Int32 × MH) ⊕ ((Int32 × MH)))) :=
  (if x3 = 0 then some (.inr (.inl (x2, h))) else gd (ix (h.1 64 21) 6) (nm (uI h 81 (h.1 64 21).toNatClampNeg 0) (fun h42 => (if (h42.1 64 21) = 0 then f_X7_reads_J59_26 h42 x1 x2 0 12 else f_X7_reads_J59_26 h42 x1 x2 0 (h42.1 64 22)))))
set_option maxRecDepth 100000 in
set_option maxHeartbeats 4000000 in
theorem t_X7_reads_B26 {g : Gx} {l : Launch} {V : VT} {Rt : Option Value → MH → Prop} (o : Ok g l RX7 cX7_reads 6 1 22 0 V) (rr : ORi cX7_reads V Rt) (h : MH) (x1 : Int32) (x2 : Int32) (x3 : Int32) : T (Sum.elim (fun s => V 26 [(0, rA g 64), (1, .int x1), (2, .int s.1), (3, .int s.2.1)] [] s.2.2) (Sum.elim (fun b => V 218 [(0, rA g 64), (1, .int x1), (2, .int b.1)] [] b.2) (fun r => Rt (some (.int r.1)) r.2))) (f_X7_reads_B26  h x1 x2 x3) (V 26 [(0, rA g 64), (1, .int x1), (2, .int x2), (3, .int x3)] [] h) := by
  unfold f_X7_reads_B26
  refine R_iload_n o 3 dX7_reads_26 rfl rfl ?_
  refine R_if_eq o 218 dX7_reads_27 (by decide) ?_ ?_
  · refine R_drop (lv2 := [(0, rA g 64), (1, .int x1), (2, .int x2)]) o [0, 1, 2] rfl ?_
    exact T_some (fun p => p)
  · refine R_iconst (v := 0) o dX7_reads_30 (by decide) ?_
    refine R_istore (lv2 := [(0, rA g 64), (1, .int x1), (2, .int x2), (3, .int x3), (4, .int 0)]) o dX7_reads_31 (by decide) rfl ?_
    refine R_aload_n o 0 dX7_reads_33 rfl rfl ?_
    refine R_getR (a2 := 81) o dX7_reads_34 fl_X7_62 sh_64 (by decide) rfl rf_64_23 ?_
    refine R_aload_n o 0 dX7_reads_37 rfl rfl ?_
    refine R_getI o dX7_reads_38 fl_X7_179 sh_64 (by decide) rfl ?_
    refine R_iconst (v := 0) o dX7_reads_41 (by decide) ?_
    refine R_iast o dX7_reads_42 sh_81 ?_
    refine R_nmH (fun h42 => ?_)
    refine R_aload_n o 0 dX7_reads_43 rfl rfl ?_
    refine R_getI o dX7_reads_44 fl_X7_179 sh_64 (by decide) rfl ?_
    refine R_if_ne o 55 dX7_reads_47 (by decide) ?_ ?_
    · refine R_bipush (v := 12) o dX7_reads_50 (by decide) ?_
      refine R_goto o 59 dX7_reads_52 (by decide) ?_
      refine R_drop (lv2 := [(0, rA g 64), (1, .int x1), (2, .int x2), (4, .int 0)]) o [0, 1, 2, 4] rfl ?_
      exact t_X7_reads_J59_26 o rr h42 x1 x2 0 12
    · refine R_aload_n o 0 dX7_reads_55 rfl rfl ?_
      refine R_getI o dX7_reads_56 fl_X7_182 sh_64 (by decide) rfl ?_
      refine R_drop (lv2 := [(0, rA g 64), (1, .int x1), (2, .int x2), (4, .int 0)]) o [0, 1, 2, 4] rfl ?_
      exact t_X7_reads_J59_26 o rr h42 x1 x2 0 (h42.1 64 22)
noncomputable def f_X7_reads_L26 (h : MH) (x1 : Int32) (x2 : Int32) (x3 : Int32) : Option ((Int32 × MH) ⊕ ((Int32 × MH))) :=
  lpo (fun s : Int32 × Int32 × MH => f_X7_reads_B26 s.2.2 x1 s.1 s.2.1) (x2, x3, h)
theorem t_X7_reads_L26 {g : Gx} {l : Launch} {V : VT} {Rt : Option Value → MH → Prop} (o : Ok g l RX7 cX7_reads 6 1 22 0 V) (rr : ORi cX7_reads V Rt) (h : MH) (x1 : Int32) (x2 : Int32) (x3 : Int32) : T (Sum.elim (fun b => V 218 [(0, rA g 64), (1, .int x1), (2, .int b.1)] [] b.2) (fun r => Rt (some (.int r.1)) r.2)) (f_X7_reads_L26 h x1 x2 x3) (V 26 [(0, rA g 64), (1, .int x1), (2, .int x2), (3, .int x3)] [] h) := T_loop (head := fun s : Int32 × Int32 × MH => V 26 [(0, rA g 64), (1, .int x1), (2, .int s.1), (3, .int s.2.1)] [] s.2.2) (fun s => t_X7_reads_B26 o rr s.2.2 x1 s.1 s.2.1 ) (x2, x3, h)
noncomputable def f_X7_reads_B218 (h : MH) (x1 : Int32) (x2 : Int32) : Option ((Int32) ⊕ (Int32)) :=
  Option.bind (f_X7_byteAt h x1 x2) (fun r221 => (if r221 = 32 then some (.inl (x2 + 1)) else some (.inr x2)))
set_option maxRecDepth 100000 in
set_option maxHeartbeats 4000000 in
theorem t_X7_reads_B218 {g : Gx} {l : Launch} {V : VT} {Rt : Option Value → MH → Prop} (o : Ok g l RX7 cX7_reads 6 1 22 0 V) (rr : ORi cX7_reads V Rt) (h : MH) (x1 : Int32) (x2 : Int32) : T (Sum.elim (fun s => V 218 [(0, rA g 64), (1, .int x1), (2, .int s)] [] h) (fun b => V 235 [(0, rA g 64), (1, .int x1), (2, .int b)] [] h)) (f_X7_reads_B218  h x1 x2) (V 218 [(0, rA g 64), (1, .int x1), (2, .int x2)] [] h) := by
  unfold f_X7_reads_B218
  refine R_aload_n o 0 dX7_reads_218 rfl rfl ?_
  refine R_iload_n o 1 dX7_reads_219 rfl rfl ?_
  refine R_iload_n o 2 dX7_reads_220 rfl rfl ?_
  refine K_i (callV' (As := [.int x1, .int x2]) (rest := []) o dX7_reads_221 lk_X7_176 rfl sh_64 rfl rfl rfl rfl (Nat.le_of_ble_eq_true rfl)) (c_X7_byteAt g l h x1 x2) (fun r221 => ?_)
  refine R_bipush (v := 32) o dX7_reads_224 (by decide) ?_
  refine R_icmp_ne o 235 dX7_reads_226 (by decide) ?_ ?_
  · refine R_iinc (v := (x2 + 1)) (lv2 := [(0, rA g 64), (1, .int x1), (2, .int (x2 + 1))]) o 2 dX7_reads_229 rfl rfl (by decide) rfl ?_
    refine R_goto o 218 dX7_reads_232 (by decide) ?_
    exact T_some (fun p => p)
  · exact T_some (fun p => p)
noncomputable def f_X7_reads_L218 (h : MH) (x1 : Int32) (x2 : Int32) : Option (Int32) :=
  lpo (fun s : Int32 => f_X7_reads_B218 h x1 s) x2
theorem t_X7_reads_L218 {g : Gx} {l : Launch} {V : VT} {Rt : Option Value → MH → Prop} (o : Ok g l RX7 cX7_reads 6 1 22 0 V) (rr : ORi cX7_reads V Rt) (h : MH) (x1 : Int32) (x2 : Int32) : T (fun b => V 235 [(0, rA g 64), (1, .int x1), (2, .int b)] [] h) (f_X7_reads_L218 h x1 x2) (V 218 [(0, rA g 64), (1, .int x1), (2, .int x2)] [] h) := T_loop (head := fun s : Int32 => V 218 [(0, rA g 64), (1, .int x1), (2, .int s)] [] h) (fun s => t_X7_reads_B218 o rr h x1 s ) x2
noncomputable def f_X7_reads (h : MH) (x1 : Int32) : Option (Int32 × MH) :=
  Option.bind (f_X7_reads_L2 h x1 0) (fun b2 => nm (uI h 64 21 0) (fun h21 => Option.bind (f_X7_reads_L26 h21 x1 b2 1) (Sum.elim (fun b26 => Option.bind (f_X7_reads_L218 b26.2 x1 b26.1) (fun b218 => gd (ix x1 4) ((if b218 = (b26.2.1 69 x1.toNatClampNeg) then some ((-9), b26.2) else some (b218, b26.2))))) (fun r => some r))))
set_option maxRecDepth 100000 in
set_option maxHeartbeats 4000000 in
theorem b_X7_reads {g : Gx} {l : Launch} {V : VT} {Rt : Option Value → MH → Prop} (o : Ok g l RX7 cX7_reads 6 1 22 0 V) (rr : ORi cX7_reads V Rt) (h : MH) (x1 : Int32) : T (fun r => Rt (some (.int r.1)) r.2) (f_X7_reads h x1) (V 0 [(0, rA g 64), (1, .int x1)] [] h) := by
  unfold f_X7_reads
  refine R_iconst (v := 0) o dX7_reads_0 (by decide) ?_
  refine R_istore_n (lv2 := [(0, rA g 64), (1, .int x1), (2, .int 0)]) o dX7_reads_1 rfl (by decide) rfl ?_
  refine T_bind (t_X7_reads_L2 o rr h x1 0) (fun b2 => ?_)
  refine R_aload_n o 0 dX7_reads_19 rfl rfl ?_
  refine R_iconst (v := 0) o dX7_reads_20 (by decide) ?_
  refine R_putI o dX7_reads_21 fp_X7_179 sh_64 (by decide) rfl ?_
  refine R_nmH (fun h21 => ?_)
  refine R_iconst (v := 1) o dX7_reads_24 (by decide) ?_
  refine R_istore_n (lv2 := [(0, rA g 64), (1, .int x1), (2, .int b2), (3, .int 1)]) o dX7_reads_25 rfl (by decide) rfl ?_
  refine T_bind2 (t_X7_reads_L26 o rr h21 x1 b2 1) (fun b26 => ?_) (fun r => ?_)
  · refine T_bind (t_X7_reads_L218 o rr b26.2 x1 b26.1) (fun b218 => ?_)
    refine R_iload_n o 2 dX7_reads_235 rfl rfl ?_
    refine R_aload_n o 0 dX7_reads_236 rfl rfl ?_
    refine R_getR (a2 := 69) o dX7_reads_237 fl_X7_26 sh_64 (by decide) rfl rf_64_8 ?_
    refine R_iload_n o 1 dX7_reads_240 rfl rfl ?_
    refine R_iald o dX7_reads_241 sh_69 ?_
    refine R_icmp_ne o 250 dX7_reads_242 (by decide) ?_ ?_
    · refine R_bipush (v := (-9)) o dX7_reads_245 (by decide) ?_
      refine R_goto o 251 dX7_reads_247 (by decide) ?_
      exact T_some (fun p => rr _ _ _ _ dX7_reads_251 p)
    · refine R_iload_n o 2 dX7_reads_250 rfl rfl ?_
      exact T_some (fun p => rr _ _ _ _ dX7_reads_251 p)
  · exact T_some (fun p => p)
theorem c_X7_reads (g : Gx) (l : Launch) (h : MH) (x1 : Int32) (r : (Int32 × MH)) (e : f_X7_reads h x1 = some r) : Ctr g l yX7_reads cX7_reads 6 (some .int) 1 22 0 [rA g 64, .int x1] h (some (.int r.1)) r.2 := mkCi (plainFor_of_name (by decide)) (Nat.le_of_ble_eq_true rfl) (fun V Rt o rr p => b_X7_reads o rr h x1  r e p)
/-! X7_fault -/
noncomputable def f_X7_fault (h : MH) (x1 : Int32) : Option (Int32 × MH) :=
  bnd2 (f_X7_askedText h x1) (fun r2 h2 => (if r2 < 0 then some (r2, h2) else bnd2 (f_X7_reads h2 x1) (fun r16 h16 => some (r16, h16))))
set_option maxRecDepth 100000 in
set_option maxHeartbeats 4000000 in
theorem b_X7_fault {g : Gx} {l : Launch} {V : VT} {Rt : Option Value → MH → Prop} (o : Ok g l RX7 cX7_fault 3 3 63 0 V) (rr : ORi cX7_fault V Rt) (h : MH) (x1 : Int32) : T (fun r => Rt (some (.int r.1)) r.2) (f_X7_fault h x1) (V 0 [(0, rA g 64), (1, .int x1)] [] h) := by
  unfold f_X7_fault
  refine R_aload_n o 0 dX7_fault_0 rfl rfl ?_
  refine R_iload_n o 1 dX7_fault_1 rfl rfl ?_
  refine K_ih (callV' (As := [.int x1]) (rest := []) o dX7_fault_2 lk_X7_120 rfl sh_64 rfl rfl rfl rfl (Nat.le_of_ble_eq_true rfl)) (c_X7_askedText g l h x1) (fun r2 h2 => ?_)
  refine R_istore_n (lv2 := [(0, rA g 64), (1, .int x1), (2, .int r2)]) o dX7_fault_5 rfl (by decide) rfl ?_
  refine R_iload_n o 2 dX7_fault_6 rfl rfl ?_
  refine R_if_ge o 14 dX7_fault_7 (by decide) ?_ ?_
  · refine R_iload_n o 2 dX7_fault_10 rfl rfl ?_
    refine R_goto o 19 dX7_fault_11 (by decide) ?_
    exact T_some (fun p => rr _ _ _ _ dX7_fault_19 p)
  · refine R_aload_n o 0 dX7_fault_14 rfl rfl ?_
    refine R_iload_n o 1 dX7_fault_15 rfl rfl ?_
    refine K_ih (callV' (As := [.int x1]) (rest := []) o dX7_fault_16 lk_X7_188 rfl sh_64 rfl rfl rfl rfl (Nat.le_of_ble_eq_true rfl)) (c_X7_reads g l h2 x1) (fun r16 h16 => ?_)
    exact T_some (fun p => rr _ _ _ _ dX7_fault_19 p)
theorem c_X7_fault (g : Gx) (l : Launch) (h : MH) (x1 : Int32) (r : (Int32 × MH)) (e : f_X7_fault h x1 = some r) : Ctr g l yX7_fault cX7_fault 3 (some .int) 3 63 0 [rA g 64, .int x1] h (some (.int r.1)) r.2 := mkCi (plainFor_of_name (by decide)) (Nat.le_of_ble_eq_true rfl) (fun V Rt o rr p => b_X7_fault o rr h x1  r e p)
/-! X7_isCode -/
noncomputable def f_X7_isCode (x0 : Int32) : Option Bool :=
  Option.bind (f_X7_in x0 0 3) (fun r3 => some r3)
set_option maxRecDepth 100000 in
set_option maxHeartbeats 4000000 in
theorem b_X7_isCode {g : Gx} {l : Launch} {V : VT} {Rt : Option Value → MH → Prop} (o : Ok g l RX7 cX7_isCode 1 1 22 0 V) (rr : ORz cX7_isCode V Rt) (h : MH) (x0 : Int32) : T (fun r => Rt (some (.int (b2i r))) h) (f_X7_isCode  x0) (V 0 [(0, .int x0)] [] h) := by
  unfold f_X7_isCode
  refine R_iload_n o 0 dX7_isCode_0 rfl rfl ?_
  refine R_iconst (v := 0) o dX7_isCode_1 (by decide) ?_
  refine R_iconst (v := 3) o dX7_isCode_2 (by decide) ?_
  refine K_z (callS' (av := [.int x0, .int 0, .int 3]) (rest := []) o dX7_isCode_3 lk_X7_92 rfl rfl rfl (Nat.le_of_ble_eq_true rfl)) (c_X7_in g l h x0 0 3) (fun r3 => ?_)
  exact T_some (fun p => rr _ _ r3 _ dX7_isCode_6 p)
theorem c_X7_isCode (g : Gx) (l : Launch) (h : MH) (x0 : Int32) (r : Bool) (e : f_X7_isCode  x0 = some r) : Ctr g l yX7_isCode cX7_isCode 1 (some .boolean) 1 22 0 [.int x0] h (some (.int (b2i r))) h := mkCz (plainFor_of_name (by decide)) (Nat.le_of_ble_eq_true rfl) (fun V Rt o rr p => b_X7_isCode o rr h x0  r e p)
/-! X7_askedCode -/
noncomputable def f_X7_askedCode (h : MH) (x1 : Int32) : Option (Int32 × MH) :=
  Option.bind (f_X7_isCode x1) (fun r1 => (if r1 = true then gd (ix x1 4) ((if (h.1 78 x1.toNatClampNeg) = 0 then bnd2 (f_X7_meets h 1) (fun r22 h22 => some (r22, h22)) else some (0, h))) else some ((-1), h)))
set_option maxRecDepth 100000 in
set_option maxHeartbeats 4000000 in
theorem b_X7_askedCode {g : Gx} {l : Launch} {V : VT} {Rt : Option Value → MH → Prop} (o : Ok g l RX7 cX7_askedCode 2 2 42 0 V) (rr : ORi cX7_askedCode V Rt) (h : MH) (x1 : Int32) : T (fun r => Rt (some (.int r.1)) r.2) (f_X7_askedCode h x1) (V 0 [(0, rA g 64), (1, .int x1)] [] h) := by
  unfold f_X7_askedCode
  refine R_iload_n o 1 dX7_askedCode_0 rfl rfl ?_
  refine K_z (callS' (av := [.int x1]) (rest := []) o dX7_askedCode_1 lk_X7_191 rfl rfl rfl (Nat.le_of_ble_eq_true rfl)) (c_X7_isCode g l h x1) (fun r1 => ?_)
  refine R_bif_ne o 11 dX7_askedCode_4 (by decide) ?_ ?_
  · refine R_aload_n o 0 dX7_askedCode_11 rfl rfl ?_
    refine R_getR (a2 := 78) o dX7_askedCode_12 fl_X7_53 sh_64 (by decide) rfl rf_64_18 ?_
    refine R_iload_n o 1 dX7_askedCode_15 rfl rfl ?_
    refine R_iald o dX7_askedCode_16 sh_78 ?_
    refine R_if_ne o 28 dX7_askedCode_17 (by decide) ?_ ?_
    · refine R_aload_n o 0 dX7_askedCode_20 rfl rfl ?_
      refine R_iconst (v := 1) o dX7_askedCode_21 (by decide) ?_
      refine K_ih (callV' (As := [.int 1]) (rest := []) o dX7_askedCode_22 lk_X7_100 rfl sh_64 rfl rfl rfl rfl (Nat.le_of_ble_eq_true rfl)) (c_X7_meets g l h 1) (fun r22 h22 => ?_)
      refine R_goto o 29 dX7_askedCode_25 (by decide) ?_
      exact T_some (fun p => rr _ _ _ _ dX7_askedCode_29 p)
    · refine R_iconst (v := 0) o dX7_askedCode_28 (by decide) ?_
      exact T_some (fun p => rr _ _ _ _ dX7_askedCode_29 p)
  · refine R_iconst (v := (-1)) o dX7_askedCode_7 (by decide) ?_
    refine R_goto o 29 dX7_askedCode_8 (by decide) ?_
    exact T_some (fun p => rr _ _ _ _ dX7_askedCode_29 p)
theorem c_X7_askedCode (g : Gx) (l : Launch) (h : MH) (x1 : Int32) (r : (Int32 × MH)) (e : f_X7_askedCode h x1 = some r) : Ctr g l yX7_askedCode cX7_askedCode 2 (some .int) 2 42 0 [rA g 64, .int x1] h (some (.int r.1)) r.2 := mkCi (plainFor_of_name (by decide)) (Nat.le_of_ble_eq_true rfl) (fun V Rt o rr p => b_X7_askedCode o rr h x1  r e p)
/-! X7_code -/
noncomputable def f_X7_code_B66 (h : MH) (x1 : Int32) (x3 : Int32) : Option ((Int32 × MH) ⊕ (MH)) :=
  (if x3 < (h.1 64 21) then gd (ix x3 6) (gd (ix ((6 * x1) + x3) 24) (nm (uI h 80 ((6 * x1) + x3).toNatClampNeg (h.1 81 x3.toNatClampNeg)) (fun h90 => some (.inl ((x3 + 1), h90))))) else some (.inr h))
set_option maxRecDepth 100000 in
set_option maxHeartbeats 4000000 in
theorem t_X7_code_B66 {g : Gx} {l : Launch} {V : VT} {Rt : Option Value → MH → Prop} (o : Ok g l RX7 cX7_code 4 2 47 0 V) (rr : ORi cX7_code V Rt) (h : MH) (x1 : Int32) (x3 : Int32) : T (Sum.elim (fun s => V 66 [(0, rA g 64), (1, .int x1), (3, .int s.1)] [] s.2) (fun b => V 97 [(0, rA g 64)] [] b)) (f_X7_code_B66  h x1 x3) (V 66 [(0, rA g 64), (1, .int x1), (3, .int x3)] [] h) := by
  unfold f_X7_code_B66
  refine R_iload_n o 2 dX7_code_66 rfl rfl ?_
  refine R_aload_n o 0 dX7_code_67 rfl rfl ?_
  refine R_getI o dX7_code_68 fl_X7_179 sh_64 (by decide) rfl ?_
  refine R_icmp_ge o 97 dX7_code_71 (by decide) ?_ ?_
  · refine R_aload_n o 0 dX7_code_74 rfl rfl ?_
    refine R_getR (a2 := 80) o dX7_code_75 fl_X7_59 sh_64 (by decide) rfl rf_64_20 ?_
    refine R_bipush (v := 6) o dX7_code_78 (by decide) ?_
    refine R_iload_n o 1 dX7_code_80 rfl rfl ?_
    refine R_imul o dX7_code_81 ?_
    refine R_iload_n o 2 dX7_code_82 rfl rfl ?_
    refine R_iadd o dX7_code_83 ?_
    refine R_aload_n o 0 dX7_code_84 rfl rfl ?_
    refine R_getR (a2 := 81) o dX7_code_85 fl_X7_62 sh_64 (by decide) rfl rf_64_23 ?_
    refine R_iload_n o 2 dX7_code_88 rfl rfl ?_
    refine R_iald o dX7_code_89 sh_81 ?_
    refine R_iast o dX7_code_90 sh_80 ?_
    refine R_nmH (fun h90 => ?_)
    refine R_iinc (v := (x3 + 1)) (lv2 := [(0, rA g 64), (1, .int x1), (3, .int (x3 + 1))]) o 2 dX7_code_91 rfl rfl (by decide) rfl ?_
    refine R_goto o 66 dX7_code_94 (by decide) ?_
    exact T_some (fun p => p)
  · refine R_drop (lv2 := [(0, rA g 64)]) o [0] rfl ?_
    exact T_some (fun p => p)
noncomputable def f_X7_code_L66 (h : MH) (x1 : Int32) (x3 : Int32) : Option (MH) :=
  lpo (fun s : Int32 × MH => f_X7_code_B66 s.2 x1 s.1) (x3, h)
theorem t_X7_code_L66 {g : Gx} {l : Launch} {V : VT} {Rt : Option Value → MH → Prop} (o : Ok g l RX7 cX7_code 4 2 47 0 V) (rr : ORi cX7_code V Rt) (h : MH) (x1 : Int32) (x3 : Int32) : T (fun b => V 97 [(0, rA g 64)] [] b) (f_X7_code_L66 h x1 x3) (V 66 [(0, rA g 64), (1, .int x1), (3, .int x3)] [] h) := T_loop (head := fun s : Int32 × MH => V 66 [(0, rA g 64), (1, .int x1), (3, .int s.1)] [] s.2) (fun s => t_X7_code_B66 o rr s.2 x1 s.1 ) (x3, h)
noncomputable def f_X7_code (h : MH) (x1 : Int32) (x2 : Int32) : Option (Int32 × MH) :=
  Option.bind (f_X7_isCode x1) (fun r1 => (if r1 = true then Option.bind (f_X7_isText x2) (fun r8 => (if r8 = true then gd (ix x2 4) ((if (h.1 69 x2.toNatClampNeg) < 0 then bnd2 (f_X7_meets h 1) (fun r27 h27 => some (r27, h27)) else bnd2 (f_X7_reads h x2) (fun r33 h33 => (if r33 = (-9) then gd (ix x1 4) (nm (uI h33 78 x1.toNatClampNeg (h33.1 64 21)) (fun h53 => gd (ix x1 4) (nm (uI h53 79 x1.toNatClampNeg (h53.1 64 22)) (fun h63 => Option.bind (f_X7_code_L66 h63 x1 0) (fun b66 => some ((b66.1 64 21), b66)))))) else some ((-4), h33))))) else some ((-1), h))) else some ((-1), h)))
set_option maxRecDepth 100000 in
set_option maxHeartbeats 4000000 in
theorem b_X7_code {g : Gx} {l : Launch} {V : VT} {Rt : Option Value → MH → Prop} (o : Ok g l RX7 cX7_code 4 2 47 0 V) (rr : ORi cX7_code V Rt) (h : MH) (x1 : Int32) (x2 : Int32) : T (fun r => Rt (some (.int r.1)) r.2) (f_X7_code h x1 x2) (V 0 [(0, rA g 64), (1, .int x1), (2, .int x2)] [] h) := by
  unfold f_X7_code
  refine R_iload_n o 1 dX7_code_0 rfl rfl ?_
  refine K_z (callS' (av := [.int x1]) (rest := []) o dX7_code_1 lk_X7_191 rfl rfl rfl (Nat.le_of_ble_eq_true rfl)) (c_X7_isCode g l h x1) (fun r1 => ?_)
  refine R_bif_eq o 14 dX7_code_4 (by decide) ?_ ?_
  · refine R_iload_n o 2 dX7_code_7 rfl rfl ?_
    refine K_z (callS' (av := [.int x2]) (rest := []) o dX7_code_8 lk_X7_104 rfl rfl rfl (Nat.le_of_ble_eq_true rfl)) (c_X7_isText g l h x2) (fun r8 => ?_)
    refine R_bif_ne o 16 dX7_code_11 (by decide) ?_ ?_
    · refine R_aload_n o 0 dX7_code_16 rfl rfl ?_
      refine R_getR (a2 := 69) o dX7_code_17 fl_X7_26 sh_64 (by decide) rfl rf_64_8 ?_
      refine R_iload_n o 2 dX7_code_20 rfl rfl ?_
      refine R_iald o dX7_code_21 sh_69 ?_
      refine R_if_ge o 31 dX7_code_22 (by decide) ?_ ?_
      · refine R_aload_n o 0 dX7_code_25 rfl rfl ?_
        refine R_iconst (v := 1) o dX7_code_26 (by decide) ?_
        refine K_ih (callV' (As := [.int 1]) (rest := []) o dX7_code_27 lk_X7_100 rfl sh_64 rfl rfl rfl rfl (Nat.le_of_ble_eq_true rfl)) (c_X7_meets g l h 1) (fun r27 h27 => ?_)
        exact T_some (fun p => rr _ _ _ _ dX7_code_30 p)
      · refine R_aload_n o 0 dX7_code_31 rfl rfl ?_
        refine R_iload_n o 2 dX7_code_32 rfl rfl ?_
        refine K_ih (callV' (As := [.int x2]) (rest := []) o dX7_code_33 lk_X7_188 rfl sh_64 rfl rfl rfl rfl (Nat.le_of_ble_eq_true rfl)) (c_X7_reads g l h x2) (fun r33 h33 => ?_)
        refine R_bipush (v := (-9)) o dX7_code_36 (by decide) ?_
        refine R_icmp_eq o 44 dX7_code_38 (by decide) ?_ ?_
        · refine R_aload_n o 0 dX7_code_44 rfl rfl ?_
          refine R_getR (a2 := 78) o dX7_code_45 fl_X7_53 sh_64 (by decide) rfl rf_64_18 ?_
          refine R_iload_n o 1 dX7_code_48 rfl rfl ?_
          refine R_aload_n o 0 dX7_code_49 rfl rfl ?_
          refine R_getI o dX7_code_50 fl_X7_179 sh_64 (by decide) rfl ?_
          refine R_iast o dX7_code_53 sh_78 ?_
          refine R_nmH (fun h53 => ?_)
          refine R_aload_n o 0 dX7_code_54 rfl rfl ?_
          refine R_getR (a2 := 79) o dX7_code_55 fl_X7_56 sh_64 (by decide) rfl rf_64_19 ?_
          refine R_iload_n o 1 dX7_code_58 rfl rfl ?_
          refine R_aload_n o 0 dX7_code_59 rfl rfl ?_
          refine R_getI o dX7_code_60 fl_X7_182 sh_64 (by decide) rfl ?_
          refine R_iast o dX7_code_63 sh_79 ?_
          refine R_nmH (fun h63 => ?_)
          refine R_iconst (v := 0) o dX7_code_64 (by decide) ?_
          refine R_istore_n (lv2 := [(0, rA g 64), (1, .int x1), (2, .int x2), (3, .int 0)]) o dX7_code_65 rfl (by decide) rfl ?_
          refine R_drop (lv2 := [(0, rA g 64), (1, .int x1), (3, .int 0)]) o [0, 1, 3] rfl ?_
          refine T_bind (t_X7_code_L66 o rr h63 x1 0) (fun b66 => ?_)
          refine R_aload_n o 0 dX7_code_97 rfl rfl ?_
          refine R_getI o dX7_code_98 fl_X7_179 sh_64 (by decide) rfl ?_
          exact T_some (fun p => rr _ _ _ _ dX7_code_101 p)
        · refine R_bipush (v := (-4)) o dX7_code_41 (by decide) ?_
          exact T_some (fun p => rr _ _ _ _ dX7_code_43 p)
    · refine R_iconst (v := (-1)) o dX7_code_14 (by decide) ?_
      exact T_some (fun p => rr _ _ _ _ dX7_code_15 p)
  · refine R_iconst (v := (-1)) o dX7_code_14 (by decide) ?_
    exact T_some (fun p => rr _ _ _ _ dX7_code_15 p)
theorem c_X7_code (g : Gx) (l : Launch) (h : MH) (x1 : Int32) (x2 : Int32) (r : (Int32 × MH)) (e : f_X7_code h x1 x2 = some r) : Ctr g l yX7_code cX7_code 4 (some .int) 2 47 0 [rA g 64, .int x1, .int x2] h (some (.int r.1)) r.2 := mkCi (plainFor_of_name (by decide)) (Nat.le_of_ble_eq_true rfl) (fun V Rt o rr p => b_X7_code o rr h x1 x2  r e p)
/-! X7_line -/
noncomputable def f_X7_line (h : MH) (x1 : Int32) (x2 : Int32) : Option (Int32 × MH) :=
  bnd2 (f_X7_askedCode h x1) (fun r2 h2 => (if r2 < 0 then some (r2, h2) else gd (ix x1 4) (Option.bind (f_X7_in x2 0 ((h2.1 78 x1.toNatClampNeg) - 1)) (fun r22 => (if r22 = true then gd (ix ((6 * x1) + x2) 24) (some ((h2.1 80 ((6 * x1) + x2).toNatClampNeg), h2)) else bnd2 (f_X7_meets h2 2) (fun r44 h44 => some (r44, h44)))))))
set_option maxRecDepth 100000 in
set_option maxHeartbeats 4000000 in
theorem b_X7_line {g : Gx} {l : Launch} {V : VT} {Rt : Option Value → MH → Prop} (o : Ok g l RX7 cX7_line 4 3 63 0 V) (rr : ORi cX7_line V Rt) (h : MH) (x1 : Int32) (x2 : Int32) : T (fun r => Rt (some (.int r.1)) r.2) (f_X7_line h x1 x2) (V 0 [(0, rA g 64), (1, .int x1), (2, .int x2)] [] h) := by
  unfold f_X7_line
  refine R_aload_n o 0 dX7_line_0 rfl rfl ?_
  refine R_iload_n o 1 dX7_line_1 rfl rfl ?_
  refine K_ih (callV' (As := [.int x1]) (rest := []) o dX7_line_2 lk_X7_194 rfl sh_64 rfl rfl rfl rfl (Nat.le_of_ble_eq_true rfl)) (c_X7_askedCode g l h x1) (fun r2 h2 => ?_)
  refine R_istore_n (lv2 := [(0, rA g 64), (1, .int x1), (2, .int x2), (3, .int r2)]) o dX7_line_5 rfl (by decide) rfl ?_
  refine R_iload_n o 3 dX7_line_6 rfl rfl ?_
  refine R_if_ge o 12 dX7_line_7 (by decide) ?_ ?_
  · refine R_iload_n o 3 dX7_line_10 rfl rfl ?_
    exact T_some (fun p => rr _ _ _ _ dX7_line_11 p)
  · refine R_iload_n o 2 dX7_line_12 rfl rfl ?_
    refine R_iconst (v := 0) o dX7_line_13 (by decide) ?_
    refine R_aload_n o 0 dX7_line_14 rfl rfl ?_
    refine R_getR (a2 := 78) o dX7_line_15 fl_X7_53 sh_64 (by decide) rfl rf_64_18 ?_
    refine R_iload_n o 1 dX7_line_18 rfl rfl ?_
    refine R_iald o dX7_line_19 sh_78 ?_
    refine R_iconst (v := 1) o dX7_line_20 (by decide) ?_
    refine R_isub o dX7_line_21 ?_
    refine K_z (callS' (av := [.int x2, .int 0, .int ((h2.1 78 x1.toNatClampNeg) - 1)]) (rest := []) o dX7_line_22 lk_X7_92 rfl rfl rfl (Nat.le_of_ble_eq_true rfl)) (c_X7_in g l h2 x2 0 ((h2.1 78 x1.toNatClampNeg) - 1)) (fun r22 => ?_)
    refine R_bif_eq o 42 dX7_line_25 (by decide) ?_ ?_
    · refine R_aload_n o 0 dX7_line_28 rfl rfl ?_
      refine R_getR (a2 := 80) o dX7_line_29 fl_X7_59 sh_64 (by decide) rfl rf_64_20 ?_
      refine R_bipush (v := 6) o dX7_line_32 (by decide) ?_
      refine R_iload_n o 1 dX7_line_34 rfl rfl ?_
      refine R_imul o dX7_line_35 ?_
      refine R_iload_n o 2 dX7_line_36 rfl rfl ?_
      refine R_iadd o dX7_line_37 ?_
      refine R_iald o dX7_line_38 sh_80 ?_
      refine R_goto o 47 dX7_line_39 (by decide) ?_
      exact T_some (fun p => rr _ _ _ _ dX7_line_47 p)
    · refine R_aload_n o 0 dX7_line_42 rfl rfl ?_
      refine R_iconst (v := 2) o dX7_line_43 (by decide) ?_
      refine K_ih (callV' (As := [.int 2]) (rest := []) o dX7_line_44 lk_X7_100 rfl sh_64 rfl rfl rfl rfl (Nat.le_of_ble_eq_true rfl)) (c_X7_meets g l h2 2) (fun r44 h44 => ?_)
      exact T_some (fun p => rr _ _ _ _ dX7_line_47 p)
theorem c_X7_line (g : Gx) (l : Launch) (h : MH) (x1 : Int32) (x2 : Int32) (r : (Int32 × MH)) (e : f_X7_line h x1 x2 = some r) : Ctr g l yX7_line cX7_line 4 (some .int) 3 63 0 [rA g 64, .int x1, .int x2] h (some (.int r.1)) r.2 := mkCi (plainFor_of_name (by decide)) (Nat.le_of_ble_eq_true rfl) (fun V Rt o rr p => b_X7_line o rr h x1 x2  r e p)
/-! X7_askedBoth -/
noncomputable def f_X7_askedBoth (h : MH) (x1 : Int32) (x2 : Int32) : Option (Int32 × MH) :=
  Option.bind (f_X7_isCover x1) (fun r1 => (if r1 = true then Option.bind (f_X7_isCode x2) (fun r8 => (if r8 = true then gd (ix x1 6) ((if (h.1 71 x1.toNatClampNeg) = 0 then bnd2 (f_X7_meets h 1) (fun r36 h36 => some (r36, h36)) else gd (ix x2 4) ((if (h.1 78 x2.toNatClampNeg) = 0 then bnd2 (f_X7_meets h 1) (fun r36 h36 => some (r36, h36)) else some (0, h))))) else some ((-1), h))) else some ((-1), h)))
set_option maxRecDepth 100000 in
set_option maxHeartbeats 4000000 in
theorem b_X7_askedBoth {g : Gx} {l : Launch} {V : VT} {Rt : Option Value → MH → Prop} (o : Ok g l RX7 cX7_askedBoth 3 2 42 0 V) (rr : ORi cX7_askedBoth V Rt) (h : MH) (x1 : Int32) (x2 : Int32) : T (fun r => Rt (some (.int r.1)) r.2) (f_X7_askedBoth h x1 x2) (V 0 [(0, rA g 64), (1, .int x1), (2, .int x2)] [] h) := by
  unfold f_X7_askedBoth
  refine R_iload_n o 1 dX7_askedBoth_0 rfl rfl ?_
  refine K_z (callS' (av := [.int x1]) (rest := []) o dX7_askedBoth_1 lk_X7_123 rfl rfl rfl (Nat.le_of_ble_eq_true rfl)) (c_X7_isCover g l h x1) (fun r1 => ?_)
  refine R_bif_eq o 14 dX7_askedBoth_4 (by decide) ?_ ?_
  · refine R_iload_n o 2 dX7_askedBoth_7 rfl rfl ?_
    refine K_z (callS' (av := [.int x2]) (rest := []) o dX7_askedBoth_8 lk_X7_191 rfl rfl rfl (Nat.le_of_ble_eq_true rfl)) (c_X7_isCode g l h x2) (fun r8 => ?_)
    refine R_bif_ne o 16 dX7_askedBoth_11 (by decide) ?_ ?_
    · refine R_aload_n o 0 dX7_askedBoth_16 rfl rfl ?_
      refine R_getR (a2 := 71) o dX7_askedBoth_17 fl_X7_32 sh_64 (by decide) rfl rf_64_10 ?_
      refine R_iload_n o 1 dX7_askedBoth_20 rfl rfl ?_
      refine R_iald o dX7_askedBoth_21 sh_71 ?_
      refine R_if_eq o 34 dX7_askedBoth_22 (by decide) ?_ ?_
      · refine R_aload_n o 0 dX7_askedBoth_34 rfl rfl ?_
        refine R_iconst (v := 1) o dX7_askedBoth_35 (by decide) ?_
        refine K_ih (callV' (As := [.int 1]) (rest := []) o dX7_askedBoth_36 lk_X7_100 rfl sh_64 rfl rfl rfl rfl (Nat.le_of_ble_eq_true rfl)) (c_X7_meets g l h 1) (fun r36 h36 => ?_)
        refine R_goto o 43 dX7_askedBoth_39 (by decide) ?_
        exact T_some (fun p => rr _ _ _ _ dX7_askedBoth_43 p)
      · refine R_aload_n o 0 dX7_askedBoth_25 rfl rfl ?_
        refine R_getR (a2 := 78) o dX7_askedBoth_26 fl_X7_53 sh_64 (by decide) rfl rf_64_18 ?_
        refine R_iload_n o 2 dX7_askedBoth_29 rfl rfl ?_
        refine R_iald o dX7_askedBoth_30 sh_78 ?_
        refine R_if_ne o 42 dX7_askedBoth_31 (by decide) ?_ ?_
        · refine R_aload_n o 0 dX7_askedBoth_34 rfl rfl ?_
          refine R_iconst (v := 1) o dX7_askedBoth_35 (by decide) ?_
          refine K_ih (callV' (As := [.int 1]) (rest := []) o dX7_askedBoth_36 lk_X7_100 rfl sh_64 rfl rfl rfl rfl (Nat.le_of_ble_eq_true rfl)) (c_X7_meets g l h 1) (fun r36 h36 => ?_)
          refine R_goto o 43 dX7_askedBoth_39 (by decide) ?_
          exact T_some (fun p => rr _ _ _ _ dX7_askedBoth_43 p)
        · refine R_iconst (v := 0) o dX7_askedBoth_42 (by decide) ?_
          exact T_some (fun p => rr _ _ _ _ dX7_askedBoth_43 p)
    · refine R_iconst (v := (-1)) o dX7_askedBoth_14 (by decide) ?_
      exact T_some (fun p => rr _ _ _ _ dX7_askedBoth_15 p)
  · refine R_iconst (v := (-1)) o dX7_askedBoth_14 (by decide) ?_
    exact T_some (fun p => rr _ _ _ _ dX7_askedBoth_15 p)
theorem c_X7_askedBoth (g : Gx) (l : Launch) (h : MH) (x1 : Int32) (x2 : Int32) (r : (Int32 × MH)) (e : f_X7_askedBoth h x1 x2 = some r) : Ctr g l yX7_askedBoth cX7_askedBoth 3 (some .int) 2 42 0 [rA g 64, .int x1, .int x2] h (some (.int r.1)) r.2 := mkCi (plainFor_of_name (by decide)) (Nat.le_of_ble_eq_true rfl) (fun V Rt o rr p => b_X7_askedBoth o rr h x1 x2  r e p)
/-! X7_blocksOf -/
noncomputable def f_X7_blocksOf (h : MH) (x1 : Int32) (x2 : Int32) : Option Int32 :=
  gd (ix x1 6) (gd (ix x2 4) (gd (nz (h.1 79 x2.toNatClampNeg)) (some ((h.1 71 x1.toNatClampNeg) / (h.1 79 x2.toNatClampNeg)))))
set_option maxRecDepth 100000 in
set_option maxHeartbeats 4000000 in
theorem b_X7_blocksOf {g : Gx} {l : Launch} {V : VT} {Rt : Option Value → MH → Prop} (o : Ok g l RX7 cX7_blocksOf 3 0 0 0 V) (rr : ORi cX7_blocksOf V Rt) (h : MH) (x1 : Int32) (x2 : Int32) : T (fun r => Rt (some (.int r)) h) (f_X7_blocksOf h x1 x2) (V 0 [(0, rA g 64), (1, .int x1), (2, .int x2)] [] h) := by
  unfold f_X7_blocksOf
  refine R_aload_n o 0 dX7_blocksOf_0 rfl rfl ?_
  refine R_getR (a2 := 71) o dX7_blocksOf_1 fl_X7_32 sh_64 (by decide) rfl rf_64_10 ?_
  refine R_iload_n o 1 dX7_blocksOf_4 rfl rfl ?_
  refine R_iald o dX7_blocksOf_5 sh_71 ?_
  refine R_aload_n o 0 dX7_blocksOf_6 rfl rfl ?_
  refine R_getR (a2 := 79) o dX7_blocksOf_7 fl_X7_56 sh_64 (by decide) rfl rf_64_19 ?_
  refine R_iload_n o 2 dX7_blocksOf_10 rfl rfl ?_
  refine R_iald o dX7_blocksOf_11 sh_79 ?_
  refine R_idiv o dX7_blocksOf_12 ?_
  exact T_some (fun p => rr _ _ _ _ dX7_blocksOf_13 p)
theorem c_X7_blocksOf (g : Gx) (l : Launch) (h : MH) (x1 : Int32) (x2 : Int32) (r : Int32) (e : f_X7_blocksOf h x1 x2 = some r) : Ctr g l yX7_blocksOf cX7_blocksOf 3 (some .int) 0 0 0 [rA g 64, .int x1, .int x2] h (some (.int r)) h := mkCi (plainFor_of_name (by decide)) (Nat.le_of_ble_eq_true rfl) (fun V Rt o rr p => b_X7_blocksOf o rr h x1 x2  r e p)
/-! X7_room -/
noncomputable def f_X7_room (h : MH) (x1 : Int32) (x2 : Int32) : Option (Int32 × MH) :=
  bnd2 (f_X7_askedBoth h x1 x2) (fun r3 h3 => (if r3 < 0 then some (r3, h3) else gd (ix x2 4) (Option.bind (f_X7_blocksOf h3 x1 x2) (fun r24 => some (((h3.1 78 x2.toNatClampNeg) * r24), h3)))))
set_option maxRecDepth 100000 in
set_option maxHeartbeats 4000000 in
theorem b_X7_room {g : Gx} {l : Launch} {V : VT} {Rt : Option Value → MH → Prop} (o : Ok g l RX7 cX7_room 4 3 64 0 V) (rr : ORi cX7_room V Rt) (h : MH) (x1 : Int32) (x2 : Int32) : T (fun r => Rt (some (.int r.1)) r.2) (f_X7_room h x1 x2) (V 0 [(0, rA g 64), (1, .int x1), (2, .int x2)] [] h) := by
  unfold f_X7_room
  refine R_aload_n o 0 dX7_room_0 rfl rfl ?_
  refine R_iload_n o 1 dX7_room_1 rfl rfl ?_
  refine R_iload_n o 2 dX7_room_2 rfl rfl ?_
  refine K_ih (callV' (As := [.int x1, .int x2]) (rest := []) o dX7_room_3 lk_X7_197 rfl sh_64 rfl rfl rfl rfl (Nat.le_of_ble_eq_true rfl)) (c_X7_askedBoth g l h x1 x2) (fun r3 h3 => ?_)
  refine R_istore_n (lv2 := [(0, rA g 64), (1, .int x1), (2, .int x2), (3, .int r3)]) o dX7_room_6 rfl (by decide) rfl ?_
  refine R_iload_n o 3 dX7_room_7 rfl rfl ?_
  refine R_if_ge o 15 dX7_room_8 (by decide) ?_ ?_
  · refine R_iload_n o 3 dX7_room_11 rfl rfl ?_
    refine R_goto o 28 dX7_room_12 (by decide) ?_
    exact T_some (fun p => rr _ _ _ _ dX7_room_28 p)
  · refine R_aload_n o 0 dX7_room_15 rfl rfl ?_
    refine R_getR (a2 := 78) o dX7_room_16 fl_X7_53 sh_64 (by decide) rfl rf_64_18 ?_
    refine R_iload_n o 2 dX7_room_19 rfl rfl ?_
    refine R_iald o dX7_room_20 sh_78 ?_
    refine R_aload_n o 0 dX7_room_21 rfl rfl ?_
    refine R_iload_n o 1 dX7_room_22 rfl rfl ?_
    refine R_iload_n o 2 dX7_room_23 rfl rfl ?_
    refine K_i (callV' (As := [.int x1, .int x2]) (rest := [.int (h3.1 78 x2.toNatClampNeg)]) o dX7_room_24 lk_X7_200 rfl sh_64 rfl rfl rfl rfl (Nat.le_of_ble_eq_true rfl)) (c_X7_blocksOf g l h3 x1 x2) (fun r24 => ?_)
    refine R_imul o dX7_room_27 ?_
    exact T_some (fun p => rr _ _ _ _ dX7_room_28 p)
theorem c_X7_room (g : Gx) (l : Launch) (h : MH) (x1 : Int32) (x2 : Int32) (r : (Int32 × MH)) (e : f_X7_room h x1 x2 = some r) : Ctr g l yX7_room cX7_room 4 (some .int) 3 64 0 [rA g 64, .int x1, .int x2] h (some (.int r.1)) r.2 := mkCi (plainFor_of_name (by decide)) (Nat.le_of_ble_eq_true rfl) (fun V Rt o rr p => b_X7_room o rr h x1 x2  r e p)
/-! X7_sums -/
noncomputable def f_X7_sums_B5 (h : MH) (x1 : Int32) (x2 : Int32) (x3 : Int32) (x4 : Int32) : Option ((Int32 × Int32) ⊕ (Int32)) :=
  gd (ix x1 4) ((if x4 < (h.1 78 x1.toNatClampNeg) then gd (ix ((6 * x1) + x4) 24) (Option.bind (f_X7_bits (x2 &&& (h.1 80 ((6 * x1) + x4).toNatClampNeg))) (fun r31 => nm (x3 ||| (shl (r31 &&& 1) x4)) (fun v40 => some (.inl (v40, (x4 + 1)))))) else some (.inr x3)))
set_option maxRecDepth 100000 in
set_option maxHeartbeats 4000000 in
theorem t_X7_sums_B5 {g : Gx} {l : Launch} {V : VT} {Rt : Option Value → MH → Prop} (o : Ok g l RX7 cX7_sums 5 1 22 0 V) (rr : ORi cX7_sums V Rt) (h : MH) (x1 : Int32) (x2 : Int32) (x3 : Int32) (x4 : Int32) : T (Sum.elim (fun s => V 5 [(0, rA g 64), (1, .int x1), (2, .int x2), (3, .int s.1), (4, .int s.2)] [] h) (fun b => V 47 [(3, .int b)] [] h)) (f_X7_sums_B5  h x1 x2 x3 x4) (V 5 [(0, rA g 64), (1, .int x1), (2, .int x2), (3, .int x3), (4, .int x4)] [] h) := by
  unfold f_X7_sums_B5
  refine R_iload o 4 dX7_sums_5 rfl ?_
  refine R_aload_n o 0 dX7_sums_7 rfl rfl ?_
  refine R_getR (a2 := 78) o dX7_sums_8 fl_X7_53 sh_64 (by decide) rfl rf_64_18 ?_
  refine R_iload_n o 1 dX7_sums_11 rfl rfl ?_
  refine R_iald o dX7_sums_12 sh_78 ?_
  refine R_icmp_ge o 47 dX7_sums_13 (by decide) ?_ ?_
  · refine R_iload_n o 3 dX7_sums_16 rfl rfl ?_
    refine R_iload_n o 2 dX7_sums_17 rfl rfl ?_
    refine R_aload_n o 0 dX7_sums_18 rfl rfl ?_
    refine R_getR (a2 := 80) o dX7_sums_19 fl_X7_59 sh_64 (by decide) rfl rf_64_20 ?_
    refine R_bipush (v := 6) o dX7_sums_22 (by decide) ?_
    refine R_iload_n o 1 dX7_sums_24 rfl rfl ?_
    refine R_imul o dX7_sums_25 ?_
    refine R_iload o 4 dX7_sums_26 rfl ?_
    refine R_iadd o dX7_sums_28 ?_
    refine R_iald o dX7_sums_29 sh_80 ?_
    refine R_iand o dX7_sums_30 ?_
    refine K_i (callS' (av := [.int (x2 &&& (h.1 80 ((6 * x1) + x4).toNatClampNeg))]) (rest := [.int x3]) o dX7_sums_31 lk_X7_203 rfl rfl rfl (Nat.le_of_ble_eq_true rfl)) (c_X7_bits g l h (x2 &&& (h.1 80 ((6 * x1) + x4).toNatClampNeg))) (fun r31 => ?_)
    refine R_iconst (v := 1) o dX7_sums_34 (by decide) ?_
    refine R_iand o dX7_sums_35 ?_
    refine R_iload o 4 dX7_sums_36 rfl ?_
    refine R_ishl o dX7_sums_38 ?_
    refine R_ior o dX7_sums_39 ?_
    refine R_nmI (fun v40 => ?_)
    refine R_istore_n (lv2 := [(0, rA g 64), (1, .int x1), (2, .int x2), (3, .int v40), (4, .int x4)]) o dX7_sums_40 rfl (by decide) rfl ?_
    refine R_iinc (v := (x4 + 1)) (lv2 := [(0, rA g 64), (1, .int x1), (2, .int x2), (3, .int v40), (4, .int (x4 + 1))]) o 4 dX7_sums_41 rfl rfl (by decide) rfl ?_
    refine R_goto o 5 dX7_sums_44 (by decide) ?_
    exact T_some (fun p => p)
  · refine R_drop (lv2 := [(3, .int x3)]) o [3] rfl ?_
    exact T_some (fun p => p)
noncomputable def f_X7_sums_L5 (h : MH) (x1 : Int32) (x2 : Int32) (x3 : Int32) (x4 : Int32) : Option (Int32) :=
  lpo (fun s : Int32 × Int32 => f_X7_sums_B5 h x1 x2 s.1 s.2) (x3, x4)
theorem t_X7_sums_L5 {g : Gx} {l : Launch} {V : VT} {Rt : Option Value → MH → Prop} (o : Ok g l RX7 cX7_sums 5 1 22 0 V) (rr : ORi cX7_sums V Rt) (h : MH) (x1 : Int32) (x2 : Int32) (x3 : Int32) (x4 : Int32) : T (fun b => V 47 [(3, .int b)] [] h) (f_X7_sums_L5 h x1 x2 x3 x4) (V 5 [(0, rA g 64), (1, .int x1), (2, .int x2), (3, .int x3), (4, .int x4)] [] h) := T_loop (head := fun s : Int32 × Int32 => V 5 [(0, rA g 64), (1, .int x1), (2, .int x2), (3, .int s.1), (4, .int s.2)] [] h) (fun s => t_X7_sums_B5 o rr h x1 x2 s.1 s.2 ) (x3, x4)
noncomputable def f_X7_sums (h : MH) (x1 : Int32) (x2 : Int32) : Option Int32 :=
  Option.bind (f_X7_sums_L5 h x1 x2 0 0) (fun b5 => some b5)
set_option maxRecDepth 100000 in
set_option maxHeartbeats 4000000 in
theorem b_X7_sums {g : Gx} {l : Launch} {V : VT} {Rt : Option Value → MH → Prop} (o : Ok g l RX7 cX7_sums 5 1 22 0 V) (rr : ORi cX7_sums V Rt) (h : MH) (x1 : Int32) (x2 : Int32) : T (fun r => Rt (some (.int r)) h) (f_X7_sums h x1 x2) (V 0 [(0, rA g 64), (1, .int x1), (2, .int x2)] [] h) := by
  unfold f_X7_sums
  refine R_iconst (v := 0) o dX7_sums_0 (by decide) ?_
  refine R_istore_n (lv2 := [(0, rA g 64), (1, .int x1), (2, .int x2), (3, .int 0)]) o dX7_sums_1 rfl (by decide) rfl ?_
  refine R_iconst (v := 0) o dX7_sums_2 (by decide) ?_
  refine R_istore (lv2 := [(0, rA g 64), (1, .int x1), (2, .int x2), (3, .int 0), (4, .int 0)]) o dX7_sums_3 (by decide) rfl ?_
  refine T_bind (t_X7_sums_L5 o rr h x1 x2 0 0) (fun b5 => ?_)
  refine R_iload_n o 0 dX7_sums_47 rfl rfl ?_
  exact T_some (fun p => rr _ _ _ _ dX7_sums_48 p)
theorem c_X7_sums (g : Gx) (l : Launch) (h : MH) (x1 : Int32) (x2 : Int32) (r : Int32) (e : f_X7_sums h x1 x2 = some r) : Ctr g l yX7_sums cX7_sums 5 (some .int) 1 22 0 [rA g 64, .int x1, .int x2] h (some (.int r)) h := mkCi (plainFor_of_name (by decide)) (Nat.le_of_ble_eq_true rfl) (fun V Rt o rr p => b_X7_sums o rr h x1 x2  r e p)
/-! X7_blockSet -/
noncomputable def f_X7_blockSet_B6 (h : MH) (x1 : Int32) (x2 : Int32) (x3 : Int32) (x4 : Int32) (x5 : Int32) : Option ((Int32 × Int32) ⊕ (Int32)) :=
  gd (ix x2 4) ((if x5 < (h.1 79 x2.toNatClampNeg) then gd (ix x2 4) (gd (ix ((x3 * (h.1 79 x2.toNatClampNeg)) + x5) 40) (Option.bind (f_X7_bitOf h x1 (h.1 77 ((x3 * (h.1 79 x2.toNatClampNeg)) + x5).toNatClampNeg)) (fun r37 => nm (x4 ||| (shl r37 x5)) (fun v44 => some (.inl (v44, (x5 + 1))))))) else some (.inr x4)))
set_option maxRecDepth 100000 in
set_option maxHeartbeats 4000000 in
theorem t_X7_blockSet_B6 {g : Gx} {l : Launch} {V : VT} {Rt : Option Value → MH → Prop} (o : Ok g l RX7 cX7_blockSet 6 2 44 0 V) (rr : ORi cX7_blockSet V Rt) (h : MH) (x1 : Int32) (x2 : Int32) (x3 : Int32) (x4 : Int32) (x5 : Int32) : T (Sum.elim (fun s => V 6 [(0, rA g 64), (1, .int x1), (2, .int x2), (3, .int x3), (4, .int s.1), (5, .int s.2)] [] h) (fun b => V 52 [(4, .int b)] [] h)) (f_X7_blockSet_B6  h x1 x2 x3 x4 x5) (V 6 [(0, rA g 64), (1, .int x1), (2, .int x2), (3, .int x3), (4, .int x4), (5, .int x5)] [] h) := by
  unfold f_X7_blockSet_B6
  refine R_iload o 5 dX7_blockSet_6 rfl ?_
  refine R_aload_n o 0 dX7_blockSet_8 rfl rfl ?_
  refine R_getR (a2 := 79) o dX7_blockSet_9 fl_X7_56 sh_64 (by decide) rfl rf_64_19 ?_
  refine R_iload_n o 2 dX7_blockSet_12 rfl rfl ?_
  refine R_iald o dX7_blockSet_13 sh_79 ?_
  refine R_icmp_ge o 52 dX7_blockSet_14 (by decide) ?_ ?_
  · refine R_iload o 4 dX7_blockSet_17 rfl ?_
    refine R_aload_n o 0 dX7_blockSet_19 rfl rfl ?_
    refine R_iload_n o 1 dX7_blockSet_20 rfl rfl ?_
    refine R_aload_n o 0 dX7_blockSet_21 rfl rfl ?_
    refine R_getR (a2 := 77) o dX7_blockSet_22 fl_X7_50 sh_64 (by decide) rfl rf_64_17 ?_
    refine R_iload_n o 3 dX7_blockSet_25 rfl rfl ?_
    refine R_aload_n o 0 dX7_blockSet_26 rfl rfl ?_
    refine R_getR (a2 := 79) o dX7_blockSet_27 fl_X7_56 sh_64 (by decide) rfl rf_64_19 ?_
    refine R_iload_n o 2 dX7_blockSet_30 rfl rfl ?_
    refine R_iald o dX7_blockSet_31 sh_79 ?_
    refine R_imul o dX7_blockSet_32 ?_
    refine R_iload o 5 dX7_blockSet_33 rfl ?_
    refine R_iadd o dX7_blockSet_35 ?_
    refine R_iald o dX7_blockSet_36 sh_77 ?_
    refine K_i (callV' (As := [.int x1, .int (h.1 77 ((x3 * (h.1 79 x2.toNatClampNeg)) + x5).toNatClampNeg)]) (rest := [.int x4]) o dX7_blockSet_37 lk_X7_153 rfl sh_64 rfl rfl rfl rfl (Nat.le_of_ble_eq_true rfl)) (c_X7_bitOf g l h x1 (h.1 77 ((x3 * (h.1 79 x2.toNatClampNeg)) + x5).toNatClampNeg)) (fun r37 => ?_)
    refine R_iload o 5 dX7_blockSet_40 rfl ?_
    refine R_ishl o dX7_blockSet_42 ?_
    refine R_ior o dX7_blockSet_43 ?_
    refine R_nmI (fun v44 => ?_)
    refine R_istore (lv2 := [(0, rA g 64), (1, .int x1), (2, .int x2), (3, .int x3), (4, .int v44), (5, .int x5)]) o dX7_blockSet_44 (by decide) rfl ?_
    refine R_iinc (v := (x5 + 1)) (lv2 := [(0, rA g 64), (1, .int x1), (2, .int x2), (3, .int x3), (4, .int v44), (5, .int (x5 + 1))]) o 5 dX7_blockSet_46 rfl rfl (by decide) rfl ?_
    refine R_goto o 6 dX7_blockSet_49 (by decide) ?_
    exact T_some (fun p => p)
  · refine R_drop (lv2 := [(4, .int x4)]) o [4] rfl ?_
    exact T_some (fun p => p)
noncomputable def f_X7_blockSet_L6 (h : MH) (x1 : Int32) (x2 : Int32) (x3 : Int32) (x4 : Int32) (x5 : Int32) : Option (Int32) :=
  lpo (fun s : Int32 × Int32 => f_X7_blockSet_B6 h x1 x2 x3 s.1 s.2) (x4, x5)
theorem t_X7_blockSet_L6 {g : Gx} {l : Launch} {V : VT} {Rt : Option Value → MH → Prop} (o : Ok g l RX7 cX7_blockSet 6 2 44 0 V) (rr : ORi cX7_blockSet V Rt) (h : MH) (x1 : Int32) (x2 : Int32) (x3 : Int32) (x4 : Int32) (x5 : Int32) : T (fun b => V 52 [(4, .int b)] [] h) (f_X7_blockSet_L6 h x1 x2 x3 x4 x5) (V 6 [(0, rA g 64), (1, .int x1), (2, .int x2), (3, .int x3), (4, .int x4), (5, .int x5)] [] h) := T_loop (head := fun s : Int32 × Int32 => V 6 [(0, rA g 64), (1, .int x1), (2, .int x2), (3, .int x3), (4, .int s.1), (5, .int s.2)] [] h) (fun s => t_X7_blockSet_B6 o rr h x1 x2 x3 s.1 s.2 ) (x4, x5)
noncomputable def f_X7_blockSet (h : MH) (x1 : Int32) (x2 : Int32) (x3 : Int32) : Option Int32 :=
  Option.bind (f_X7_blockSet_L6 h x1 x2 x3 0 0) (fun b6 => some b6)
set_option maxRecDepth 100000 in
set_option maxHeartbeats 4000000 in
theorem b_X7_blockSet {g : Gx} {l : Launch} {V : VT} {Rt : Option Value → MH → Prop} (o : Ok g l RX7 cX7_blockSet 6 2 44 0 V) (rr : ORi cX7_blockSet V Rt) (h : MH) (x1 : Int32) (x2 : Int32) (x3 : Int32) : T (fun r => Rt (some (.int r)) h) (f_X7_blockSet h x1 x2 x3) (V 0 [(0, rA g 64), (1, .int x1), (2, .int x2), (3, .int x3)] [] h) := by
  unfold f_X7_blockSet
  refine R_iconst (v := 0) o dX7_blockSet_0 (by decide) ?_
  refine R_istore (lv2 := [(0, rA g 64), (1, .int x1), (2, .int x2), (3, .int x3), (4, .int 0)]) o dX7_blockSet_1 (by decide) rfl ?_
  refine R_iconst (v := 0) o dX7_blockSet_3 (by decide) ?_
  refine R_istore (lv2 := [(0, rA g 64), (1, .int x1), (2, .int x2), (3, .int x3), (4, .int 0), (5, .int 0)]) o dX7_blockSet_4 (by decide) rfl ?_
  refine T_bind (t_X7_blockSet_L6 o rr h x1 x2 x3 0 0) (fun b6 => ?_)
  refine R_iload o 0 dX7_blockSet_52 rfl ?_
  exact T_some (fun p => rr _ _ _ _ dX7_blockSet_54 p)
theorem c_X7_blockSet (g : Gx) (l : Launch) (h : MH) (x1 : Int32) (x2 : Int32) (x3 : Int32) (r : Int32) (e : f_X7_blockSet h x1 x2 x3 = some r) : Ctr g l yX7_blockSet cX7_blockSet 6 (some .int) 2 44 0 [rA g 64, .int x1, .int x2, .int x3] h (some (.int r)) h := mkCi (plainFor_of_name (by decide)) (Nat.le_of_ble_eq_true rfl) (fun V Rt o rr p => b_X7_blockSet o rr h x1 x2 x3  r e p)
/-! X7_hides -/
noncomputable def f_X7_hides_B14 (h : MH) (x1 : Int32) (x2 : Int32) (x3 : Int32) (x4 : Int32) (x5 : Int32) (x6 : Int32) (x7 : Int32) : Option ((Int32 × Int32 × MH) ⊕ (Int32 × MH)) :=
  (if x7 < x5 then gd (ix ((x3 * x5) + x7) 40) (Option.bind (f_X7_priceOf h x1 (h.1 77 ((x3 * x5) + x7).toNatClampNeg)) (fun r41 => gd (ix x7 40) (nm (uI h 68 x7.toNatClampNeg r41) (fun h44 => gd (ix ((x3 * x5) + x7) 40) (Option.bind (f_X7_isWet h44 x1 (h44.1 77 ((x3 * x5) + x7).toNatClampNeg)) (fun r61 => (if r61 = true then nm (x6 ||| (shl 1 x7)) (fun v76 => some (.inl (v76, (x7 + 1), h44))) else nm (x6 ||| 0) (fun v76 => some (.inl (v76, (x7 + 1), h44)))))))))) else some (.inr (x6, h)))
set_option maxRecDepth 100000 in
set_option maxHeartbeats 4000000 in
theorem t_X7_hides_B14 {g : Gx} {l : Launch} {V : VT} {Rt : Option Value → MH → Prop} (o : Ok g l RX7 cX7_hides 12 2 48 0 V) (rr : ORz cX7_hides V Rt) (h : MH) (x1 : Int32) (x2 : Int32) (x3 : Int32) (x4 : Int32) (x5 : Int32) (x6 : Int32) (x7 : Int32) : T (Sum.elim (fun s => V 14 [(0, rA g 64), (1, .int x1), (2, .int x2), (3, .int x3), (4, .int x4), (5, .int x5), (6, .int s.1), (7, .int s.2.1)] [] s.2.2) (fun b => V 84 [(0, rA g 64), (2, .int x2), (3, .int x3), (4, .int x4), (5, .int x5), (6, .int b.1)] [] b.2)) (f_X7_hides_B14  h x1 x2 x3 x4 x5 x6 x7) (V 14 [(0, rA g 64), (1, .int x1), (2, .int x2), (3, .int x3), (4, .int x4), (5, .int x5), (6, .int x6), (7, .int x7)] [] h) := by
  unfold f_X7_hides_B14
  refine R_iload o 7 dX7_hides_14 rfl ?_
  refine R_iload o 5 dX7_hides_16 rfl ?_
  refine R_icmp_ge o 84 dX7_hides_18 (by decide) ?_ ?_
  · refine R_aload_n o 0 dX7_hides_21 rfl rfl ?_
    refine R_getR (a2 := 68) o dX7_hides_22 fl_X7_23 sh_64 (by decide) rfl rf_64_7 ?_
    refine R_iload o 7 dX7_hides_25 rfl ?_
    refine R_aload_n o 0 dX7_hides_27 rfl rfl ?_
    refine R_iload_n o 1 dX7_hides_28 rfl rfl ?_
    refine R_aload_n o 0 dX7_hides_29 rfl rfl ?_
    refine R_getR (a2 := 77) o dX7_hides_30 fl_X7_50 sh_64 (by decide) rfl rf_64_17 ?_
    refine R_iload_n o 3 dX7_hides_33 rfl rfl ?_
    refine R_iload o 5 dX7_hides_34 rfl ?_
    refine R_imul o dX7_hides_36 ?_
    refine R_iload o 7 dX7_hides_37 rfl ?_
    refine R_iadd o dX7_hides_39 ?_
    refine R_iald o dX7_hides_40 sh_77 ?_
    refine K_i (callV' (As := [.int x1, .int (h.1 77 ((x3 * x5) + x7).toNatClampNeg)]) (rest := [.int x7, rA g 68]) o dX7_hides_41 lk_X7_159 rfl sh_64 rfl rfl rfl rfl (Nat.le_of_ble_eq_true rfl)) (c_X7_priceOf g l h x1 (h.1 77 ((x3 * x5) + x7).toNatClampNeg)) (fun r41 => ?_)
    refine R_iast o dX7_hides_44 sh_68 ?_
    refine R_nmH (fun h44 => ?_)
    refine R_iload o 6 dX7_hides_45 rfl ?_
    refine R_aload_n o 0 dX7_hides_47 rfl rfl ?_
    refine R_iload_n o 1 dX7_hides_48 rfl rfl ?_
    refine R_aload_n o 0 dX7_hides_49 rfl rfl ?_
    refine R_getR (a2 := 77) o dX7_hides_50 fl_X7_50 sh_64 (by decide) rfl rf_64_17 ?_
    refine R_iload_n o 3 dX7_hides_53 rfl rfl ?_
    refine R_iload o 5 dX7_hides_54 rfl ?_
    refine R_imul o dX7_hides_56 ?_
    refine R_iload o 7 dX7_hides_57 rfl ?_
    refine R_iadd o dX7_hides_59 ?_
    refine R_iald o dX7_hides_60 sh_77 ?_
    refine K_z (callV' (As := [.int x1, .int (h44.1 77 ((x3 * x5) + x7).toNatClampNeg)]) (rest := [.int x6]) o dX7_hides_61 lk_X7_141 rfl sh_64 rfl rfl rfl rfl (Nat.le_of_ble_eq_true rfl)) (c_X7_isWet g l h44 x1 (h44.1 77 ((x3 * x5) + x7).toNatClampNeg)) (fun r61 => ?_)
    refine R_bif_eq o 74 dX7_hides_64 (by decide) ?_ ?_
    · refine R_iconst (v := 1) o dX7_hides_67 (by decide) ?_
      refine R_iload o 7 dX7_hides_68 rfl ?_
      refine R_ishl o dX7_hides_70 ?_
      refine R_goto o 75 dX7_hides_71 (by decide) ?_
      refine R_ior o dX7_hides_75 ?_
      refine R_nmI (fun v76 => ?_)
      refine R_istore (lv2 := [(0, rA g 64), (1, .int x1), (2, .int x2), (3, .int x3), (4, .int x4), (5, .int x5), (6, .int v76), (7, .int x7)]) o dX7_hides_76 (by decide) rfl ?_
      refine R_iinc (v := (x7 + 1)) (lv2 := [(0, rA g 64), (1, .int x1), (2, .int x2), (3, .int x3), (4, .int x4), (5, .int x5), (6, .int v76), (7, .int (x7 + 1))]) o 7 dX7_hides_78 rfl rfl (by decide) rfl ?_
      refine R_goto o 14 dX7_hides_81 (by decide) ?_
      exact T_some (fun p => p)
    · refine R_iconst (v := 0) o dX7_hides_74 (by decide) ?_
      refine R_ior o dX7_hides_75 ?_
      refine R_nmI (fun v76 => ?_)
      refine R_istore (lv2 := [(0, rA g 64), (1, .int x1), (2, .int x2), (3, .int x3), (4, .int x4), (5, .int x5), (6, .int v76), (7, .int x7)]) o dX7_hides_76 (by decide) rfl ?_
      refine R_iinc (v := (x7 + 1)) (lv2 := [(0, rA g 64), (1, .int x1), (2, .int x2), (3, .int x3), (4, .int x4), (5, .int x5), (6, .int v76), (7, .int (x7 + 1))]) o 7 dX7_hides_78 rfl rfl (by decide) rfl ?_
      refine R_goto o 14 dX7_hides_81 (by decide) ?_
      exact T_some (fun p => p)
  · refine R_drop (lv2 := [(0, rA g 64), (2, .int x2), (3, .int x3), (4, .int x4), (5, .int x5), (6, .int x6)]) o [0, 2, 3, 4, 5, 6] rfl ?_
    exact T_some (fun p => p)
noncomputable def f_X7_hides_L14 (h : MH) (x1 : Int32) (x2 : Int32) (x3 : Int32) (x4 : Int32) (x5 : Int32) (x6 : Int32) (x7 : Int32) : Option (Int32 × MH) :=
  lpo (fun s : Int32 × Int32 × MH => f_X7_hides_B14 s.2.2 x1 x2 x3 x4 x5 s.1 s.2.1) (x6, x7, h)
theorem t_X7_hides_L14 {g : Gx} {l : Launch} {V : VT} {Rt : Option Value → MH → Prop} (o : Ok g l RX7 cX7_hides 12 2 48 0 V) (rr : ORz cX7_hides V Rt) (h : MH) (x1 : Int32) (x2 : Int32) (x3 : Int32) (x4 : Int32) (x5 : Int32) (x6 : Int32) (x7 : Int32) : T (fun b => V 84 [(0, rA g 64), (2, .int x2), (3, .int x3), (4, .int x4), (5, .int x5), (6, .int b.1)] [] b.2) (f_X7_hides_L14 h x1 x2 x3 x4 x5 x6 x7) (V 14 [(0, rA g 64), (1, .int x1), (2, .int x2), (3, .int x3), (4, .int x4), (5, .int x5), (6, .int x6), (7, .int x7)] [] h) := T_loop (head := fun s : Int32 × Int32 × MH => V 14 [(0, rA g 64), (1, .int x1), (2, .int x2), (3, .int x3), (4, .int x4), (5, .int x5), (6, .int s.1), (7, .int s.2.1)] [] s.2.2) (fun s => t_X7_hides_B14 o rr s.2.2 x1 x2 x3 x4 x5 s.1 s.2.1 ) (x6, x7, h)
noncomputable def f_X7_hides_B129 (h : MH) (x2 : Int32) (x3 : Int32) (x4 : Int32) (x5 : Int32) (x6 : Int32) (x7 : Int32) (x8 : Int32) (x9 : Int32) (x10 : Int32) (x11 : Int32) : Option ((Int32 × Int32) ⊕ (Int32)) :=
  (if x11 < x5 then Option.bind (f_X7_has x9 x11) (fun r142 => (if r142 = true then gd (ix x11 40) (nm (x10 + (h.1 68 x11.toNatClampNeg)) (fun v160 => some (.inl (v160, (x11 + 1))))) else nm (x10 + 0) (fun v160 => some (.inl (v160, (x11 + 1)))))) else some (.inr x10))
set_option maxRecDepth 100000 in
set_option maxHeartbeats 4000000 in
theorem t_X7_hides_B129 {g : Gx} {l : Launch} {V : VT} {Rt : Option Value → MH → Prop} (o : Ok g l RX7 cX7_hides 12 2 48 0 V) (rr : ORz cX7_hides V Rt) (h : MH) (x2 : Int32) (x3 : Int32) (x4 : Int32) (x5 : Int32) (x6 : Int32) (x7 : Int32) (x8 : Int32) (x9 : Int32) (x10 : Int32) (x11 : Int32) : T (Sum.elim (fun s => V 129 [(0, rA g 64), (2, .int x2), (3, .int x3), (4, .int x4), (5, .int x5), (6, .int x6), (7, .int x7), (8, .int x8), (9, .int x9), (10, .int s.1), (11, .int s.2)] [] h) (fun b => V 168 [(0, rA g 64), (2, .int x2), (3, .int x3), (4, .int x4), (5, .int x5), (6, .int x6), (7, .int x7), (8, .int x8), (9, .int x9), (10, .int b)] [] h)) (f_X7_hides_B129  h x2 x3 x4 x5 x6 x7 x8 x9 x10 x11) (V 129 [(0, rA g 64), (2, .int x2), (3, .int x3), (4, .int x4), (5, .int x5), (6, .int x6), (7, .int x7), (8, .int x8), (9, .int x9), (10, .int x10), (11, .int x11)] [] h) := by
  unfold f_X7_hides_B129
  refine R_iload o 10 dX7_hides_129 rfl ?_
  refine R_iload o 4 dX7_hides_131 rfl ?_
  refine R_icmp_ge o 168 dX7_hides_133 (by decide) ?_ ?_
  · refine R_iload o 9 dX7_hides_136 rfl ?_
    refine R_iload o 8 dX7_hides_138 rfl ?_
    refine R_iload o 10 dX7_hides_140 rfl ?_
    refine K_z (callS' (av := [.int x9, .int x11]) (rest := [.int x10]) o dX7_hides_142 lk_X7_134 rfl rfl rfl (Nat.le_of_ble_eq_true rfl)) (c_X7_has g l h x9 x11) (fun r142 => ?_)
    refine R_bif_eq o 158 dX7_hides_145 (by decide) ?_ ?_
    · refine R_aload_n o 0 dX7_hides_148 rfl rfl ?_
      refine R_getR (a2 := 68) o dX7_hides_149 fl_X7_23 sh_64 (by decide) rfl rf_64_7 ?_
      refine R_iload o 10 dX7_hides_152 rfl ?_
      refine R_iald o dX7_hides_154 sh_68 ?_
      refine R_goto o 159 dX7_hides_155 (by decide) ?_
      refine R_iadd o dX7_hides_159 ?_
      refine R_nmI (fun v160 => ?_)
      refine R_istore (lv2 := [(0, rA g 64), (2, .int x2), (3, .int x3), (4, .int x4), (5, .int x5), (6, .int x6), (7, .int x7), (8, .int x8), (9, .int x9), (10, .int v160), (11, .int x11)]) o dX7_hides_160 (by decide) rfl ?_
      refine R_iinc (v := (x11 + 1)) (lv2 := [(0, rA g 64), (2, .int x2), (3, .int x3), (4, .int x4), (5, .int x5), (6, .int x6), (7, .int x7), (8, .int x8), (9, .int x9), (10, .int v160), (11, .int (x11 + 1))]) o 10 dX7_hides_162 rfl rfl (by decide) rfl ?_
      refine R_goto o 129 dX7_hides_165 (by decide) ?_
      exact T_some (fun p => p)
    · refine R_iconst (v := 0) o dX7_hides_158 (by decide) ?_
      refine R_iadd o dX7_hides_159 ?_
      refine R_nmI (fun v160 => ?_)
      refine R_istore (lv2 := [(0, rA g 64), (2, .int x2), (3, .int x3), (4, .int x4), (5, .int x5), (6, .int x6), (7, .int x7), (8, .int x8), (9, .int x9), (10, .int v160), (11, .int x11)]) o dX7_hides_160 (by decide) rfl ?_
      refine R_iinc (v := (x11 + 1)) (lv2 := [(0, rA g 64), (2, .int x2), (3, .int x3), (4, .int x4), (5, .int x5), (6, .int x6), (7, .int x7), (8, .int x8), (9, .int x9), (10, .int v160), (11, .int (x11 + 1))]) o 10 dX7_hides_162 rfl rfl (by decide) rfl ?_
      refine R_goto o 129 dX7_hides_165 (by decide) ?_
      exact T_some (fun p => p)
  · refine R_drop (lv2 := [(0, rA g 64), (2, .int x2), (3, .int x3), (4, .int x4), (5, .int x5), (6, .int x6), (7, .int x7), (8, .int x8), (9, .int x9), (10, .int x10)]) o [0, 1, 2, 3, 4, 5, 6, 7, 8, 9] rfl ?_
    exact T_some (fun p => p)
noncomputable def f_X7_hides_L129 (h : MH) (x2 : Int32) (x3 : Int32) (x4 : Int32) (x5 : Int32) (x6 : Int32) (x7 : Int32) (x8 : Int32) (x9 : Int32) (x10 : Int32) (x11 : Int32) : Option (Int32) :=
  lpo (fun s : Int32 × Int32 => f_X7_hides_B129 h x2 x3 x4 x5 x6 x7 x8 x9 s.1 s.2) (x10, x11)
theorem t_X7_hides_L129 {g : Gx} {l : Launch} {V : VT} {Rt : Option Value → MH → Prop} (o : Ok g l RX7 cX7_hides 12 2 48 0 V) (rr : ORz cX7_hides V Rt) (h : MH) (x2 : Int32) (x3 : Int32) (x4 : Int32) (x5 : Int32) (x6 : Int32) (x7 : Int32) (x8 : Int32) (x9 : Int32) (x10 : Int32) (x11 : Int32) : T (fun b => V 168 [(0, rA g 64), (2, .int x2), (3, .int x3), (4, .int x4), (5, .int x5), (6, .int x6), (7, .int x7), (8, .int x8), (9, .int x9), (10, .int b)] [] h) (f_X7_hides_L129 h x2 x3 x4 x5 x6 x7 x8 x9 x10 x11) (V 129 [(0, rA g 64), (2, .int x2), (3, .int x3), (4, .int x4), (5, .int x5), (6, .int x6), (7, .int x7), (8, .int x8), (9, .int x9), (10, .int x10), (11, .int x11)] [] h) := T_loop (head := fun s : Int32 × Int32 => V 129 [(0, rA g 64), (2, .int x2), (3, .int x3), (4, .int x4), (5, .int x5), (6, .int x6), (7, .int x7), (8, .int x8), (9, .int x9), (10, .int s.1), (11, .int s.2)] [] h) (fun s => t_X7_hides_B129 o rr h x2 x3 x4 x5 x6 x7 x8 x9 s.1 s.2 ) (x10, x11)
noncomputable def f_X7_hides_B94 (h : MH) (x2 : Int32) (x3 : Int32) (x4 : Int32) (x5 : Int32) (x6 : Int32) (x7 : Int32) (x8 : Int32) (x9 : Int32) : Option ((Int32 × Int32 × Int32) ⊕ (Int32 × Int32)) :=
  (if x9 < (shl 1 x5) then (if (x9 &&& x6) = 0 then Option.bind (f_X7_sums h x2 x9) (fun r115 => (if r115 = x4 then Option.bind (f_X7_hides_L129 h x2 x3 x4 x5 x6 x7 x8 x9 0 0) (fun b129 => (if x7 < 0 then some (.inl (x9, b129, (x9 + 1))) else (if b129 < x8 then some (.inl (x9, b129, (x9 + 1))) else some (.inl (x7, x8, (x9 + 1)))))) else some (.inl (x7, x8, (x9 + 1))))) else some (.inl (x7, x8, (x9 + 1)))) else some (.inr (x7, x8)))
set_option maxRecDepth 100000 in
set_option maxHeartbeats 4000000 in
theorem t_X7_hides_B94 {g : Gx} {l : Launch} {V : VT} {Rt : Option Value → MH → Prop} (o : Ok g l RX7 cX7_hides 12 2 48 0 V) (rr : ORz cX7_hides V Rt) (h : MH) (x2 : Int32) (x3 : Int32) (x4 : Int32) (x5 : Int32) (x6 : Int32) (x7 : Int32) (x8 : Int32) (x9 : Int32) : T (Sum.elim (fun s => V 94 [(0, rA g 64), (2, .int x2), (3, .int x3), (4, .int x4), (5, .int x5), (6, .int x6), (7, .int s.1), (8, .int s.2.1), (9, .int s.2.2)] [] h) (fun b => V 194 [(0, rA g 64), (3, .int x3), (5, .int x5), (7, .int b.1), (8, .int b.2)] [] h)) (f_X7_hides_B94  h x2 x3 x4 x5 x6 x7 x8 x9) (V 94 [(0, rA g 64), (2, .int x2), (3, .int x3), (4, .int x4), (5, .int x5), (6, .int x6), (7, .int x7), (8, .int x8), (9, .int x9)] [] h) := by
  unfold f_X7_hides_B94
  refine R_iload o 8 dX7_hides_94 rfl ?_
  refine R_iconst (v := 1) o dX7_hides_96 (by decide) ?_
  refine R_iload o 4 dX7_hides_97 rfl ?_
  refine R_ishl o dX7_hides_99 ?_
  refine R_icmp_ge o 194 dX7_hides_100 (by decide) ?_ ?_
  · refine R_iload o 8 dX7_hides_103 rfl ?_
    refine R_iload o 5 dX7_hides_105 rfl ?_
    refine R_iand o dX7_hides_107 ?_
    refine R_if_ne o 188 dX7_hides_108 (by decide) ?_ ?_
    · refine R_aload_n o 0 dX7_hides_111 rfl rfl ?_
      refine R_iload_n o 1 dX7_hides_112 rfl rfl ?_
      refine R_iload o 8 dX7_hides_113 rfl ?_
      refine K_i (callV' (As := [.int x2, .int x9]) (rest := []) o dX7_hides_115 lk_X7_206 rfl sh_64 rfl rfl rfl rfl (Nat.le_of_ble_eq_true rfl)) (c_X7_sums g l h x2 x9) (fun r115 => ?_)
      refine R_iload o 3 dX7_hides_118 rfl ?_
      refine R_icmp_ne o 188 dX7_hides_120 (by decide) ?_ ?_
      · refine R_iconst (v := 0) o dX7_hides_123 (by decide) ?_
        refine R_istore (lv2 := [(0, rA g 64), (2, .int x2), (3, .int x3), (4, .int x4), (5, .int x5), (6, .int x6), (7, .int x7), (8, .int x8), (9, .int x9), (10, .int 0)]) o dX7_hides_124 (by decide) rfl ?_
        refine R_iconst (v := 0) o dX7_hides_126 (by decide) ?_
        refine R_istore (lv2 := [(0, rA g 64), (2, .int x2), (3, .int x3), (4, .int x4), (5, .int x5), (6, .int x6), (7, .int x7), (8, .int x8), (9, .int x9), (10, .int 0), (11, .int 0)]) o dX7_hides_127 (by decide) rfl ?_
        refine T_bind (t_X7_hides_L129 o rr h x2 x3 x4 x5 x6 x7 x8 x9 0 0) (fun b129 => ?_)
        refine R_iload o 6 dX7_hides_168 rfl ?_
        refine R_if_lt o 180 dX7_hides_170 (by decide) ?_ ?_
        · refine R_iload o 8 dX7_hides_180 rfl ?_
          refine R_istore (lv2 := [(0, rA g 64), (2, .int x2), (3, .int x3), (4, .int x4), (5, .int x5), (6, .int x6), (7, .int x9), (8, .int x8), (9, .int x9), (10, .int b129)]) o dX7_hides_182 (by decide) rfl ?_
          refine R_iload o 9 dX7_hides_184 rfl ?_
          refine R_istore (lv2 := [(0, rA g 64), (2, .int x2), (3, .int x3), (4, .int x4), (5, .int x5), (6, .int x6), (7, .int x9), (8, .int b129), (9, .int x9), (10, .int b129)]) o dX7_hides_186 (by decide) rfl ?_
          refine R_iinc (v := (x9 + 1)) (lv2 := [(0, rA g 64), (2, .int x2), (3, .int x3), (4, .int x4), (5, .int x5), (6, .int x6), (7, .int x9), (8, .int b129), (9, .int (x9 + 1)), (10, .int b129)]) o 8 dX7_hides_188 rfl rfl (by decide) rfl ?_
          refine R_goto o 94 dX7_hides_191 (by decide) ?_
          refine R_drop (lv2 := [(0, rA g 64), (2, .int x2), (3, .int x3), (4, .int x4), (5, .int x5), (6, .int x6), (7, .int x9), (8, .int b129), (9, .int (x9 + 1))]) o [0, 1, 2, 3, 4, 5, 6, 7, 8] rfl ?_
          exact T_some (fun p => p)
        · refine R_iload o 9 dX7_hides_173 rfl ?_
          refine R_iload o 7 dX7_hides_175 rfl ?_
          refine R_icmp_ge o 188 dX7_hides_177 (by decide) ?_ ?_
          · refine R_iload o 8 dX7_hides_180 rfl ?_
            refine R_istore (lv2 := [(0, rA g 64), (2, .int x2), (3, .int x3), (4, .int x4), (5, .int x5), (6, .int x6), (7, .int x9), (8, .int x8), (9, .int x9), (10, .int b129)]) o dX7_hides_182 (by decide) rfl ?_
            refine R_iload o 9 dX7_hides_184 rfl ?_
            refine R_istore (lv2 := [(0, rA g 64), (2, .int x2), (3, .int x3), (4, .int x4), (5, .int x5), (6, .int x6), (7, .int x9), (8, .int b129), (9, .int x9), (10, .int b129)]) o dX7_hides_186 (by decide) rfl ?_
            refine R_iinc (v := (x9 + 1)) (lv2 := [(0, rA g 64), (2, .int x2), (3, .int x3), (4, .int x4), (5, .int x5), (6, .int x6), (7, .int x9), (8, .int b129), (9, .int (x9 + 1)), (10, .int b129)]) o 8 dX7_hides_188 rfl rfl (by decide) rfl ?_
            refine R_goto o 94 dX7_hides_191 (by decide) ?_
            refine R_drop (lv2 := [(0, rA g 64), (2, .int x2), (3, .int x3), (4, .int x4), (5, .int x5), (6, .int x6), (7, .int x9), (8, .int b129), (9, .int (x9 + 1))]) o [0, 1, 2, 3, 4, 5, 6, 7, 8] rfl ?_
            exact T_some (fun p => p)
          · refine R_iinc (v := (x9 + 1)) (lv2 := [(0, rA g 64), (2, .int x2), (3, .int x3), (4, .int x4), (5, .int x5), (6, .int x6), (7, .int x7), (8, .int x8), (9, .int (x9 + 1)), (10, .int b129)]) o 8 dX7_hides_188 rfl rfl (by decide) rfl ?_
            refine R_goto o 94 dX7_hides_191 (by decide) ?_
            refine R_drop (lv2 := [(0, rA g 64), (2, .int x2), (3, .int x3), (4, .int x4), (5, .int x5), (6, .int x6), (7, .int x7), (8, .int x8), (9, .int (x9 + 1))]) o [0, 1, 2, 3, 4, 5, 6, 7, 8] rfl ?_
            exact T_some (fun p => p)
      · refine R_iinc (v := (x9 + 1)) (lv2 := [(0, rA g 64), (2, .int x2), (3, .int x3), (4, .int x4), (5, .int x5), (6, .int x6), (7, .int x7), (8, .int x8), (9, .int (x9 + 1))]) o 8 dX7_hides_188 rfl rfl (by decide) rfl ?_
        refine R_goto o 94 dX7_hides_191 (by decide) ?_
        exact T_some (fun p => p)
    · refine R_iinc (v := (x9 + 1)) (lv2 := [(0, rA g 64), (2, .int x2), (3, .int x3), (4, .int x4), (5, .int x5), (6, .int x6), (7, .int x7), (8, .int x8), (9, .int (x9 + 1))]) o 8 dX7_hides_188 rfl rfl (by decide) rfl ?_
      refine R_goto o 94 dX7_hides_191 (by decide) ?_
      exact T_some (fun p => p)
  · refine R_drop (lv2 := [(0, rA g 64), (3, .int x3), (5, .int x5), (7, .int x7), (8, .int x8)]) o [0, 2, 4, 6, 7] rfl ?_
    exact T_some (fun p => p)
noncomputable def f_X7_hides_L94 (h : MH) (x2 : Int32) (x3 : Int32) (x4 : Int32) (x5 : Int32) (x6 : Int32) (x7 : Int32) (x8 : Int32) (x9 : Int32) : Option (Int32 × Int32) :=
  lpo (fun s : Int32 × Int32 × Int32 => f_X7_hides_B94 h x2 x3 x4 x5 x6 s.1 s.2.1 s.2.2) (x7, x8, x9)
theorem t_X7_hides_L94 {g : Gx} {l : Launch} {V : VT} {Rt : Option Value → MH → Prop} (o : Ok g l RX7 cX7_hides 12 2 48 0 V) (rr : ORz cX7_hides V Rt) (h : MH) (x2 : Int32) (x3 : Int32) (x4 : Int32) (x5 : Int32) (x6 : Int32) (x7 : Int32) (x8 : Int32) (x9 : Int32) : T (fun b => V 194 [(0, rA g 64), (3, .int x3), (5, .int x5), (7, .int b.1), (8, .int b.2)] [] h) (f_X7_hides_L94 h x2 x3 x4 x5 x6 x7 x8 x9) (V 94 [(0, rA g 64), (2, .int x2), (3, .int x3), (4, .int x4), (5, .int x5), (6, .int x6), (7, .int x7), (8, .int x8), (9, .int x9)] [] h) := T_loop (head := fun s : Int32 × Int32 × Int32 => V 94 [(0, rA g 64), (2, .int x2), (3, .int x3), (4, .int x4), (5, .int x5), (6, .int x6), (7, .int s.1), (8, .int s.2.1), (9, .int s.2.2)] [] h) (fun s => t_X7_hides_B94 o rr h x2 x3 x4 x5 x6 s.1 s.2.1 s.2.2 ) (x7, x8, x9)
noncomputable def f_X7_hides_B197 (h : MH) (x3 : Int32) (x5 : Int32) (x7 : Int32) (x8 : Int32) (x9 : Int32) : Option ((Int32 × MH) ⊕ (MH)) :=
  (if x9 < x5 then (if x7 < 0 then some (.inr h) else gd (ix ((x3 * x5) + x9) 40) (Option.bind (f_X7_has x7 x9) (fun r229 => gd (ix (h.1 77 ((x3 * x5) + x9).toNatClampNeg) 40) (nm (uI h 82 (h.1 77 ((x3 * x5) + x9).toNatClampNeg).toNatClampNeg (b2i r229)) (fun h232 => Option.bind (f_X7_has x7 x9) (fun r242 => (if r242 = true then nm (uI h232 64 25 ((h232.1 64 25) + 1)) (fun h254 => some (.inl ((x9 + 1), h254))) else nm (uI h232 64 25 ((h232.1 64 25) + 0)) (fun h254 => some (.inl ((x9 + 1), h254)))))))))) else some (.inr h))
set_option maxRecDepth 100000 in
set_option maxHeartbeats 4000000 in
theorem t_X7_hides_B197 {g : Gx} {l : Launch} {V : VT} {Rt : Option Value → MH → Prop} (o : Ok g l RX7 cX7_hides 12 2 48 0 V) (rr : ORz cX7_hides V Rt) (h : MH) (x3 : Int32) (x5 : Int32) (x7 : Int32) (x8 : Int32) (x9 : Int32) : T (Sum.elim (fun s => V 197 [(0, rA g 64), (3, .int x3), (5, .int x5), (7, .int x7), (8, .int x8), (9, .int s.1)] [] s.2) (fun b => V 263 [(0, rA g 64), (7, .int x7), (8, .int x8)] [] b)) (f_X7_hides_B197  h x3 x5 x7 x8 x9) (V 197 [(0, rA g 64), (3, .int x3), (5, .int x5), (7, .int x7), (8, .int x8), (9, .int x9)] [] h) := by
  unfold f_X7_hides_B197
  refine R_iload o 5 dX7_hides_197 rfl ?_
  refine R_iload o 2 dX7_hides_199 rfl ?_
  refine R_icmp_ge o 263 dX7_hides_201 (by decide) ?_ ?_
  · refine R_iload o 3 dX7_hides_204 rfl ?_
    refine R_if_lt o 263 dX7_hides_206 (by decide) ?_ ?_
    · refine R_drop (lv2 := [(0, rA g 64), (7, .int x7), (8, .int x8)]) o [0, 3, 4] rfl ?_
      exact T_some (fun p => p)
    · refine R_aload_n o 0 dX7_hides_209 rfl rfl ?_
      refine R_getR (a2 := 82) o dX7_hides_210 fl_X7_65 sh_64 (by decide) rfl rf_64_24 ?_
      refine R_aload_n o 0 dX7_hides_213 rfl rfl ?_
      refine R_getR (a2 := 77) o dX7_hides_214 fl_X7_50 sh_64 (by decide) rfl rf_64_17 ?_
      refine R_iload_n o 1 dX7_hides_217 rfl rfl ?_
      refine R_iload o 2 dX7_hides_218 rfl ?_
      refine R_imul o dX7_hides_220 ?_
      refine R_iload o 5 dX7_hides_221 rfl ?_
      refine R_iadd o dX7_hides_223 ?_
      refine R_iald o dX7_hides_224 sh_77 ?_
      refine R_iload o 3 dX7_hides_225 rfl ?_
      refine R_iload o 5 dX7_hides_227 rfl ?_
      refine K_z (callS' (av := [.int x7, .int x9]) (rest := [.int (h.1 77 ((x3 * x5) + x9).toNatClampNeg), rA g 82]) o dX7_hides_229 lk_X7_134 rfl rfl rfl (Nat.le_of_ble_eq_true rfl)) (c_X7_has g l h x7 x9) (fun r229 => ?_)
      refine R_zast o dX7_hides_232 sh_82 (nar_b _) ?_
      refine R_nmH (fun h232 => ?_)
      refine R_aload_n o 0 dX7_hides_233 rfl rfl ?_
      refine R_dup o dX7_hides_234 rfl ?_
      refine R_getI o dX7_hides_235 fl_X7_209 sh_64 (by decide) rfl ?_
      refine R_iload o 3 dX7_hides_238 rfl ?_
      refine R_iload o 5 dX7_hides_240 rfl ?_
      refine K_z (callS' (av := [.int x7, .int x9]) (rest := [.int (h232.1 64 25), rA g 64]) o dX7_hides_242 lk_X7_134 rfl rfl rfl (Nat.le_of_ble_eq_true rfl)) (c_X7_has g l h232 x7 x9) (fun r242 => ?_)
      refine R_bif_eq o 252 dX7_hides_245 (by decide) ?_ ?_
      · refine R_iconst (v := 1) o dX7_hides_248 (by decide) ?_
        refine R_goto o 253 dX7_hides_249 (by decide) ?_
        refine R_iadd o dX7_hides_253 ?_
        refine R_putI o dX7_hides_254 fp_X7_209 sh_64 (by decide) rfl ?_
        refine R_nmH (fun h254 => ?_)
        refine R_iinc (v := (x9 + 1)) (lv2 := [(0, rA g 64), (3, .int x3), (5, .int x5), (7, .int x7), (8, .int x8), (9, .int (x9 + 1))]) o 5 dX7_hides_257 rfl rfl (by decide) rfl ?_
        refine R_goto o 197 dX7_hides_260 (by decide) ?_
        exact T_some (fun p => p)
      · refine R_iconst (v := 0) o dX7_hides_252 (by decide) ?_
        refine R_iadd o dX7_hides_253 ?_
        refine R_putI o dX7_hides_254 fp_X7_209 sh_64 (by decide) rfl ?_
        refine R_nmH (fun h254 => ?_)
        refine R_iinc (v := (x9 + 1)) (lv2 := [(0, rA g 64), (3, .int x3), (5, .int x5), (7, .int x7), (8, .int x8), (9, .int (x9 + 1))]) o 5 dX7_hides_257 rfl rfl (by decide) rfl ?_
        refine R_goto o 197 dX7_hides_260 (by decide) ?_
        exact T_some (fun p => p)
  · refine R_drop (lv2 := [(0, rA g 64), (7, .int x7), (8, .int x8)]) o [0, 3, 4] rfl ?_
    exact T_some (fun p => p)
noncomputable def f_X7_hides_L197 (h : MH) (x3 : Int32) (x5 : Int32) (x7 : Int32) (x8 : Int32) (x9 : Int32) : Option (MH) :=
  lpo (fun s : Int32 × MH => f_X7_hides_B197 s.2 x3 x5 x7 x8 s.1) (x9, h)
theorem t_X7_hides_L197 {g : Gx} {l : Launch} {V : VT} {Rt : Option Value → MH → Prop} (o : Ok g l RX7 cX7_hides 12 2 48 0 V) (rr : ORz cX7_hides V Rt) (h : MH) (x3 : Int32) (x5 : Int32) (x7 : Int32) (x8 : Int32) (x9 : Int32) : T (fun b => V 263 [(0, rA g 64), (7, .int x7), (8, .int x8)] [] b) (f_X7_hides_L197 h x3 x5 x7 x8 x9) (V 197 [(0, rA g 64), (3, .int x3), (5, .int x5), (7, .int x7), (8, .int x8), (9, .int x9)] [] h) := T_loop (head := fun s : Int32 × MH => V 197 [(0, rA g 64), (3, .int x3), (5, .int x5), (7, .int x7), (8, .int x8), (9, .int s.1)] [] s.2) (fun s => t_X7_hides_B197 o rr s.2 x3 x5 x7 x8 s.1 ) (x9, h)
noncomputable def f_X7_hides_J263 (h : MH) (x7 : Int32) (x8 : Int32) : Option (Bool × MH) :=
  nm (uI h 64 26 ((h.1 64 26) + x8)) (fun h271 => (if x7 < 0 then some (false, h271) else some (true, h271)))
set_option maxRecDepth 100000 in
set_option maxHeartbeats 4000000 in
theorem t_X7_hides_J263 {g : Gx} {l : Launch} {V : VT} {Rt : Option Value → MH → Prop} (o : Ok g l RX7 cX7_hides 12 2 48 0 V) (rr : ORz cX7_hides V Rt) (h : MH) (x7 : Int32) (x8 : Int32) : T (fun r => Rt (some (.int (b2i r.1))) r.2) (f_X7_hides_J263  h x7 x8) (V 263 [(0, rA g 64), (7, .int x7), (8, .int x8)] [] h) := by
  unfold f_X7_hides_J263
  refine R_aload_n o 0 dX7_hides_263 rfl rfl ?_
  refine R_dup o dX7_hides_264 rfl ?_
  refine R_getI o dX7_hides_265 fl_X7_212 sh_64 (by decide) rfl ?_
  refine R_iload o 2 dX7_hides_268 rfl ?_
  refine R_iadd o dX7_hides_270 ?_
  refine R_putI o dX7_hides_271 fp_X7_212 sh_64 (by decide) rfl ?_
  refine R_nmH (fun h271 => ?_)
  refine R_iload o 1 dX7_hides_274 rfl ?_
  refine R_if_lt o 283 dX7_hides_276 (by decide) ?_ ?_
  · refine R_iconst (v := 0) o dX7_hides_283 (by decide) ?_
    exact T_some (fun p => rr _ _ false _ dX7_hides_284 p)
  · refine R_iconst (v := 1) o dX7_hides_279 (by decide) ?_
    refine R_goto o 284 dX7_hides_280 (by decide) ?_
    exact T_some (fun p => rr _ _ true _ dX7_hides_284 p)
noncomputable def f_X7_hides (h : MH) (x1 : Int32) (x2 : Int32) (x3 : Int32) (x4 : Int32) : Option (Bool × MH) :=
  gd (ix x2 4) (nm (h.1 79 x2.toNatClampNeg) (fun v6 => Option.bind (f_X7_hides_L14 h x1 x2 x3 x4 v6 0 0) (fun b14 => Option.bind (f_X7_hides_L94 b14.2 x2 x3 x4 v6 b14.1 (-9) 0 0) (fun b94 => Option.bind (f_X7_hides_L197 b14.2 x3 v6 b94.1 b94.2 0) (fun b197 => f_X7_hides_J263 b197 b94.1 b94.2)))))
set_option maxRecDepth 100000 in
set_option maxHeartbeats 4000000 in
theorem b_X7_hides {g : Gx} {l : Launch} {V : VT} {Rt : Option Value → MH → Prop} (o : Ok g l RX7 cX7_hides 12 2 48 0 V) (rr : ORz cX7_hides V Rt) (h : MH) (x1 : Int32) (x2 : Int32) (x3 : Int32) (x4 : Int32) : T (fun r => Rt (some (.int (b2i r.1))) r.2) (f_X7_hides h x1 x2 x3 x4) (V 0 [(0, rA g 64), (1, .int x1), (2, .int x2), (3, .int x3), (4, .int x4)] [] h) := by
  unfold f_X7_hides
  refine R_aload_n o 0 dX7_hides_0 rfl rfl ?_
  refine R_getR (a2 := 79) o dX7_hides_1 fl_X7_56 sh_64 (by decide) rfl rf_64_19 ?_
  refine R_iload_n o 2 dX7_hides_4 rfl rfl ?_
  refine R_iald o dX7_hides_5 sh_79 ?_
  refine R_nmI (fun v6 => ?_)
  refine R_istore (lv2 := [(0, rA g 64), (1, .int x1), (2, .int x2), (3, .int x3), (4, .int x4), (5, .int v6)]) o dX7_hides_6 (by decide) rfl ?_
  refine R_iconst (v := 0) o dX7_hides_8 (by decide) ?_
  refine R_istore (lv2 := [(0, rA g 64), (1, .int x1), (2, .int x2), (3, .int x3), (4, .int x4), (5, .int v6), (6, .int 0)]) o dX7_hides_9 (by decide) rfl ?_
  refine R_iconst (v := 0) o dX7_hides_11 (by decide) ?_
  refine R_istore (lv2 := [(0, rA g 64), (1, .int x1), (2, .int x2), (3, .int x3), (4, .int x4), (5, .int v6), (6, .int 0), (7, .int 0)]) o dX7_hides_12 (by decide) rfl ?_
  refine T_bind (t_X7_hides_L14 o rr h x1 x2 x3 x4 v6 0 0) (fun b14 => ?_)
  refine R_bipush (v := (-9)) o dX7_hides_84 (by decide) ?_
  refine R_istore (lv2 := [(0, rA g 64), (2, .int x2), (3, .int x3), (4, .int x4), (5, .int v6), (6, .int b14.1), (7, .int (-9))]) o dX7_hides_86 (by decide) rfl ?_
  refine R_iconst (v := 0) o dX7_hides_88 (by decide) ?_
  refine R_istore (lv2 := [(0, rA g 64), (2, .int x2), (3, .int x3), (4, .int x4), (5, .int v6), (6, .int b14.1), (7, .int (-9)), (8, .int 0)]) o dX7_hides_89 (by decide) rfl ?_
  refine R_iconst (v := 0) o dX7_hides_91 (by decide) ?_
  refine R_istore (lv2 := [(0, rA g 64), (2, .int x2), (3, .int x3), (4, .int x4), (5, .int v6), (6, .int b14.1), (7, .int (-9)), (8, .int 0), (9, .int 0)]) o dX7_hides_92 (by decide) rfl ?_
  refine T_bind (t_X7_hides_L94 o rr b14.2 x2 x3 x4 v6 b14.1 (-9) 0 0) (fun b94 => ?_)
  refine R_iconst (v := 0) o dX7_hides_194 (by decide) ?_
  refine R_istore (lv2 := [(0, rA g 64), (3, .int x3), (5, .int v6), (7, .int b94.1), (8, .int b94.2), (9, .int 0)]) o dX7_hides_195 (by decide) rfl ?_
  refine T_bind (t_X7_hides_L197 o rr b14.2 x3 v6 b94.1 b94.2 0) (fun b197 => ?_)
  exact t_X7_hides_J263 o rr b197 b94.1 b94.2
theorem c_X7_hides (g : Gx) (l : Launch) (h : MH) (x1 : Int32) (x2 : Int32) (x3 : Int32) (x4 : Int32) (r : (Bool × MH)) (e : f_X7_hides h x1 x2 x3 x4 = some r) : Ctr g l yX7_hides cX7_hides 12 (some .boolean) 2 48 0 [rA g 64, .int x1, .int x2, .int x3, .int x4] h (some (.int (b2i r.1))) r.2 := mkCz (plainFor_of_name (by decide)) (Nat.le_of_ble_eq_true rfl) (fun V Rt o rr p => b_X7_hides o rr h x1 x2 x3 x4  r e p)
