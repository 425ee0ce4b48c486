/-! X7_works -/
noncomputable def f_X7_works_B91 (h : MH) (x1 : Int32) (x2 : Int32) (x3 : Int32) (x4 : Int32) (x5 : Int32) (x6 : Int32) (x7 : Int32) : Option ((Int32 × Int32) ⊕ (Int32)) :=
  gd (ix x4 6) ((if x7 < (h.1 66 x4.toNatClampNeg) then (if x6 = 0 then some (.inl (0, (x7 + 1))) else Option.bind (f_X7_rowAt h x4 x7) (fun r113 => Option.bind (f_X7_in r113 0 1) (fun r118 => (if r118 = true then some (.inl (1, (x7 + 1))) else some (.inl (0, (x7 + 1))))))) else some (.inr x6)))
set_option maxRecDepth 100000 in
set_option maxHeartbeats 4000000 in
theorem t_X7_works_B91 {g : Gx} {l : Launch} {V : VT} {Rt : Option Value → MH → Prop} (o : Ok g l RX7 cX7_works 10 3 79 0 V) (rr : ORi cX7_works V Rt) (h : MH) (x1 : Int32) (x2 : Int32) (x3 : Int32) (x4 : Int32) (x5 : Int32) (x6 : Int32) (x7 : Int32) : T (Sum.elim (fun s => V 91 [(0, rA g 64), (1, .int x1), (2, .int x2), (3, .int x3), (4, .int x4), (5, .int x5), (6, .int s.1), (7, .int s.2)] [] h) (fun b => V 137 [(0, rA g 64), (1, .int x1), (2, .int x2), (3, .int x3), (4, .int x4), (5, .int x5), (6, .int b)] [] h)) (f_X7_works_B91  h x1 x2 x3 x4 x5 x6 x7) (V 91 [(0, rA g 64), (1, .int x1), (2, .int x2), (3, .int x3), (4, .int x4), (5, .int x5), (6, .int x6), (7, .int x7)] [] h) := by
  unfold f_X7_works_B91
  refine R_iload o 7 dX7_works_91 rfl ?_
  refine R_aload_n o 0 dX7_works_93 rfl rfl ?_
  refine R_getR (a2 := 66) o dX7_works_94 fl_X7_17 sh_64 (by decide) rfl rf_64_5 ?_
  refine R_iload o 4 dX7_works_97 rfl ?_
  refine R_iald o dX7_works_99 sh_66 ?_
  refine R_icmp_ge o 137 dX7_works_100 (by decide) ?_ ?_
  · refine R_iload o 6 dX7_works_103 rfl ?_
    refine R_if_eq o 128 dX7_works_105 (by decide) ?_ ?_
    · refine R_iconst (v := 0) o dX7_works_128 (by decide) ?_
      refine R_istore (lv2 := [(0, rA g 64), (1, .int x1), (2, .int x2), (3, .int x3), (4, .int x4), (5, .int x5), (6, .int 0), (7, .int x7)]) o dX7_works_129 (by decide) rfl ?_
      refine R_iinc (v := (x7 + 1)) (lv2 := [(0, rA g 64), (1, .int x1), (2, .int x2), (3, .int x3), (4, .int x4), (5, .int x5), (6, .int 0), (7, .int (x7 + 1))]) o 7 dX7_works_131 rfl rfl (by decide) rfl ?_
      refine R_goto o 91 dX7_works_134 (by decide) ?_
      exact T_some (fun p => p)
    · refine R_aload_n o 0 dX7_works_108 rfl rfl ?_
      refine R_iload o 4 dX7_works_109 rfl ?_
      refine R_iload o 7 dX7_works_111 rfl ?_
      refine K_i (callV' (As := [.int x4, .int x7]) (rest := []) o dX7_works_113 lk_X7_110 rfl sh_64 rfl rfl rfl rfl (Nat.le_of_ble_eq_true rfl)) (c_X7_rowAt g l h x4 x7) (fun r113 => ?_)
      refine R_iconst (v := 0) o dX7_works_116 (by decide) ?_
      refine R_iconst (v := 1) o dX7_works_117 (by decide) ?_
      refine K_z (callS' (av := [.int r113, .int 0, .int 1]) (rest := []) o dX7_works_118 lk_X7_92 rfl rfl rfl (Nat.le_of_ble_eq_true rfl)) (c_X7_in g l h r113 0 1) (fun r118 => ?_)
      refine R_bif_eq o 128 dX7_works_121 (by decide) ?_ ?_
      · refine R_iconst (v := 1) o dX7_works_124 (by decide) ?_
        refine R_goto o 129 dX7_works_125 (by decide) ?_
        refine R_istore (lv2 := [(0, rA g 64), (1, .int x1), (2, .int x2), (3, .int x3), (4, .int x4), (5, .int x5), (6, .int 1), (7, .int x7)]) o dX7_works_129 (by decide) rfl ?_
        refine R_iinc (v := (x7 + 1)) (lv2 := [(0, rA g 64), (1, .int x1), (2, .int x2), (3, .int x3), (4, .int x4), (5, .int x5), (6, .int 1), (7, .int (x7 + 1))]) o 7 dX7_works_131 rfl rfl (by decide) rfl ?_
        refine R_goto o 91 dX7_works_134 (by decide) ?_
        exact T_some (fun p => p)
      · refine R_iconst (v := 0) o dX7_works_128 (by decide) ?_
        refine R_istore (lv2 := [(0, rA g 64), (1, .int x1), (2, .int x2), (3, .int x3), (4, .int x4), (5, .int x5), (6, .int 0), (7, .int x7)]) o dX7_works_129 (by decide) rfl ?_
        refine R_iinc (v := (x7 + 1)) (lv2 := [(0, rA g 64), (1, .int x1), (2, .int x2), (3, .int x3), (4, .int x4), (5, .int x5), (6, .int 0), (7, .int (x7 + 1))]) o 7 dX7_works_131 rfl rfl (by decide) rfl ?_
        refine R_goto o 91 dX7_works_134 (by decide) ?_
        exact T_some (fun p => p)
  · refine R_drop (lv2 := [(0, rA g 64), (1, .int x1), (2, .int x2), (3, .int x3), (4, .int x4), (5, .int x5), (6, .int x6)]) o [0, 1, 2, 3, 4, 5, 6] rfl ?_
    exact T_some (fun p => p)
noncomputable def f_X7_works_L91 (h : MH) (x1 : Int32) (x2 : Int32) (x3 : Int32) (x4 : Int32) (x5 : Int32) (x6 : Int32) (x7 : Int32) : Option (Int32) :=
  lpo (fun s : Int32 × Int32 => f_X7_works_B91 h x1 x2 x3 x4 x5 s.1 s.2) (x6, x7)
theorem t_X7_works_L91 {g : Gx} {l : Launch} {V : VT} {Rt : Option Value → MH → Prop} (o : Ok g l RX7 cX7_works 10 3 79 0 V) (rr : ORi cX7_works V Rt) (h : MH) (x1 : Int32) (x2 : Int32) (x3 : Int32) (x4 : Int32) (x5 : Int32) (x6 : Int32) (x7 : Int32) : T (fun b => V 137 [(0, rA g 64), (1, .int x1), (2, .int x2), (3, .int x3), (4, .int x4), (5, .int x5), (6, .int b)] [] h) (f_X7_works_L91 h x1 x2 x3 x4 x5 x6 x7) (V 91 [(0, rA g 64), (1, .int x1), (2, .int x2), (3, .int x3), (4, .int x4), (5, .int x5), (6, .int x6), (7, .int x7)] [] h) := T_loop (head := fun s : Int32 × Int32 => V 91 [(0, rA g 64), (1, .int x1), (2, .int x2), (3, .int x3), (4, .int x4), (5, .int x5), (6, .int s.1), (7, .int s.2)] [] h) (fun s => t_X7_works_B91 o rr h x1 x2 x3 x4 x5 s.1 s.2 ) (x6, x7)
noncomputable def f_X7_works_B197 (h : MH) (x1 : Int32) (x3 : Int32) (x4 : Int32) (x5 : Int32) (x7 : Int32) : Option ((Int32 × MH) ⊕ (MH)) :=
  (if x7 < 40 then gd (ix x7 40) (nm (uI h 82 x7.toNatClampNeg 0) (fun h211 => some (.inl ((x7 + 1), h211)))) else some (.inr h))
set_option maxRecDepth 100000 in
set_option maxHeartbeats 4000000 in
theorem t_X7_works_B197 {g : Gx} {l : Launch} {V : VT} {Rt : Option Value → MH → Prop} (o : Ok g l RX7 cX7_works 10 3 79 0 V) (rr : ORi cX7_works V Rt) (h : MH) (x1 : Int32) (x3 : Int32) (x4 : Int32) (x5 : Int32) (x7 : Int32) : T (Sum.elim (fun s => V 197 [(0, rA g 64), (1, .int x1), (3, .int x3), (4, .int x4), (5, .int x5), (7, .int s.1)] [] s.2) (fun b => V 218 [(0, rA g 64), (1, .int x1), (3, .int x3), (4, .int x4), (5, .int x5)] [] b)) (f_X7_works_B197  h x1 x3 x4 x5 x7) (V 197 [(0, rA g 64), (1, .int x1), (3, .int x3), (4, .int x4), (5, .int x5), (7, .int x7)] [] h) := by
  unfold f_X7_works_B197
  refine R_iload o 5 dX7_works_197 rfl ?_
  refine R_bipush (v := 40) o dX7_works_199 (by decide) ?_
  refine R_icmp_ge o 218 dX7_works_201 (by decide) ?_ ?_
  · refine R_aload_n o 0 dX7_works_204 rfl rfl ?_
    refine R_getR (a2 := 82) o dX7_works_205 fl_X7_65 sh_64 (by decide) rfl rf_64_24 ?_
    refine R_iload o 5 dX7_works_208 rfl ?_
    refine R_iconst (v := 0) o dX7_works_210 (by decide) ?_
    refine R_zast o dX7_works_211 sh_82 (by decide) ?_
    refine R_nmH (fun h211 => ?_)
    refine R_iinc (v := (x7 + 1)) (lv2 := [(0, rA g 64), (1, .int x1), (3, .int x3), (4, .int x4), (5, .int x5), (7, .int (x7 + 1))]) o 5 dX7_works_212 rfl rfl (by decide) rfl ?_
    refine R_goto o 197 dX7_works_215 (by decide) ?_
    exact T_some (fun p => p)
  · refine R_drop (lv2 := [(0, rA g 64), (1, .int x1), (3, .int x3), (4, .int x4), (5, .int x5)]) o [0, 1, 2, 3, 4] rfl ?_
    exact T_some (fun p => p)
noncomputable def f_X7_works_L197 (h : MH) (x1 : Int32) (x3 : Int32) (x4 : Int32) (x5 : Int32) (x7 : Int32) : Option (MH) :=
  lpo (fun s : Int32 × MH => f_X7_works_B197 s.2 x1 x3 x4 x5 s.1) (x7, h)
theorem t_X7_works_L197 {g : Gx} {l : Launch} {V : VT} {Rt : Option Value → MH → Prop} (o : Ok g l RX7 cX7_works 10 3 79 0 V) (rr : ORi cX7_works V Rt) (h : MH) (x1 : Int32) (x3 : Int32) (x4 : Int32) (x5 : Int32) (x7 : Int32) : T (fun b => V 218 [(0, rA g 64), (1, .int x1), (3, .int x3), (4, .int x4), (5, .int x5)] [] b) (f_X7_works_L197 h x1 x3 x4 x5 x7) (V 197 [(0, rA g 64), (1, .int x1), (3, .int x3), (4, .int x4), (5, .int x5), (7, .int x7)] [] h) := T_loop (head := fun s : Int32 × MH => V 197 [(0, rA g 64), (1, .int x1), (3, .int x3), (4, .int x4), (5, .int x5), (7, .int s.1)] [] s.2) (fun s => t_X7_works_B197 o rr s.2 x1 x3 x4 x5 s.1 ) (x7, h)
noncomputable def f_X7_works_B242 (h : MH) (x1 : Int32) (x3 : Int32) (x4 : Int32) (x5 : Int32) (x7 : Int32) (x8 : Int32) (x9 : Int32) : Option ((Int32 × Int32) ⊕ (Int32)) :=
  (if x9 < x5 then Option.bind (f_X7_rowAt h x4 ((x7 * x5) + x9)) (fun r262 => nm (x8 ||| (shl r262 x9)) (fun v269 => some (.inl (v269, (x9 + 1))))) else some (.inr x8))
set_option maxRecDepth 100000 in
set_option maxHeartbeats 4000000 in
theorem t_X7_works_B242 {g : Gx} {l : Launch} {V : VT} {Rt : Option Value → MH → Prop} (o : Ok g l RX7 cX7_works 10 3 79 0 V) (rr : ORi cX7_works V Rt) (h : MH) (x1 : Int32) (x3 : Int32) (x4 : Int32) (x5 : Int32) (x7 : Int32) (x8 : Int32) (x9 : Int32) : T (Sum.elim (fun s => V 242 [(0, rA g 64), (1, .int x1), (3, .int x3), (4, .int x4), (5, .int x5), (7, .int x7), (8, .int s.1), (9, .int s.2)] [] h) (fun b => V 277 [(0, rA g 64), (1, .int x1), (3, .int x3), (4, .int x4), (5, .int x5), (7, .int x7), (8, .int b)] [] h)) (f_X7_works_B242  h x1 x3 x4 x5 x7 x8 x9) (V 242 [(0, rA g 64), (1, .int x1), (3, .int x3), (4, .int x4), (5, .int x5), (7, .int x7), (8, .int x8), (9, .int x9)] [] h) := by
  unfold f_X7_works_B242
  refine R_iload o 7 dX7_works_242 rfl ?_
  refine R_iload o 4 dX7_works_244 rfl ?_
  refine R_icmp_ge o 277 dX7_works_246 (by decide) ?_ ?_
  · refine R_iload o 6 dX7_works_249 rfl ?_
    refine R_aload_n o 0 dX7_works_251 rfl rfl ?_
    refine R_iload o 3 dX7_works_252 rfl ?_
    refine R_iload o 5 dX7_works_254 rfl ?_
    refine R_iload o 4 dX7_works_256 rfl ?_
    refine R_imul o dX7_works_258 ?_
    refine R_iload o 7 dX7_works_259 rfl ?_
    refine R_iadd o dX7_works_261 ?_
    refine K_i (callV' (As := [.int x4, .int ((x7 * x5) + x9)]) (rest := [.int x8]) o dX7_works_262 lk_X7_110 rfl sh_64 rfl rfl rfl rfl (Nat.le_of_ble_eq_true rfl)) (c_X7_rowAt g l h x4 ((x7 * x5) + x9)) (fun r262 => ?_)
    refine R_iload o 7 dX7_works_265 rfl ?_
    refine R_ishl o dX7_works_267 ?_
    refine R_ior o dX7_works_268 ?_
    refine R_nmI (fun v269 => ?_)
    refine R_istore (lv2 := [(0, rA g 64), (1, .int x1), (3, .int x3), (4, .int x4), (5, .int x5), (7, .int x7), (8, .int v269), (9, .int x9)]) o dX7_works_269 (by decide) rfl ?_
    refine R_iinc (v := (x9 + 1)) (lv2 := [(0, rA g 64), (1, .int x1), (3, .int x3), (4, .int x4), (5, .int x5), (7, .int x7), (8, .int v269), (9, .int (x9 + 1))]) o 7 dX7_works_271 rfl rfl (by decide) rfl ?_
    refine R_goto o 242 dX7_works_274 (by decide) ?_
    exact T_some (fun p => p)
  · refine R_drop (lv2 := [(0, rA g 64), (1, .int x1), (3, .int x3), (4, .int x4), (5, .int x5), (7, .int x7), (8, .int x8)]) o [0, 1, 2, 3, 4, 5, 6] rfl ?_
    exact T_some (fun p => p)
noncomputable def f_X7_works_L242 (h : MH) (x1 : Int32) (x3 : Int32) (x4 : Int32) (x5 : Int32) (x7 : Int32) (x8 : Int32) (x9 : Int32) : Option (Int32) :=
  lpo (fun s : Int32 × Int32 => f_X7_works_B242 h x1 x3 x4 x5 x7 s.1 s.2) (x8, x9)
theorem t_X7_works_L242 {g : Gx} {l : Launch} {V : VT} {Rt : Option Value → MH → Prop} (o : Ok g l RX7 cX7_works 10 3 79 0 V) (rr : ORi cX7_works V Rt) (h : MH) (x1 : Int32) (x3 : Int32) (x4 : Int32) (x5 : Int32) (x7 : Int32) (x8 : Int32) (x9 : Int32) : T (fun b => V 277 [(0, rA g 64), (1, .int x1), (3, .int x3), (4, .int x4), (5, .int x5), (7, .int x7), (8, .int b)] [] h) (f_X7_works_L242 h x1 x3 x4 x5 x7 x8 x9) (V 242 [(0, rA g 64), (1, .int x1), (3, .int x3), (4, .int x4), (5, .int x5), (7, .int x7), (8, .int x8), (9, .int x9)] [] h) := T_loop (head := fun s : Int32 × Int32 => V 242 [(0, rA g 64), (1, .int x1), (3, .int x3), (4, .int x4), (5, .int x5), (7, .int x7), (8, .int s.1), (9, .int s.2)] [] h) (fun s => t_X7_works_B242 o rr h x1 x3 x4 x5 x7 s.1 s.2 ) (x8, x9)
noncomputable def f_X7_works_B221 (h : MH) (x1 : Int32) (x3 : Int32) (x4 : Int32) (x5 : Int32) (x7 : Int32) : Option ((Int32 × MH) ⊕ ((MH) ⊕ ((Int32 × MH)))) :=
  gd (ix x4 6) (gd (nz x5) ((if x7 < ((h.1 66 x4.toNatClampNeg) / x5) then Option.bind (f_X7_works_L242 h x1 x3 x4 x5 x7 0 0) (fun b242 => Option.bind (f_X7_blockSet h x1 x3 x7) (fun r291 => Option.bind (f_X7_sums h x3 r291) (fun r294 => bnd2 (f_X7_hides h x1 x3 x7 (b242 ^^^ r294)) (fun r298 h298 => (if r298 = true then some (.inl ((x7 + 1), h298)) else some (.inr (.inr ((-9), h298)))))))) else some (.inr (.inl h)))))
set_option maxRecDepth 100000 in
set_option maxHeartbeats 4000000 in
theorem t_X7_works_B221 {g : Gx} {l : Launch} {V : VT} {Rt : Option Value → MH → Prop} (o : Ok g l RX7 cX7_works 10 3 79 0 V) (rr : ORi cX7_works V Rt) (h : MH) (x1 : Int32) (x3 : Int32) (x4 : Int32) (x5 : Int32) (x7 : Int32) : T (Sum.elim (fun s => V 221 [(0, rA g 64), (1, .int x1), (3, .int x3), (4, .int x4), (5, .int x5), (7, .int s.1)] [] s.2) (Sum.elim (fun b => V 313 [(0, rA g 64)] [] b) (fun r => Rt (some (.int r.1)) r.2))) (f_X7_works_B221  h x1 x3 x4 x5 x7) (V 221 [(0, rA g 64), (1, .int x1), (3, .int x3), (4, .int x4), (5, .int x5), (7, .int x7)] [] h) := by
  unfold f_X7_works_B221
  refine R_iload o 5 dX7_works_221 rfl ?_
  refine R_aload_n o 0 dX7_works_223 rfl rfl ?_
  refine R_getR (a2 := 66) o dX7_works_224 fl_X7_17 sh_64 (by decide) rfl rf_64_5 ?_
  refine R_iload o 3 dX7_works_227 rfl ?_
  refine R_iald o dX7_works_229 sh_66 ?_
  refine R_iload o 4 dX7_works_230 rfl ?_
  refine R_idiv o dX7_works_232 ?_
  refine R_icmp_ge o 313 dX7_works_233 (by decide) ?_ ?_
  · refine R_iconst (v := 0) o dX7_works_236 (by decide) ?_
    refine R_istore (lv2 := [(0, rA g 64), (1, .int x1), (3, .int x3), (4, .int x4), (5, .int x5), (7, .int x7), (8, .int 0)]) o dX7_works_237 (by decide) rfl ?_
    refine R_iconst (v := 0) o dX7_works_239 (by decide) ?_
    refine R_istore (lv2 := [(0, rA g 64), (1, .int x1), (3, .int x3), (4, .int x4), (5, .int x5), (7, .int x7), (8, .int 0), (9, .int 0)]) o dX7_works_240 (by decide) rfl ?_
    refine T_bind (t_X7_works_L242 o rr h x1 x3 x4 x5 x7 0 0) (fun b242 => ?_)
    refine R_aload_n o 0 dX7_works_277 rfl rfl ?_
    refine R_iload_n o 1 dX7_works_278 rfl rfl ?_
    refine R_iload_n o 2 dX7_works_279 rfl rfl ?_
    refine R_iload o 5 dX7_works_280 rfl ?_
    refine R_iload o 6 dX7_works_282 rfl ?_
    refine R_aload_n o 0 dX7_works_284 rfl rfl ?_
    refine R_iload_n o 2 dX7_works_285 rfl rfl ?_
    refine R_aload_n o 0 dX7_works_286 rfl rfl ?_
    refine R_iload_n o 1 dX7_works_287 rfl rfl ?_
    refine R_iload_n o 2 dX7_works_288 rfl rfl ?_
    refine R_iload o 5 dX7_works_289 rfl ?_
    refine K_i (callV' (As := [.int x1, .int x3, .int x7]) (rest := [.int x3, rA g 64, .int b242, .int x7, .int x3, .int x1, rA g 64]) o dX7_works_291 lk_X7_215 rfl sh_64 rfl rfl rfl rfl (Nat.le_of_ble_eq_true rfl)) (c_X7_blockSet g l h x1 x3 x7) (fun r291 => ?_)
    refine K_i (callV' (As := [.int x3, .int r291]) (rest := [.int b242, .int x7, .int x3, .int x1, rA g 64]) o dX7_works_294 lk_X7_206 rfl sh_64 rfl rfl rfl rfl (Nat.le_of_ble_eq_true rfl)) (c_X7_sums g l h x3 r291) (fun r294 => ?_)
    refine R_ixor o dX7_works_297 ?_
    refine K_zh (callV' (As := [.int x1, .int x3, .int x7, .int (b242 ^^^ r294)]) (rest := []) o dX7_works_298 lk_X7_218 rfl sh_64 rfl rfl rfl rfl (Nat.le_of_ble_eq_true rfl)) (c_X7_hides g l h x1 x3 x7 (b242 ^^^ r294)) (fun r298 h298 => ?_)
    refine R_bif_ne o 307 dX7_works_301 (by decide) ?_ ?_
    · refine R_iinc (v := (x7 + 1)) (lv2 := [(0, rA g 64), (1, .int x1), (3, .int x3), (4, .int x4), (5, .int x5), (7, .int (x7 + 1)), (8, .int b242)]) o 5 dX7_works_307 rfl rfl (by decide) rfl ?_
      refine R_goto o 221 dX7_works_310 (by decide) ?_
      refine R_drop (lv2 := [(0, rA g 64), (1, .int x1), (3, .int x3), (4, .int x4), (5, .int x5), (7, .int (x7 + 1))]) o [0, 1, 2, 3, 4, 5] rfl ?_
      exact T_some (fun p => p)
    · refine R_bipush (v := (-9)) o dX7_works_304 (by decide) ?_
      exact T_some (fun p => rr _ _ _ _ dX7_works_306 p)
  · refine R_drop (lv2 := [(0, rA g 64)]) o [0] rfl ?_
    exact T_some (fun p => p)
noncomputable def f_X7_works_L221 (h : MH) (x1 : Int32) (x3 : Int32) (x4 : Int32) (x5 : Int32) (x7 : Int32) : Option ((MH) ⊕ ((Int32 × MH))) :=
  lpo (fun s : Int32 × MH => f_X7_works_B221 s.2 x1 x3 x4 x5 s.1) (x7, h)
theorem t_X7_works_L221 {g : Gx} {l : Launch} {V : VT} {Rt : Option Value → MH → Prop} (o : Ok g l RX7 cX7_works 10 3 79 0 V) (rr : ORi cX7_works V Rt) (h : MH) (x1 : Int32) (x3 : Int32) (x4 : Int32) (x5 : Int32) (x7 : Int32) : T (Sum.elim (fun b => V 313 [(0, rA g 64)] [] b) (fun r => Rt (some (.int r.1)) r.2)) (f_X7_works_L221 h x1 x3 x4 x5 x7) (V 221 [(0, rA g 64), (1, .int x1), (3, .int x3), (4, .int x4), (5, .int x5), (7, .int x7)] [] h) := T_loop (head := fun s : Int32 × MH => V 221 [(0, rA g 64), (1, .int x1), (3, .int x3), (4, .int x4), (5, .int x5), (7, .int s.1)] [] s.2) (fun s => t_X7_works_B221 o rr s.2 x1 x3 x4 x5 s.1 ) (x7, h)
noncomputable def f_X7_works (h : MH) (x1 : Int32) (x2 : Int32) (x3 : Int32) (x4 : Int32) : Option (Int32 × MH) :=
  Option.bind (f_X7_isCover x1) (fun r1 => (if r1 = true then Option.bind (f_X7_isCode x3) (fun r8 => (if r8 = true then Option.bind (f_X7_isRow x4) (fun r16 => (if r16 = true then gd (ix x1 6) ((if (h.1 71 x1.toNatClampNeg) = 0 then bnd2 (f_X7_meets h 1) (fun r54 h54 => some (r54, h54)) else gd (ix x3 4) ((if (h.1 78 x3.toNatClampNeg) = 0 then bnd2 (f_X7_meets h 1) (fun r54 h54 => some (r54, h54)) else gd (ix x4 6) ((if (h.1 66 x4.toNatClampNeg) < 0 then bnd2 (f_X7_meets h 1) (fun r54 h54 => some (r54, h54)) else gd (ix x3 4) (nm (h.1 78 x3.toNatClampNeg) (fun v64 => gd (ix x4 6) (gd (nz v64) ((if (irm (h.1 66 x4.toNatClampNeg) v64) = 0 then Option.bind (f_X7_works_L91 h x1 x2 x3 x4 v64 1 0) (fun b91 => (if b91 = 0 then bnd2 (f_X7_meets h 3) (fun r144 h144 => some (r144, h144)) else gd (ix x4 6) (Option.bind (f_X7_blocksOf h x1 x3) (fun r160 => (if (v64 * r160) < (h.1 66 x4.toNatClampNeg) then bnd2 (f_X7_meets h 2) (fun r169 h169 => some (r169, h169)) else gd (ix x1 6) (Option.bind (f_X7_setOrder h (h.1 71 x1.toNatClampNeg) x2) (fun h181 => nm (uI h181 64 25 0) (fun h186 => nm (uI h186 64 26 0) (fun h191 => Option.bind (f_X7_works_L197 h191 x1 x3 x4 v64 0) (fun b197 => Option.bind (f_X7_works_L221 b197 x1 x3 x4 v64 0) (Sum.elim (fun b221 => some ((b221.1 64 26), b221)) (fun r => some r)))))))))))) else bnd2 (f_X7_meets h 5) (fun r81 h81 => some (r81, h81))))))))))))) else some ((-1), h))) else some ((-1), h))) else some ((-1), h)))
set_option maxRecDepth 100000 in
set_option maxHeartbeats 4000000 in
theorem b_X7_works {g : Gx} {l : Launch} {V : VT} {Rt : Option Value → MH → Prop} (o : Ok g l RX7 cX7_works 10 3 79 0 V) (rr : ORi cX7_works V Rt) (h : MH) (x1 : Int32) (x2 : Int32) (x3 : Int32) (x4 : Int32) : T (fun r => Rt (some (.int r.1)) r.2) (f_X7_works h x1 x2 x3 x4) (V 0 [(0, rA g 64), (1, .int x1), (2, .int x2), (3, .int x3), (4, .int x4)] [] h) := by
  unfold f_X7_works
  refine R_iload_n o 1 dX7_works_0 rfl rfl ?_
  refine K_z (callS' (av := [.int x1]) (rest := []) o dX7_works_1 lk_X7_123 rfl rfl rfl (Nat.le_of_ble_eq_true rfl)) (c_X7_isCover g l h x1) (fun r1 => ?_)
  refine R_bif_eq o 22 dX7_works_4 (by decide) ?_ ?_
  · refine R_iload_n o 3 dX7_works_7 rfl rfl ?_
    refine K_z (callS' (av := [.int x3]) (rest := []) o dX7_works_8 lk_X7_191 rfl rfl rfl (Nat.le_of_ble_eq_true rfl)) (c_X7_isCode g l h x3) (fun r8 => ?_)
    refine R_bif_eq o 22 dX7_works_11 (by decide) ?_ ?_
    · refine R_iload o 4 dX7_works_14 rfl ?_
      refine K_z (callS' (av := [.int x4]) (rest := []) o dX7_works_16 lk_X7_96 rfl rfl rfl (Nat.le_of_ble_eq_true rfl)) (c_X7_isRow g l h x4) (fun r16 => ?_)
      refine R_bif_ne o 24 dX7_works_19 (by decide) ?_ ?_
      · refine R_aload_n o 0 dX7_works_24 rfl rfl ?_
        refine R_getR (a2 := 71) o dX7_works_25 fl_X7_32 sh_64 (by decide) rfl rf_64_10 ?_
        refine R_iload_n o 1 dX7_works_28 rfl rfl ?_
        refine R_iald o dX7_works_29 sh_71 ?_
        refine R_if_eq o 52 dX7_works_30 (by decide) ?_ ?_
        · refine R_aload_n o 0 dX7_works_52 rfl rfl ?_
          refine R_iconst (v := 1) o dX7_works_53 (by decide) ?_
          refine K_ih (callV' (As := [.int 1]) (rest := []) o dX7_works_54 lk_X7_100 rfl sh_64 rfl rfl rfl rfl (Nat.le_of_ble_eq_true rfl)) (c_X7_meets g l h 1) (fun r54 h54 => ?_)
          exact T_some (fun p => rr _ _ _ _ dX7_works_57 p)
        · refine R_aload_n o 0 dX7_works_33 rfl rfl ?_
          refine R_getR (a2 := 78) o dX7_works_34 fl_X7_53 sh_64 (by decide) rfl rf_64_18 ?_
          refine R_iload_n o 3 dX7_works_37 rfl rfl ?_
          refine R_iald o dX7_works_38 sh_78 ?_
          refine R_if_eq o 52 dX7_works_39 (by decide) ?_ ?_
          · refine R_aload_n o 0 dX7_works_52 rfl rfl ?_
            refine R_iconst (v := 1) o dX7_works_53 (by decide) ?_
            refine K_ih (callV' (As := [.int 1]) (rest := []) o dX7_works_54 lk_X7_100 rfl sh_64 rfl rfl rfl rfl (Nat.le_of_ble_eq_true rfl)) (c_X7_meets g l h 1) (fun r54 h54 => ?_)
            exact T_some (fun p => rr _ _ _ _ dX7_works_57 p)
          · refine R_aload_n o 0 dX7_works_42 rfl rfl ?_
            refine R_getR (a2 := 66) o dX7_works_43 fl_X7_17 sh_64 (by decide) rfl rf_64_5 ?_
            refine R_iload o 4 dX7_works_46 rfl ?_
            refine R_iald o dX7_works_48 sh_66 ?_
            refine R_if_ge o 58 dX7_works_49 (by decide) ?_ ?_
            · refine R_aload_n o 0 dX7_works_52 rfl rfl ?_
              refine R_iconst (v := 1) o dX7_works_53 (by decide) ?_
              refine K_ih (callV' (As := [.int 1]) (rest := []) o dX7_works_54 lk_X7_100 rfl sh_64 rfl rfl rfl rfl (Nat.le_of_ble_eq_true rfl)) (c_X7_meets g l h 1) (fun r54 h54 => ?_)
              exact T_some (fun p => rr _ _ _ _ dX7_works_57 p)
            · refine R_aload_n o 0 dX7_works_58 rfl rfl ?_
              refine R_getR (a2 := 78) o dX7_works_59 fl_X7_53 sh_64 (by decide) rfl rf_64_18 ?_
              refine R_iload_n o 3 dX7_works_62 rfl rfl ?_
              refine R_iald o dX7_works_63 sh_78 ?_
              refine R_nmI (fun v64 => ?_)
              refine R_istore (lv2 := [(0, rA g 64), (1, .int x1), (2, .int x2), (3, .int x3), (4, .int x4), (5, .int v64)]) o dX7_works_64 (by decide) rfl ?_
              refine R_aload_n o 0 dX7_works_66 rfl rfl ?_
              refine R_getR (a2 := 66) o dX7_works_67 fl_X7_17 sh_64 (by decide) rfl rf_64_5 ?_
              refine R_iload o 4 dX7_works_70 rfl ?_
              refine R_iald o dX7_works_72 sh_66 ?_
              refine R_iload o 5 dX7_works_73 rfl ?_
              refine R_irem o dX7_works_75 ?_
              refine R_if_eq o 85 dX7_works_76 (by decide) ?_ ?_
              · refine R_iconst (v := 1) o dX7_works_85 (by decide) ?_
                refine R_istore (lv2 := [(0, rA g 64), (1, .int x1), (2, .int x2), (3, .int x3), (4, .int x4), (5, .int v64), (6, .int 1)]) o dX7_works_86 (by decide) rfl ?_
                refine R_iconst (v := 0) o dX7_works_88 (by decide) ?_
                refine R_istore (lv2 := [(0, rA g 64), (1, .int x1), (2, .int x2), (3, .int x3), (4, .int x4), (5, .int v64), (6, .int 1), (7, .int 0)]) o dX7_works_89 (by decide) rfl ?_
                refine T_bind (t_X7_works_L91 o rr h x1 x2 x3 x4 v64 1 0) (fun b91 => ?_)
                refine R_iload o 6 dX7_works_137 rfl ?_
                refine R_if_ne o 148 dX7_works_139 (by decide) ?_ ?_
                · refine R_aload_n o 0 dX7_works_142 rfl rfl ?_
                  refine R_iconst (v := 3) o dX7_works_143 (by decide) ?_
                  refine K_ih (callV' (As := [.int 3]) (rest := []) o dX7_works_144 lk_X7_100 rfl sh_64 rfl rfl rfl rfl (Nat.le_of_ble_eq_true rfl)) (c_X7_meets g l h 3) (fun r144 h144 => ?_)
                  exact T_some (fun p => rr _ _ _ _ dX7_works_147 p)
                · refine R_aload_n o 0 dX7_works_148 rfl rfl ?_
                  refine R_getR (a2 := 66) o dX7_works_149 fl_X7_17 sh_64 (by decide) rfl rf_64_5 ?_
                  refine R_iload o 4 dX7_works_152 rfl ?_
                  refine R_iald o dX7_works_154 sh_66 ?_
                  refine R_iload o 5 dX7_works_155 rfl ?_
                  refine R_aload_n o 0 dX7_works_157 rfl rfl ?_
                  refine R_iload_n o 1 dX7_works_158 rfl rfl ?_
                  refine R_iload_n o 3 dX7_works_159 rfl rfl ?_
                  refine K_i (callV' (As := [.int x1, .int x3]) (rest := [.int v64, .int (h.1 66 x4.toNatClampNeg)]) o dX7_works_160 lk_X7_200 rfl sh_64 rfl rfl rfl rfl (Nat.le_of_ble_eq_true rfl)) (c_X7_blocksOf g l h x1 x3) (fun r160 => ?_)
                  refine R_imul o dX7_works_163 ?_
                  refine R_icmp_le o 173 dX7_works_164 (by decide) ?_ ?_
                  · refine R_aload_n o 0 dX7_works_167 rfl rfl ?_
                    refine R_iconst (v := 2) o dX7_works_168 (by decide) ?_
                    refine K_ih (callV' (As := [.int 2]) (rest := []) o dX7_works_169 lk_X7_100 rfl sh_64 rfl rfl rfl rfl (Nat.le_of_ble_eq_true rfl)) (c_X7_meets g l h 2) (fun r169 h169 => ?_)
                    exact T_some (fun p => rr _ _ _ _ dX7_works_172 p)
                  · refine R_aload_n o 0 dX7_works_173 rfl rfl ?_
                    refine R_aload_n o 0 dX7_works_174 rfl rfl ?_
                    refine R_getR (a2 := 71) o dX7_works_175 fl_X7_32 sh_64 (by decide) rfl rf_64_10 ?_
                    refine R_iload_n o 1 dX7_works_178 rfl rfl ?_
                    refine R_iald o dX7_works_179 sh_71 ?_
                    refine R_iload_n o 2 dX7_works_180 rfl rfl ?_
                    refine K_vh (callV' (As := [.int (h.1 71 x1.toNatClampNeg), .int x2]) (rest := []) o dX7_works_181 lk_X7_172 rfl sh_64 rfl rfl rfl rfl (Nat.le_of_ble_eq_true rfl)) (c_X7_setOrder g l h (h.1 71 x1.toNatClampNeg) x2) (fun h181 => ?_)
                    refine R_aload_n o 0 dX7_works_184 rfl rfl ?_
                    refine R_iconst (v := 0) o dX7_works_185 (by decide) ?_
                    refine R_putI o dX7_works_186 fp_X7_209 sh_64 (by decide) rfl ?_
                    refine R_nmH (fun h186 => ?_)
                    refine R_aload_n o 0 dX7_works_189 rfl rfl ?_
                    refine R_iconst (v := 0) o dX7_works_190 (by decide) ?_
                    refine R_putI o dX7_works_191 fp_X7_212 sh_64 (by decide) rfl ?_
                    refine R_nmH (fun h191 => ?_)
                    refine R_iconst (v := 0) o dX7_works_194 (by decide) ?_
                    refine R_istore (lv2 := [(0, rA g 64), (1, .int x1), (2, .int x2), (3, .int x3), (4, .int x4), (5, .int v64), (6, .int b91), (7, .int 0)]) o dX7_works_195 (by decide) rfl ?_
                    refine R_drop (lv2 := [(0, rA g 64), (1, .int x1), (3, .int x3), (4, .int x4), (5, .int v64), (7, .int 0)]) o [0, 1, 3, 4, 5, 7] rfl ?_
                    refine T_bind (t_X7_works_L197 o rr h191 x1 x3 x4 v64 0) (fun b197 => ?_)
                    refine R_iconst (v := 0) o dX7_works_218 (by decide) ?_
                    refine R_istore (lv2 := [(0, rA g 64), (1, .int x1), (3, .int x3), (4, .int x4), (5, .int v64), (7, .int 0)]) o dX7_works_219 (by decide) rfl ?_
                    refine T_bind2 (t_X7_works_L221 o rr b197 x1 x3 x4 v64 0) (fun b221 => ?_) (fun r => ?_)
                    · refine R_aload_n o 0 dX7_works_313 rfl rfl ?_
                      refine R_getI o dX7_works_314 fl_X7_212 sh_64 (by decide) rfl ?_
                      exact T_some (fun p => rr _ _ _ _ dX7_works_317 p)
                    · exact T_some (fun p => p)
              · refine R_aload_n o 0 dX7_works_79 rfl rfl ?_
                refine R_iconst (v := 5) o dX7_works_80 (by decide) ?_
                refine K_ih (callV' (As := [.int 5]) (rest := []) o dX7_works_81 lk_X7_100 rfl sh_64 rfl rfl rfl rfl (Nat.le_of_ble_eq_true rfl)) (c_X7_meets g l h 5) (fun r81 h81 => ?_)
                exact T_some (fun p => rr _ _ _ _ dX7_works_84 p)
      · refine R_iconst (v := (-1)) o dX7_works_22 (by decide) ?_
        exact T_some (fun p => rr _ _ _ _ dX7_works_23 p)
    · refine R_iconst (v := (-1)) o dX7_works_22 (by decide) ?_
      exact T_some (fun p => rr _ _ _ _ dX7_works_23 p)
  · refine R_iconst (v := (-1)) o dX7_works_22 (by decide) ?_
    exact T_some (fun p => rr _ _ _ _ dX7_works_23 p)
theorem c_X7_works (g : Gx) (l : Launch) (h : MH) (x1 : Int32) (x2 : Int32) (x3 : Int32) (x4 : Int32) (r : (Int32 × MH)) (e : f_X7_works h x1 x2 x3 x4 = some r) : Ctr g l yX7_works cX7_works 10 (some .int) 3 79 0 [rA g 64, .int x1, .int x2, .int x3, .int x4] h (some (.int r.1)) r.2 := mkCi (plainFor_of_name (by decide)) (Nat.le_of_ble_eq_true rfl) (fun V Rt o rr p => b_X7_works o rr h x1 x2 x3 x4  r e p)
/-! X7_hide -/
noncomputable def f_X7_hide_B14 (h : MH) (x1 : Int32) (x5 : Int32) (x6 : Int32) : Option ((Int32 × MH) ⊕ (MH)) :=
  (if x5 < 0 then some (.inr h) else gd (ix x1 6) ((if x6 < (h.1 71 x1.toNatClampNeg) then gd (ix x6 40) ((if (h.1 82 x6.toNatClampNeg) = 0 then Option.bind (f_X7_dotAt h x1 x6) (fun r60 => gd (ix x6 40) (nm (uI h 68 x6.toNatClampNeg r60) (fun h63 => some (.inl ((x6 + 1), h63))))) else Option.bind (f_X7_flipped h x1 x6) (fun r50 => gd (ix x6 40) (nm (uI h 68 x6.toNatClampNeg r50) (fun h63 => some (.inl ((x6 + 1), h63))))))) else some (.inr h))))
set_option maxRecDepth 100000 in
set_option maxHeartbeats 4000000 in
theorem t_X7_hide_B14 {g : Gx} {l : Launch} {V : VT} {Rt : Option Value → MH → Prop} (o : Ok g l RX7 cX7_hide 7 4 108 0 V) (rr : ORi cX7_hide V Rt) (h : MH) (x1 : Int32) (x5 : Int32) (x6 : Int32) : T (Sum.elim (fun s => V 14 [(0, rA g 64), (1, .int x1), (5, .int x5), (6, .int s.1)] [] s.2) (fun b => V 70 [(0, rA g 64), (1, .int x1), (5, .int x5)] [] b)) (f_X7_hide_B14  h x1 x5 x6) (V 14 [(0, rA g 64), (1, .int x1), (5, .int x5), (6, .int x6)] [] h) := by
  unfold f_X7_hide_B14
  refine R_iload o 2 dX7_hide_14 rfl ?_
  refine R_if_lt o 70 dX7_hide_16 (by decide) ?_ ?_
  · refine R_drop (lv2 := [(0, rA g 64), (1, .int x1), (5, .int x5)]) o [0, 1, 2] rfl ?_
    exact T_some (fun p => p)
  · refine R_iload o 3 dX7_hide_19 rfl ?_
    refine R_aload_n o 0 dX7_hide_21 rfl rfl ?_
    refine R_getR (a2 := 71) o dX7_hide_22 fl_X7_32 sh_64 (by decide) rfl rf_64_10 ?_
    refine R_iload_n o 1 dX7_hide_25 rfl rfl ?_
    refine R_iald o dX7_hide_26 sh_71 ?_
    refine R_icmp_ge o 70 dX7_hide_27 (by decide) ?_ ?_
    · refine R_aload_n o 0 dX7_hide_30 rfl rfl ?_
      refine R_getR (a2 := 68) o dX7_hide_31 fl_X7_23 sh_64 (by decide) rfl rf_64_7 ?_
      refine R_iload o 3 dX7_hide_34 rfl ?_
      refine R_aload_n o 0 dX7_hide_36 rfl rfl ?_
      refine R_getR (a2 := 82) o dX7_hide_37 fl_X7_65 sh_64 (by decide) rfl rf_64_24 ?_
      refine R_iload o 3 dX7_hide_40 rfl ?_
      refine R_zald o dX7_hide_42 sh_82 ?_
      refine R_if_eq o 56 dX7_hide_43 (by decide) ?_ ?_
      · refine R_aload_n o 0 dX7_hide_56 rfl rfl ?_
        refine R_iload_n o 1 dX7_hide_57 rfl rfl ?_
        refine R_iload o 3 dX7_hide_58 rfl ?_
        refine K_i (callV' (As := [.int x1, .int x6]) (rest := [.int x6, rA g 68]) o dX7_hide_60 lk_X7_147 rfl sh_64 rfl rfl rfl rfl (Nat.le_of_ble_eq_true rfl)) (c_X7_dotAt g l h x1 x6) (fun r60 => ?_)
        refine R_iast o dX7_hide_63 sh_68 ?_
        refine R_nmH (fun h63 => ?_)
        refine R_iinc (v := (x6 + 1)) (lv2 := [(0, rA g 64), (1, .int x1), (5, .int x5), (6, .int (x6 + 1))]) o 3 dX7_hide_64 rfl rfl (by decide) rfl ?_
        refine R_goto o 14 dX7_hide_67 (by decide) ?_
        exact T_some (fun p => p)
      · refine R_aload_n o 0 dX7_hide_46 rfl rfl ?_
        refine R_iload_n o 1 dX7_hide_47 rfl rfl ?_
        refine R_iload o 3 dX7_hide_48 rfl ?_
        refine K_i (callV' (As := [.int x1, .int x6]) (rest := [.int x6, rA g 68]) o dX7_hide_50 lk_X7_156 rfl sh_64 rfl rfl rfl rfl (Nat.le_of_ble_eq_true rfl)) (c_X7_flipped g l h x1 x6) (fun r50 => ?_)
        refine R_goto o 63 dX7_hide_53 (by decide) ?_
        refine R_iast o dX7_hide_63 sh_68 ?_
        refine R_nmH (fun h63 => ?_)
        refine R_iinc (v := (x6 + 1)) (lv2 := [(0, rA g 64), (1, .int x1), (5, .int x5), (6, .int (x6 + 1))]) o 3 dX7_hide_64 rfl rfl (by decide) rfl ?_
        refine R_goto o 14 dX7_hide_67 (by decide) ?_
        exact T_some (fun p => p)
    · refine R_drop (lv2 := [(0, rA g 64), (1, .int x1), (5, .int x5)]) o [0, 1, 2] rfl ?_
      exact T_some (fun p => p)
noncomputable def f_X7_hide_L14 (h : MH) (x1 : Int32) (x5 : Int32) (x6 : Int32) : Option (MH) :=
  lpo (fun s : Int32 × MH => f_X7_hide_B14 s.2 x1 x5 s.1) (x6, h)
theorem t_X7_hide_L14 {g : Gx} {l : Launch} {V : VT} {Rt : Option Value → MH → Prop} (o : Ok g l RX7 cX7_hide 7 4 108 0 V) (rr : ORi cX7_hide V Rt) (h : MH) (x1 : Int32) (x5 : Int32) (x6 : Int32) : T (fun b => V 70 [(0, rA g 64), (1, .int x1), (5, .int x5)] [] b) (f_X7_hide_L14 h x1 x5 x6) (V 14 [(0, rA g 64), (1, .int x1), (5, .int x5), (6, .int x6)] [] h) := T_loop (head := fun s : Int32 × MH => V 14 [(0, rA g 64), (1, .int x1), (5, .int x5), (6, .int s.1)] [] s.2) (fun s => t_X7_hide_B14 o rr s.2 x1 x5 s.1 ) (x6, h)
noncomputable def f_X7_hide_B73 (h : MH) (x1 : Int32) (x5 : Int32) (x6 : Int32) : Option ((Int32 × MH) ⊕ (MH)) :=
  (if x5 < 0 then some (.inr h) else gd (ix x1 6) ((if x6 < (h.1 71 x1.toNatClampNeg) then gd (ix x6 40) (gd (ix ((40 * x1) + x6) 240) (nm (uI h 73 ((40 * x1) + x6).toNatClampNeg (h.1 68 x6.toNatClampNeg)) (fun h107 => some (.inl ((x6 + 1), h107))))) else some (.inr h))))
set_option maxRecDepth 100000 in
set_option maxHeartbeats 4000000 in
theorem t_X7_hide_B73 {g : Gx} {l : Launch} {V : VT} {Rt : Option Value → MH → Prop} (o : Ok g l RX7 cX7_hide 7 4 108 0 V) (rr : ORi cX7_hide V Rt) (h : MH) (x1 : Int32) (x5 : Int32) (x6 : Int32) : T (Sum.elim (fun s => V 73 [(0, rA g 64), (1, .int x1), (5, .int x5), (6, .int s.1)] [] s.2) (fun b => V 114 [(5, .int x5)] [] b)) (f_X7_hide_B73  h x1 x5 x6) (V 73 [(0, rA g 64), (1, .int x1), (5, .int x5), (6, .int x6)] [] h) := by
  unfold f_X7_hide_B73
  refine R_iload o 2 dX7_hide_73 rfl ?_
  refine R_if_lt o 114 dX7_hide_75 (by decide) ?_ ?_
  · refine R_drop (lv2 := [(5, .int x5)]) o [2] rfl ?_
    exact T_some (fun p => p)
  · refine R_iload o 3 dX7_hide_78 rfl ?_
    refine R_aload_n o 0 dX7_hide_80 rfl rfl ?_
    refine R_getR (a2 := 71) o dX7_hide_81 fl_X7_32 sh_64 (by decide) rfl rf_64_10 ?_
    refine R_iload_n o 1 dX7_hide_84 rfl rfl ?_
    refine R_iald o dX7_hide_85 sh_71 ?_
    refine R_icmp_ge o 114 dX7_hide_86 (by decide) ?_ ?_
    · refine R_aload_n o 0 dX7_hide_89 rfl rfl ?_
      refine R_getR (a2 := 73) o dX7_hide_90 fl_X7_38 sh_64 (by decide) rfl rf_64_12 ?_
      refine R_bipush (v := 40) o dX7_hide_93 (by decide) ?_
      refine R_iload_n o 1 dX7_hide_95 rfl rfl ?_
      refine R_imul o dX7_hide_96 ?_
      refine R_iload o 3 dX7_hide_97 rfl ?_
      refine R_iadd o dX7_hide_99 ?_
      refine R_aload_n o 0 dX7_hide_100 rfl rfl ?_
      refine R_getR (a2 := 68) o dX7_hide_101 fl_X7_23 sh_64 (by decide) rfl rf_64_7 ?_
      refine R_iload o 3 dX7_hide_104 rfl ?_
      refine R_iald o dX7_hide_106 sh_68 ?_
      refine R_iast o dX7_hide_107 sh_73 ?_
      refine R_nmH (fun h107 => ?_)
      refine R_iinc (v := (x6 + 1)) (lv2 := [(0, rA g 64), (1, .int x1), (5, .int x5), (6, .int (x6 + 1))]) o 3 dX7_hide_108 rfl rfl (by decide) rfl ?_
      refine R_goto o 73 dX7_hide_111 (by decide) ?_
      exact T_some (fun p => p)
    · refine R_drop (lv2 := [(5, .int x5)]) o [2] rfl ?_
      exact T_some (fun p => p)
noncomputable def f_X7_hide_L73 (h : MH) (x1 : Int32) (x5 : Int32) (x6 : Int32) : Option (MH) :=
  lpo (fun s : Int32 × MH => f_X7_hide_B73 s.2 x1 x5 s.1) (x6, h)
theorem t_X7_hide_L73 {g : Gx} {l : Launch} {V : VT} {Rt : Option Value → MH → Prop} (o : Ok g l RX7 cX7_hide 7 4 108 0 V) (rr : ORi cX7_hide V Rt) (h : MH) (x1 : Int32) (x5 : Int32) (x6 : Int32) : T (fun b => V 114 [(5, .int x5)] [] b) (f_X7_hide_L73 h x1 x5 x6) (V 73 [(0, rA g 64), (1, .int x1), (5, .int x5), (6, .int x6)] [] h) := T_loop (head := fun s : Int32 × MH => V 73 [(0, rA g 64), (1, .int x1), (5, .int x5), (6, .int s.1)] [] s.2) (fun s => t_X7_hide_B73 o rr s.2 x1 x5 s.1 ) (x6, h)
noncomputable def f_X7_hide_J70 (h : MH) (x1 : Int32) (x5 : Int32) : Option (Int32 × MH) :=
  Option.bind (f_X7_hide_L73 h x1 x5 0) (fun b73 => some (x5, b73))
set_option maxRecDepth 100000 in
set_option maxHeartbeats 4000000 in
theorem t_X7_hide_J70 {g : Gx} {l : Launch} {V : VT} {Rt : Option Value → MH → Prop} (o : Ok g l RX7 cX7_hide 7 4 108 0 V) (rr : ORi cX7_hide V Rt) (h : MH) (x1 : Int32) (x5 : Int32) : T (fun r => Rt (some (.int r.1)) r.2) (f_X7_hide_J70  h x1 x5) (V 70 [(0, rA g 64), (1, .int x1), (5, .int x5)] [] h) := by
  unfold f_X7_hide_J70
  refine R_iconst (v := 0) o dX7_hide_70 (by decide) ?_
  refine R_istore (lv2 := [(0, rA g 64), (1, .int x1), (5, .int x5), (6, .int 0)]) o dX7_hide_71 (by decide) rfl ?_
  refine T_bind (t_X7_hide_L73 o rr h x1 x5 0) (fun b73 => ?_)
  refine R_iload o 0 dX7_hide_114 rfl ?_
  exact T_some (fun p => rr _ _ _ _ dX7_hide_116 p)
noncomputable def f_X7_hide (h : MH) (x1 : Int32) (x2 : Int32) (x3 : Int32) (x4 : Int32) : Option (Int32 × MH) :=
  bnd2 (f_X7_works h x1 x2 x3 x4) (fun r6 h6 => Option.bind (f_X7_hide_L14 h6 x1 r6 0) (fun b14 => f_X7_hide_J70 b14 x1 r6))
set_option maxRecDepth 100000 in
set_option maxHeartbeats 4000000 in
theorem b_X7_hide {g : Gx} {l : Launch} {V : VT} {Rt : Option Value → MH → Prop} (o : Ok g l RX7 cX7_hide 7 4 108 0 V) (rr : ORi cX7_hide V Rt) (h : MH) (x1 : Int32) (x2 : Int32) (x3 : Int32) (x4 : Int32) : T (fun r => Rt (some (.int r.1)) r.2) (f_X7_hide h x1 x2 x3 x4) (V 0 [(0, rA g 64), (1, .int x1), (2, .int x2), (3, .int x3), (4, .int x4)] [] h) := by
  unfold f_X7_hide
  refine R_aload_n o 0 dX7_hide_0 rfl rfl ?_
  refine R_iload_n o 1 dX7_hide_1 rfl rfl ?_
  refine R_iload_n o 2 dX7_hide_2 rfl rfl ?_
  refine R_iload_n o 3 dX7_hide_3 rfl rfl ?_
  refine R_iload o 4 dX7_hide_4 rfl ?_
  refine K_ih (callV' (As := [.int x1, .int x2, .int x3, .int x4]) (rest := []) o dX7_hide_6 lk_X7_222 rfl sh_64 rfl rfl rfl rfl (Nat.le_of_ble_eq_true rfl)) (c_X7_works g l h x1 x2 x3 x4) (fun r6 h6 => ?_)
  refine R_istore (lv2 := [(0, rA g 64), (1, .int x1), (2, .int x2), (3, .int x3), (4, .int x4), (5, .int r6)]) o dX7_hide_9 (by decide) rfl ?_
  refine R_iconst (v := 0) o dX7_hide_11 (by decide) ?_
  refine R_istore (lv2 := [(0, rA g 64), (1, .int x1), (2, .int x2), (3, .int x3), (4, .int x4), (5, .int r6), (6, .int 0)]) o dX7_hide_12 (by decide) rfl ?_
  refine R_drop (lv2 := [(0, rA g 64), (1, .int x1), (5, .int r6), (6, .int 0)]) o [0, 1, 5, 6] rfl ?_
  refine T_bind (t_X7_hide_L14 o rr h6 x1 r6 0) (fun b14 => ?_)
  exact t_X7_hide_J70 o rr b14 x1 r6
theorem c_X7_hide (g : Gx) (l : Launch) (h : MH) (x1 : Int32) (x2 : Int32) (x3 : Int32) (x4 : Int32) (r : (Int32 × MH)) (e : f_X7_hide h x1 x2 x3 x4 = some r) : Ctr g l yX7_hide cX7_hide 7 (some .int) 4 108 0 [rA g 64, .int x1, .int x2, .int x3, .int x4] h (some (.int r.1)) r.2 := mkCi (plainFor_of_name (by decide)) (Nat.le_of_ble_eq_true rfl) (fun V Rt o rr p => b_X7_hide o rr h x1 x2 x3 x4  r e p)
/-! X7_price -/
noncomputable def f_X7_price (h : MH) (x1 : Int32) (x2 : Int32) (x3 : Int32) (x4 : Int32) : Option (Int32 × MH) :=
  bnd2 (f_X7_works h x1 x2 x3 x4) (fun r6 h6 => (if r6 < 0 then some (r6, h6) else bnd2 (f_X7_ask h6 (h6.1 64 25) r6) (fun r28 h28 => some (r28, h28))))
set_option maxRecDepth 100000 in
set_option maxHeartbeats 4000000 in
theorem b_X7_price {g : Gx} {l : Launch} {V : VT} {Rt : Option Value → MH → Prop} (o : Ok g l RX7 cX7_price 6 4 108 0 V) (rr : ORi cX7_price V Rt) (h : MH) (x1 : Int32) (x2 : Int32) (x3 : Int32) (x4 : Int32) : T (fun r => Rt (some (.int r.1)) r.2) (f_X7_price h x1 x2 x3 x4) (V 0 [(0, rA g 64), (1, .int x1), (2, .int x2), (3, .int x3), (4, .int x4)] [] h) := by
  unfold f_X7_price
  refine R_aload_n o 0 dX7_price_0 rfl rfl ?_
  refine R_iload_n o 1 dX7_price_1 rfl rfl ?_
  refine R_iload_n o 2 dX7_price_2 rfl rfl ?_
  refine R_iload_n o 3 dX7_price_3 rfl rfl ?_
  refine R_iload o 4 dX7_price_4 rfl ?_
  refine K_ih (callV' (As := [.int x1, .int x2, .int x3, .int x4]) (rest := []) o dX7_price_6 lk_X7_222 rfl sh_64 rfl rfl rfl rfl (Nat.le_of_ble_eq_true rfl)) (c_X7_works g l h x1 x2 x3 x4) (fun r6 h6 => ?_)
  refine R_istore (lv2 := [(0, rA g 64), (1, .int x1), (2, .int x2), (3, .int x3), (4, .int x4), (5, .int r6)]) o dX7_price_9 (by decide) rfl ?_
  refine R_iload o 5 dX7_price_11 rfl ?_
  refine R_if_ge o 21 dX7_price_13 (by decide) ?_ ?_
  · refine R_iload o 5 dX7_price_16 rfl ?_
    refine R_goto o 31 dX7_price_18 (by decide) ?_
    exact T_some (fun p => rr _ _ _ _ dX7_price_31 p)
  · refine R_aload_n o 0 dX7_price_21 rfl rfl ?_
    refine R_aload_n o 0 dX7_price_22 rfl rfl ?_
    refine R_getI o dX7_price_23 fl_X7_209 sh_64 (by decide) rfl ?_
    refine R_iload o 5 dX7_price_26 rfl ?_
    refine K_ih (callV' (As := [.int (h6.1 64 25), .int r6]) (rest := []) o dX7_price_28 lk_X7_114 rfl sh_64 rfl rfl rfl rfl (Nat.le_of_ble_eq_true rfl)) (c_X7_ask g l h6 (h6.1 64 25) r6) (fun r28 h28 => ?_)
    exact T_some (fun p => rr _ _ _ _ dX7_price_31 p)
theorem c_X7_price (g : Gx) (l : Launch) (h : MH) (x1 : Int32) (x2 : Int32) (x3 : Int32) (x4 : Int32) (r : (Int32 × MH)) (e : f_X7_price h x1 x2 x3 x4 = some r) : Ctr g l yX7_price cX7_price 6 (some .int) 4 108 0 [rA g 64, .int x1, .int x2, .int x3, .int x4] h (some (.int r.1)) r.2 := mkCi (plainFor_of_name (by decide)) (Nat.le_of_ble_eq_true rfl) (fun V Rt o rr p => b_X7_price o rr h x1 x2 x3 x4  r e p)
/-! X7_read -/
noncomputable def f_X7_read_B120 (h : MH) (x1 : Int32) (x3 : Int32) (x4 : Int32) (x5 : Int32) (x7 : Int32) (x8 : Int32) (x9 : Int32) (x10 : Int32) : Option ((Int32 × MH) ⊕ (MH)) :=
  gd (ix x3 4) ((if x10 < (h.1 78 x3.toNatClampNeg) then gd (ix x3 4) (gd (ix (((40 * x5) + (x8 * (h.1 78 x3.toNatClampNeg))) + x10) 240) (nm (uI h 67 (((40 * x5) + (x8 * (h.1 78 x3.toNatClampNeg))) + x10).toNatClampNeg ((shr x9 x10) &&& 1)) (fun h160 => some (.inl ((x10 + 1), h160))))) else some (.inr h)))
set_option maxRecDepth 100000 in
set_option maxHeartbeats 4000000 in
theorem t_X7_read_B120 {g : Gx} {l : Launch} {V : VT} {Rt : Option Value → MH → Prop} (o : Ok g l RX7 cX7_read 11 3 69 0 V) (rr : ORi cX7_read V Rt) (h : MH) (x1 : Int32) (x3 : Int32) (x4 : Int32) (x5 : Int32) (x7 : Int32) (x8 : Int32) (x9 : Int32) (x10 : Int32) : T (Sum.elim (fun s => V 120 [(0, rA g 64), (1, .int x1), (3, .int x3), (4, .int x4), (5, .int x5), (7, .int x7), (8, .int x8), (9, .int x9), (10, .int s.1)] [] s.2) (fun b => V 167 [(0, rA g 64), (1, .int x1), (3, .int x3), (4, .int x4), (5, .int x5), (7, .int x7), (8, .int x8)] [] b)) (f_X7_read_B120  h x1 x3 x4 x5 x7 x8 x9 x10) (V 120 [(0, rA g 64), (1, .int x1), (3, .int x3), (4, .int x4), (5, .int x5), (7, .int x7), (8, .int x8), (9, .int x9), (10, .int x10)] [] h) := by
  unfold f_X7_read_B120
  refine R_iload o 8 dX7_read_120 rfl ?_
  refine R_aload_n o 0 dX7_read_122 rfl rfl ?_
  refine R_getR (a2 := 78) o dX7_read_123 fl_X7_53 sh_64 (by decide) rfl rf_64_18 ?_
  refine R_iload_n o 2 dX7_read_126 rfl rfl ?_
  refine R_iald o dX7_read_127 sh_78 ?_
  refine R_icmp_ge o 167 dX7_read_128 (by decide) ?_ ?_
  · refine R_aload_n o 0 dX7_read_131 rfl rfl ?_
    refine R_getR (a2 := 67) o dX7_read_132 fl_X7_20 sh_64 (by decide) rfl rf_64_6 ?_
    refine R_bipush (v := 40) o dX7_read_135 (by decide) ?_
    refine R_iload o 4 dX7_read_137 rfl ?_
    refine R_imul o dX7_read_139 ?_
    refine R_iload o 6 dX7_read_140 rfl ?_
    refine R_aload_n o 0 dX7_read_142 rfl rfl ?_
    refine R_getR (a2 := 78) o dX7_read_143 fl_X7_53 sh_64 (by decide) rfl rf_64_18 ?_
    refine R_iload_n o 2 dX7_read_146 rfl rfl ?_
    refine R_iald o dX7_read_147 sh_78 ?_
    refine R_imul o dX7_read_148 ?_
    refine R_iadd o dX7_read_149 ?_
    refine R_iload o 8 dX7_read_150 rfl ?_
    refine R_iadd o dX7_read_152 ?_
    refine R_iload o 7 dX7_read_153 rfl ?_
    refine R_iload o 8 dX7_read_155 rfl ?_
    refine R_ishr o dX7_read_157 ?_
    refine R_iconst (v := 1) o dX7_read_158 (by decide) ?_
    refine R_iand o dX7_read_159 ?_
    refine R_iast o dX7_read_160 sh_67 ?_
    refine R_nmH (fun h160 => ?_)
    refine R_iinc (v := (x10 + 1)) (lv2 := [(0, rA g 64), (1, .int x1), (3, .int x3), (4, .int x4), (5, .int x5), (7, .int x7), (8, .int x8), (9, .int x9), (10, .int (x10 + 1))]) o 8 dX7_read_161 rfl rfl (by decide) rfl ?_
    refine R_goto o 120 dX7_read_164 (by decide) ?_
    exact T_some (fun p => p)
  · refine R_drop (lv2 := [(0, rA g 64), (1, .int x1), (3, .int x3), (4, .int x4), (5, .int x5), (7, .int x7), (8, .int x8)]) o [0, 1, 2, 3, 4, 5, 6] rfl ?_
    exact T_some (fun p => p)
noncomputable def f_X7_read_L120 (h : MH) (x1 : Int32) (x3 : Int32) (x4 : Int32) (x5 : Int32) (x7 : Int32) (x8 : Int32) (x9 : Int32) (x10 : Int32) : Option (MH) :=
  lpo (fun s : Int32 × MH => f_X7_read_B120 s.2 x1 x3 x4 x5 x7 x8 x9 s.1) (x10, h)
theorem t_X7_read_L120 {g : Gx} {l : Launch} {V : VT} {Rt : Option Value → MH → Prop} (o : Ok g l RX7 cX7_read 11 3 69 0 V) (rr : ORi cX7_read V Rt) (h : MH) (x1 : Int32) (x3 : Int32) (x4 : Int32) (x5 : Int32) (x7 : Int32) (x8 : Int32) (x9 : Int32) (x10 : Int32) : T (fun b => V 167 [(0, rA g 64), (1, .int x1), (3, .int x3), (4, .int x4), (5, .int x5), (7, .int x7), (8, .int x8)] [] b) (f_X7_read_L120 h x1 x3 x4 x5 x7 x8 x9 x10) (V 120 [(0, rA g 64), (1, .int x1), (3, .int x3), (4, .int x4), (5, .int x5), (7, .int x7), (8, .int x8), (9, .int x9), (10, .int x10)] [] h) := T_loop (head := fun s : Int32 × MH => V 120 [(0, rA g 64), (1, .int x1), (3, .int x3), (4, .int x4), (5, .int x5), (7, .int x7), (8, .int x8), (9, .int x9), (10, .int s.1)] [] s.2) (fun s => t_X7_read_B120 o rr s.2 x1 x3 x4 x5 x7 x8 x9 s.1 ) (x10, h)
noncomputable def f_X7_read_B95 (h : MH) (x1 : Int32) (x3 : Int32) (x4 : Int32) (x5 : Int32) (x7 : Int32) (x8 : Int32) : Option ((Int32 × MH) ⊕ (MH)) :=
  (if x8 < x4 then Option.bind (f_X7_blockSet h x1 x3 x8) (fun r109 => Option.bind (f_X7_sums h x3 r109) (fun r112 => Option.bind (f_X7_read_L120 h x1 x3 x4 x5 x7 x8 r112 0) (fun b120 => some (.inl ((x8 + 1), b120))))) else some (.inr h))
set_option maxRecDepth 100000 in
set_option maxHeartbeats 4000000 in
theorem t_X7_read_B95 {g : Gx} {l : Launch} {V : VT} {Rt : Option Value → MH → Prop} (o : Ok g l RX7 cX7_read 11 3 69 0 V) (rr : ORi cX7_read V Rt) (h : MH) (x1 : Int32) (x3 : Int32) (x4 : Int32) (x5 : Int32) (x7 : Int32) (x8 : Int32) : T (Sum.elim (fun s => V 95 [(0, rA g 64), (1, .int x1), (3, .int x3), (4, .int x4), (5, .int x5), (7, .int x7), (8, .int s.1)] [] s.2) (fun b => V 173 [(7, .int x7)] [] b)) (f_X7_read_B95  h x1 x3 x4 x5 x7 x8) (V 95 [(0, rA g 64), (1, .int x1), (3, .int x3), (4, .int x4), (5, .int x5), (7, .int x7), (8, .int x8)] [] h) := by
  unfold f_X7_read_B95
  refine R_iload o 6 dX7_read_95 rfl ?_
  refine R_iload o 3 dX7_read_97 rfl ?_
  refine R_icmp_ge o 173 dX7_read_99 (by decide) ?_ ?_
  · refine R_aload_n o 0 dX7_read_102 rfl rfl ?_
    refine R_iload_n o 2 dX7_read_103 rfl rfl ?_
    refine R_aload_n o 0 dX7_read_104 rfl rfl ?_
    refine R_iload_n o 1 dX7_read_105 rfl rfl ?_
    refine R_iload_n o 2 dX7_read_106 rfl rfl ?_
    refine R_iload o 6 dX7_read_107 rfl ?_
    refine K_i (callV' (As := [.int x1, .int x3, .int x8]) (rest := [.int x3, rA g 64]) o dX7_read_109 lk_X7_215 rfl sh_64 rfl rfl rfl rfl (Nat.le_of_ble_eq_true rfl)) (c_X7_blockSet g l h x1 x3 x8) (fun r109 => ?_)
    refine K_i (callV' (As := [.int x3, .int r109]) (rest := []) o dX7_read_112 lk_X7_206 rfl sh_64 rfl rfl rfl rfl (Nat.le_of_ble_eq_true rfl)) (c_X7_sums g l h x3 r109) (fun r112 => ?_)
    refine R_istore (lv2 := [(0, rA g 64), (1, .int x1), (3, .int x3), (4, .int x4), (5, .int x5), (7, .int x7), (8, .int x8), (9, .int r112)]) o dX7_read_115 (by decide) rfl ?_
    refine R_iconst (v := 0) o dX7_read_117 (by decide) ?_
    refine R_istore (lv2 := [(0, rA g 64), (1, .int x1), (3, .int x3), (4, .int x4), (5, .int x5), (7, .int x7), (8, .int x8), (9, .int r112), (10, .int 0)]) o dX7_read_118 (by decide) rfl ?_
    refine T_bind (t_X7_read_L120 o rr h x1 x3 x4 x5 x7 x8 r112 0) (fun b120 => ?_)
    refine R_iinc (v := (x8 + 1)) (lv2 := [(0, rA g 64), (1, .int x1), (3, .int x3), (4, .int x4), (5, .int x5), (7, .int x7), (8, .int (x8 + 1))]) o 6 dX7_read_167 rfl rfl (by decide) rfl ?_
    refine R_goto o 95 dX7_read_170 (by decide) ?_
    exact T_some (fun p => p)
  · refine R_drop (lv2 := [(7, .int x7)]) o [5] rfl ?_
    exact T_some (fun p => p)
noncomputable def f_X7_read_L95 (h : MH) (x1 : Int32) (x3 : Int32) (x4 : Int32) (x5 : Int32) (x7 : Int32) (x8 : Int32) : Option (MH) :=
  lpo (fun s : Int32 × MH => f_X7_read_B95 s.2 x1 x3 x4 x5 x7 s.1) (x8, h)
theorem t_X7_read_L95 {g : Gx} {l : Launch} {V : VT} {Rt : Option Value → MH → Prop} (o : Ok g l RX7 cX7_read 11 3 69 0 V) (rr : ORi cX7_read V Rt) (h : MH) (x1 : Int32) (x3 : Int32) (x4 : Int32) (x5 : Int32) (x7 : Int32) (x8 : Int32) : T (fun b => V 173 [(7, .int x7)] [] b) (f_X7_read_L95 h x1 x3 x4 x5 x7 x8) (V 95 [(0, rA g 64), (1, .int x1), (3, .int x3), (4, .int x4), (5, .int x5), (7, .int x7), (8, .int x8)] [] h) := T_loop (head := fun s : Int32 × MH => V 95 [(0, rA g 64), (1, .int x1), (3, .int x3), (4, .int x4), (5, .int x5), (7, .int x7), (8, .int s.1)] [] s.2) (fun s => t_X7_read_B95 o rr s.2 x1 x3 x4 x5 x7 s.1 ) (x8, h)
noncomputable def f_X7_read (h : MH) (x1 : Int32) (x2 : Int32) (x3 : Int32) (x4 : Int32) (x5 : Int32) : Option (Int32 × MH) :=
  Option.bind (f_X7_in x4 0 40) (fun r5 => (if r5 = true then Option.bind (f_X7_isRow x5) (fun r13 => (if r13 = true then bnd2 (f_X7_askedBoth h x1 x3) (fun r24 h24 => (if r24 < 0 then some (r24, h24) else gd (ix x3 4) (nm (x4 * (h24.1 78 x3.toNatClampNeg)) (fun v46 => Option.bind (f_X7_blocksOf h24 x1 x3) (fun r53 => (if r53 < x4 then bnd2 (f_X7_meets h24 2) (fun r68 h68 => some (r68, h68)) else (if 40 < v46 then bnd2 (f_X7_meets h24 2) (fun r68 h68 => some (r68, h68)) else gd (ix x1 6) (Option.bind (f_X7_setOrder h24 (h24.1 71 x1.toNatClampNeg) x2) (fun h80 => bnd2 (f_X7_row h80 x5 v46) (fun r88 h88 => Option.bind (f_X7_read_L95 h88 x1 x3 x4 x5 v46 0) (fun b95 => some (v46, b95)))))))))))) else some ((-1), h))) else some ((-1), h)))
set_option maxRecDepth 100000 in
set_option maxHeartbeats 4000000 in
theorem b_X7_read {g : Gx} {l : Launch} {V : VT} {Rt : Option Value → MH → Prop} (o : Ok g l RX7 cX7_read 11 3 69 0 V) (rr : ORi cX7_read V Rt) (h : MH) (x1 : Int32) (x2 : Int32) (x3 : Int32) (x4 : Int32) (x5 : Int32) : T (fun r => Rt (some (.int r.1)) r.2) (f_X7_read h x1 x2 x3 x4 x5) (V 0 [(0, rA g 64), (1, .int x1), (2, .int x2), (3, .int x3), (4, .int x4), (5, .int x5)] [] h) := by
  unfold f_X7_read
  refine R_iload o 4 dX7_read_0 rfl ?_
  refine R_iconst (v := 0) o dX7_read_2 (by decide) ?_
  refine R_bipush (v := 40) o dX7_read_3 (by decide) ?_
  refine K_z (callS' (av := [.int x4, .int 0, .int 40]) (rest := []) o dX7_read_5 lk_X7_92 rfl rfl rfl (Nat.le_of_ble_eq_true rfl)) (c_X7_in g l h x4 0 40) (fun r5 => ?_)
  refine R_bif_eq o 19 dX7_read_8 (by decide) ?_ ?_
  · refine R_iload o 5 dX7_read_11 rfl ?_
    refine K_z (callS' (av := [.int x5]) (rest := []) o dX7_read_13 lk_X7_96 rfl rfl rfl (Nat.le_of_ble_eq_true rfl)) (c_X7_isRow g l h x5) (fun r13 => ?_)
    refine R_bif_ne o 21 dX7_read_16 (by decide) ?_ ?_
    · refine R_aload_n o 0 dX7_read_21 rfl rfl ?_
      refine R_iload_n o 1 dX7_read_22 rfl rfl ?_
      refine R_iload_n o 3 dX7_read_23 rfl rfl ?_
      refine K_ih (callV' (As := [.int x1, .int x3]) (rest := []) o dX7_read_24 lk_X7_197 rfl sh_64 rfl rfl rfl rfl (Nat.le_of_ble_eq_true rfl)) (c_X7_askedBoth g l h x1 x3) (fun r24 h24 => ?_)
      refine R_istore (lv2 := [(0, rA g 64), (1, .int x1), (2, .int x2), (3, .int x3), (4, .int x4), (5, .int x5), (6, .int r24)]) o dX7_read_27 (by decide) rfl ?_
      refine R_iload o 6 dX7_read_29 rfl ?_
      refine R_if_ge o 37 dX7_read_31 (by decide) ?_ ?_
      · refine R_iload o 6 dX7_read_34 rfl ?_
        exact T_some (fun p => rr _ _ _ _ dX7_read_36 p)
      · refine R_iload o 4 dX7_read_37 rfl ?_
        refine R_aload_n o 0 dX7_read_39 rfl rfl ?_
        refine R_getR (a2 := 78) o dX7_read_40 fl_X7_53 sh_64 (by decide) rfl rf_64_18 ?_
        refine R_iload_n o 3 dX7_read_43 rfl rfl ?_
        refine R_iald o dX7_read_44 sh_78 ?_
        refine R_imul o dX7_read_45 ?_
        refine R_nmI (fun v46 => ?_)
        refine R_istore (lv2 := [(0, rA g 64), (1, .int x1), (2, .int x2), (3, .int x3), (4, .int x4), (5, .int x5), (6, .int r24), (7, .int v46)]) o dX7_read_46 (by decide) rfl ?_
        refine R_iload o 4 dX7_read_48 rfl ?_
        refine R_aload_n o 0 dX7_read_50 rfl rfl ?_
        refine R_iload_n o 1 dX7_read_51 rfl rfl ?_
        refine R_iload_n o 3 dX7_read_52 rfl rfl ?_
        refine K_i (callV' (As := [.int x1, .int x3]) (rest := [.int x4]) o dX7_read_53 lk_X7_200 rfl sh_64 rfl rfl rfl rfl (Nat.le_of_ble_eq_true rfl)) (c_X7_blocksOf g l h24 x1 x3) (fun r53 => ?_)
        refine R_icmp_gt o 66 dX7_read_56 (by decide) ?_ ?_
        · refine R_aload_n o 0 dX7_read_66 rfl rfl ?_
          refine R_iconst (v := 2) o dX7_read_67 (by decide) ?_
          refine K_ih (callV' (As := [.int 2]) (rest := []) o dX7_read_68 lk_X7_100 rfl sh_64 rfl rfl rfl rfl (Nat.le_of_ble_eq_true rfl)) (c_X7_meets g l h24 2) (fun r68 h68 => ?_)
          exact T_some (fun p => rr _ _ _ _ dX7_read_71 p)
        · refine R_iload o 7 dX7_read_59 rfl ?_
          refine R_bipush (v := 40) o dX7_read_61 (by decide) ?_
          refine R_icmp_le o 72 dX7_read_63 (by decide) ?_ ?_
          · refine R_aload_n o 0 dX7_read_66 rfl rfl ?_
            refine R_iconst (v := 2) o dX7_read_67 (by decide) ?_
            refine K_ih (callV' (As := [.int 2]) (rest := []) o dX7_read_68 lk_X7_100 rfl sh_64 rfl rfl rfl rfl (Nat.le_of_ble_eq_true rfl)) (c_X7_meets g l h24 2) (fun r68 h68 => ?_)
            exact T_some (fun p => rr _ _ _ _ dX7_read_71 p)
          · refine R_aload_n o 0 dX7_read_72 rfl rfl ?_
            refine R_aload_n o 0 dX7_read_73 rfl rfl ?_
            refine R_getR (a2 := 71) o dX7_read_74 fl_X7_32 sh_64 (by decide) rfl rf_64_10 ?_
            refine R_iload_n o 1 dX7_read_77 rfl rfl ?_
            refine R_iald o dX7_read_78 sh_71 ?_
            refine R_iload_n o 2 dX7_read_79 rfl rfl ?_
            refine K_vh (callV' (As := [.int (h24.1 71 x1.toNatClampNeg), .int x2]) (rest := []) o dX7_read_80 lk_X7_172 rfl sh_64 rfl rfl rfl rfl (Nat.le_of_ble_eq_true rfl)) (c_X7_setOrder g l h24 (h24.1 71 x1.toNatClampNeg) x2) (fun h80 => ?_)
            refine R_aload_n o 0 dX7_read_83 rfl rfl ?_
            refine R_iload o 5 dX7_read_84 rfl ?_
            refine R_iload o 7 dX7_read_86 rfl ?_
            refine K_ih (callV' (As := [.int x5, .int v46]) (rest := []) o dX7_read_88 lk_X7_144 rfl sh_64 rfl rfl rfl rfl (Nat.le_of_ble_eq_true rfl)) (c_X7_row g l h80 x5 v46) (fun r88 h88 => ?_)
            refine R_pop o dX7_read_91 rfl ?_
            refine R_iconst (v := 0) o dX7_read_92 (by decide) ?_
            refine R_istore (lv2 := [(0, rA g 64), (1, .int x1), (2, .int x2), (3, .int x3), (4, .int x4), (5, .int x5), (6, .int r24), (7, .int v46), (8, .int 0)]) o dX7_read_93 (by decide) rfl ?_
            refine R_drop (lv2 := [(0, rA g 64), (1, .int x1), (3, .int x3), (4, .int x4), (5, .int x5), (7, .int v46), (8, .int 0)]) o [0, 1, 3, 4, 5, 7, 8] rfl ?_
            refine T_bind (t_X7_read_L95 o rr h88 x1 x3 x4 x5 v46 0) (fun b95 => ?_)
            refine R_iload o 0 dX7_read_173 rfl ?_
            exact T_some (fun p => rr _ _ _ _ dX7_read_175 p)
    · refine R_iconst (v := (-1)) o dX7_read_19 (by decide) ?_
      exact T_some (fun p => rr _ _ _ _ dX7_read_20 p)
  · refine R_iconst (v := (-1)) o dX7_read_19 (by decide) ?_
    exact T_some (fun p => rr _ _ _ _ dX7_read_20 p)
theorem c_X7_read (g : Gx) (l : Launch) (h : MH) (x1 : Int32) (x2 : Int32) (x3 : Int32) (x4 : Int32) (x5 : Int32) (r : (Int32 × MH)) (e : f_X7_read h x1 x2 x3 x4 x5 = some r) : Ctr g l yX7_read cX7_read 11 (some .int) 3 69 0 [rA g 64, .int x1, .int x2, .int x3, .int x4, .int x5] h (some (.int r.1)) r.2 := mkCi (plainFor_of_name (by decide)) (Nat.le_of_ble_eq_true rfl) (fun V Rt o rr p => b_X7_read o rr h x1 x2 x3 x4 x5  r e p)
/-! X7_setNeeds -/
noncomputable def f_X7_setNeeds_B4 (h : MH) (x1 : Int32) (x2 : Int32) (x3 : Int32) : Option ((Int32 × MH) ⊕ (MH)) :=
  (if x3 < 64 then gd (ix x3 64) (nm (uI h 83 x3.toNatClampNeg (-9)) (fun h17 => some (.inl ((x3 + 1), h17)))) else some (.inr h))
set_option maxRecDepth 100000 in
set_option maxHeartbeats 4000000 in
theorem t_X7_setNeeds_B4 {g : Gx} {l : Launch} {V : VT} {Rt : Option Value → MH → Prop} (o : Ok g l RX7 cX7_setNeeds 5 2 46 0 V) (rr : ORi cX7_setNeeds V Rt) (h : MH) (x1 : Int32) (x2 : Int32) (x3 : Int32) : T (Sum.elim (fun s => V 4 [(0, rA g 64), (1, .int x1), (2, .int x2), (3, .int s.1)] [] s.2) (fun b => V 24 [(0, rA g 64), (1, .int x1), (2, .int x2)] [] b)) (f_X7_setNeeds_B4  h x1 x2 x3) (V 4 [(0, rA g 64), (1, .int x1), (2, .int x2), (3, .int x3)] [] h) := by
  unfold f_X7_setNeeds_B4
  refine R_iload_n o 3 dX7_setNeeds_4 rfl rfl ?_
  refine R_bipush (v := 64) o dX7_setNeeds_5 (by decide) ?_
  refine R_icmp_ge o 24 dX7_setNeeds_7 (by decide) ?_ ?_
  · refine R_aload_n o 0 dX7_setNeeds_10 rfl rfl ?_
    refine R_getR (a2 := 83) o dX7_setNeeds_11 fl_X7_69 sh_64 (by decide) rfl rf_64_27 ?_
    refine R_iload_n o 3 dX7_setNeeds_14 rfl rfl ?_
    refine R_bipush (v := (-9)) o dX7_setNeeds_15 (by decide) ?_
    refine R_iast o dX7_setNeeds_17 sh_83 ?_
    refine R_nmH (fun h17 => ?_)
    refine R_iinc (v := (x3 + 1)) (lv2 := [(0, rA g 64), (1, .int x1), (2, .int x2), (3, .int (x3 + 1))]) o 3 dX7_setNeeds_18 rfl rfl (by decide) rfl ?_
    refine R_goto o 4 dX7_setNeeds_21 (by decide) ?_
    exact T_some (fun p => p)
  · refine R_drop (lv2 := [(0, rA g 64), (1, .int x1), (2, .int x2)]) o [0, 1, 2] rfl ?_
    exact T_some (fun p => p)
noncomputable def f_X7_setNeeds_L4 (h : MH) (x1 : Int32) (x2 : Int32) (x3 : Int32) : Option (MH) :=
  lpo (fun s : Int32 × MH => f_X7_setNeeds_B4 s.2 x1 x2 s.1) (x3, h)
theorem t_X7_setNeeds_L4 {g : Gx} {l : Launch} {V : VT} {Rt : Option Value → MH → Prop} (o : Ok g l RX7 cX7_setNeeds 5 2 46 0 V) (rr : ORi cX7_setNeeds V Rt) (h : MH) (x1 : Int32) (x2 : Int32) (x3 : Int32) : T (fun b => V 24 [(0, rA g 64), (1, .int x1), (2, .int x2)] [] b) (f_X7_setNeeds_L4 h x1 x2 x3) (V 4 [(0, rA g 64), (1, .int x1), (2, .int x2), (3, .int x3)] [] h) := T_loop (head := fun s : Int32 × MH => V 4 [(0, rA g 64), (1, .int x1), (2, .int x2), (3, .int s.1)] [] s.2) (fun s => t_X7_setNeeds_B4 o rr s.2 x1 x2 s.1 ) (x3, h)
noncomputable def f_X7_setNeeds_J62_26 (h : MH) (x1 : Int32) (x3 : Int32) (x4 : Int32) (s0 : Int32) (s1 : Int32) : Option ((Int32 × Int32 × MH) ⊕ (Int32 × MH)) :=
  nm (s0 + s1) (fun v63 => gd (ix x4 64) ((if (h.1 83 x4.toNatClampNeg) < 0 then Option.bind (f_X7_bits x3) (fun r95 => gd (ix x4 64) (nm (uI h 83 x4.toNatClampNeg r95) (fun h108 => some (.inl (v63, (x3 + 1), h108))))) else Option.bind (f_X7_bits x3) (fun r81 => gd (ix x4 64) ((if r81 < (h.1 83 x4.toNatClampNeg) then Option.bind (f_X7_bits x3) (fun r95 => gd (ix x4 64) (nm (uI h 83 x4.toNatClampNeg r95) (fun h108 => some (.inl (v63, (x3 + 1), h108))))) else gd (ix x4 64) (gd (ix x4 64) (nm (uI h 83 x4.toNatClampNeg (h.1 83 x4.toNatClampNeg)) (fun h108 => some (.inl (v63, (x3 + 1), h108)))))))))))
set_option maxRecDepth 100000 in
set_option maxHeartbeats 4000000 in
theorem t_X7_setNeeds_J62_26 {g : Gx} {l : Launch} {V : VT} {Rt : Option Value → MH → Prop} (o : Ok g l RX7 cX7_setNeeds 5 2 46 0 V) (rr : ORi cX7_setNeeds V Rt) (h : MH) (x1 : Int32) (x3 : Int32) (x4 : Int32) (s0 : Int32) (s1 : Int32) : T (Sum.elim (fun s => V 26 [(0, rA g 64), (1, .int x1), (2, .int s.1), (3, .int s.2.1)] [] s.2.2) (fun b => V 115 [(2, .int b.1)] [] b.2)) (f_X7_setNeeds_J62_26  h x1 x3 x4 s0 s1) (V 62 [(0, rA g 64), (1, .int x1), (3, .int x3), (4, .int x4)] [.int s1, .int s0] h) := by
  unfold f_X7_setNeeds_J62_26
  refine R_iadd o dX7_setNeeds_62 ?_
  refine R_nmI (fun v63 => ?_)
  refine R_istore_n (lv2 := [(0, rA g 64), (1, .int x1), (2, .int v63), (3, .int x3), (4, .int x4)]) o dX7_setNeeds_63 rfl (by decide) rfl ?_
  refine R_aload_n o 0 dX7_setNeeds_64 rfl rfl ?_
  refine R_getR (a2 := 83) o dX7_setNeeds_65 fl_X7_69 sh_64 (by decide) rfl rf_64_27 ?_
  refine R_iload o 4 dX7_setNeeds_68 rfl ?_
  refine R_aload_n o 0 dX7_setNeeds_70 rfl rfl ?_
  refine R_getR (a2 := 83) o dX7_setNeeds_71 fl_X7_69 sh_64 (by decide) rfl rf_64_27 ?_
  refine R_iload o 4 dX7_setNeeds_74 rfl ?_
  refine R_iald o dX7_setNeeds_76 sh_83 ?_
  refine R_if_lt o 94 dX7_setNeeds_77 (by decide) ?_ ?_
  · refine R_iload_n o 3 dX7_setNeeds_94 rfl rfl ?_
    refine K_i (callS' (av := [.int x3]) (rest := [.int x4, rA g 83]) o dX7_setNeeds_95 lk_X7_203 rfl rfl rfl (Nat.le_of_ble_eq_true rfl)) (c_X7_bits g l h x3) (fun r95 => ?_)
    refine R_goto o 108 dX7_setNeeds_98 (by decide) ?_
    refine R_iast o dX7_setNeeds_108 sh_83 ?_
    refine R_nmH (fun h108 => ?_)
    refine R_iinc (v := (x3 + 1)) (lv2 := [(0, rA g 64), (1, .int x1), (2, .int v63), (3, .int (x3 + 1)), (4, .int x4)]) o 3 dX7_setNeeds_109 rfl rfl (by decide) rfl ?_
    refine R_goto o 26 dX7_setNeeds_112 (by decide) ?_
    refine R_drop (lv2 := [(0, rA g 64), (1, .int x1), (2, .int v63), (3, .int (x3 + 1))]) o [0, 1, 2, 3] rfl ?_
    exact T_some (fun p => p)
  · refine R_iload_n o 3 dX7_setNeeds_80 rfl rfl ?_
    refine K_i (callS' (av := [.int x3]) (rest := [.int x4, rA g 83]) o dX7_setNeeds_81 lk_X7_203 rfl rfl rfl (Nat.le_of_ble_eq_true rfl)) (c_X7_bits g l h x3) (fun r81 => ?_)
    refine R_aload_n o 0 dX7_setNeeds_84 rfl rfl ?_
    refine R_getR (a2 := 83) o dX7_setNeeds_85 fl_X7_69 sh_64 (by decide) rfl rf_64_27 ?_
    refine R_iload o 4 dX7_setNeeds_88 rfl ?_
    refine R_iald o dX7_setNeeds_90 sh_83 ?_
    refine R_icmp_ge o 101 dX7_setNeeds_91 (by decide) ?_ ?_
    · refine R_iload_n o 3 dX7_setNeeds_94 rfl rfl ?_
      refine K_i (callS' (av := [.int x3]) (rest := [.int x4, rA g 83]) o dX7_setNeeds_95 lk_X7_203 rfl rfl rfl (Nat.le_of_ble_eq_true rfl)) (c_X7_bits g l h x3) (fun r95 => ?_)
      refine R_goto o 108 dX7_setNeeds_98 (by decide) ?_
      refine R_iast o dX7_setNeeds_108 sh_83 ?_
      refine R_nmH (fun h108 => ?_)
      refine R_iinc (v := (x3 + 1)) (lv2 := [(0, rA g 64), (1, .int x1), (2, .int v63), (3, .int (x3 + 1)), (4, .int x4)]) o 3 dX7_setNeeds_109 rfl rfl (by decide) rfl ?_
      refine R_goto o 26 dX7_setNeeds_112 (by decide) ?_
      refine R_drop (lv2 := [(0, rA g 64), (1, .int x1), (2, .int v63), (3, .int (x3 + 1))]) o [0, 1, 2, 3] rfl ?_
      exact T_some (fun p => p)
    · refine R_aload_n o 0 dX7_setNeeds_101 rfl rfl ?_
      refine R_getR (a2 := 83) o dX7_setNeeds_102 fl_X7_69 sh_64 (by decide) rfl rf_64_27 ?_
      refine R_iload o 4 dX7_setNeeds_105 rfl ?_
      refine R_iald o dX7_setNeeds_107 sh_83 ?_
      refine R_iast o dX7_setNeeds_108 sh_83 ?_
      refine R_nmH (fun h108 => ?_)
      refine R_iinc (v := (x3 + 1)) (lv2 := [(0, rA g 64), (1, .int x1), (2, .int v63), (3, .int (x3 + 1)), (4, .int x4)]) o 3 dX7_setNeeds_109 rfl rfl (by decide) rfl ?_
      refine R_goto o 26 dX7_setNeeds_112 (by decide) ?_
      refine R_drop (lv2 := [(0, rA g 64), (1, .int x1), (2, .int v63), (3, .int (x3 + 1))]) o [0, 1, 2, 3] rfl ?_
      exact T_some (fun p => p)
noncomputable def f_X7_setNeeds_B26 (h : MH) (x1 : Int32) (x2 : Int32) (x3 : Int32) : Option ((Int32 × Int32 × MH) ⊕ (Int32 × MH)) :=
  gd (ix x1 4) ((if x3 < (shl 1 (h.1 79 x1.toNatClampNeg)) then Option.bind (f_X7_sums h x1 x3) (fun r41 => gd (ix r41 64) ((if (h.1 83 r41.toNatClampNeg) < 0 then f_X7_setNeeds_J62_26 h x1 x3 r41 x2 1 else f_X7_setNeeds_J62_26 h x1 x3 r41 x2 0))) else some (.inr (x2, h))))
set_option maxRecDepth 100000 in
set_option maxHeartbeats 4000000 in
theorem t_X7_setNeeds_B26 {g : Gx} {l : Launch} {V : VT} {Rt : Option Value → MH → Prop} (o : Ok g l RX7 cX7_setNeeds 5 2 46 0 V) (rr : ORi cX7_setNeeds V Rt) (h : MH) (x1 : Int32) (x2 : Int32) (x3 : Int32) : T (Sum.elim (fun s => V 26 [(0, rA g 64), (1, .int x1), (2, .int s.1), (3, .int s.2.1)] [] s.2.2) (fun b => V 115 [(2, .int b.1)] [] b.2)) (f_X7_setNeeds_B26  h x1 x2 x3) (V 26 [(0, rA g 64), (1, .int x1), (2, .int x2), (3, .int x3)] [] h) := by
  unfold f_X7_setNeeds_B26
  refine R_iload_n o 3 dX7_setNeeds_26 rfl rfl ?_
  refine R_iconst (v := 1) o dX7_setNeeds_27 (by decide) ?_
  refine R_aload_n o 0 dX7_setNeeds_28 rfl rfl ?_
  refine R_getR (a2 := 79) o dX7_setNeeds_29 fl_X7_56 sh_64 (by decide) rfl rf_64_19 ?_
  refine R_iload_n o 1 dX7_setNeeds_32 rfl rfl ?_
  refine R_iald o dX7_setNeeds_33 sh_79 ?_
  refine R_ishl o dX7_setNeeds_34 ?_
  refine R_icmp_ge o 115 dX7_setNeeds_35 (by decide) ?_ ?_
  · refine R_aload_n o 0 dX7_setNeeds_38 rfl rfl ?_
    refine R_iload_n o 1 dX7_setNeeds_39 rfl rfl ?_
    refine R_iload_n o 3 dX7_setNeeds_40 rfl rfl ?_
    refine K_i (callV' (As := [.int x1, .int x3]) (rest := []) o dX7_setNeeds_41 lk_X7_206 rfl sh_64 rfl rfl rfl rfl (Nat.le_of_ble_eq_true rfl)) (c_X7_sums g l h x1 x3) (fun r41 => ?_)
    refine R_istore (lv2 := [(0, rA g 64), (1, .int x1), (2, .int x2), (3, .int x3), (4, .int r41)]) o dX7_setNeeds_44 (by decide) rfl ?_
    refine R_iload_n o 2 dX7_setNeeds_46 rfl rfl ?_
    refine R_aload_n o 0 dX7_setNeeds_47 rfl rfl ?_
    refine R_getR (a2 := 83) o dX7_setNeeds_48 fl_X7_69 sh_64 (by decide) rfl rf_64_27 ?_
    refine R_iload o 4 dX7_setNeeds_51 rfl ?_
    refine R_iald o dX7_setNeeds_53 sh_83 ?_
    refine R_if_ge o 61 dX7_setNeeds_54 (by decide) ?_ ?_
    · refine R_iconst (v := 1) o dX7_setNeeds_57 (by decide) ?_
      refine R_goto o 62 dX7_setNeeds_58 (by decide) ?_
      refine R_drop (lv2 := [(0, rA g 64), (1, .int x1), (3, .int x3), (4, .int r41)]) o [0, 1, 3, 4] rfl ?_
      exact t_X7_setNeeds_J62_26 o rr h x1 x3 r41 x2 1
    · refine R_iconst (v := 0) o dX7_setNeeds_61 (by decide) ?_
      refine R_drop (lv2 := [(0, rA g 64), (1, .int x1), (3, .int x3), (4, .int r41)]) o [0, 1, 3, 4] rfl ?_
      exact t_X7_setNeeds_J62_26 o rr h x1 x3 r41 x2 0
  · refine R_drop (lv2 := [(2, .int x2)]) o [2] rfl ?_
    exact T_some (fun p => p)
noncomputable def f_X7_setNeeds_L26 (h : MH) (x1 : Int32) (x2 : Int32) (x3 : Int32) : Option (Int32 × MH) :=
  lpo (fun s : Int32 × Int32 × MH => f_X7_setNeeds_B26 s.2.2 x1 s.1 s.2.1) (x2, x3, h)
theorem t_X7_setNeeds_L26 {g : Gx} {l : Launch} {V : VT} {Rt : Option Value → MH → Prop} (o : Ok g l RX7 cX7_setNeeds 5 2 46 0 V) (rr : ORi cX7_setNeeds V Rt) (h : MH) (x1 : Int32) (x2 : Int32) (x3 : Int32) : T (fun b => V 115 [(2, .int b.1)] [] b.2) (f_X7_setNeeds_L26 h x1 x2 x3) (V 26 [(0, rA g 64), (1, .int x1), (2, .int x2), (3, .int x3)] [] h) := T_loop (head := fun s : Int32 × Int32 × MH => V 26 [(0, rA g 64), (1, .int x1), (2, .int s.1), (3, .int s.2.1)] [] s.2.2) (fun s => t_X7_setNeeds_B26 o rr s.2.2 x1 s.1 s.2.1 ) (x2, x3, h)
noncomputable def f_X7_setNeeds (h : MH) (x1 : Int32) : Option (Int32 × MH) :=
  Option.bind (f_X7_setNeeds_L4 h x1 0 0) (fun b4 => Option.bind (f_X7_setNeeds_L26 b4 x1 0 0) (fun b26 => some (b26.1, b26.2)))
set_option maxRecDepth 100000 in
set_option maxHeartbeats 4000000 in
theorem b_X7_setNeeds {g : Gx} {l : Launch} {V : VT} {Rt : Option Value → MH → Prop} (o : Ok g l RX7 cX7_setNeeds 5 2 46 0 V) (rr : ORi cX7_setNeeds V Rt) (h : MH) (x1 : Int32) : T (fun r => Rt (some (.int r.1)) r.2) (f_X7_setNeeds h x1) (V 0 [(0, rA g 64), (1, .int x1)] [] h) := by
  unfold f_X7_setNeeds
  refine R_iconst (v := 0) o dX7_setNeeds_0 (by decide) ?_
  refine R_istore_n (lv2 := [(0, rA g 64), (1, .int x1), (2, .int 0)]) o dX7_setNeeds_1 rfl (by decide) rfl ?_
  refine R_iconst (v := 0) o dX7_setNeeds_2 (by decide) ?_
  refine R_istore_n (lv2 := [(0, rA g 64), (1, .int x1), (2, .int 0), (3, .int 0)]) o dX7_setNeeds_3 rfl (by decide) rfl ?_
  refine T_bind (t_X7_setNeeds_L4 o rr h x1 0 0) (fun b4 => ?_)
  refine R_iconst (v := 0) o dX7_setNeeds_24 (by decide) ?_
  refine R_istore_n (lv2 := [(0, rA g 64), (1, .int x1), (2, .int 0), (3, .int 0)]) o dX7_setNeeds_25 rfl (by decide) rfl ?_
  refine T_bind (t_X7_setNeeds_L26 o rr b4 x1 0 0) (fun b26 => ?_)
  refine R_iload_n o 0 dX7_setNeeds_115 rfl rfl ?_
  exact T_some (fun p => rr _ _ _ _ dX7_setNeeds_116 p)
theorem c_X7_setNeeds (g : Gx) (l : Launch) (h : MH) (x1 : Int32) (r : (Int32 × MH)) (e : f_X7_setNeeds h x1 = some r) : Ctr g l yX7_setNeeds cX7_setNeeds 5 (some .int) 2 46 0 [rA g 64, .int x1] h (some (.int r.1)) r.2 := mkCi (plainFor_of_name (by decide)) (Nat.le_of_ble_eq_true rfl) (fun V Rt o rr p => b_X7_setNeeds o rr h x1  r e p)
/-! X7_changes -/
noncomputable def f_X7_changes_J58_27 (h : MH) (x3 : Int32) (x5 : Int32) (x6 : Int32) (s0 : Int32) : Option ((Int32 × Int32 × Int32) ⊕ (Int32 × Int32)) :=
  gd (ix x6 64) ((if 0 < (h.1 83 x6.toNatClampNeg) then gd (ix x6 64) (nm (x5 + (h.1 83 x6.toNatClampNeg)) (fun v84 => some (.inl (s0, v84, (x6 + 1))))) else nm (x5 + 0) (fun v84 => some (.inl (s0, v84, (x6 + 1))))))
set_option maxRecDepth 100000 in
set_option maxHeartbeats 4000000 in
theorem t_X7_changes_J58_27 {g : Gx} {l : Launch} {V : VT} {Rt : Option Value → MH → Prop} (o : Ok g l RX7 cX7_changes 7 3 70 0 V) (rr : ORi cX7_changes V Rt) (h : MH) (x3 : Int32) (x5 : Int32) (x6 : Int32) (s0 : Int32) : T (Sum.elim (fun s => V 27 [(0, rA g 64), (3, .int x3), (4, .int s.1), (5, .int s.2.1), (6, .int s.2.2)] [] h) (fun b => V 92 [(0, rA g 64), (3, .int x3), (4, .int b.1), (5, .int b.2)] [] h)) (f_X7_changes_J58_27  h x3 x5 x6 s0) (V 58 [(0, rA g 64), (3, .int x3), (5, .int x5), (6, .int x6)] [.int s0] h) := by
  unfold f_X7_changes_J58_27
  refine R_istore (lv2 := [(0, rA g 64), (3, .int x3), (4, .int s0), (5, .int x5), (6, .int x6)]) o dX7_changes_58 (by decide) rfl ?_
  refine R_iload o 3 dX7_changes_60 rfl ?_
  refine R_aload_n o 0 dX7_changes_62 rfl rfl ?_
  refine R_getR (a2 := 83) o dX7_changes_63 fl_X7_69 sh_64 (by decide) rfl rf_64_27 ?_
  refine R_iload o 4 dX7_changes_66 rfl ?_
  refine R_iald o dX7_changes_68 sh_83 ?_
  refine R_if_le o 82 dX7_changes_69 (by decide) ?_ ?_
  · refine R_aload_n o 0 dX7_changes_72 rfl rfl ?_
    refine R_getR (a2 := 83) o dX7_changes_73 fl_X7_69 sh_64 (by decide) rfl rf_64_27 ?_
    refine R_iload o 4 dX7_changes_76 rfl ?_
    refine R_iald o dX7_changes_78 sh_83 ?_
    refine R_goto o 83 dX7_changes_79 (by decide) ?_
    refine R_iadd o dX7_changes_83 ?_
    refine R_nmI (fun v84 => ?_)
    refine R_istore (lv2 := [(0, rA g 64), (3, .int x3), (4, .int s0), (5, .int v84), (6, .int x6)]) o dX7_changes_84 (by decide) rfl ?_
    refine R_iinc (v := (x6 + 1)) (lv2 := [(0, rA g 64), (3, .int x3), (4, .int s0), (5, .int v84), (6, .int (x6 + 1))]) o 4 dX7_changes_86 rfl rfl (by decide) rfl ?_
    refine R_goto o 27 dX7_changes_89 (by decide) ?_
    exact T_some (fun p => p)
  · refine R_iconst (v := 0) o dX7_changes_82 (by decide) ?_
    refine R_iadd o dX7_changes_83 ?_
    refine R_nmI (fun v84 => ?_)
    refine R_istore (lv2 := [(0, rA g 64), (3, .int x3), (4, .int s0), (5, .int v84), (6, .int x6)]) o dX7_changes_84 (by decide) rfl ?_
    refine R_iinc (v := (x6 + 1)) (lv2 := [(0, rA g 64), (3, .int x3), (4, .int s0), (5, .int v84), (6, .int (x6 + 1))]) o 4 dX7_changes_86 rfl rfl (by decide) rfl ?_
    refine R_goto o 27 dX7_changes_89 (by decide) ?_
    exact T_some (fun p => p)
noncomputable def f_X7_changes_B27 (h : MH) (x3 : Int32) (x4 : Int32) (x5 : Int32) (x6 : Int32) : Option ((Int32 × Int32 × Int32) ⊕ (Int32 × Int32)) :=
  (if x6 < 64 then gd (ix x6 64) ((if x4 < (h.1 83 x6.toNatClampNeg) then gd (ix x6 64) (f_X7_changes_J58_27 h x3 x5 x6 (h.1 83 x6.toNatClampNeg)) else f_X7_changes_J58_27 h x3 x5 x6 x4)) else some (.inr (x4, x5)))
set_option maxRecDepth 100000 in
set_option maxHeartbeats 4000000 in
theorem t_X7_changes_B27 {g : Gx} {l : Launch} {V : VT} {Rt : Option Value → MH → Prop} (o : Ok g l RX7 cX7_changes 7 3 70 0 V) (rr : ORi cX7_changes V Rt) (h : MH) (x3 : Int32) (x4 : Int32) (x5 : Int32) (x6 : Int32) : T (Sum.elim (fun s => V 27 [(0, rA g 64), (3, .int x3), (4, .int s.1), (5, .int s.2.1), (6, .int s.2.2)] [] h) (fun b => V 92 [(0, rA g 64), (3, .int x3), (4, .int b.1), (5, .int b.2)] [] h)) (f_X7_changes_B27  h x3 x4 x5 x6) (V 27 [(0, rA g 64), (3, .int x3), (4, .int x4), (5, .int x5), (6, .int x6)] [] h) := by
  unfold f_X7_changes_B27
  refine R_iload o 4 dX7_changes_27 rfl ?_
  refine R_bipush (v := 64) o dX7_changes_29 (by decide) ?_
  refine R_icmp_ge o 92 dX7_changes_31 (by decide) ?_ ?_
  · refine R_aload_n o 0 dX7_changes_34 rfl rfl ?_
    refine R_getR (a2 := 83) o dX7_changes_35 fl_X7_69 sh_64 (by decide) rfl rf_64_27 ?_
    refine R_iload o 4 dX7_changes_38 rfl ?_
    refine R_iald o dX7_changes_40 sh_83 ?_
    refine R_iload o 2 dX7_changes_41 rfl ?_
    refine R_icmp_le o 56 dX7_changes_43 (by decide) ?_ ?_
    · refine R_aload_n o 0 dX7_changes_46 rfl rfl ?_
      refine R_getR (a2 := 83) o dX7_changes_47 fl_X7_69 sh_64 (by decide) rfl rf_64_27 ?_
      refine R_iload o 4 dX7_changes_50 rfl ?_
      refine R_iald o dX7_changes_52 sh_83 ?_
      refine R_goto o 58 dX7_changes_53 (by decide) ?_
      refine R_drop (lv2 := [(0, rA g 64), (3, .int x3), (5, .int x5), (6, .int x6)]) o [0, 1, 3, 4] rfl ?_
      exact t_X7_changes_J58_27 o rr h x3 x5 x6 (h.1 83 x6.toNatClampNeg)
    · refine R_iload o 2 dX7_changes_56 rfl ?_
      refine R_drop (lv2 := [(0, rA g 64), (3, .int x3), (5, .int x5), (6, .int x6)]) o [0, 1, 3, 4] rfl ?_
      exact t_X7_changes_J58_27 o rr h x3 x5 x6 x4
  · refine R_drop (lv2 := [(0, rA g 64), (3, .int x3), (4, .int x4), (5, .int x5)]) o [0, 1, 2, 3] rfl ?_
    exact T_some (fun p => p)
noncomputable def f_X7_changes_L27 (h : MH) (x3 : Int32) (x4 : Int32) (x5 : Int32) (x6 : Int32) : Option (Int32 × Int32) :=
  lpo (fun s : Int32 × Int32 × Int32 => f_X7_changes_B27 h x3 s.1 s.2.1 s.2.2) (x4, x5, x6)
theorem t_X7_changes_L27 {g : Gx} {l : Launch} {V : VT} {Rt : Option Value → MH → Prop} (o : Ok g l RX7 cX7_changes 7 3 70 0 V) (rr : ORi cX7_changes V Rt) (h : MH) (x3 : Int32) (x4 : Int32) (x5 : Int32) (x6 : Int32) : T (fun b => V 92 [(0, rA g 64), (3, .int x3), (4, .int b.1), (5, .int b.2)] [] h) (f_X7_changes_L27 h x3 x4 x5 x6) (V 27 [(0, rA g 64), (3, .int x3), (4, .int x4), (5, .int x5), (6, .int x6)] [] h) := T_loop (head := fun s : Int32 × Int32 × Int32 => V 27 [(0, rA g 64), (3, .int x3), (4, .int s.1), (5, .int s.2.1), (6, .int s.2.2)] [] h) (fun s => t_X7_changes_B27 o rr h x3 s.1 s.2.1 s.2.2 ) (x4, x5, x6)
noncomputable def f_X7_changes (h : MH) (x1 : Int32) : Option (Int32 × MH) :=
  bnd2 (f_X7_askedCode h x1) (fun r2 h2 => (if r2 < 0 then some (r2, h2) else bnd2 (f_X7_setNeeds h2 x1) (fun r14 h14 => Option.bind (f_X7_changes_L27 h14 r14 0 0 0) (fun b27 => bnd2 (f_X7_tell h14 (Int32.toInt64 b27.2) (Int32.toInt64 r14) b27.1) (fun r100 h100 => some (r100, h100))))))
set_option maxRecDepth 100000 in
set_option maxHeartbeats 4000000 in
theorem b_X7_changes {g : Gx} {l : Launch} {V : VT} {Rt : Option Value → MH → Prop} (o : Ok g l RX7 cX7_changes 7 3 70 0 V) (rr : ORi cX7_changes V Rt) (h : MH) (x1 : Int32) : T (fun r => Rt (some (.int r.1)) r.2) (f_X7_changes h x1) (V 0 [(0, rA g 64), (1, .int x1)] [] h) := by
  unfold f_X7_changes
  refine R_aload_n o 0 dX7_changes_0 rfl rfl ?_
  refine R_iload_n o 1 dX7_changes_1 rfl rfl ?_
  refine K_ih (callV' (As := [.int x1]) (rest := []) o dX7_changes_2 lk_X7_194 rfl sh_64 rfl rfl rfl rfl (Nat.le_of_ble_eq_true rfl)) (c_X7_askedCode g l h x1) (fun r2 h2 => ?_)
  refine R_istore_n (lv2 := [(0, rA g 64), (1, .int x1), (2, .int r2)]) o dX7_changes_5 rfl (by decide) rfl ?_
  refine R_iload_n o 2 dX7_changes_6 rfl rfl ?_
  refine R_if_ge o 12 dX7_changes_7 (by decide) ?_ ?_
  · refine R_iload_n o 2 dX7_changes_10 rfl rfl ?_
    exact T_some (fun p => rr _ _ _ _ dX7_changes_11 p)
  · refine R_aload_n o 0 dX7_changes_12 rfl rfl ?_
    refine R_iload_n o 1 dX7_changes_13 rfl rfl ?_
    refine K_ih (callV' (As := [.int x1]) (rest := []) o dX7_changes_14 lk_X7_226 rfl sh_64 rfl rfl rfl rfl (Nat.le_of_ble_eq_true rfl)) (c_X7_setNeeds g l h2 x1) (fun r14 h14 => ?_)
    refine R_istore_n (lv2 := [(0, rA g 64), (1, .int x1), (2, .int r2), (3, .int r14)]) o dX7_changes_17 rfl (by decide) rfl ?_
    refine R_iconst (v := 0) o dX7_changes_18 (by decide) ?_
    refine R_istore (lv2 := [(0, rA g 64), (1, .int x1), (2, .int r2), (3, .int r14), (4, .int 0)]) o dX7_changes_19 (by decide) rfl ?_
    refine R_iconst (v := 0) o dX7_changes_21 (by decide) ?_
    refine R_istore (lv2 := [(0, rA g 64), (1, .int x1), (2, .int r2), (3, .int r14), (4, .int 0), (5, .int 0)]) o dX7_changes_22 (by decide) rfl ?_
    refine R_iconst (v := 0) o dX7_changes_24 (by decide) ?_
    refine R_istore (lv2 := [(0, rA g 64), (1, .int x1), (2, .int r2), (3, .int r14), (4, .int 0), (5, .int 0), (6, .int 0)]) o dX7_changes_25 (by decide) rfl ?_
    refine R_drop (lv2 := [(0, rA g 64), (3, .int r14), (4, .int 0), (5, .int 0), (6, .int 0)]) o [0, 3, 4, 5, 6] rfl ?_
    refine T_bind (t_X7_changes_L27 o rr h14 r14 0 0 0) (fun b27 => ?_)
    refine R_aload_n o 0 dX7_changes_92 rfl rfl ?_
    refine R_iload o 3 dX7_changes_93 rfl ?_
    refine R_i2l o dX7_changes_95 ?_
    refine R_iload_n o 1 dX7_changes_96 rfl rfl ?_
    refine R_i2l o dX7_changes_97 ?_
    refine R_iload o 2 dX7_changes_98 rfl ?_
    refine K_ih (callV' (As := [.long (Int32.toInt64 b27.2), .long (Int32.toInt64 r14), .int b27.1]) (rest := []) o dX7_changes_100 lk_X7_229 rfl sh_64 rfl rfl rfl rfl (Nat.le_of_ble_eq_true rfl)) (c_X7_tell g l h14 (Int32.toInt64 b27.2) (Int32.toInt64 r14) b27.1) (fun r100 h100 => ?_)
    exact T_some (fun p => rr _ _ _ _ dX7_changes_103 p)
theorem c_X7_changes (g : Gx) (l : Launch) (h : MH) (x1 : Int32) (r : (Int32 × MH)) (e : f_X7_changes h x1 = some r) : Ctr g l yX7_changes cX7_changes 7 (some .int) 3 70 0 [rA g 64, .int x1] h (some (.int r.1)) r.2 := mkCi (plainFor_of_name (by decide)) (Nat.le_of_ble_eq_true rfl) (fun V Rt o rr p => b_X7_changes o rr h x1  r e p)
/-! X7_reach -/
noncomputable def f_X7_reach (h : MH) (x1 : Int32) : Option (Int32 × MH) :=
  bnd2 (f_X7_askedCode h x1) (fun r2 h2 => (if r2 < 0 then some (r2, h2) else bnd2 (f_X7_setNeeds h2 x1) (fun r16 h16 => some (r16, h16))))
set_option maxRecDepth 100000 in
set_option maxHeartbeats 4000000 in
theorem b_X7_reach {g : Gx} {l : Launch} {V : VT} {Rt : Option Value → MH → Prop} (o : Ok g l RX7 cX7_reach 3 3 70 0 V) (rr : ORi cX7_reach V Rt) (h : MH) (x1 : Int32) : T (fun r => Rt (some (.int r.1)) r.2) (f_X7_reach h x1) (V 0 [(0, rA g 64), (1, .int x1)] [] h) := by
  unfold f_X7_reach
  refine R_aload_n o 0 dX7_reach_0 rfl rfl ?_
  refine R_iload_n o 1 dX7_reach_1 rfl rfl ?_
  refine K_ih (callV' (As := [.int x1]) (rest := []) o dX7_reach_2 lk_X7_194 rfl sh_64 rfl rfl rfl rfl (Nat.le_of_ble_eq_true rfl)) (c_X7_askedCode g l h x1) (fun r2 h2 => ?_)
  refine R_istore_n (lv2 := [(0, rA g 64), (1, .int x1), (2, .int r2)]) o dX7_reach_5 rfl (by decide) rfl ?_
  refine R_iload_n o 2 dX7_reach_6 rfl rfl ?_
  refine R_if_ge o 14 dX7_reach_7 (by decide) ?_ ?_
  · refine R_iload_n o 2 dX7_reach_10 rfl rfl ?_
    refine R_goto o 19 dX7_reach_11 (by decide) ?_
    exact T_some (fun p => rr _ _ _ _ dX7_reach_19 p)
  · refine R_aload_n o 0 dX7_reach_14 rfl rfl ?_
    refine R_iload_n o 1 dX7_reach_15 rfl rfl ?_
    refine K_ih (callV' (As := [.int x1]) (rest := []) o dX7_reach_16 lk_X7_226 rfl sh_64 rfl rfl rfl rfl (Nat.le_of_ble_eq_true rfl)) (c_X7_setNeeds g l h2 x1) (fun r16 h16 => ?_)
    exact T_some (fun p => rr _ _ _ _ dX7_reach_19 p)
theorem c_X7_reach (g : Gx) (l : Launch) (h : MH) (x1 : Int32) (r : (Int32 × MH)) (e : f_X7_reach h x1 = some r) : Ctr g l yX7_reach cX7_reach 3 (some .int) 3 70 0 [rA g 64, .int x1] h (some (.int r.1)) r.2 := mkCi (plainFor_of_name (by decide)) (Nat.le_of_ble_eq_true rfl) (fun V Rt o rr p => b_X7_reach o rr h x1  r e p)
/-! X7_parts -/
noncomputable def f_X7_parts_B56 (h : MH) (x2 : Int32) (x3 : Int32) (x5 : Int32) (x6 : Int32) : Option ((Int32 × MH) ⊕ (MH)) :=
  (if x6 < x2 then bnd2 (f_X7_draw h 251) (fun r72 h72 => gd (ix x6 40) (nm (uI h72 68 x6.toNatClampNeg r72) (fun h75 => some (.inl ((x6 + 1), h75))))) else some (.inr h))
set_option maxRecDepth 100000 in
set_option maxHeartbeats 4000000 in
theorem t_X7_parts_B56 {g : Gx} {l : Launch} {V : VT} {Rt : Option Value → MH → Prop} (o : Ok g l RX7 cX7_parts 9 3 65 0 V) (rr : ORi cX7_parts V Rt) (h : MH) (x2 : Int32) (x3 : Int32) (x5 : Int32) (x6 : Int32) : T (Sum.elim (fun s => V 56 [(0, rA g 64), (2, .int x2), (3, .int x3), (5, .int x5), (6, .int s.1)] [] s.2) (fun b => V 82 [(0, rA g 64), (2, .int x2), (3, .int x3), (5, .int x5)] [] b)) (f_X7_parts_B56  h x2 x3 x5 x6) (V 56 [(0, rA g 64), (2, .int x2), (3, .int x3), (5, .int x5), (6, .int x6)] [] h) := by
  unfold f_X7_parts_B56
  refine R_iload o 4 dX7_parts_56 rfl ?_
  refine R_iload_n o 1 dX7_parts_58 rfl rfl ?_
  refine R_icmp_ge o 82 dX7_parts_59 (by decide) ?_ ?_
  · refine R_aload_n o 0 dX7_parts_62 rfl rfl ?_
    refine R_getR (a2 := 68) o dX7_parts_63 fl_X7_23 sh_64 (by decide) rfl rf_64_7 ?_
    refine R_iload o 4 dX7_parts_66 rfl ?_
    refine R_aload_n o 0 dX7_parts_68 rfl rfl ?_
    refine R_sipush (v := 251) o dX7_parts_69 (by decide) ?_
    refine K_ih (callV' (As := [.int 251]) (rest := [.int x6, rA g 68]) o dX7_parts_72 lk_X7_169 rfl sh_64 rfl rfl rfl rfl (Nat.le_of_ble_eq_true rfl)) (c_X7_draw g l h 251) (fun r72 h72 => ?_)
    refine R_iast o dX7_parts_75 sh_68 ?_
    refine R_nmH (fun h75 => ?_)
    refine R_iinc (v := (x6 + 1)) (lv2 := [(0, rA g 64), (2, .int x2), (3, .int x3), (5, .int x5), (6, .int (x6 + 1))]) o 4 dX7_parts_76 rfl rfl (by decide) rfl ?_
    refine R_goto o 56 dX7_parts_79 (by decide) ?_
    exact T_some (fun p => p)
  · refine R_drop (lv2 := [(0, rA g 64), (2, .int x2), (3, .int x3), (5, .int x5)]) o [0, 1, 2, 3] rfl ?_
    exact T_some (fun p => p)
noncomputable def f_X7_parts_L56 (h : MH) (x2 : Int32) (x3 : Int32) (x5 : Int32) (x6 : Int32) : Option (MH) :=
  lpo (fun s : Int32 × MH => f_X7_parts_B56 s.2 x2 x3 x5 s.1) (x6, h)
theorem t_X7_parts_L56 {g : Gx} {l : Launch} {V : VT} {Rt : Option Value → MH → Prop} (o : Ok g l RX7 cX7_parts 9 3 65 0 V) (rr : ORi cX7_parts V Rt) (h : MH) (x2 : Int32) (x3 : Int32) (x5 : Int32) (x6 : Int32) : T (fun b => V 82 [(0, rA g 64), (2, .int x2), (3, .int x3), (5, .int x5)] [] b) (f_X7_parts_L56 h x2 x3 x5 x6) (V 56 [(0, rA g 64), (2, .int x2), (3, .int x3), (5, .int x5), (6, .int x6)] [] h) := T_loop (head := fun s : Int32 × MH => V 56 [(0, rA g 64), (2, .int x2), (3, .int x3), (5, .int x5), (6, .int s.1)] [] s.2) (fun s => t_X7_parts_B56 o rr s.2 x2 x3 x5 s.1 ) (x6, h)
noncomputable def f_X7_parts_B107 (h : MH) (x2 : Int32) (x3 : Int32) (x5 : Int32) (x6 : Int32) (x7 : Int32) (x8 : Int32) : Option ((Int32 × Int32) ⊕ (Int32)) :=
  (if x8 < 0 then some (.inr x7) else gd (ix x8 40) (nm (irm ((x7 * x6) + (h.1 68 x8.toNatClampNeg)) 251) (fun v129 => some (.inl (v129, (x8 + (-1)))))))
set_option maxRecDepth 100000 in
set_option maxHeartbeats 4000000 in
theorem t_X7_parts_B107 {g : Gx} {l : Launch} {V : VT} {Rt : Option Value → MH → Prop} (o : Ok g l RX7 cX7_parts 9 3 65 0 V) (rr : ORi cX7_parts V Rt) (h : MH) (x2 : Int32) (x3 : Int32) (x5 : Int32) (x6 : Int32) (x7 : Int32) (x8 : Int32) : T (Sum.elim (fun s => V 107 [(0, rA g 64), (2, .int x2), (3, .int x3), (5, .int x5), (6, .int x6), (7, .int s.1), (8, .int s.2)] [] h) (fun b => V 137 [(0, rA g 64), (2, .int x2), (3, .int x3), (5, .int x5), (6, .int x6), (7, .int b)] [] h)) (f_X7_parts_B107  h x2 x3 x5 x6 x7 x8) (V 107 [(0, rA g 64), (2, .int x2), (3, .int x3), (5, .int x5), (6, .int x6), (7, .int x7), (8, .int x8)] [] h) := by
  unfold f_X7_parts_B107
  refine R_iload o 6 dX7_parts_107 rfl ?_
  refine R_if_lt o 137 dX7_parts_109 (by decide) ?_ ?_
  · refine R_drop (lv2 := [(0, rA g 64), (2, .int x2), (3, .int x3), (5, .int x5), (6, .int x6), (7, .int x7)]) o [0, 1, 2, 3, 4, 5] rfl ?_
    exact T_some (fun p => p)
  · refine R_iload o 5 dX7_parts_112 rfl ?_
    refine R_iload o 4 dX7_parts_114 rfl ?_
    refine R_imul o dX7_parts_116 ?_
    refine R_aload_n o 0 dX7_parts_117 rfl rfl ?_
    refine R_getR (a2 := 68) o dX7_parts_118 fl_X7_23 sh_64 (by decide) rfl rf_64_7 ?_
    refine R_iload o 6 dX7_parts_121 rfl ?_
    refine R_iald o dX7_parts_123 sh_68 ?_
    refine R_iadd o dX7_parts_124 ?_
    refine R_sipush (v := 251) o dX7_parts_125 (by decide) ?_
    refine R_irem_c o dX7_parts_128 (by decide) ?_
    refine R_nmI (fun v129 => ?_)
    refine R_istore (lv2 := [(0, rA g 64), (2, .int x2), (3, .int x3), (5, .int x5), (6, .int x6), (7, .int v129), (8, .int x8)]) o dX7_parts_129 (by decide) rfl ?_
    refine R_iinc (v := (x8 + (-1))) (lv2 := [(0, rA g 64), (2, .int x2), (3, .int x3), (5, .int x5), (6, .int x6), (7, .int v129), (8, .int (x8 + (-1)))]) o 6 dX7_parts_131 rfl rfl (by decide) rfl ?_
    refine R_goto o 107 dX7_parts_134 (by decide) ?_
    exact T_some (fun p => p)
noncomputable def f_X7_parts_L107 (h : MH) (x2 : Int32) (x3 : Int32) (x5 : Int32) (x6 : Int32) (x7 : Int32) (x8 : Int32) : Option (Int32) :=
  lpo (fun s : Int32 × Int32 => f_X7_parts_B107 h x2 x3 x5 x6 s.1 s.2) (x7, x8)
theorem t_X7_parts_L107 {g : Gx} {l : Launch} {V : VT} {Rt : Option Value → MH → Prop} (o : Ok g l RX7 cX7_parts 9 3 65 0 V) (rr : ORi cX7_parts V Rt) (h : MH) (x2 : Int32) (x3 : Int32) (x5 : Int32) (x6 : Int32) (x7 : Int32) (x8 : Int32) : T (fun b => V 137 [(0, rA g 64), (2, .int x2), (3, .int x3), (5, .int x5), (6, .int x6), (7, .int b)] [] h) (f_X7_parts_L107 h x2 x3 x5 x6 x7 x8) (V 107 [(0, rA g 64), (2, .int x2), (3, .int x3), (5, .int x5), (6, .int x6), (7, .int x7), (8, .int x8)] [] h) := T_loop (head := fun s : Int32 × Int32 => V 107 [(0, rA g 64), (2, .int x2), (3, .int x3), (5, .int x5), (6, .int x6), (7, .int s.1), (8, .int s.2)] [] h) (fun s => t_X7_parts_B107 o rr h x2 x3 x5 x6 s.1 s.2 ) (x7, x8)
noncomputable def f_X7_parts_B93 (h : MH) (x2 : Int32) (x3 : Int32) (x5 : Int32) (x6 : Int32) : Option ((Int32 × MH) ⊕ (MH)) :=
  (if x3 < x6 then some (.inr h) else nm (x2 - 1) (fun v105 => Option.bind (f_X7_parts_L107 h x2 x3 x5 x6 0 v105) (fun b107 => gd (ix (((40 * x5) + x6) - 1) 240) (nm (uI h 67 (((40 * x5) + x6) - 1).toNatClampNeg b107) (fun h153 => some (.inl ((x6 + 1), h153)))))))
set_option maxRecDepth 100000 in
set_option maxHeartbeats 4000000 in
theorem t_X7_parts_B93 {g : Gx} {l : Launch} {V : VT} {Rt : Option Value → MH → Prop} (o : Ok g l RX7 cX7_parts 9 3 65 0 V) (rr : ORi cX7_parts V Rt) (h : MH) (x2 : Int32) (x3 : Int32) (x5 : Int32) (x6 : Int32) : T (Sum.elim (fun s => V 93 [(0, rA g 64), (2, .int x2), (3, .int x3), (5, .int x5), (6, .int s.1)] [] s.2) (fun b => V 160 [(3, .int x3)] [] b)) (f_X7_parts_B93  h x2 x3 x5 x6) (V 93 [(0, rA g 64), (2, .int x2), (3, .int x3), (5, .int x5), (6, .int x6)] [] h) := by
  unfold f_X7_parts_B93
  refine R_iload o 4 dX7_parts_93 rfl ?_
  refine R_iload_n o 2 dX7_parts_95 rfl rfl ?_
  refine R_icmp_gt o 160 dX7_parts_96 (by decide) ?_ ?_
  · refine R_drop (lv2 := [(3, .int x3)]) o [2] rfl ?_
    exact T_some (fun p => p)
  · refine R_iconst (v := 0) o dX7_parts_99 (by decide) ?_
    refine R_istore (lv2 := [(0, rA g 64), (2, .int x2), (3, .int x3), (5, .int x5), (6, .int x6), (7, .int 0)]) o dX7_parts_100 (by decide) rfl ?_
    refine R_iload_n o 1 dX7_parts_102 rfl rfl ?_
    refine R_iconst (v := 1) o dX7_parts_103 (by decide) ?_
    refine R_isub o dX7_parts_104 ?_
    refine R_nmI (fun v105 => ?_)
    refine R_istore (lv2 := [(0, rA g 64), (2, .int x2), (3, .int x3), (5, .int x5), (6, .int x6), (7, .int 0), (8, .int v105)]) o dX7_parts_105 (by decide) rfl ?_
    refine T_bind (t_X7_parts_L107 o rr h x2 x3 x5 x6 0 v105) (fun b107 => ?_)
    refine R_aload_n o 0 dX7_parts_137 rfl rfl ?_
    refine R_getR (a2 := 67) o dX7_parts_138 fl_X7_20 sh_64 (by decide) rfl rf_64_6 ?_
    refine R_bipush (v := 40) o dX7_parts_141 (by decide) ?_
    refine R_iload o 3 dX7_parts_143 rfl ?_
    refine R_imul o dX7_parts_145 ?_
    refine R_iload o 4 dX7_parts_146 rfl ?_
    refine R_iadd o dX7_parts_148 ?_
    refine R_iconst (v := 1) o dX7_parts_149 (by decide) ?_
    refine R_isub o dX7_parts_150 ?_
    refine R_iload o 5 dX7_parts_151 rfl ?_
    refine R_iast o dX7_parts_153 sh_67 ?_
    refine R_nmH (fun h153 => ?_)
    refine R_iinc (v := (x6 + 1)) (lv2 := [(0, rA g 64), (2, .int x2), (3, .int x3), (5, .int x5), (6, .int (x6 + 1)), (7, .int b107)]) o 4 dX7_parts_154 rfl rfl (by decide) rfl ?_
    refine R_goto o 93 dX7_parts_157 (by decide) ?_
    refine R_drop (lv2 := [(0, rA g 64), (2, .int x2), (3, .int x3), (5, .int x5), (6, .int (x6 + 1))]) o [0, 1, 2, 3, 4] rfl ?_
    exact T_some (fun p => p)
noncomputable def f_X7_parts_L93 (h : MH) (x2 : Int32) (x3 : Int32) (x5 : Int32) (x6 : Int32) : Option (MH) :=
  lpo (fun s : Int32 × MH => f_X7_parts_B93 s.2 x2 x3 x5 s.1) (x6, h)
theorem t_X7_parts_L93 {g : Gx} {l : Launch} {V : VT} {Rt : Option Value → MH → Prop} (o : Ok g l RX7 cX7_parts 9 3 65 0 V) (rr : ORi cX7_parts V Rt) (h : MH) (x2 : Int32) (x3 : Int32) (x5 : Int32) (x6 : Int32) : T (fun b => V 160 [(3, .int x3)] [] b) (f_X7_parts_L93 h x2 x3 x5 x6) (V 93 [(0, rA g 64), (2, .int x2), (3, .int x3), (5, .int x5), (6, .int x6)] [] h) := T_loop (head := fun s : Int32 × MH => V 93 [(0, rA g 64), (2, .int x2), (3, .int x3), (5, .int x5), (6, .int s.1)] [] s.2) (fun s => t_X7_parts_B93 o rr s.2 x2 x3 x5 s.1 ) (x6, h)
noncomputable def f_X7_parts (h : MH) (x1 : Int32) (x2 : Int32) (x3 : Int32) (x4 : Int32) (x5 : Int32) : Option (Int32 × MH) :=
  Option.bind (f_X7_in x1 0 250) (fun r5 => (if r5 = true then Option.bind (f_X7_in x2 1 5) (fun r14 => (if r14 = true then Option.bind (f_X7_in x3 x2 10) (fun r24 => (if r24 = true then Option.bind (f_X7_isRow x5) (fun r32 => (if r32 = true then nm (uI h 64 16 x4) (fun h43 => gd (ix 0 40) (nm (uI h43 68 (0 : Int32).toNatClampNeg x1) (fun h52 => Option.bind (f_X7_parts_L56 h52 x2 x3 x5 1) (fun b56 => bnd2 (f_X7_row b56 x5 x3) (fun r86 h86 => Option.bind (f_X7_parts_L93 h86 x2 x3 x5 1) (fun b93 => some (x3, b93))))))) else some ((-1), h))) else some ((-1), h))) else some ((-1), h))) else some ((-1), h)))
set_option maxRecDepth 100000 in
set_option maxHeartbeats 4000000 in
theorem b_X7_parts {g : Gx} {l : Launch} {V : VT} {Rt : Option Value → MH → Prop} (o : Ok g l RX7 cX7_parts 9 3 65 0 V) (rr : ORi cX7_parts V Rt) (h : MH) (x1 : Int32) (x2 : Int32) (x3 : Int32) (x4 : Int32) (x5 : Int32) : T (fun r => Rt (some (.int r.1)) r.2) (f_X7_parts h x1 x2 x3 x4 x5) (V 0 [(0, rA g 64), (1, .int x1), (2, .int x2), (3, .int x3), (4, .int x4), (5, .int x5)] [] h) := by
  unfold f_X7_parts
  refine R_iload_n o 1 dX7_parts_0 rfl rfl ?_
  refine R_iconst (v := 0) o dX7_parts_1 (by decide) ?_
  refine R_sipush (v := 250) o dX7_parts_2 (by decide) ?_
  refine K_z (callS' (av := [.int x1, .int 0, .int 250]) (rest := []) o dX7_parts_5 lk_X7_92 rfl rfl rfl (Nat.le_of_ble_eq_true rfl)) (c_X7_in g l h x1 0 250) (fun r5 => ?_)
  refine R_bif_eq o 38 dX7_parts_8 (by decide) ?_ ?_
  · refine R_iload_n o 2 dX7_parts_11 rfl rfl ?_
    refine R_iconst (v := 1) o dX7_parts_12 (by decide) ?_
    refine R_iconst (v := 5) o dX7_parts_13 (by decide) ?_
    refine K_z (callS' (av := [.int x2, .int 1, .int 5]) (rest := []) o dX7_parts_14 lk_X7_92 rfl rfl rfl (Nat.le_of_ble_eq_true rfl)) (c_X7_in g l h x2 1 5) (fun r14 => ?_)
    refine R_bif_eq o 38 dX7_parts_17 (by decide) ?_ ?_
    · refine R_iload_n o 3 dX7_parts_20 rfl rfl ?_
      refine R_iload_n o 2 dX7_parts_21 rfl rfl ?_
      refine R_bipush (v := 10) o dX7_parts_22 (by decide) ?_
      refine K_z (callS' (av := [.int x3, .int x2, .int 10]) (rest := []) o dX7_parts_24 lk_X7_92 rfl rfl rfl (Nat.le_of_ble_eq_true rfl)) (c_X7_in g l h x3 x2 10) (fun r24 => ?_)
      refine R_bif_eq o 38 dX7_parts_27 (by decide) ?_ ?_
      · refine R_iload o 5 dX7_parts_30 rfl ?_
        refine K_z (callS' (av := [.int x5]) (rest := []) o dX7_parts_32 lk_X7_96 rfl rfl rfl (Nat.le_of_ble_eq_true rfl)) (c_X7_isRow g l h x5) (fun r32 => ?_)
        refine R_bif_ne o 40 dX7_parts_35 (by decide) ?_ ?_
        · refine R_aload_n o 0 dX7_parts_40 rfl rfl ?_
          refine R_iload o 4 dX7_parts_41 rfl ?_
          refine R_putI o dX7_parts_43 fp_X7_165 sh_64 (by decide) rfl ?_
          refine R_nmH (fun h43 => ?_)
          refine R_aload_n o 0 dX7_parts_46 rfl rfl ?_
          refine R_getR (a2 := 68) o dX7_parts_47 fl_X7_23 sh_64 (by decide) rfl rf_64_7 ?_
          refine R_iconst (v := 0) o dX7_parts_50 (by decide) ?_
          refine R_iload_n o 1 dX7_parts_51 rfl rfl ?_
          refine R_iast o dX7_parts_52 sh_68 ?_
          refine R_nmH (fun h52 => ?_)
          refine R_iconst (v := 1) o dX7_parts_53 (by decide) ?_
          refine R_istore (lv2 := [(0, rA g 64), (1, .int x1), (2, .int x2), (3, .int x3), (4, .int x4), (5, .int x5), (6, .int 1)]) o dX7_parts_54 (by decide) rfl ?_
          refine R_drop (lv2 := [(0, rA g 64), (2, .int x2), (3, .int x3), (5, .int x5), (6, .int 1)]) o [0, 2, 3, 5, 6] rfl ?_
          refine T_bind (t_X7_parts_L56 o rr h52 x2 x3 x5 1) (fun b56 => ?_)
          refine R_aload_n o 0 dX7_parts_82 rfl rfl ?_
          refine R_iload o 3 dX7_parts_83 rfl ?_
          refine R_iload_n o 2 dX7_parts_85 rfl rfl ?_
          refine K_ih (callV' (As := [.int x5, .int x3]) (rest := []) o dX7_parts_86 lk_X7_144 rfl sh_64 rfl rfl rfl rfl (Nat.le_of_ble_eq_true rfl)) (c_X7_row g l b56 x5 x3) (fun r86 h86 => ?_)
          refine R_pop o dX7_parts_89 rfl ?_
          refine R_iconst (v := 1) o dX7_parts_90 (by decide) ?_
          refine R_istore (lv2 := [(0, rA g 64), (2, .int x2), (3, .int x3), (5, .int x5), (6, .int 1)]) o dX7_parts_91 (by decide) rfl ?_
          refine T_bind (t_X7_parts_L93 o rr h86 x2 x3 x5 1) (fun b93 => ?_)
          refine R_iload_n o 0 dX7_parts_160 rfl rfl ?_
          exact T_some (fun p => rr _ _ _ _ dX7_parts_161 p)
        · refine R_iconst (v := (-1)) o dX7_parts_38 (by decide) ?_
          exact T_some (fun p => rr _ _ _ _ dX7_parts_39 p)
      · refine R_iconst (v := (-1)) o dX7_parts_38 (by decide) ?_
        exact T_some (fun p => rr _ _ _ _ dX7_parts_39 p)
    · refine R_iconst (v := (-1)) o dX7_parts_38 (by decide) ?_
      exact T_some (fun p => rr _ _ _ _ dX7_parts_39 p)
  · refine R_iconst (v := (-1)) o dX7_parts_38 (by decide) ?_
    exact T_some (fun p => rr _ _ _ _ dX7_parts_39 p)
theorem c_X7_parts (g : Gx) (l : Launch) (h : MH) (x1 : Int32) (x2 : Int32) (x3 : Int32) (x4 : Int32) (x5 : Int32) (r : (Int32 × MH)) (e : f_X7_parts h x1 x2 x3 x4 x5 = some r) : Ctr g l yX7_parts cX7_parts 9 (some .int) 3 65 0 [rA g 64, .int x1, .int x2, .int x3, .int x4, .int x5] h (some (.int r.1)) r.2 := mkCi (plainFor_of_name (by decide)) (Nat.le_of_ble_eq_true rfl) (fun V Rt o rr p => b_X7_parts o rr h x1 x2 x3 x4 x5  r e p)
/-! X7_inverse -/
noncomputable def f_X7_inverse_B4 (x0 : Int32) (x1 : Int32) (x2 : Int32) : Option ((Int32 × Int32) ⊕ (Int32)) :=
  (if x2 < 249 then nm (irm (x1 * x0) 251) (fun v18 => some (.inl (v18, (x2 + 1)))) else some (.inr x1))
set_option maxRecDepth 100000 in
set_option maxHeartbeats 4000000 in
theorem t_X7_inverse_B4 {g : Gx} {l : Launch} {V : VT} {Rt : Option Value → MH → Prop} (o : Ok g l RX7 cX7_inverse 3 0 0 0 V) (rr : ORi cX7_inverse V Rt) (h : MH) (x0 : Int32) (x1 : Int32) (x2 : Int32) : T (Sum.elim (fun s => V 4 [(0, .int x0), (1, .int s.1), (2, .int s.2)] [] h) (fun b => V 25 [(1, .int b)] [] h)) (f_X7_inverse_B4  x0 x1 x2) (V 4 [(0, .int x0), (1, .int x1), (2, .int x2)] [] h) := by
  unfold f_X7_inverse_B4
  refine R_iload_n o 2 dX7_inverse_4 rfl rfl ?_
  refine R_sipush (v := 249) o dX7_inverse_5 (by decide) ?_
  refine R_icmp_ge o 25 dX7_inverse_8 (by decide) ?_ ?_
  · refine R_iload_n o 1 dX7_inverse_11 rfl rfl ?_
    refine R_iload_n o 0 dX7_inverse_12 rfl rfl ?_
    refine R_imul o dX7_inverse_13 ?_
    refine R_sipush (v := 251) o dX7_inverse_14 (by decide) ?_
    refine R_irem_c o dX7_inverse_17 (by decide) ?_
    refine R_nmI (fun v18 => ?_)
    refine R_istore_n (lv2 := [(0, .int x0), (1, .int v18), (2, .int x2)]) o dX7_inverse_18 rfl (by decide) rfl ?_
    refine R_iinc (v := (x2 + 1)) (lv2 := [(0, .int x0), (1, .int v18), (2, .int (x2 + 1))]) o 2 dX7_inverse_19 rfl rfl (by decide) rfl ?_
    refine R_goto o 4 dX7_inverse_22 (by decide) ?_
    exact T_some (fun p => p)
  · refine R_drop (lv2 := [(1, .int x1)]) o [1] rfl ?_
    exact T_some (fun p => p)
noncomputable def f_X7_inverse_L4 (x0 : Int32) (x1 : Int32) (x2 : Int32) : Option (Int32) :=
  lpo (fun s : Int32 × Int32 => f_X7_inverse_B4  x0 s.1 s.2) (x1, x2)
theorem t_X7_inverse_L4 {g : Gx} {l : Launch} {V : VT} {Rt : Option Value → MH → Prop} (o : Ok g l RX7 cX7_inverse 3 0 0 0 V) (rr : ORi cX7_inverse V Rt) (h : MH) (x0 : Int32) (x1 : Int32) (x2 : Int32) : T (fun b => V 25 [(1, .int b)] [] h) (f_X7_inverse_L4 x0 x1 x2) (V 4 [(0, .int x0), (1, .int x1), (2, .int x2)] [] h) := T_loop (head := fun s : Int32 × Int32 => V 4 [(0, .int x0), (1, .int s.1), (2, .int s.2)] [] h) (fun s => t_X7_inverse_B4 o rr h x0 s.1 s.2 ) (x1, x2)
noncomputable def f_X7_inverse (x0 : Int32) : Option Int32 :=
  Option.bind (f_X7_inverse_L4 x0 1 0) (fun b4 => some b4)
set_option maxRecDepth 100000 in
set_option maxHeartbeats 4000000 in
theorem b_X7_inverse {g : Gx} {l : Launch} {V : VT} {Rt : Option Value → MH → Prop} (o : Ok g l RX7 cX7_inverse 3 0 0 0 V) (rr : ORi cX7_inverse V Rt) (h : MH) (x0 : Int32) : T (fun r => Rt (some (.int r)) h) (f_X7_inverse  x0) (V 0 [(0, .int x0)] [] h) := by
  unfold f_X7_inverse
  refine R_iconst (v := 1) o dX7_inverse_0 (by decide) ?_
  refine R_istore_n (lv2 := [(0, .int x0), (1, .int 1)]) o dX7_inverse_1 rfl (by decide) rfl ?_
  refine R_iconst (v := 0) o dX7_inverse_2 (by decide) ?_
  refine R_istore_n (lv2 := [(0, .int x0), (1, .int 1), (2, .int 0)]) o dX7_inverse_3 rfl (by decide) rfl ?_
  refine T_bind (t_X7_inverse_L4 o rr h x0 1 0) (fun b4 => ?_)
  refine R_iload_n o 0 dX7_inverse_25 rfl rfl ?_
  exact T_some (fun p => rr _ _ _ _ dX7_inverse_26 p)
theorem c_X7_inverse (g : Gx) (l : Launch) (h : MH) (x0 : Int32) (r : Int32) (e : f_X7_inverse  x0 = some r) : Ctr g l yX7_inverse cX7_inverse 3 (some .int) 0 0 0 [.int x0] h (some (.int r)) h := mkCi (plainFor_of_name (by decide)) (Nat.le_of_ble_eq_true rfl) (fun V Rt o rr p => b_X7_inverse o rr h x0  r e p)
/-! X7_join -/
noncomputable def f_X7_join_B103 (h : MH) (x1 : Int32) (x3 : Int32) (x4 : Int32) (x5 : Int32) (x6 : Int32) : Option ((Int32 × Int32) ⊕ (Int32)) :=
  (if x6 < x5 then (if x4 = 0 then some (.inl (0, (x6 + 2))) else Option.bind (f_X7_rowAt h x1 x5) (fun r119 => Option.bind (f_X7_rowAt h x1 x6) (fun r126 => (if r119 = r126 then some (.inl (0, (x6 + 2))) else some (.inl (1, (x6 + 2))))))) else some (.inr x4))
set_option maxRecDepth 100000 in
set_option maxHeartbeats 4000000 in
theorem t_X7_join_B103 {g : Gx} {l : Launch} {V : VT} {Rt : Option Value → MH → Prop} (o : Ok g l RX7 cX7_join 9 3 63 0 V) (rr : ORi cX7_join V Rt) (h : MH) (x1 : Int32) (x3 : Int32) (x4 : Int32) (x5 : Int32) (x6 : Int32) : T (Sum.elim (fun s => V 103 [(0, rA g 64), (1, .int x1), (3, .int x3), (4, .int s.1), (5, .int x5), (6, .int s.2)] [] h) (fun b => V 145 [(0, rA g 64), (1, .int x1), (3, .int x3), (4, .int b), (5, .int x5)] [] h)) (f_X7_join_B103  h x1 x3 x4 x5 x6) (V 103 [(0, rA g 64), (1, .int x1), (3, .int x3), (4, .int x4), (5, .int x5), (6, .int x6)] [] h) := by
  unfold f_X7_join_B103
  refine R_iload o 5 dX7_join_103 rfl ?_
  refine R_iload o 4 dX7_join_105 rfl ?_
  refine R_icmp_ge o 145 dX7_join_107 (by decide) ?_ ?_
  · refine R_iload o 3 dX7_join_110 rfl ?_
    refine R_if_eq o 136 dX7_join_112 (by decide) ?_ ?_
    · refine R_iconst (v := 0) o dX7_join_136 (by decide) ?_
      refine R_istore (lv2 := [(0, rA g 64), (1, .int x1), (3, .int x3), (4, .int 0), (5, .int x5), (6, .int x6)]) o dX7_join_137 (by decide) rfl ?_
      refine R_iinc (v := (x6 + 2)) (lv2 := [(0, rA g 64), (1, .int x1), (3, .int x3), (4, .int 0), (5, .int x5), (6, .int (x6 + 2))]) o 5 dX7_join_139 rfl rfl (by decide) rfl ?_
      refine R_goto o 103 dX7_join_142 (by decide) ?_
      exact T_some (fun p => p)
    · refine R_aload_n o 0 dX7_join_115 rfl rfl ?_
      refine R_iload_n o 1 dX7_join_116 rfl rfl ?_
      refine R_iload o 4 dX7_join_117 rfl ?_
      refine K_i (callV' (As := [.int x1, .int x5]) (rest := []) o dX7_join_119 lk_X7_110 rfl sh_64 rfl rfl rfl rfl (Nat.le_of_ble_eq_true rfl)) (c_X7_rowAt g l h x1 x5) (fun r119 => ?_)
      refine R_aload_n o 0 dX7_join_122 rfl rfl ?_
      refine R_iload_n o 1 dX7_join_123 rfl rfl ?_
      refine R_iload o 5 dX7_join_124 rfl ?_
      refine K_i (callV' (As := [.int x1, .int x6]) (rest := [.int r119]) o dX7_join_126 lk_X7_110 rfl sh_64 rfl rfl rfl rfl (Nat.le_of_ble_eq_true rfl)) (c_X7_rowAt g l h x1 x6) (fun r126 => ?_)
      refine R_icmp_eq o 136 dX7_join_129 (by decide) ?_ ?_
      · refine R_iconst (v := 0) o dX7_join_136 (by decide) ?_
        refine R_istore (lv2 := [(0, rA g 64), (1, .int x1), (3, .int x3), (4, .int 0), (5, .int x5), (6, .int x6)]) o dX7_join_137 (by decide) rfl ?_
        refine R_iinc (v := (x6 + 2)) (lv2 := [(0, rA g 64), (1, .int x1), (3, .int x3), (4, .int 0), (5, .int x5), (6, .int (x6 + 2))]) o 5 dX7_join_139 rfl rfl (by decide) rfl ?_
        refine R_goto o 103 dX7_join_142 (by decide) ?_
        exact T_some (fun p => p)
      · refine R_iconst (v := 1) o dX7_join_132 (by decide) ?_
        refine R_goto o 137 dX7_join_133 (by decide) ?_
        refine R_istore (lv2 := [(0, rA g 64), (1, .int x1), (3, .int x3), (4, .int 1), (5, .int x5), (6, .int x6)]) o dX7_join_137 (by decide) rfl ?_
        refine R_iinc (v := (x6 + 2)) (lv2 := [(0, rA g 64), (1, .int x1), (3, .int x3), (4, .int 1), (5, .int x5), (6, .int (x6 + 2))]) o 5 dX7_join_139 rfl rfl (by decide) rfl ?_
        refine R_goto o 103 dX7_join_142 (by decide) ?_
        exact T_some (fun p => p)
  · refine R_drop (lv2 := [(0, rA g 64), (1, .int x1), (3, .int x3), (4, .int x4), (5, .int x5)]) o [0, 1, 2, 3, 4] rfl ?_
    exact T_some (fun p => p)
noncomputable def f_X7_join_L103 (h : MH) (x1 : Int32) (x3 : Int32) (x4 : Int32) (x5 : Int32) (x6 : Int32) : Option (Int32) :=
  lpo (fun s : Int32 × Int32 => f_X7_join_B103 h x1 x3 s.1 x5 s.2) (x4, x6)
theorem t_X7_join_L103 {g : Gx} {l : Launch} {V : VT} {Rt : Option Value → MH → Prop} (o : Ok g l RX7 cX7_join 9 3 63 0 V) (rr : ORi cX7_join V Rt) (h : MH) (x1 : Int32) (x3 : Int32) (x4 : Int32) (x5 : Int32) (x6 : Int32) : T (fun b => V 145 [(0, rA g 64), (1, .int x1), (3, .int x3), (4, .int b), (5, .int x5)] [] h) (f_X7_join_L103 h x1 x3 x4 x5 x6) (V 103 [(0, rA g 64), (1, .int x1), (3, .int x3), (4, .int x4), (5, .int x5), (6, .int x6)] [] h) := T_loop (head := fun s : Int32 × Int32 => V 103 [(0, rA g 64), (1, .int x1), (3, .int x3), (4, .int s.1), (5, .int x5), (6, .int s.2)] [] h) (fun s => t_X7_join_B103 o rr h x1 x3 s.1 x5 s.2 ) (x4, x6)
noncomputable def f_X7_join_J98_47 (h : MH) (x1 : Int32) (x3 : Int32) (x5 : Int32) (s0 : Int32) : Option ((Int32 × Int32) ⊕ (Int32)) :=
  Option.bind (f_X7_join_L103 h x1 x3 s0 x5 0) (fun b103 => some (.inl (b103, (x5 + 2))))
set_option maxRecDepth 100000 in
set_option maxHeartbeats 4000000 in
theorem t_X7_join_J98_47 {g : Gx} {l : Launch} {V : VT} {Rt : Option Value → MH → Prop} (o : Ok g l RX7 cX7_join 9 3 63 0 V) (rr : ORi cX7_join V Rt) (h : MH) (x1 : Int32) (x3 : Int32) (x5 : Int32) (s0 : Int32) : T (Sum.elim (fun s => V 47 [(0, rA g 64), (1, .int x1), (3, .int x3), (4, .int s.1), (5, .int s.2)] [] h) (fun b => V 151 [(0, rA g 64), (1, .int x1), (3, .int x3), (4, .int b)] [] h)) (f_X7_join_J98_47  h x1 x3 x5 s0) (V 98 [(0, rA g 64), (1, .int x1), (3, .int x3), (5, .int x5)] [.int s0] h) := by
  unfold f_X7_join_J98_47
  refine R_istore (lv2 := [(0, rA g 64), (1, .int x1), (3, .int x3), (4, .int s0), (5, .int x5)]) o dX7_join_98 (by decide) rfl ?_
  refine R_iconst (v := 0) o dX7_join_100 (by decide) ?_
  refine R_istore (lv2 := [(0, rA g 64), (1, .int x1), (3, .int x3), (4, .int s0), (5, .int x5), (6, .int 0)]) o dX7_join_101 (by decide) rfl ?_
  refine T_bind (t_X7_join_L103 o rr h x1 x3 s0 x5 0) (fun b103 => ?_)
  refine R_iinc (v := (x5 + 2)) (lv2 := [(0, rA g 64), (1, .int x1), (3, .int x3), (4, .int b103), (5, .int (x5 + 2))]) o 4 dX7_join_145 rfl rfl (by decide) rfl ?_
  refine R_goto o 47 dX7_join_148 (by decide) ?_
  exact T_some (fun p => p)
noncomputable def f_X7_join_J97_47 (h : MH) (x1 : Int32) (x3 : Int32) (x5 : Int32) : Option ((Int32 × Int32) ⊕ (Int32)) :=
  f_X7_join_J98_47 h x1 x3 x5 0
set_option maxRecDepth 100000 in
set_option maxHeartbeats 4000000 in
theorem t_X7_join_J97_47 {g : Gx} {l : Launch} {V : VT} {Rt : Option Value → MH → Prop} (o : Ok g l RX7 cX7_join 9 3 63 0 V) (rr : ORi cX7_join V Rt) (h : MH) (x1 : Int32) (x3 : Int32) (x5 : Int32) : T (Sum.elim (fun s => V 47 [(0, rA g 64), (1, .int x1), (3, .int x3), (4, .int s.1), (5, .int s.2)] [] h) (fun b => V 151 [(0, rA g 64), (1, .int x1), (3, .int x3), (4, .int b)] [] h)) (f_X7_join_J97_47  h x1 x3 x5) (V 97 [(0, rA g 64), (1, .int x1), (3, .int x3), (5, .int x5)] [] h) := by
  unfold f_X7_join_J97_47
  refine R_iconst (v := 0) o dX7_join_97 (by decide) ?_
  exact t_X7_join_J98_47 o rr h x1 x3 x5 0
noncomputable def f_X7_join_B47 (h : MH) (x1 : Int32) (x3 : Int32) (x4 : Int32) (x5 : Int32) : Option ((Int32 × Int32) ⊕ (Int32)) :=
  (if x5 < x3 then (if x4 = 0 then f_X7_join_J97_47 h x1 x3 x5 else Option.bind (f_X7_rowAt h x1 x5) (fun r62 => Option.bind (f_X7_in r62 1 10) (fun r68 => (if r68 = true then Option.bind (f_X7_rowAt h x1 (x5 + 1)) (fun r80 => Option.bind (f_X7_in r80 0 250) (fun r87 => (if r87 = true then f_X7_join_J98_47 h x1 x3 x5 1 else f_X7_join_J97_47 h x1 x3 x5))) else f_X7_join_J97_47 h x1 x3 x5)))) else some (.inr x4))
set_option maxRecDepth 100000 in
set_option maxHeartbeats 4000000 in
theorem t_X7_join_B47 {g : Gx} {l : Launch} {V : VT} {Rt : Option Value → MH → Prop} (o : Ok g l RX7 cX7_join 9 3 63 0 V) (rr : ORi cX7_join V Rt) (h : MH) (x1 : Int32) (x3 : Int32) (x4 : Int32) (x5 : Int32) : T (Sum.elim (fun s => V 47 [(0, rA g 64), (1, .int x1), (3, .int x3), (4, .int s.1), (5, .int s.2)] [] h) (fun b => V 151 [(0, rA g 64), (1, .int x1), (3, .int x3), (4, .int b)] [] h)) (f_X7_join_B47  h x1 x3 x4 x5) (V 47 [(0, rA g 64), (1, .int x1), (3, .int x3), (4, .int x4), (5, .int x5)] [] h) := by
  unfold f_X7_join_B47
  refine R_iload o 4 dX7_join_47 rfl ?_
  refine R_iload_n o 2 dX7_join_49 rfl rfl ?_
  refine R_icmp_ge o 151 dX7_join_50 (by decide) ?_ ?_
  · refine R_iload o 3 dX7_join_53 rfl ?_
    refine R_if_eq o 97 dX7_join_55 (by decide) ?_ ?_
    · refine R_drop (lv2 := [(0, rA g 64), (1, .int x1), (3, .int x3), (5, .int x5)]) o [0, 1, 2, 4] rfl ?_
      exact t_X7_join_J97_47 o rr h x1 x3 x5
    · refine R_aload_n o 0 dX7_join_58 rfl rfl ?_
      refine R_iload_n o 1 dX7_join_59 rfl rfl ?_
      refine R_iload o 4 dX7_join_60 rfl ?_
      refine K_i (callV' (As := [.int x1, .int x5]) (rest := []) o dX7_join_62 lk_X7_110 rfl sh_64 rfl rfl rfl rfl (Nat.le_of_ble_eq_true rfl)) (c_X7_rowAt g l h x1 x5) (fun r62 => ?_)
      refine R_iconst (v := 1) o dX7_join_65 (by decide) ?_
      refine R_bipush (v := 10) o dX7_join_66 (by decide) ?_
      refine K_z (callS' (av := [.int r62, .int 1, .int 10]) (rest := []) o dX7_join_68 lk_X7_92 rfl rfl rfl (Nat.le_of_ble_eq_true rfl)) (c_X7_in g l h r62 1 10) (fun r68 => ?_)
      refine R_bif_eq o 97 dX7_join_71 (by decide) ?_ ?_
      · refine R_aload_n o 0 dX7_join_74 rfl rfl ?_
        refine R_iload_n o 1 dX7_join_75 rfl rfl ?_
        refine R_iload o 4 dX7_join_76 rfl ?_
        refine R_iconst (v := 1) o dX7_join_78 (by decide) ?_
        refine R_iadd o dX7_join_79 ?_
        refine K_i (callV' (As := [.int x1, .int (x5 + 1)]) (rest := []) o dX7_join_80 lk_X7_110 rfl sh_64 rfl rfl rfl rfl (Nat.le_of_ble_eq_true rfl)) (c_X7_rowAt g l h x1 (x5 + 1)) (fun r80 => ?_)
        refine R_iconst (v := 0) o dX7_join_83 (by decide) ?_
        refine R_sipush (v := 250) o dX7_join_84 (by decide) ?_
        refine K_z (callS' (av := [.int r80, .int 0, .int 250]) (rest := []) o dX7_join_87 lk_X7_92 rfl rfl rfl (Nat.le_of_ble_eq_true rfl)) (c_X7_in g l h r80 0 250) (fun r87 => ?_)
        refine R_bif_eq o 97 dX7_join_90 (by decide) ?_ ?_
        · refine R_iconst (v := 1) o dX7_join_93 (by decide) ?_
          refine R_goto o 98 dX7_join_94 (by decide) ?_
          refine R_drop (lv2 := [(0, rA g 64), (1, .int x1), (3, .int x3), (5, .int x5)]) o [0, 1, 2, 4] rfl ?_
          exact t_X7_join_J98_47 o rr h x1 x3 x5 1
        · refine R_drop (lv2 := [(0, rA g 64), (1, .int x1), (3, .int x3), (5, .int x5)]) o [0, 1, 2, 4] rfl ?_
          exact t_X7_join_J97_47 o rr h x1 x3 x5
      · refine R_drop (lv2 := [(0, rA g 64), (1, .int x1), (3, .int x3), (5, .int x5)]) o [0, 1, 2, 4] rfl ?_
        exact t_X7_join_J97_47 o rr h x1 x3 x5
  · refine R_drop (lv2 := [(0, rA g 64), (1, .int x1), (3, .int x3), (4, .int x4)]) o [0, 1, 2, 3] rfl ?_
    exact T_some (fun p => p)
noncomputable def f_X7_join_L47 (h : MH) (x1 : Int32) (x3 : Int32) (x4 : Int32) (x5 : Int32) : Option (Int32) :=
  lpo (fun s : Int32 × Int32 => f_X7_join_B47 h x1 x3 s.1 s.2) (x4, x5)
theorem t_X7_join_L47 {g : Gx} {l : Launch} {V : VT} {Rt : Option Value → MH → Prop} (o : Ok g l RX7 cX7_join 9 3 63 0 V) (rr : ORi cX7_join V Rt) (h : MH) (x1 : Int32) (x3 : Int32) (x4 : Int32) (x5 : Int32) : T (fun b => V 151 [(0, rA g 64), (1, .int x1), (3, .int x3), (4, .int b)] [] h) (f_X7_join_L47 h x1 x3 x4 x5) (V 47 [(0, rA g 64), (1, .int x1), (3, .int x3), (4, .int x4), (5, .int x5)] [] h) := T_loop (head := fun s : Int32 × Int32 => V 47 [(0, rA g 64), (1, .int x1), (3, .int x3), (4, .int s.1), (5, .int s.2)] [] h) (fun s => t_X7_join_B47 o rr h x1 x3 s.1 s.2 ) (x4, x5)
noncomputable def f_X7_join_B188 (h : MH) (x1 : Int32) (x3 : Int32) (x5 : Int32) (x6 : Int32) (x7 : Int32) (x8 : Int32) : Option ((Int32 × Int32) ⊕ (Int32)) :=
  (if x8 < x3 then (if x8 = x6 then some (.inl (x7, (x8 + 2))) else Option.bind (f_X7_rowAt h x1 x8) (fun r207 => Option.bind (f_X7_rowAt h x1 x8) (fun r219 => Option.bind (f_X7_rowAt h x1 x6) (fun r226 => Option.bind (f_X7_inverse (irm ((r219 - r226) + 251) 251)) (fun r238 => nm (irm ((irm (x7 * r207) 251) * r238) 251) (fun v246 => some (.inl (v246, (x8 + 2))))))))) else some (.inr x7))
set_option maxRecDepth 100000 in
set_option maxHeartbeats 4000000 in
theorem t_X7_join_B188 {g : Gx} {l : Launch} {V : VT} {Rt : Option Value → MH → Prop} (o : Ok g l RX7 cX7_join 9 3 63 0 V) (rr : ORi cX7_join V Rt) (h : MH) (x1 : Int32) (x3 : Int32) (x5 : Int32) (x6 : Int32) (x7 : Int32) (x8 : Int32) : T (Sum.elim (fun s => V 188 [(0, rA g 64), (1, .int x1), (3, .int x3), (5, .int x5), (6, .int x6), (7, .int s.1), (8, .int s.2)] [] h) (fun b => V 254 [(0, rA g 64), (1, .int x1), (3, .int x3), (5, .int x5), (6, .int x6), (7, .int b)] [] h)) (f_X7_join_B188  h x1 x3 x5 x6 x7 x8) (V 188 [(0, rA g 64), (1, .int x1), (3, .int x3), (5, .int x5), (6, .int x6), (7, .int x7), (8, .int x8)] [] h) := by
  unfold f_X7_join_B188
  refine R_iload o 6 dX7_join_188 rfl ?_
  refine R_iload_n o 2 dX7_join_190 rfl rfl ?_
  refine R_icmp_ge o 254 dX7_join_191 (by decide) ?_ ?_
  · refine R_iload o 6 dX7_join_194 rfl ?_
    refine R_iload o 4 dX7_join_196 rfl ?_
    refine R_icmp_eq o 248 dX7_join_198 (by decide) ?_ ?_
    · refine R_iinc (v := (x8 + 2)) (lv2 := [(0, rA g 64), (1, .int x1), (3, .int x3), (5, .int x5), (6, .int x6), (7, .int x7), (8, .int (x8 + 2))]) o 6 dX7_join_248 rfl rfl (by decide) rfl ?_
      refine R_goto o 188 dX7_join_251 (by decide) ?_
      exact T_some (fun p => p)
    · refine R_iload o 5 dX7_join_201 rfl ?_
      refine R_aload_n o 0 dX7_join_203 rfl rfl ?_
      refine R_iload_n o 1 dX7_join_204 rfl rfl ?_
      refine R_iload o 6 dX7_join_205 rfl ?_
      refine K_i (callV' (As := [.int x1, .int x8]) (rest := [.int x7]) o dX7_join_207 lk_X7_110 rfl sh_64 rfl rfl rfl rfl (Nat.le_of_ble_eq_true rfl)) (c_X7_rowAt g l h x1 x8) (fun r207 => ?_)
      refine R_imul o dX7_join_210 ?_
      refine R_sipush (v := 251) o dX7_join_211 (by decide) ?_
      refine R_irem_c o dX7_join_214 (by decide) ?_
      refine R_aload_n o 0 dX7_join_215 rfl rfl ?_
      refine R_iload_n o 1 dX7_join_216 rfl rfl ?_
      refine R_iload o 6 dX7_join_217 rfl ?_
      refine K_i (callV' (As := [.int x1, .int x8]) (rest := [.int (irm (x7 * r207) 251)]) o dX7_join_219 lk_X7_110 rfl sh_64 rfl rfl rfl rfl (Nat.le_of_ble_eq_true rfl)) (c_X7_rowAt g l h x1 x8) (fun r219 => ?_)
      refine R_aload_n o 0 dX7_join_222 rfl rfl ?_
      refine R_iload_n o 1 dX7_join_223 rfl rfl ?_
      refine R_iload o 4 dX7_join_224 rfl ?_
      refine K_i (callV' (As := [.int x1, .int x6]) (rest := [.int r219, .int (irm (x7 * r207) 251)]) o dX7_join_226 lk_X7_110 rfl sh_64 rfl rfl rfl rfl (Nat.le_of_ble_eq_true rfl)) (c_X7_rowAt g l h x1 x6) (fun r226 => ?_)
      refine R_isub o dX7_join_229 ?_
      refine R_sipush (v := 251) o dX7_join_230 (by decide) ?_
      refine R_iadd o dX7_join_233 ?_
      refine R_sipush (v := 251) o dX7_join_234 (by decide) ?_
      refine R_irem_c o dX7_join_237 (by decide) ?_
      refine K_i (callS' (av := [.int (irm ((r219 - r226) + 251) 251)]) (rest := [.int (irm (x7 * r207) 251)]) o dX7_join_238 lk_X7_233 rfl rfl rfl (Nat.le_of_ble_eq_true rfl)) (c_X7_inverse g l h (irm ((r219 - r226) + 251) 251)) (fun r238 => ?_)
      refine R_imul o dX7_join_241 ?_
      refine R_sipush (v := 251) o dX7_join_242 (by decide) ?_
      refine R_irem_c o dX7_join_245 (by decide) ?_
      refine R_nmI (fun v246 => ?_)
      refine R_istore (lv2 := [(0, rA g 64), (1, .int x1), (3, .int x3), (5, .int x5), (6, .int x6), (7, .int v246), (8, .int x8)]) o dX7_join_246 (by decide) rfl ?_
      refine R_iinc (v := (x8 + 2)) (lv2 := [(0, rA g 64), (1, .int x1), (3, .int x3), (5, .int x5), (6, .int x6), (7, .int v246), (8, .int (x8 + 2))]) o 6 dX7_join_248 rfl rfl (by decide) rfl ?_
      refine R_goto o 188 dX7_join_251 (by decide) ?_
      exact T_some (fun p => p)
  · refine R_drop (lv2 := [(0, rA g 64), (1, .int x1), (3, .int x3), (5, .int x5), (6, .int x6), (7, .int x7)]) o [0, 1, 2, 3, 4, 5] rfl ?_
    exact T_some (fun p => p)
noncomputable def f_X7_join_L188 (h : MH) (x1 : Int32) (x3 : Int32) (x5 : Int32) (x6 : Int32) (x7 : Int32) (x8 : Int32) : Option (Int32) :=
  lpo (fun s : Int32 × Int32 => f_X7_join_B188 h x1 x3 x5 x6 s.1 s.2) (x7, x8)
theorem t_X7_join_L188 {g : Gx} {l : Launch} {V : VT} {Rt : Option Value → MH → Prop} (o : Ok g l RX7 cX7_join 9 3 63 0 V) (rr : ORi cX7_join V Rt) (h : MH) (x1 : Int32) (x3 : Int32) (x5 : Int32) (x6 : Int32) (x7 : Int32) (x8 : Int32) : T (fun b => V 254 [(0, rA g 64), (1, .int x1), (3, .int x3), (5, .int x5), (6, .int x6), (7, .int b)] [] h) (f_X7_join_L188 h x1 x3 x5 x6 x7 x8) (V 188 [(0, rA g 64), (1, .int x1), (3, .int x3), (5, .int x5), (6, .int x6), (7, .int x7), (8, .int x8)] [] h) := T_loop (head := fun s : Int32 × Int32 => V 188 [(0, rA g 64), (1, .int x1), (3, .int x3), (5, .int x5), (6, .int x6), (7, .int s.1), (8, .int s.2)] [] h) (fun s => t_X7_join_B188 o rr h x1 x3 x5 x6 s.1 s.2 ) (x7, x8)
noncomputable def f_X7_join_B168 (h : MH) (x1 : Int32) (x3 : Int32) (x5 : Int32) (x6 : Int32) : Option ((Int32 × Int32) ⊕ (Int32)) :=
  (if x6 < x3 then Option.bind (f_X7_rowAt h x1 (x6 + 1)) (fun r180 => Option.bind (f_X7_join_L188 h x1 x3 x5 x6 r180 0) (fun b188 => nm (irm (x5 + b188) 251) (fun v263 => some (.inl (v263, (x6 + 2)))))) else some (.inr x5))
set_option maxRecDepth 100000 in
set_option maxHeartbeats 4000000 in
theorem t_X7_join_B168 {g : Gx} {l : Launch} {V : VT} {Rt : Option Value → MH → Prop} (o : Ok g l RX7 cX7_join 9 3 63 0 V) (rr : ORi cX7_join V Rt) (h : MH) (x1 : Int32) (x3 : Int32) (x5 : Int32) (x6 : Int32) : T (Sum.elim (fun s => V 168 [(0, rA g 64), (1, .int x1), (3, .int x3), (5, .int s.1), (6, .int s.2)] [] h) (fun b => V 271 [(5, .int b)] [] h)) (f_X7_join_B168  h x1 x3 x5 x6) (V 168 [(0, rA g 64), (1, .int x1), (3, .int x3), (5, .int x5), (6, .int x6)] [] h) := by
  unfold f_X7_join_B168
  refine R_iload o 4 dX7_join_168 rfl ?_
  refine R_iload_n o 2 dX7_join_170 rfl rfl ?_
  refine R_icmp_ge o 271 dX7_join_171 (by decide) ?_ ?_
  · refine R_aload_n o 0 dX7_join_174 rfl rfl ?_
    refine R_iload_n o 1 dX7_join_175 rfl rfl ?_
    refine R_iload o 4 dX7_join_176 rfl ?_
    refine R_iconst (v := 1) o dX7_join_178 (by decide) ?_
    refine R_iadd o dX7_join_179 ?_
    refine K_i (callV' (As := [.int x1, .int (x6 + 1)]) (rest := []) o dX7_join_180 lk_X7_110 rfl sh_64 rfl rfl rfl rfl (Nat.le_of_ble_eq_true rfl)) (c_X7_rowAt g l h x1 (x6 + 1)) (fun r180 => ?_)
    refine R_istore (lv2 := [(0, rA g 64), (1, .int x1), (3, .int x3), (5, .int x5), (6, .int x6), (7, .int r180)]) o dX7_join_183 (by decide) rfl ?_
    refine R_iconst (v := 0) o dX7_join_185 (by decide) ?_
    refine R_istore (lv2 := [(0, rA g 64), (1, .int x1), (3, .int x3), (5, .int x5), (6, .int x6), (7, .int r180), (8, .int 0)]) o dX7_join_186 (by decide) rfl ?_
    refine T_bind (t_X7_join_L188 o rr h x1 x3 x5 x6 r180 0) (fun b188 => ?_)
    refine R_iload o 3 dX7_join_254 rfl ?_
    refine R_iload o 5 dX7_join_256 rfl ?_
    refine R_iadd o dX7_join_258 ?_
    refine R_sipush (v := 251) o dX7_join_259 (by decide) ?_
    refine R_irem_c o dX7_join_262 (by decide) ?_
    refine R_nmI (fun v263 => ?_)
    refine R_istore (lv2 := [(0, rA g 64), (1, .int x1), (3, .int x3), (5, .int v263), (6, .int x6), (7, .int b188)]) o dX7_join_263 (by decide) rfl ?_
    refine R_iinc (v := (x6 + 2)) (lv2 := [(0, rA g 64), (1, .int x1), (3, .int x3), (5, .int v263), (6, .int (x6 + 2)), (7, .int b188)]) o 4 dX7_join_265 rfl rfl (by decide) rfl ?_
    refine R_goto o 168 dX7_join_268 (by decide) ?_
    refine R_drop (lv2 := [(0, rA g 64), (1, .int x1), (3, .int x3), (5, .int v263), (6, .int (x6 + 2))]) o [0, 1, 2, 3, 4] rfl ?_
    exact T_some (fun p => p)
  · refine R_drop (lv2 := [(5, .int x5)]) o [3] rfl ?_
    exact T_some (fun p => p)
noncomputable def f_X7_join_L168 (h : MH) (x1 : Int32) (x3 : Int32) (x5 : Int32) (x6 : Int32) : Option (Int32) :=
  lpo (fun s : Int32 × Int32 => f_X7_join_B168 h x1 x3 s.1 s.2) (x5, x6)
theorem t_X7_join_L168 {g : Gx} {l : Launch} {V : VT} {Rt : Option Value → MH → Prop} (o : Ok g l RX7 cX7_join 9 3 63 0 V) (rr : ORi cX7_join V Rt) (h : MH) (x1 : Int32) (x3 : Int32) (x5 : Int32) (x6 : Int32) : T (fun b => V 271 [(5, .int b)] [] h) (f_X7_join_L168 h x1 x3 x5 x6) (V 168 [(0, rA g 64), (1, .int x1), (3, .int x3), (5, .int x5), (6, .int x6)] [] h) := T_loop (head := fun s : Int32 × Int32 => V 168 [(0, rA g 64), (1, .int x1), (3, .int x3), (5, .int s.1), (6, .int s.2)] [] h) (fun s => t_X7_join_B168 o rr h x1 x3 s.1 s.2 ) (x5, x6)
noncomputable def f_X7_join (h : MH) (x1 : Int32) : Option (Int32 × MH) :=
  bnd2 (f_X7_askedRow h x1) (fun r2 h2 => (if r2 < 0 then some (r2, h2) else gd (ix x1 6) (nm (h2.1 66 x1.toNatClampNeg) (fun v18 => (if (irm v18 2) = 0 then Option.bind (f_X7_in v18 2 10) (fun r29 => (if r29 = true then Option.bind (f_X7_join_L47 h2 x1 v18 1 0) (fun b47 => (if b47 = 0 then bnd2 (f_X7_meets h2 3) (fun r158 h158 => some (r158, h158)) else Option.bind (f_X7_join_L168 h2 x1 v18 0 0) (fun b168 => some (b168, h2)))) else bnd2 (f_X7_meets h2 5) (fun r37 h37 => some (r37, h37)))) else bnd2 (f_X7_meets h2 5) (fun r37 h37 => some (r37, h37)))))))
set_option maxRecDepth 100000 in
set_option maxHeartbeats 4000000 in
theorem b_X7_join {g : Gx} {l : Launch} {V : VT} {Rt : Option Value → MH → Prop} (o : Ok g l RX7 cX7_join 9 3 63 0 V) (rr : ORi cX7_join V Rt) (h : MH) (x1 : Int32) : T (fun r => Rt (some (.int r.1)) r.2) (f_X7_join h x1) (V 0 [(0, rA g 64), (1, .int x1)] [] h) := by
  unfold f_X7_join
  refine R_aload_n o 0 dX7_join_0 rfl rfl ?_
  refine R_iload_n o 1 dX7_join_1 rfl rfl ?_
  refine K_ih (callV' (As := [.int x1]) (rest := []) o dX7_join_2 lk_X7_107 rfl sh_64 rfl rfl rfl rfl (Nat.le_of_ble_eq_true rfl)) (c_X7_askedRow g l h x1) (fun r2 h2 => ?_)
  refine R_istore_n (lv2 := [(0, rA g 64), (1, .int x1), (2, .int r2)]) o dX7_join_5 rfl (by decide) rfl ?_
  refine R_iload_n o 2 dX7_join_6 rfl rfl ?_
  refine R_if_ge o 12 dX7_join_7 (by decide) ?_ ?_
  · refine R_iload_n o 2 dX7_join_10 rfl rfl ?_
    exact T_some (fun p => rr _ _ _ _ dX7_join_11 p)
  · refine R_aload_n o 0 dX7_join_12 rfl rfl ?_
    refine R_getR (a2 := 66) o dX7_join_13 fl_X7_17 sh_64 (by decide) rfl rf_64_5 ?_
    refine R_iload_n o 1 dX7_join_16 rfl rfl ?_
    refine R_iald o dX7_join_17 sh_66 ?_
    refine R_nmI (fun v18 => ?_)
    refine R_istore_n (lv2 := [(0, rA g 64), (1, .int x1), (2, .int r2), (3, .int v18)]) o dX7_join_18 rfl (by decide) rfl ?_
    refine R_iload_n o 3 dX7_join_19 rfl rfl ?_
    refine R_iconst (v := 2) o dX7_join_20 (by decide) ?_
    refine R_irem_c o dX7_join_21 (by decide) ?_
    refine R_if_ne o 35 dX7_join_22 (by decide) ?_ ?_
    · refine R_iload_n o 3 dX7_join_25 rfl rfl ?_
      refine R_iconst (v := 2) o dX7_join_26 (by decide) ?_
      refine R_bipush (v := 10) o dX7_join_27 (by decide) ?_
      refine K_z (callS' (av := [.int v18, .int 2, .int 10]) (rest := []) o dX7_join_29 lk_X7_92 rfl rfl rfl (Nat.le_of_ble_eq_true rfl)) (c_X7_in g l h2 v18 2 10) (fun r29 => ?_)
      refine R_bif_ne o 41 dX7_join_32 (by decide) ?_ ?_
      · refine R_iconst (v := 1) o dX7_join_41 (by decide) ?_
        refine R_istore (lv2 := [(0, rA g 64), (1, .int x1), (2, .int r2), (3, .int v18), (4, .int 1)]) o dX7_join_42 (by decide) rfl ?_
        refine R_iconst (v := 0) o dX7_join_44 (by decide) ?_
        refine R_istore (lv2 := [(0, rA g 64), (1, .int x1), (2, .int r2), (3, .int v18), (4, .int 1), (5, .int 0)]) o dX7_join_45 (by decide) rfl ?_
        refine R_drop (lv2 := [(0, rA g 64), (1, .int x1), (3, .int v18), (4, .int 1), (5, .int 0)]) o [0, 1, 3, 4, 5] rfl ?_
        refine T_bind (t_X7_join_L47 o rr h2 x1 v18 1 0) (fun b47 => ?_)
        refine R_iload o 3 dX7_join_151 rfl ?_
        refine R_if_ne o 162 dX7_join_153 (by decide) ?_ ?_
        · refine R_aload_n o 0 dX7_join_156 rfl rfl ?_
          refine R_iconst (v := 3) o dX7_join_157 (by decide) ?_
          refine K_ih (callV' (As := [.int 3]) (rest := []) o dX7_join_158 lk_X7_100 rfl sh_64 rfl rfl rfl rfl (Nat.le_of_ble_eq_true rfl)) (c_X7_meets g l h2 3) (fun r158 h158 => ?_)
          exact T_some (fun p => rr _ _ _ _ dX7_join_161 p)
        · refine R_iconst (v := 0) o dX7_join_162 (by decide) ?_
          refine R_istore (lv2 := [(0, rA g 64), (1, .int x1), (3, .int v18), (4, .int b47), (5, .int 0)]) o dX7_join_163 (by decide) rfl ?_
          refine R_iconst (v := 0) o dX7_join_165 (by decide) ?_
          refine R_istore (lv2 := [(0, rA g 64), (1, .int x1), (3, .int v18), (4, .int b47), (5, .int 0), (6, .int 0)]) o dX7_join_166 (by decide) rfl ?_
          refine R_drop (lv2 := [(0, rA g 64), (1, .int x1), (3, .int v18), (5, .int 0), (6, .int 0)]) o [0, 1, 2, 4, 5] rfl ?_
          refine T_bind (t_X7_join_L168 o rr h2 x1 v18 0 0) (fun b168 => ?_)
          refine R_iload o 0 dX7_join_271 rfl ?_
          exact T_some (fun p => rr _ _ _ _ dX7_join_273 p)
      · refine R_aload_n o 0 dX7_join_35 rfl rfl ?_
        refine R_iconst (v := 5) o dX7_join_36 (by decide) ?_
        refine K_ih (callV' (As := [.int 5]) (rest := []) o dX7_join_37 lk_X7_100 rfl sh_64 rfl rfl rfl rfl (Nat.le_of_ble_eq_true rfl)) (c_X7_meets g l h2 5) (fun r37 h37 => ?_)
        exact T_some (fun p => rr _ _ _ _ dX7_join_40 p)
    · refine R_aload_n o 0 dX7_join_35 rfl rfl ?_
      refine R_iconst (v := 5) o dX7_join_36 (by decide) ?_
      refine K_ih (callV' (As := [.int 5]) (rest := []) o dX7_join_37 lk_X7_100 rfl sh_64 rfl rfl rfl rfl (Nat.le_of_ble_eq_true rfl)) (c_X7_meets g l h2 5) (fun r37 h37 => ?_)
      exact T_some (fun p => rr _ _ _ _ dX7_join_40 p)
theorem c_X7_join (g : Gx) (l : Launch) (h : MH) (x1 : Int32) (r : (Int32 × MH)) (e : f_X7_join h x1 = some r) : Ctr g l yX7_join cX7_join 9 (some .int) 3 63 0 [rA g 64, .int x1] h (some (.int r.1)) r.2 := mkCi (plainFor_of_name (by decide)) (Nat.le_of_ble_eq_true rfl) (fun V Rt o rr p => b_X7_join o rr h x1  r e p)
