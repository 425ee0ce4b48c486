noncomputable def f_L_law_J248_18 (xs : Nat → Int32) (L : Nat) (h : MH) (x3 : Int32) : Option ((Int32 × MH) ⊕ (MH ⊕ Bool)) :=
  gd (ix (x3 + 1) L) (gd (ix (x3 + 2) L) (bnd2 (f_X6_row h (xs (x3 + 1).toNatClampNeg) (xs (x3 + 2).toNatClampNeg)) (fun r259 h259 => gd (ix (x3 + 1) L) (gd (ix (x3 + 2) L) (bnd2 (f_X7_row h259 (xs (x3 + 1).toNatClampNeg) (xs (x3 + 2).toNatClampNeg)) (fun r273 h273 => (if r259 = r273 then some (.inl ((x3 + 6), h273)) else some (.inr (.inr false)))))))))
set_option maxRecDepth 100000 in
set_option maxHeartbeats 4000000 in
theorem t_L_law_J248_18 {g : Gx} {l : Launch} {V V1 : VT} {b L : Nat} {xs : Nat → Int32} {ce sl : Nat} (oP : OkLP g l b L xs ce sl V V1) (h : MH) (x3 : Int32) : T (Sum.elim (fun s => V1 18 [(0, .ref b), (1, rA g 0), (2, rA g 64), (3, .int s.1)] [] s.2) (Sum.elim (fun b0 => V 1963 [] [] b0) (fun r => r = true))) (f_L_law_J248_18 xs L  h x3) (V 248 [(0, .ref b), (1, rA g 0), (2, rA g 64), (3, .int x3)] [] h) := by
  have oS := oP.fst
  have oS1 := oP.snd
  have o := oS.ok
  have o1 := oS1.ok
  unfold f_L_law_J248_18
  refine R_aload_n o 1 dL_law_248 rfl rfl ?_
  refine R_aloadS oS 0 dL_law_249 rfl rfl ?_
  refine R_iload_n o 3 dL_law_250 rfl rfl ?_
  refine R_iconst (v := 1) o dL_law_251 (by decide) ?_
  refine R_iadd o dL_law_252 ?_
  refine R_sld oS dL_law_253 ?_
  refine R_aloadS oS 0 dL_law_254 rfl rfl ?_
  refine R_iload_n o 3 dL_law_255 rfl rfl ?_
  refine R_iconst (v := 2) o dL_law_256 (by decide) ?_
  refine R_iadd o dL_law_257 ?_
  refine R_sld oS dL_law_258 ?_
  refine K_ih (callV' (As := [.int (xs (x3 + 1).toNatClampNeg), .int (xs (x3 + 2).toNatClampNeg)]) (rest := []) o dL_law_259 lk_L_13 rfl sh_0 rfl rfl rfl rfl (Nat.le_of_ble_eq_true rfl)) (c_X6_row g l h (xs (x3 + 1).toNatClampNeg) (xs (x3 + 2).toNatClampNeg)) (fun r259 h259 => ?_)
  refine R_aload_n o 2 dL_law_262 rfl rfl ?_
  refine R_aloadS oS 0 dL_law_263 rfl rfl ?_
  refine R_iload_n o 3 dL_law_264 rfl rfl ?_
  refine R_iconst (v := 1) o dL_law_265 (by decide) ?_
  refine R_iadd o dL_law_266 ?_
  refine R_sld oS dL_law_267 ?_
  refine R_aloadS oS 0 dL_law_268 rfl rfl ?_
  refine R_iload_n o 3 dL_law_269 rfl rfl ?_
  refine R_iconst (v := 2) o dL_law_270 (by decide) ?_
  refine R_iadd o dL_law_271 ?_
  refine R_sld oS dL_law_272 ?_
  refine K_ih (callV' (As := [.int (xs (x3 + 1).toNatClampNeg), .int (xs (x3 + 2).toNatClampNeg)]) (rest := [.int r259]) o dL_law_273 lk_L_17 rfl sh_64 rfl rfl rfl rfl (Nat.le_of_ble_eq_true rfl)) (c_X7_row g l h259 (xs (x3 + 1).toNatClampNeg) (xs (x3 + 2).toNatClampNeg)) (fun r273 h273 => ?_)
  refine R_icmp_eq o 1957 dL_law_276 (by decide) ?_ ?_
  · refine R_iinc (v := (x3 + 6)) (lv2 := [(0, .ref b), (1, rA g 0), (2, rA g 64), (3, .int (x3 + 6))]) o 3 dL_law_1957 rfl rfl (by decide) rfl ?_
    refine R_goto o 18 dL_law_1960 (by decide) ?_
    exact T_some (fun p => oP.wide p)
  · refine R_iconst (v := 0) o dL_law_279 (by decide) ?_
    exact T_some (fun p => absurd (show false = true from p) (by decide))
noncomputable def f_L_law_J281_18 (xs : Nat → Int32) (L : Nat) (h : MH) (x3 : Int32) : Option ((Int32 × MH) ⊕ (MH ⊕ Bool)) :=
  gd (ix (x3 + 1) L) (gd (ix (x3 + 2) L) (gd (ix (x3 + 3) L) (bnd2 (f_X6_lay h (xs (x3 + 1).toNatClampNeg) (xs (x3 + 2).toNatClampNeg) (xs (x3 + 3).toNatClampNeg)) (fun r297 h297 => gd (ix (x3 + 1) L) (gd (ix (x3 + 2) L) (gd (ix (x3 + 3) L) (bnd2 (f_X7_lay h297 (xs (x3 + 1).toNatClampNeg) (xs (x3 + 2).toNatClampNeg) (xs (x3 + 3).toNatClampNeg)) (fun r316 h316 => (if r297 = r316 then some (.inl ((x3 + 6), h316)) else some (.inr (.inr false)))))))))))
set_option maxRecDepth 100000 in
set_option maxHeartbeats 4000000 in
theorem t_L_law_J281_18 {g : Gx} {l : Launch} {V V1 : VT} {b L : Nat} {xs : Nat → Int32} {ce sl : Nat} (oP : OkLP g l b L xs ce sl V V1) (h : MH) (x3 : Int32) : T (Sum.elim (fun s => V1 18 [(0, .ref b), (1, rA g 0), (2, rA g 64), (3, .int s.1)] [] s.2) (Sum.elim (fun b0 => V 1963 [] [] b0) (fun r => r = true))) (f_L_law_J281_18 xs L  h x3) (V 281 [(0, .ref b), (1, rA g 0), (2, rA g 64), (3, .int x3)] [] h) := by
  have oS := oP.fst
  have oS1 := oP.snd
  have o := oS.ok
  have o1 := oS1.ok
  unfold f_L_law_J281_18
  refine R_aload_n o 1 dL_law_281 rfl rfl ?_
  refine R_aloadS oS 0 dL_law_282 rfl rfl ?_
  refine R_iload_n o 3 dL_law_283 rfl rfl ?_
  refine R_iconst (v := 1) o dL_law_284 (by decide) ?_
  refine R_iadd o dL_law_285 ?_
  refine R_sld oS dL_law_286 ?_
  refine R_aloadS oS 0 dL_law_287 rfl rfl ?_
  refine R_iload_n o 3 dL_law_288 rfl rfl ?_
  refine R_iconst (v := 2) o dL_law_289 (by decide) ?_
  refine R_iadd o dL_law_290 ?_
  refine R_sld oS dL_law_291 ?_
  refine R_aloadS oS 0 dL_law_292 rfl rfl ?_
  refine R_iload_n o 3 dL_law_293 rfl rfl ?_
  refine R_iconst (v := 3) o dL_law_294 (by decide) ?_
  refine R_iadd o dL_law_295 ?_
  refine R_sld oS dL_law_296 ?_
  refine K_ih (callV' (As := [.int (xs (x3 + 1).toNatClampNeg), .int (xs (x3 + 2).toNatClampNeg), .int (xs (x3 + 3).toNatClampNeg)]) (rest := []) o dL_law_297 lk_L_18 rfl sh_0 rfl rfl rfl rfl (Nat.le_of_ble_eq_true rfl)) (c_X6_lay g l h (xs (x3 + 1).toNatClampNeg) (xs (x3 + 2).toNatClampNeg) (xs (x3 + 3).toNatClampNeg)) (fun r297 h297 => ?_)
  refine R_aload_n o 2 dL_law_300 rfl rfl ?_
  refine R_aloadS oS 0 dL_law_301 rfl rfl ?_
  refine R_iload_n o 3 dL_law_302 rfl rfl ?_
  refine R_iconst (v := 1) o dL_law_303 (by decide) ?_
  refine R_iadd o dL_law_304 ?_
  refine R_sld oS dL_law_305 ?_
  refine R_aloadS oS 0 dL_law_306 rfl rfl ?_
  refine R_iload_n o 3 dL_law_307 rfl rfl ?_
  refine R_iconst (v := 2) o dL_law_308 (by decide) ?_
  refine R_iadd o dL_law_309 ?_
  refine R_sld oS dL_law_310 ?_
  refine R_aloadS oS 0 dL_law_311 rfl rfl ?_
  refine R_iload_n o 3 dL_law_312 rfl rfl ?_
  refine R_iconst (v := 3) o dL_law_313 (by decide) ?_
  refine R_iadd o dL_law_314 ?_
  refine R_sld oS dL_law_315 ?_
  refine K_ih (callV' (As := [.int (xs (x3 + 1).toNatClampNeg), .int (xs (x3 + 2).toNatClampNeg), .int (xs (x3 + 3).toNatClampNeg)]) (rest := [.int r297]) o dL_law_316 lk_L_22 rfl sh_64 rfl rfl rfl rfl (Nat.le_of_ble_eq_true rfl)) (c_X7_lay g l h297 (xs (x3 + 1).toNatClampNeg) (xs (x3 + 2).toNatClampNeg) (xs (x3 + 3).toNatClampNeg)) (fun r316 h316 => ?_)
  refine R_icmp_eq o 1957 dL_law_319 (by decide) ?_ ?_
  · refine R_iinc (v := (x3 + 6)) (lv2 := [(0, .ref b), (1, rA g 0), (2, rA g 64), (3, .int (x3 + 6))]) o 3 dL_law_1957 rfl rfl (by decide) rfl ?_
    refine R_goto o 18 dL_law_1960 (by decide) ?_
    exact T_some (fun p => oP.wide p)
  · refine R_iconst (v := 0) o dL_law_322 (by decide) ?_
    exact T_some (fun p => absurd (show false = true from p) (by decide))
noncomputable def f_L_law_J324_18 (xs : Nat → Int32) (L : Nat) (h : MH) (x3 : Int32) : Option ((Int32 × MH) ⊕ (MH ⊕ Bool)) :=
  gd (ix (x3 + 1) L) (gd (ix (x3 + 2) L) (bnd2 (f_X6_at h (xs (x3 + 1).toNatClampNeg) (xs (x3 + 2).toNatClampNeg)) (fun r335 h335 => gd (ix (x3 + 1) L) (gd (ix (x3 + 2) L) (bnd2 (f_X7_at h335 (xs (x3 + 1).toNatClampNeg) (xs (x3 + 2).toNatClampNeg)) (fun r349 h349 => (if r335 = r349 then some (.inl ((x3 + 6), h349)) else some (.inr (.inr false)))))))))
set_option maxRecDepth 100000 in
set_option maxHeartbeats 4000000 in
theorem t_L_law_J324_18 {g : Gx} {l : Launch} {V V1 : VT} {b L : Nat} {xs : Nat → Int32} {ce sl : Nat} (oP : OkLP g l b L xs ce sl V V1) (h : MH) (x3 : Int32) : T (Sum.elim (fun s => V1 18 [(0, .ref b), (1, rA g 0), (2, rA g 64), (3, .int s.1)] [] s.2) (Sum.elim (fun b0 => V 1963 [] [] b0) (fun r => r = true))) (f_L_law_J324_18 xs L  h x3) (V 324 [(0, .ref b), (1, rA g 0), (2, rA g 64), (3, .int x3)] [] h) := by
  have oS := oP.fst
  have oS1 := oP.snd
  have o := oS.ok
  have o1 := oS1.ok
  unfold f_L_law_J324_18
  refine R_aload_n o 1 dL_law_324 rfl rfl ?_
  refine R_aloadS oS 0 dL_law_325 rfl rfl ?_
  refine R_iload_n o 3 dL_law_326 rfl rfl ?_
  refine R_iconst (v := 1) o dL_law_327 (by decide) ?_
  refine R_iadd o dL_law_328 ?_
  refine R_sld oS dL_law_329 ?_
  refine R_aloadS oS 0 dL_law_330 rfl rfl ?_
  refine R_iload_n o 3 dL_law_331 rfl rfl ?_
  refine R_iconst (v := 2) o dL_law_332 (by decide) ?_
  refine R_iadd o dL_law_333 ?_
  refine R_sld oS dL_law_334 ?_
  refine K_ih (callV' (As := [.int (xs (x3 + 1).toNatClampNeg), .int (xs (x3 + 2).toNatClampNeg)]) (rest := []) o dL_law_335 lk_L_23 rfl sh_0 rfl rfl rfl rfl (Nat.le_of_ble_eq_true rfl)) (c_X6_at g l h (xs (x3 + 1).toNatClampNeg) (xs (x3 + 2).toNatClampNeg)) (fun r335 h335 => ?_)
  refine R_aload_n o 2 dL_law_338 rfl rfl ?_
  refine R_aloadS oS 0 dL_law_339 rfl rfl ?_
  refine R_iload_n o 3 dL_law_340 rfl rfl ?_
  refine R_iconst (v := 1) o dL_law_341 (by decide) ?_
  refine R_iadd o dL_law_342 ?_
  refine R_sld oS dL_law_343 ?_
  refine R_aloadS oS 0 dL_law_344 rfl rfl ?_
  refine R_iload_n o 3 dL_law_345 rfl rfl ?_
  refine R_iconst (v := 2) o dL_law_346 (by decide) ?_
  refine R_iadd o dL_law_347 ?_
  refine R_sld oS dL_law_348 ?_
  refine K_ih (callV' (As := [.int (xs (x3 + 1).toNatClampNeg), .int (xs (x3 + 2).toNatClampNeg)]) (rest := [.int r335]) o dL_law_349 lk_L_26 rfl sh_64 rfl rfl rfl rfl (Nat.le_of_ble_eq_true rfl)) (c_X7_at g l h335 (xs (x3 + 1).toNatClampNeg) (xs (x3 + 2).toNatClampNeg)) (fun r349 h349 => ?_)
  refine R_icmp_eq o 1957 dL_law_352 (by decide) ?_ ?_
  · refine R_iinc (v := (x3 + 6)) (lv2 := [(0, .ref b), (1, rA g 0), (2, rA g 64), (3, .int (x3 + 6))]) o 3 dL_law_1957 rfl rfl (by decide) rfl ?_
    refine R_goto o 18 dL_law_1960 (by decide) ?_
    exact T_some (fun p => oP.wide p)
  · refine R_iconst (v := 0) o dL_law_355 (by decide) ?_
    exact T_some (fun p => absurd (show false = true from p) (by decide))
noncomputable def f_L_law_J357_18 (xs : Nat → Int32) (L : Nat) (h : MH) (x3 : Int32) : Option ((Int32 × MH) ⊕ (MH ⊕ Bool)) :=
  gd (ix (x3 + 1) L) (bnd2 (f_X6_tear h (xs (x3 + 1).toNatClampNeg)) (fun r363 h363 => gd (ix (x3 + 1) L) (bnd2 (f_X7_tear h363 (xs (x3 + 1).toNatClampNeg)) (fun r372 h372 => (if r363 = r372 then some (.inl ((x3 + 6), h372)) else some (.inr (.inr false)))))))
set_option maxRecDepth 100000 in
set_option maxHeartbeats 4000000 in
theorem t_L_law_J357_18 {g : Gx} {l : Launch} {V V1 : VT} {b L : Nat} {xs : Nat → Int32} {ce sl : Nat} (oP : OkLP g l b L xs ce sl V V1) (h : MH) (x3 : Int32) : T (Sum.elim (fun s => V1 18 [(0, .ref b), (1, rA g 0), (2, rA g 64), (3, .int s.1)] [] s.2) (Sum.elim (fun b0 => V 1963 [] [] b0) (fun r => r = true))) (f_L_law_J357_18 xs L  h x3) (V 357 [(0, .ref b), (1, rA g 0), (2, rA g 64), (3, .int x3)] [] h) := by
  have oS := oP.fst
  have oS1 := oP.snd
  have o := oS.ok
  have o1 := oS1.ok
  unfold f_L_law_J357_18
  refine R_aload_n o 1 dL_law_357 rfl rfl ?_
  refine R_aloadS oS 0 dL_law_358 rfl rfl ?_
  refine R_iload_n o 3 dL_law_359 rfl rfl ?_
  refine R_iconst (v := 1) o dL_law_360 (by decide) ?_
  refine R_iadd o dL_law_361 ?_
  refine R_sld oS dL_law_362 ?_
  refine K_ih (callV' (As := [.int (xs (x3 + 1).toNatClampNeg)]) (rest := []) o dL_law_363 lk_L_27 rfl sh_0 rfl rfl rfl rfl (Nat.le_of_ble_eq_true rfl)) (c_X6_tear g l h (xs (x3 + 1).toNatClampNeg)) (fun r363 h363 => ?_)
  refine R_aload_n o 2 dL_law_366 rfl rfl ?_
  refine R_aloadS oS 0 dL_law_367 rfl rfl ?_
  refine R_iload_n o 3 dL_law_368 rfl rfl ?_
  refine R_iconst (v := 1) o dL_law_369 (by decide) ?_
  refine R_iadd o dL_law_370 ?_
  refine R_sld oS dL_law_371 ?_
  refine K_ih (callV' (As := [.int (xs (x3 + 1).toNatClampNeg)]) (rest := [.int r363]) o dL_law_372 lk_L_31 rfl sh_64 rfl rfl rfl rfl (Nat.le_of_ble_eq_true rfl)) (c_X7_tear g l h363 (xs (x3 + 1).toNatClampNeg)) (fun r372 h372 => ?_)
  refine R_icmp_eq o 1957 dL_law_375 (by decide) ?_ ?_
  · refine R_iinc (v := (x3 + 6)) (lv2 := [(0, .ref b), (1, rA g 0), (2, rA g 64), (3, .int (x3 + 6))]) o 3 dL_law_1957 rfl rfl (by decide) rfl ?_
    refine R_goto o 18 dL_law_1960 (by decide) ?_
    exact T_some (fun p => oP.wide p)
  · refine R_iconst (v := 0) o dL_law_378 (by decide) ?_
    exact T_some (fun p => absurd (show false = true from p) (by decide))
noncomputable def f_L_law_J380_18 (xs : Nat → Int32) (L : Nat) (h : MH) (x3 : Int32) : Option ((Int32 × MH) ⊕ (MH ⊕ Bool)) :=
  gd (ix (x3 + 1) L) (gd (ix (x3 + 2) L) (gd (ix (x3 + 3) L) (gd (ix (x3 + 4) L) (gd (ix (x3 + 5) L) (bnd2 (f_X6_copy h (xs (x3 + 1).toNatClampNeg) (xs (x3 + 2).toNatClampNeg) (xs (x3 + 3).toNatClampNeg) (xs (x3 + 4).toNatClampNeg) (xs (x3 + 5).toNatClampNeg)) (fun r406 h406 => gd (ix (x3 + 1) L) (gd (ix (x3 + 2) L) (gd (ix (x3 + 3) L) (gd (ix (x3 + 4) L) (gd (ix (x3 + 5) L) (bnd2 (f_X7_copy h406 (xs (x3 + 1).toNatClampNeg) (xs (x3 + 2).toNatClampNeg) (xs (x3 + 3).toNatClampNeg) (xs (x3 + 4).toNatClampNeg) (xs (x3 + 5).toNatClampNeg)) (fun r435 h435 => (if r406 = r435 then some (.inl ((x3 + 6), h435)) else some (.inr (.inr false)))))))))))))))
set_option maxRecDepth 100000 in
set_option maxHeartbeats 4000000 in
theorem t_L_law_J380_18 {g : Gx} {l : Launch} {V V1 : VT} {b L : Nat} {xs : Nat → Int32} {ce sl : Nat} (oP : OkLP g l b L xs ce sl V V1) (h : MH) (x3 : Int32) : T (Sum.elim (fun s => V1 18 [(0, .ref b), (1, rA g 0), (2, rA g 64), (3, .int s.1)] [] s.2) (Sum.elim (fun b0 => V 1963 [] [] b0) (fun r => r = true))) (f_L_law_J380_18 xs L  h x3) (V 380 [(0, .ref b), (1, rA g 0), (2, rA g 64), (3, .int x3)] [] h) := by
  have oS := oP.fst
  have oS1 := oP.snd
  have o := oS.ok
  have o1 := oS1.ok
  unfold f_L_law_J380_18
  refine R_aload_n o 1 dL_law_380 rfl rfl ?_
  refine R_aloadS oS 0 dL_law_381 rfl rfl ?_
  refine R_iload_n o 3 dL_law_382 rfl rfl ?_
  refine R_iconst (v := 1) o dL_law_383 (by decide) ?_
  refine R_iadd o dL_law_384 ?_
  refine R_sld oS dL_law_385 ?_
  refine R_aloadS oS 0 dL_law_386 rfl rfl ?_
  refine R_iload_n o 3 dL_law_387 rfl rfl ?_
  refine R_iconst (v := 2) o dL_law_388 (by decide) ?_
  refine R_iadd o dL_law_389 ?_
  refine R_sld oS dL_law_390 ?_
  refine R_aloadS oS 0 dL_law_391 rfl rfl ?_
  refine R_iload_n o 3 dL_law_392 rfl rfl ?_
  refine R_iconst (v := 3) o dL_law_393 (by decide) ?_
  refine R_iadd o dL_law_394 ?_
  refine R_sld oS dL_law_395 ?_
  refine R_aloadS oS 0 dL_law_396 rfl rfl ?_
  refine R_iload_n o 3 dL_law_397 rfl rfl ?_
  refine R_iconst (v := 4) o dL_law_398 (by decide) ?_
  refine R_iadd o dL_law_399 ?_
  refine R_sld oS dL_law_400 ?_
  refine R_aloadS oS 0 dL_law_401 rfl rfl ?_
  refine R_iload_n o 3 dL_law_402 rfl rfl ?_
  refine R_iconst (v := 5) o dL_law_403 (by decide) ?_
  refine R_iadd o dL_law_404 ?_
  refine R_sld oS dL_law_405 ?_
  refine K_ih (callV' (As := [.int (xs (x3 + 1).toNatClampNeg), .int (xs (x3 + 2).toNatClampNeg), .int (xs (x3 + 3).toNatClampNeg), .int (xs (x3 + 4).toNatClampNeg), .int (xs (x3 + 5).toNatClampNeg)]) (rest := []) o dL_law_406 lk_L_32 rfl sh_0 rfl rfl rfl rfl (Nat.le_of_ble_eq_true rfl)) (c_X6_copy g l h (xs (x3 + 1).toNatClampNeg) (xs (x3 + 2).toNatClampNeg) (xs (x3 + 3).toNatClampNeg) (xs (x3 + 4).toNatClampNeg) (xs (x3 + 5).toNatClampNeg)) (fun r406 h406 => ?_)
  refine R_aload_n o 2 dL_law_409 rfl rfl ?_
  refine R_aloadS oS 0 dL_law_410 rfl rfl ?_
  refine R_iload_n o 3 dL_law_411 rfl rfl ?_
  refine R_iconst (v := 1) o dL_law_412 (by decide) ?_
  refine R_iadd o dL_law_413 ?_
  refine R_sld oS dL_law_414 ?_
  refine R_aloadS oS 0 dL_law_415 rfl rfl ?_
  refine R_iload_n o 3 dL_law_416 rfl rfl ?_
  refine R_iconst (v := 2) o dL_law_417 (by decide) ?_
  refine R_iadd o dL_law_418 ?_
  refine R_sld oS dL_law_419 ?_
  refine R_aloadS oS 0 dL_law_420 rfl rfl ?_
  refine R_iload_n o 3 dL_law_421 rfl rfl ?_
  refine R_iconst (v := 3) o dL_law_422 (by decide) ?_
  refine R_iadd o dL_law_423 ?_
  refine R_sld oS dL_law_424 ?_
  refine R_aloadS oS 0 dL_law_425 rfl rfl ?_
  refine R_iload_n o 3 dL_law_426 rfl rfl ?_
  refine R_iconst (v := 4) o dL_law_427 (by decide) ?_
  refine R_iadd o dL_law_428 ?_
  refine R_sld oS dL_law_429 ?_
  refine R_aloadS oS 0 dL_law_430 rfl rfl ?_
  refine R_iload_n o 3 dL_law_431 rfl rfl ?_
  refine R_iconst (v := 5) o dL_law_432 (by decide) ?_
  refine R_iadd o dL_law_433 ?_
  refine R_sld oS dL_law_434 ?_
  refine K_ih (callV' (As := [.int (xs (x3 + 1).toNatClampNeg), .int (xs (x3 + 2).toNatClampNeg), .int (xs (x3 + 3).toNatClampNeg), .int (xs (x3 + 4).toNatClampNeg), .int (xs (x3 + 5).toNatClampNeg)]) (rest := [.int r406]) o dL_law_435 lk_L_36 rfl sh_64 rfl rfl rfl rfl (Nat.le_of_ble_eq_true rfl)) (c_X7_copy g l h406 (xs (x3 + 1).toNatClampNeg) (xs (x3 + 2).toNatClampNeg) (xs (x3 + 3).toNatClampNeg) (xs (x3 + 4).toNatClampNeg) (xs (x3 + 5).toNatClampNeg)) (fun r435 h435 => ?_)
  refine R_icmp_eq o 1957 dL_law_438 (by decide) ?_ ?_
  · refine R_iinc (v := (x3 + 6)) (lv2 := [(0, .ref b), (1, rA g 0), (2, rA g 64), (3, .int (x3 + 6))]) o 3 dL_law_1957 rfl rfl (by decide) rfl ?_
    refine R_goto o 18 dL_law_1960 (by decide) ?_
    exact T_some (fun p => oP.wide p)
  · refine R_iconst (v := 0) o dL_law_441 (by decide) ?_
    exact T_some (fun p => absurd (show false = true from p) (by decide))
noncomputable def f_L_law_J443_18 (xs : Nat → Int32) (L : Nat) (h : MH) (x3 : Int32) : Option ((Int32 × MH) ⊕ (MH ⊕ Bool)) :=
  gd (ix (x3 + 1) L) (bnd2 (f_X6_mean h (xs (x3 + 1).toNatClampNeg)) (fun r449 h449 => gd (ix (x3 + 1) L) (bnd2 (f_X7_mean h449 (xs (x3 + 1).toNatClampNeg)) (fun r458 h458 => (if r449 = r458 then some (.inl ((x3 + 6), h458)) else some (.inr (.inr false)))))))
set_option maxRecDepth 100000 in
set_option maxHeartbeats 4000000 in
theorem t_L_law_J443_18 {g : Gx} {l : Launch} {V V1 : VT} {b L : Nat} {xs : Nat → Int32} {ce sl : Nat} (oP : OkLP g l b L xs ce sl V V1) (h : MH) (x3 : Int32) : T (Sum.elim (fun s => V1 18 [(0, .ref b), (1, rA g 0), (2, rA g 64), (3, .int s.1)] [] s.2) (Sum.elim (fun b0 => V 1963 [] [] b0) (fun r => r = true))) (f_L_law_J443_18 xs L  h x3) (V 443 [(0, .ref b), (1, rA g 0), (2, rA g 64), (3, .int x3)] [] h) := by
  have oS := oP.fst
  have oS1 := oP.snd
  have o := oS.ok
  have o1 := oS1.ok
  unfold f_L_law_J443_18
  refine R_aload_n o 1 dL_law_443 rfl rfl ?_
  refine R_aloadS oS 0 dL_law_444 rfl rfl ?_
  refine R_iload_n o 3 dL_law_445 rfl rfl ?_
  refine R_iconst (v := 1) o dL_law_446 (by decide) ?_
  refine R_iadd o dL_law_447 ?_
  refine R_sld oS dL_law_448 ?_
  refine K_ih (callV' (As := [.int (xs (x3 + 1).toNatClampNeg)]) (rest := []) o dL_law_449 lk_L_37 rfl sh_0 rfl rfl rfl rfl (Nat.le_of_ble_eq_true rfl)) (c_X6_mean g l h (xs (x3 + 1).toNatClampNeg)) (fun r449 h449 => ?_)
  refine R_aload_n o 2 dL_law_452 rfl rfl ?_
  refine R_aloadS oS 0 dL_law_453 rfl rfl ?_
  refine R_iload_n o 3 dL_law_454 rfl rfl ?_
  refine R_iconst (v := 1) o dL_law_455 (by decide) ?_
  refine R_iadd o dL_law_456 ?_
  refine R_sld oS dL_law_457 ?_
  refine K_ih (callV' (As := [.int (xs (x3 + 1).toNatClampNeg)]) (rest := [.int r449]) o dL_law_458 lk_L_40 rfl sh_64 rfl rfl rfl rfl (Nat.le_of_ble_eq_true rfl)) (c_X7_mean g l h449 (xs (x3 + 1).toNatClampNeg)) (fun r458 h458 => ?_)
  refine R_icmp_eq o 1957 dL_law_461 (by decide) ?_ ?_
  · refine R_iinc (v := (x3 + 6)) (lv2 := [(0, .ref b), (1, rA g 0), (2, rA g 64), (3, .int (x3 + 6))]) o 3 dL_law_1957 rfl rfl (by decide) rfl ?_
    refine R_goto o 18 dL_law_1960 (by decide) ?_
    exact T_some (fun p => oP.wide p)
  · refine R_iconst (v := 0) o dL_law_464 (by decide) ?_
    exact T_some (fun p => absurd (show false = true from p) (by decide))
noncomputable def f_L_law_J466_18 (xs : Nat → Int32) (L : Nat) (h : MH) (x3 : Int32) : Option ((Int32 × MH) ⊕ (MH ⊕ Bool)) :=
  gd (ix (x3 + 1) L) (gd (ix (x3 + 2) L) (bnd2 (f_X6_text h (xs (x3 + 1).toNatClampNeg) (xs (x3 + 2).toNatClampNeg)) (fun r477 h477 => gd (ix (x3 + 1) L) (gd (ix (x3 + 2) L) (bnd2 (f_X7_text h477 (xs (x3 + 1).toNatClampNeg) (xs (x3 + 2).toNatClampNeg)) (fun r491 h491 => (if r477 = r491 then some (.inl ((x3 + 6), h491)) else some (.inr (.inr false)))))))))
set_option maxRecDepth 100000 in
set_option maxHeartbeats 4000000 in
theorem t_L_law_J466_18 {g : Gx} {l : Launch} {V V1 : VT} {b L : Nat} {xs : Nat → Int32} {ce sl : Nat} (oP : OkLP g l b L xs ce sl V V1) (h : MH) (x3 : Int32) : T (Sum.elim (fun s => V1 18 [(0, .ref b), (1, rA g 0), (2, rA g 64), (3, .int s.1)] [] s.2) (Sum.elim (fun b0 => V 1963 [] [] b0) (fun r => r = true))) (f_L_law_J466_18 xs L  h x3) (V 466 [(0, .ref b), (1, rA g 0), (2, rA g 64), (3, .int x3)] [] h) := by
  have oS := oP.fst
  have oS1 := oP.snd
  have o := oS.ok
  have o1 := oS1.ok
  unfold f_L_law_J466_18
  refine R_aload_n o 1 dL_law_466 rfl rfl ?_
  refine R_aloadS oS 0 dL_law_467 rfl rfl ?_
  refine R_iload_n o 3 dL_law_468 rfl rfl ?_
  refine R_iconst (v := 1) o dL_law_469 (by decide) ?_
  refine R_iadd o dL_law_470 ?_
  refine R_sld oS dL_law_471 ?_
  refine R_aloadS oS 0 dL_law_472 rfl rfl ?_
  refine R_iload_n o 3 dL_law_473 rfl rfl ?_
  refine R_iconst (v := 2) o dL_law_474 (by decide) ?_
  refine R_iadd o dL_law_475 ?_
  refine R_sld oS dL_law_476 ?_
  refine K_ih (callV' (As := [.int (xs (x3 + 1).toNatClampNeg), .int (xs (x3 + 2).toNatClampNeg)]) (rest := []) o dL_law_477 lk_L_41 rfl sh_0 rfl rfl rfl rfl (Nat.le_of_ble_eq_true rfl)) (c_X6_text g l h (xs (x3 + 1).toNatClampNeg) (xs (x3 + 2).toNatClampNeg)) (fun r477 h477 => ?_)
  refine R_aload_n o 2 dL_law_480 rfl rfl ?_
  refine R_aloadS oS 0 dL_law_481 rfl rfl ?_
  refine R_iload_n o 3 dL_law_482 rfl rfl ?_
  refine R_iconst (v := 1) o dL_law_483 (by decide) ?_
  refine R_iadd o dL_law_484 ?_
  refine R_sld oS dL_law_485 ?_
  refine R_aloadS oS 0 dL_law_486 rfl rfl ?_
  refine R_iload_n o 3 dL_law_487 rfl rfl ?_
  refine R_iconst (v := 2) o dL_law_488 (by decide) ?_
  refine R_iadd o dL_law_489 ?_
  refine R_sld oS dL_law_490 ?_
  refine K_ih (callV' (As := [.int (xs (x3 + 1).toNatClampNeg), .int (xs (x3 + 2).toNatClampNeg)]) (rest := [.int r477]) o dL_law_491 lk_L_44 rfl sh_64 rfl rfl rfl rfl (Nat.le_of_ble_eq_true rfl)) (c_X7_text g l h477 (xs (x3 + 1).toNatClampNeg) (xs (x3 + 2).toNatClampNeg)) (fun r491 h491 => ?_)
  refine R_icmp_eq o 1957 dL_law_494 (by decide) ?_ ?_
  · refine R_iinc (v := (x3 + 6)) (lv2 := [(0, .ref b), (1, rA g 0), (2, rA g 64), (3, .int (x3 + 6))]) o 3 dL_law_1957 rfl rfl (by decide) rfl ?_
    refine R_goto o 18 dL_law_1960 (by decide) ?_
    exact T_some (fun p => oP.wide p)
  · refine R_iconst (v := 0) o dL_law_497 (by decide) ?_
    exact T_some (fun p => absurd (show false = true from p) (by decide))
noncomputable def f_L_law_J499_18 (xs : Nat → Int32) (L : Nat) (h : MH) (x3 : Int32) : Option ((Int32 × MH) ⊕ (MH ⊕ Bool)) :=
  gd (ix (x3 + 1) L) (gd (ix (x3 + 2) L) (gd (ix (x3 + 3) L) (bnd2 (f_X6_put h (xs (x3 + 1).toNatClampNeg) (xs (x3 + 2).toNatClampNeg) (xs (x3 + 3).toNatClampNeg)) (fun r515 h515 => gd (ix (x3 + 1) L) (gd (ix (x3 + 2) L) (gd (ix (x3 + 3) L) (bnd2 (f_X7_put h515 (xs (x3 + 1).toNatClampNeg) (xs (x3 + 2).toNatClampNeg) (xs (x3 + 3).toNatClampNeg)) (fun r534 h534 => (if r515 = r534 then some (.inl ((x3 + 6), h534)) else some (.inr (.inr false)))))))))))
set_option maxRecDepth 100000 in
set_option maxHeartbeats 4000000 in
theorem t_L_law_J499_18 {g : Gx} {l : Launch} {V V1 : VT} {b L : Nat} {xs : Nat → Int32} {ce sl : Nat} (oP : OkLP g l b L xs ce sl V V1) (h : MH) (x3 : Int32) : T (Sum.elim (fun s => V1 18 [(0, .ref b), (1, rA g 0), (2, rA g 64), (3, .int s.1)] [] s.2) (Sum.elim (fun b0 => V 1963 [] [] b0) (fun r => r = true))) (f_L_law_J499_18 xs L  h x3) (V 499 [(0, .ref b), (1, rA g 0), (2, rA g 64), (3, .int x3)] [] h) := by
  have oS := oP.fst
  have oS1 := oP.snd
  have o := oS.ok
  have o1 := oS1.ok
  unfold f_L_law_J499_18
  refine R_aload_n o 1 dL_law_499 rfl rfl ?_
  refine R_aloadS oS 0 dL_law_500 rfl rfl ?_
  refine R_iload_n o 3 dL_law_501 rfl rfl ?_
  refine R_iconst (v := 1) o dL_law_502 (by decide) ?_
  refine R_iadd o dL_law_503 ?_
  refine R_sld oS dL_law_504 ?_
  refine R_aloadS oS 0 dL_law_505 rfl rfl ?_
  refine R_iload_n o 3 dL_law_506 rfl rfl ?_
  refine R_iconst (v := 2) o dL_law_507 (by decide) ?_
  refine R_iadd o dL_law_508 ?_
  refine R_sld oS dL_law_509 ?_
  refine R_aloadS oS 0 dL_law_510 rfl rfl ?_
  refine R_iload_n o 3 dL_law_511 rfl rfl ?_
  refine R_iconst (v := 3) o dL_law_512 (by decide) ?_
  refine R_iadd o dL_law_513 ?_
  refine R_sld oS dL_law_514 ?_
  refine K_ih (callV' (As := [.int (xs (x3 + 1).toNatClampNeg), .int (xs (x3 + 2).toNatClampNeg), .int (xs (x3 + 3).toNatClampNeg)]) (rest := []) o dL_law_515 lk_L_45 rfl sh_0 rfl rfl rfl rfl (Nat.le_of_ble_eq_true rfl)) (c_X6_put g l h (xs (x3 + 1).toNatClampNeg) (xs (x3 + 2).toNatClampNeg) (xs (x3 + 3).toNatClampNeg)) (fun r515 h515 => ?_)
  refine R_aload_n o 2 dL_law_518 rfl rfl ?_
  refine R_aloadS oS 0 dL_law_519 rfl rfl ?_
  refine R_iload_n o 3 dL_law_520 rfl rfl ?_
  refine R_iconst (v := 1) o dL_law_521 (by decide) ?_
  refine R_iadd o dL_law_522 ?_
  refine R_sld oS dL_law_523 ?_
  refine R_aloadS oS 0 dL_law_524 rfl rfl ?_
  refine R_iload_n o 3 dL_law_525 rfl rfl ?_
  refine R_iconst (v := 2) o dL_law_526 (by decide) ?_
  refine R_iadd o dL_law_527 ?_
  refine R_sld oS dL_law_528 ?_
  refine R_aloadS oS 0 dL_law_529 rfl rfl ?_
  refine R_iload_n o 3 dL_law_530 rfl rfl ?_
  refine R_iconst (v := 3) o dL_law_531 (by decide) ?_
  refine R_iadd o dL_law_532 ?_
  refine R_sld oS dL_law_533 ?_
  refine K_ih (callV' (As := [.int (xs (x3 + 1).toNatClampNeg), .int (xs (x3 + 2).toNatClampNeg), .int (xs (x3 + 3).toNatClampNeg)]) (rest := [.int r515]) o dL_law_534 lk_L_48 rfl sh_64 rfl rfl rfl rfl (Nat.le_of_ble_eq_true rfl)) (c_X7_put g l h515 (xs (x3 + 1).toNatClampNeg) (xs (x3 + 2).toNatClampNeg) (xs (x3 + 3).toNatClampNeg)) (fun r534 h534 => ?_)
  refine R_icmp_eq o 1957 dL_law_537 (by decide) ?_ ?_
  · refine R_iinc (v := (x3 + 6)) (lv2 := [(0, .ref b), (1, rA g 0), (2, rA g 64), (3, .int (x3 + 6))]) o 3 dL_law_1957 rfl rfl (by decide) rfl ?_
    refine R_goto o 18 dL_law_1960 (by decide) ?_
    exact T_some (fun p => oP.wide p)
  · refine R_iconst (v := 0) o dL_law_540 (by decide) ?_
    exact T_some (fun p => absurd (show false = true from p) (by decide))
noncomputable def f_L_law_J542_18 (xs : Nat → Int32) (L : Nat) (h : MH) (x3 : Int32) : Option ((Int32 × MH) ⊕ (MH ⊕ Bool)) :=
  gd (ix (x3 + 1) L) (gd (ix (x3 + 2) L) (gd (ix (x3 + 3) L) (bnd2 (f_X6_cover h (xs (x3 + 1).toNatClampNeg) (xs (x3 + 2).toNatClampNeg) (xs (x3 + 3).toNatClampNeg)) (fun r558 h558 => gd (ix (x3 + 1) L) (gd (ix (x3 + 2) L) (gd (ix (x3 + 3) L) (bnd2 (f_X7_cover h558 (xs (x3 + 1).toNatClampNeg) (xs (x3 + 2).toNatClampNeg) (xs (x3 + 3).toNatClampNeg)) (fun r577 h577 => (if r558 = r577 then some (.inl ((x3 + 6), h577)) else some (.inr (.inr false)))))))))))
set_option maxRecDepth 100000 in
set_option maxHeartbeats 4000000 in
theorem t_L_law_J542_18 {g : Gx} {l : Launch} {V V1 : VT} {b L : Nat} {xs : Nat → Int32} {ce sl : Nat} (oP : OkLP g l b L xs ce sl V V1) (h : MH) (x3 : Int32) : T (Sum.elim (fun s => V1 18 [(0, .ref b), (1, rA g 0), (2, rA g 64), (3, .int s.1)] [] s.2) (Sum.elim (fun b0 => V 1963 [] [] b0) (fun r => r = true))) (f_L_law_J542_18 xs L  h x3) (V 542 [(0, .ref b), (1, rA g 0), (2, rA g 64), (3, .int x3)] [] h) := by
  have oS := oP.fst
  have oS1 := oP.snd
  have o := oS.ok
  have o1 := oS1.ok
  unfold f_L_law_J542_18
  refine R_aload_n o 1 dL_law_542 rfl rfl ?_
  refine R_aloadS oS 0 dL_law_543 rfl rfl ?_
  refine R_iload_n o 3 dL_law_544 rfl rfl ?_
  refine R_iconst (v := 1) o dL_law_545 (by decide) ?_
  refine R_iadd o dL_law_546 ?_
  refine R_sld oS dL_law_547 ?_
  refine R_aloadS oS 0 dL_law_548 rfl rfl ?_
  refine R_iload_n o 3 dL_law_549 rfl rfl ?_
  refine R_iconst (v := 2) o dL_law_550 (by decide) ?_
  refine R_iadd o dL_law_551 ?_
  refine R_sld oS dL_law_552 ?_
  refine R_aloadS oS 0 dL_law_553 rfl rfl ?_
  refine R_iload_n o 3 dL_law_554 rfl rfl ?_
  refine R_iconst (v := 3) o dL_law_555 (by decide) ?_
  refine R_iadd o dL_law_556 ?_
  refine R_sld oS dL_law_557 ?_
  refine K_ih (callV' (As := [.int (xs (x3 + 1).toNatClampNeg), .int (xs (x3 + 2).toNatClampNeg), .int (xs (x3 + 3).toNatClampNeg)]) (rest := []) o dL_law_558 lk_L_49 rfl sh_0 rfl rfl rfl rfl (Nat.le_of_ble_eq_true rfl)) (c_X6_cover g l h (xs (x3 + 1).toNatClampNeg) (xs (x3 + 2).toNatClampNeg) (xs (x3 + 3).toNatClampNeg)) (fun r558 h558 => ?_)
  refine R_aload_n o 2 dL_law_561 rfl rfl ?_
  refine R_aloadS oS 0 dL_law_562 rfl rfl ?_
  refine R_iload_n o 3 dL_law_563 rfl rfl ?_
  refine R_iconst (v := 1) o dL_law_564 (by decide) ?_
  refine R_iadd o dL_law_565 ?_
  refine R_sld oS dL_law_566 ?_
  refine R_aloadS oS 0 dL_law_567 rfl rfl ?_
  refine R_iload_n o 3 dL_law_568 rfl rfl ?_
  refine R_iconst (v := 2) o dL_law_569 (by decide) ?_
  refine R_iadd o dL_law_570 ?_
  refine R_sld oS dL_law_571 ?_
  refine R_aloadS oS 0 dL_law_572 rfl rfl ?_
  refine R_iload_n o 3 dL_law_573 rfl rfl ?_
  refine R_iconst (v := 3) o dL_law_574 (by decide) ?_
  refine R_iadd o dL_law_575 ?_
  refine R_sld oS dL_law_576 ?_
  refine K_ih (callV' (As := [.int (xs (x3 + 1).toNatClampNeg), .int (xs (x3 + 2).toNatClampNeg), .int (xs (x3 + 3).toNatClampNeg)]) (rest := [.int r558]) o dL_law_577 lk_L_52 rfl sh_64 rfl rfl rfl rfl (Nat.le_of_ble_eq_true rfl)) (c_X7_cover g l h558 (xs (x3 + 1).toNatClampNeg) (xs (x3 + 2).toNatClampNeg) (xs (x3 + 3).toNatClampNeg)) (fun r577 h577 => ?_)
  refine R_icmp_eq o 1957 dL_law_580 (by decide) ?_ ?_
  · refine R_iinc (v := (x3 + 6)) (lv2 := [(0, .ref b), (1, rA g 0), (2, rA g 64), (3, .int (x3 + 6))]) o 3 dL_law_1957 rfl rfl (by decide) rfl ?_
    refine R_goto o 18 dL_law_1960 (by decide) ?_
    exact T_some (fun p => oP.wide p)
  · refine R_iconst (v := 0) o dL_law_583 (by decide) ?_
    exact T_some (fun p => absurd (show false = true from p) (by decide))
noncomputable def f_L_law_J614_18 (xs : Nat → Int32) (L : Nat) (h : MH) (x3 : Int32) (s1 : Int32) (s2 : Int32) (s3 : Int32) (s4 : Int32) : Option ((Int32 × MH) ⊕ (MH ⊕ Bool)) :=
  bnd2 (f_X6_grey h s1 s2 s3 s4) (fun r614 h614 => gd (ix (x3 + 1) L) (gd (ix (x3 + 2) L) (gd (ix (x3 + 3) L) (gd (ix (x3 + 4) L) ((if (xs (x3 + 4).toNatClampNeg) = 0 then bnd2 (f_X7_grey h614 (xs (x3 + 1).toNatClampNeg) (xs (x3 + 2).toNatClampNeg) (xs (x3 + 3).toNatClampNeg) 0) (fun r646 h646 => (if r614 = r646 then some (.inl ((x3 + 6), h646)) else some (.inr (.inr false)))) else bnd2 (f_X7_grey h614 (xs (x3 + 1).toNatClampNeg) (xs (x3 + 2).toNatClampNeg) (xs (x3 + 3).toNatClampNeg) 1) (fun r646 h646 => (if r614 = r646 then some (.inl ((x3 + 6), h646)) else some (.inr (.inr false))))))))))
set_option maxRecDepth 100000 in
set_option maxHeartbeats 4000000 in
theorem t_L_law_J614_18 {g : Gx} {l : Launch} {V V1 : VT} {b L : Nat} {xs : Nat → Int32} {ce sl : Nat} (oP : OkLP g l b L xs ce sl V V1) (h : MH) (x3 : Int32) (s1 : Int32) (s2 : Int32) (s3 : Int32) (s4 : Int32) : T (Sum.elim (fun s => V1 18 [(0, .ref b), (1, rA g 0), (2, rA g 64), (3, .int s.1)] [] s.2) (Sum.elim (fun b0 => V 1963 [] [] b0) (fun r => r = true))) (f_L_law_J614_18 xs L  h x3 s1 s2 s3 s4) (V 614 [(0, .ref b), (1, rA g 0), (2, rA g 64), (3, .int x3)] [.int s4, .int s3, .int s2, .int s1, rA g 0] h) := by
  have oS := oP.fst
  have oS1 := oP.snd
  have o := oS.ok
  have o1 := oS1.ok
  unfold f_L_law_J614_18
  refine K_ih (callV' (As := [.int s1, .int s2, .int s3, .int s4]) (rest := []) o dL_law_614 lk_L_53 rfl sh_0 rfl rfl rfl rfl (Nat.le_of_ble_eq_true rfl)) (c_X6_grey g l h s1 s2 s3 s4) (fun r614 h614 => ?_)
  refine R_aload_n o 2 dL_law_617 rfl rfl ?_
  refine R_aloadS oS 0 dL_law_618 rfl rfl ?_
  refine R_iload_n o 3 dL_law_619 rfl rfl ?_
  refine R_iconst (v := 1) o dL_law_620 (by decide) ?_
  refine R_iadd o dL_law_621 ?_
  refine R_sld oS dL_law_622 ?_
  refine R_aloadS oS 0 dL_law_623 rfl rfl ?_
  refine R_iload_n o 3 dL_law_624 rfl rfl ?_
  refine R_iconst (v := 2) o dL_law_625 (by decide) ?_
  refine R_iadd o dL_law_626 ?_
  refine R_sld oS dL_law_627 ?_
  refine R_aloadS oS 0 dL_law_628 rfl rfl ?_
  refine R_iload_n o 3 dL_law_629 rfl rfl ?_
  refine R_iconst (v := 3) o dL_law_630 (by decide) ?_
  refine R_iadd o dL_law_631 ?_
  refine R_sld oS dL_law_632 ?_
  refine R_aloadS oS 0 dL_law_633 rfl rfl ?_
  refine R_iload_n o 3 dL_law_634 rfl rfl ?_
  refine R_iconst (v := 4) o dL_law_635 (by decide) ?_
  refine R_iadd o dL_law_636 ?_
  refine R_sld oS dL_law_637 ?_
  refine R_if_eq o 645 dL_law_638 (by decide) ?_ ?_
  · refine R_iconst (v := 0) o dL_law_645 (by decide) ?_
    refine K_ih (callV' (As := [.int (xs (x3 + 1).toNatClampNeg), .int (xs (x3 + 2).toNatClampNeg), .int (xs (x3 + 3).toNatClampNeg), .int 0]) (rest := [.int r614]) o dL_law_646 lk_L_57 rfl sh_64 rfl rfl rfl rfl (Nat.le_of_ble_eq_true rfl)) (c_X7_grey g l h614 (xs (x3 + 1).toNatClampNeg) (xs (x3 + 2).toNatClampNeg) (xs (x3 + 3).toNatClampNeg) 0) (fun r646 h646 => ?_)
    refine R_icmp_eq o 1957 dL_law_649 (by decide) ?_ ?_
    · refine R_iinc (v := (x3 + 6)) (lv2 := [(0, .ref b), (1, rA g 0), (2, rA g 64), (3, .int (x3 + 6))]) o 3 dL_law_1957 rfl rfl (by decide) rfl ?_
      refine R_goto o 18 dL_law_1960 (by decide) ?_
      exact T_some (fun p => oP.wide p)
    · refine R_iconst (v := 0) o dL_law_652 (by decide) ?_
      exact T_some (fun p => absurd (show false = true from p) (by decide))
  · refine R_iconst (v := 1) o dL_law_641 (by decide) ?_
    refine R_goto o 646 dL_law_642 (by decide) ?_
    refine K_ih (callV' (As := [.int (xs (x3 + 1).toNatClampNeg), .int (xs (x3 + 2).toNatClampNeg), .int (xs (x3 + 3).toNatClampNeg), .int 1]) (rest := [.int r614]) o dL_law_646 lk_L_57 rfl sh_64 rfl rfl rfl rfl (Nat.le_of_ble_eq_true rfl)) (c_X7_grey g l h614 (xs (x3 + 1).toNatClampNeg) (xs (x3 + 2).toNatClampNeg) (xs (x3 + 3).toNatClampNeg) 1) (fun r646 h646 => ?_)
    refine R_icmp_eq o 1957 dL_law_649 (by decide) ?_ ?_
    · refine R_iinc (v := (x3 + 6)) (lv2 := [(0, .ref b), (1, rA g 0), (2, rA g 64), (3, .int (x3 + 6))]) o 3 dL_law_1957 rfl rfl (by decide) rfl ?_
      refine R_goto o 18 dL_law_1960 (by decide) ?_
      exact T_some (fun p => oP.wide p)
    · refine R_iconst (v := 0) o dL_law_652 (by decide) ?_
      exact T_some (fun p => absurd (show false = true from p) (by decide))
noncomputable def f_L_law_J585_18 (xs : Nat → Int32) (L : Nat) (h : MH) (x3 : Int32) : Option ((Int32 × MH) ⊕ (MH ⊕ Bool)) :=
  gd (ix (x3 + 1) L) (gd (ix (x3 + 2) L) (gd (ix (x3 + 3) L) (gd (ix (x3 + 4) L) ((if (xs (x3 + 4).toNatClampNeg) = 0 then f_L_law_J614_18 xs L h x3 (xs (x3 + 1).toNatClampNeg) (xs (x3 + 2).toNatClampNeg) (xs (x3 + 3).toNatClampNeg) 0 else f_L_law_J614_18 xs L h x3 (xs (x3 + 1).toNatClampNeg) (xs (x3 + 2).toNatClampNeg) (xs (x3 + 3).toNatClampNeg) 1)))))
set_option maxRecDepth 100000 in
set_option maxHeartbeats 4000000 in
theorem t_L_law_J585_18 {g : Gx} {l : Launch} {V V1 : VT} {b L : Nat} {xs : Nat → Int32} {ce sl : Nat} (oP : OkLP g l b L xs ce sl V V1) (h : MH) (x3 : Int32) : T (Sum.elim (fun s => V1 18 [(0, .ref b), (1, rA g 0), (2, rA g 64), (3, .int s.1)] [] s.2) (Sum.elim (fun b0 => V 1963 [] [] b0) (fun r => r = true))) (f_L_law_J585_18 xs L  h x3) (V 585 [(0, .ref b), (1, rA g 0), (2, rA g 64), (3, .int x3)] [] h) := by
  have oS := oP.fst
  have oS1 := oP.snd
  have o := oS.ok
  have o1 := oS1.ok
  unfold f_L_law_J585_18
  refine R_aload_n o 1 dL_law_585 rfl rfl ?_
  refine R_aloadS oS 0 dL_law_586 rfl rfl ?_
  refine R_iload_n o 3 dL_law_587 rfl rfl ?_
  refine R_iconst (v := 1) o dL_law_588 (by decide) ?_
  refine R_iadd o dL_law_589 ?_
  refine R_sld oS dL_law_590 ?_
  refine R_aloadS oS 0 dL_law_591 rfl rfl ?_
  refine R_iload_n o 3 dL_law_592 rfl rfl ?_
  refine R_iconst (v := 2) o dL_law_593 (by decide) ?_
  refine R_iadd o dL_law_594 ?_
  refine R_sld oS dL_law_595 ?_
  refine R_aloadS oS 0 dL_law_596 rfl rfl ?_
  refine R_iload_n o 3 dL_law_597 rfl rfl ?_
  refine R_iconst (v := 3) o dL_law_598 (by decide) ?_
  refine R_iadd o dL_law_599 ?_
  refine R_sld oS dL_law_600 ?_
  refine R_aloadS oS 0 dL_law_601 rfl rfl ?_
  refine R_iload_n o 3 dL_law_602 rfl rfl ?_
  refine R_iconst (v := 4) o dL_law_603 (by decide) ?_
  refine R_iadd o dL_law_604 ?_
  refine R_sld oS dL_law_605 ?_
  refine R_if_eq o 613 dL_law_606 (by decide) ?_ ?_
  · refine R_iconst (v := 0) o dL_law_613 (by decide) ?_
    exact t_L_law_J614_18 oP h x3 (xs (x3 + 1).toNatClampNeg) (xs (x3 + 2).toNatClampNeg) (xs (x3 + 3).toNatClampNeg) 0
  · refine R_iconst (v := 1) o dL_law_609 (by decide) ?_
    refine R_goto o 614 dL_law_610 (by decide) ?_
    exact t_L_law_J614_18 oP h x3 (xs (x3 + 1).toNatClampNeg) (xs (x3 + 2).toNatClampNeg) (xs (x3 + 3).toNatClampNeg) 1
noncomputable def f_L_law_J654_18 (xs : Nat → Int32) (L : Nat) (h : MH) (x3 : Int32) : Option ((Int32 × MH) ⊕ (MH ⊕ Bool)) :=
  gd (ix (x3 + 1) L) (gd (ix (x3 + 2) L) (gd (ix (x3 + 3) L) (bnd2 (f_X6_wordy h (xs (x3 + 1).toNatClampNeg) (xs (x3 + 2).toNatClampNeg) (xs (x3 + 3).toNatClampNeg)) (fun r670 h670 => gd (ix (x3 + 1) L) (gd (ix (x3 + 2) L) (gd (ix (x3 + 3) L) (bnd2 (f_X7_wordy h670 (xs (x3 + 1).toNatClampNeg) (xs (x3 + 2).toNatClampNeg) (xs (x3 + 3).toNatClampNeg)) (fun r689 h689 => (if r670 = r689 then some (.inl ((x3 + 6), h689)) else some (.inr (.inr false)))))))))))
set_option maxRecDepth 100000 in
set_option maxHeartbeats 4000000 in
theorem t_L_law_J654_18 {g : Gx} {l : Launch} {V V1 : VT} {b L : Nat} {xs : Nat → Int32} {ce sl : Nat} (oP : OkLP g l b L xs ce sl V V1) (h : MH) (x3 : Int32) : T (Sum.elim (fun s => V1 18 [(0, .ref b), (1, rA g 0), (2, rA g 64), (3, .int s.1)] [] s.2) (Sum.elim (fun b0 => V 1963 [] [] b0) (fun r => r = true))) (f_L_law_J654_18 xs L  h x3) (V 654 [(0, .ref b), (1, rA g 0), (2, rA g 64), (3, .int x3)] [] h) := by
  have oS := oP.fst
  have oS1 := oP.snd
  have o := oS.ok
  have o1 := oS1.ok
  unfold f_L_law_J654_18
  refine R_aload_n o 1 dL_law_654 rfl rfl ?_
  refine R_aloadS oS 0 dL_law_655 rfl rfl ?_
  refine R_iload_n o 3 dL_law_656 rfl rfl ?_
  refine R_iconst (v := 1) o dL_law_657 (by decide) ?_
  refine R_iadd o dL_law_658 ?_
  refine R_sld oS dL_law_659 ?_
  refine R_aloadS oS 0 dL_law_660 rfl rfl ?_
  refine R_iload_n o 3 dL_law_661 rfl rfl ?_
  refine R_iconst (v := 2) o dL_law_662 (by decide) ?_
  refine R_iadd o dL_law_663 ?_
  refine R_sld oS dL_law_664 ?_
  refine R_aloadS oS 0 dL_law_665 rfl rfl ?_
  refine R_iload_n o 3 dL_law_666 rfl rfl ?_
  refine R_iconst (v := 3) o dL_law_667 (by decide) ?_
  refine R_iadd o dL_law_668 ?_
  refine R_sld oS dL_law_669 ?_
  refine K_ih (callV' (As := [.int (xs (x3 + 1).toNatClampNeg), .int (xs (x3 + 2).toNatClampNeg), .int (xs (x3 + 3).toNatClampNeg)]) (rest := []) o dL_law_670 lk_L_58 rfl sh_0 rfl rfl rfl rfl (Nat.le_of_ble_eq_true rfl)) (c_X6_wordy g l h (xs (x3 + 1).toNatClampNeg) (xs (x3 + 2).toNatClampNeg) (xs (x3 + 3).toNatClampNeg)) (fun r670 h670 => ?_)
  refine R_aload_n o 2 dL_law_673 rfl rfl ?_
  refine R_aloadS oS 0 dL_law_674 rfl rfl ?_
  refine R_iload_n o 3 dL_law_675 rfl rfl ?_
  refine R_iconst (v := 1) o dL_law_676 (by decide) ?_
  refine R_iadd o dL_law_677 ?_
  refine R_sld oS dL_law_678 ?_
  refine R_aloadS oS 0 dL_law_679 rfl rfl ?_
  refine R_iload_n o 3 dL_law_680 rfl rfl ?_
  refine R_iconst (v := 2) o dL_law_681 (by decide) ?_
  refine R_iadd o dL_law_682 ?_
  refine R_sld oS dL_law_683 ?_
  refine R_aloadS oS 0 dL_law_684 rfl rfl ?_
  refine R_iload_n o 3 dL_law_685 rfl rfl ?_
  refine R_iconst (v := 3) o dL_law_686 (by decide) ?_
  refine R_iadd o dL_law_687 ?_
  refine R_sld oS dL_law_688 ?_
  refine K_ih (callV' (As := [.int (xs (x3 + 1).toNatClampNeg), .int (xs (x3 + 2).toNatClampNeg), .int (xs (x3 + 3).toNatClampNeg)]) (rest := [.int r670]) o dL_law_689 lk_L_61 rfl sh_64 rfl rfl rfl rfl (Nat.le_of_ble_eq_true rfl)) (c_X7_wordy g l h670 (xs (x3 + 1).toNatClampNeg) (xs (x3 + 2).toNatClampNeg) (xs (x3 + 3).toNatClampNeg)) (fun r689 h689 => ?_)
  refine R_icmp_eq o 1957 dL_law_692 (by decide) ?_ ?_
  · refine R_iinc (v := (x3 + 6)) (lv2 := [(0, .ref b), (1, rA g 0), (2, rA g 64), (3, .int (x3 + 6))]) o 3 dL_law_1957 rfl rfl (by decide) rfl ?_
    refine R_goto o 18 dL_law_1960 (by decide) ?_
    exact T_some (fun p => oP.wide p)
  · refine R_iconst (v := 0) o dL_law_695 (by decide) ?_
    exact T_some (fun p => absurd (show false = true from p) (by decide))
noncomputable def f_L_law_J697_18 (xs : Nat → Int32) (L : Nat) (h : MH) (x3 : Int32) : Option ((Int32 × MH) ⊕ (MH ⊕ Bool)) :=
  gd (ix (x3 + 1) L) (gd (ix (x3 + 2) L) (bnd2 (f_X6_wet h (xs (x3 + 1).toNatClampNeg) (xs (x3 + 2).toNatClampNeg)) (fun r708 h708 => gd (ix (x3 + 1) L) (gd (ix (x3 + 2) L) (bnd2 (f_X7_wet h708 (xs (x3 + 1).toNatClampNeg) (xs (x3 + 2).toNatClampNeg)) (fun r722 h722 => (if r708 = r722 then some (.inl ((x3 + 6), h722)) else some (.inr (.inr false)))))))))
set_option maxRecDepth 100000 in
set_option maxHeartbeats 4000000 in
theorem t_L_law_J697_18 {g : Gx} {l : Launch} {V V1 : VT} {b L : Nat} {xs : Nat → Int32} {ce sl : Nat} (oP : OkLP g l b L xs ce sl V V1) (h : MH) (x3 : Int32) : T (Sum.elim (fun s => V1 18 [(0, .ref b), (1, rA g 0), (2, rA g 64), (3, .int s.1)] [] s.2) (Sum.elim (fun b0 => V 1963 [] [] b0) (fun r => r = true))) (f_L_law_J697_18 xs L  h x3) (V 697 [(0, .ref b), (1, rA g 0), (2, rA g 64), (3, .int x3)] [] h) := by
  have oS := oP.fst
  have oS1 := oP.snd
  have o := oS.ok
  have o1 := oS1.ok
  unfold f_L_law_J697_18
  refine R_aload_n o 1 dL_law_697 rfl rfl ?_
  refine R_aloadS oS 0 dL_law_698 rfl rfl ?_
  refine R_iload_n o 3 dL_law_699 rfl rfl ?_
  refine R_iconst (v := 1) o dL_law_700 (by decide) ?_
  refine R_iadd o dL_law_701 ?_
  refine R_sld oS dL_law_702 ?_
  refine R_aloadS oS 0 dL_law_703 rfl rfl ?_
  refine R_iload_n o 3 dL_law_704 rfl rfl ?_
  refine R_iconst (v := 2) o dL_law_705 (by decide) ?_
  refine R_iadd o dL_law_706 ?_
  refine R_sld oS dL_law_707 ?_
  refine K_ih (callV' (As := [.int (xs (x3 + 1).toNatClampNeg), .int (xs (x3 + 2).toNatClampNeg)]) (rest := []) o dL_law_708 lk_L_62 rfl sh_0 rfl rfl rfl rfl (Nat.le_of_ble_eq_true rfl)) (c_X6_wet g l h (xs (x3 + 1).toNatClampNeg) (xs (x3 + 2).toNatClampNeg)) (fun r708 h708 => ?_)
  refine R_aload_n o 2 dL_law_711 rfl rfl ?_
  refine R_aloadS oS 0 dL_law_712 rfl rfl ?_
  refine R_iload_n o 3 dL_law_713 rfl rfl ?_
  refine R_iconst (v := 1) o dL_law_714 (by decide) ?_
  refine R_iadd o dL_law_715 ?_
  refine R_sld oS dL_law_716 ?_
  refine R_aloadS oS 0 dL_law_717 rfl rfl ?_
  refine R_iload_n o 3 dL_law_718 rfl rfl ?_
  refine R_iconst (v := 2) o dL_law_719 (by decide) ?_
  refine R_iadd o dL_law_720 ?_
  refine R_sld oS dL_law_721 ?_
  refine K_ih (callV' (As := [.int (xs (x3 + 1).toNatClampNeg), .int (xs (x3 + 2).toNatClampNeg)]) (rest := [.int r708]) o dL_law_722 lk_L_65 rfl sh_64 rfl rfl rfl rfl (Nat.le_of_ble_eq_true rfl)) (c_X7_wet g l h708 (xs (x3 + 1).toNatClampNeg) (xs (x3 + 2).toNatClampNeg)) (fun r722 h722 => ?_)
  refine R_icmp_eq o 1957 dL_law_725 (by decide) ?_ ?_
  · refine R_iinc (v := (x3 + 6)) (lv2 := [(0, .ref b), (1, rA g 0), (2, rA g 64), (3, .int (x3 + 6))]) o 3 dL_law_1957 rfl rfl (by decide) rfl ?_
    refine R_goto o 18 dL_law_1960 (by decide) ?_
    exact T_some (fun p => oP.wide p)
  · refine R_iconst (v := 0) o dL_law_728 (by decide) ?_
    exact T_some (fun p => absurd (show false = true from p) (by decide))
noncomputable def f_L_law_J730_18 (xs : Nat → Int32) (L : Nat) (h : MH) (x3 : Int32) : Option ((Int32 × MH) ⊕ (MH ⊕ Bool)) :=
  gd (ix (x3 + 1) L) (bnd2 (f_X6_drop h (xs (x3 + 1).toNatClampNeg)) (fun r736 h736 => gd (ix (x3 + 1) L) (bnd2 (f_X7_drop h736 (xs (x3 + 1).toNatClampNeg)) (fun r745 h745 => (if r736 = r745 then some (.inl ((x3 + 6), h745)) else some (.inr (.inr false)))))))
set_option maxRecDepth 100000 in
set_option maxHeartbeats 4000000 in
theorem t_L_law_J730_18 {g : Gx} {l : Launch} {V V1 : VT} {b L : Nat} {xs : Nat → Int32} {ce sl : Nat} (oP : OkLP g l b L xs ce sl V V1) (h : MH) (x3 : Int32) : T (Sum.elim (fun s => V1 18 [(0, .ref b), (1, rA g 0), (2, rA g 64), (3, .int s.1)] [] s.2) (Sum.elim (fun b0 => V 1963 [] [] b0) (fun r => r = true))) (f_L_law_J730_18 xs L  h x3) (V 730 [(0, .ref b), (1, rA g 0), (2, rA g 64), (3, .int x3)] [] h) := by
  have oS := oP.fst
  have oS1 := oP.snd
  have o := oS.ok
  have o1 := oS1.ok
  unfold f_L_law_J730_18
  refine R_aload_n o 1 dL_law_730 rfl rfl ?_
  refine R_aloadS oS 0 dL_law_731 rfl rfl ?_
  refine R_iload_n o 3 dL_law_732 rfl rfl ?_
  refine R_iconst (v := 1) o dL_law_733 (by decide) ?_
  refine R_iadd o dL_law_734 ?_
  refine R_sld oS dL_law_735 ?_
  refine K_ih (callV' (As := [.int (xs (x3 + 1).toNatClampNeg)]) (rest := []) o dL_law_736 lk_L_66 rfl sh_0 rfl rfl rfl rfl (Nat.le_of_ble_eq_true rfl)) (c_X6_drop g l h (xs (x3 + 1).toNatClampNeg)) (fun r736 h736 => ?_)
  refine R_aload_n o 2 dL_law_739 rfl rfl ?_
  refine R_aloadS oS 0 dL_law_740 rfl rfl ?_
  refine R_iload_n o 3 dL_law_741 rfl rfl ?_
  refine R_iconst (v := 1) o dL_law_742 (by decide) ?_
  refine R_iadd o dL_law_743 ?_
  refine R_sld oS dL_law_744 ?_
  refine K_ih (callV' (As := [.int (xs (x3 + 1).toNatClampNeg)]) (rest := [.int r736]) o dL_law_745 lk_L_69 rfl sh_64 rfl rfl rfl rfl (Nat.le_of_ble_eq_true rfl)) (c_X7_drop g l h736 (xs (x3 + 1).toNatClampNeg)) (fun r745 h745 => ?_)
  refine R_icmp_eq o 1957 dL_law_748 (by decide) ?_ ?_
  · refine R_iinc (v := (x3 + 6)) (lv2 := [(0, .ref b), (1, rA g 0), (2, rA g 64), (3, .int (x3 + 6))]) o 3 dL_law_1957 rfl rfl (by decide) rfl ?_
    refine R_goto o 18 dL_law_1960 (by decide) ?_
    exact T_some (fun p => oP.wide p)
  · refine R_iconst (v := 0) o dL_law_751 (by decide) ?_
    exact T_some (fun p => absurd (show false = true from p) (by decide))
noncomputable def f_L_law_J753_18 (xs : Nat → Int32) (L : Nat) (h : MH) (x3 : Int32) : Option ((Int32 × MH) ⊕ (MH ⊕ Bool)) :=
  gd (ix (x3 + 1) L) (gd (ix (x3 + 2) L) (bnd2 (f_X6_dots h (xs (x3 + 1).toNatClampNeg) (xs (x3 + 2).toNatClampNeg)) (fun r764 h764 => gd (ix (x3 + 1) L) (gd (ix (x3 + 2) L) (bnd2 (f_X7_dots h764 (xs (x3 + 1).toNatClampNeg) (xs (x3 + 2).toNatClampNeg)) (fun r778 h778 => (if r764 = r778 then some (.inl ((x3 + 6), h778)) else some (.inr (.inr false)))))))))
set_option maxRecDepth 100000 in
set_option maxHeartbeats 4000000 in
theorem t_L_law_J753_18 {g : Gx} {l : Launch} {V V1 : VT} {b L : Nat} {xs : Nat → Int32} {ce sl : Nat} (oP : OkLP g l b L xs ce sl V V1) (h : MH) (x3 : Int32) : T (Sum.elim (fun s => V1 18 [(0, .ref b), (1, rA g 0), (2, rA g 64), (3, .int s.1)] [] s.2) (Sum.elim (fun b0 => V 1963 [] [] b0) (fun r => r = true))) (f_L_law_J753_18 xs L  h x3) (V 753 [(0, .ref b), (1, rA g 0), (2, rA g 64), (3, .int x3)] [] h) := by
  have oS := oP.fst
  have oS1 := oP.snd
  have o := oS.ok
  have o1 := oS1.ok
  unfold f_L_law_J753_18
  refine R_aload_n o 1 dL_law_753 rfl rfl ?_
  refine R_aloadS oS 0 dL_law_754 rfl rfl ?_
  refine R_iload_n o 3 dL_law_755 rfl rfl ?_
  refine R_iconst (v := 1) o dL_law_756 (by decide) ?_
  refine R_iadd o dL_law_757 ?_
  refine R_sld oS dL_law_758 ?_
  refine R_aloadS oS 0 dL_law_759 rfl rfl ?_
  refine R_iload_n o 3 dL_law_760 rfl rfl ?_
  refine R_iconst (v := 2) o dL_law_761 (by decide) ?_
  refine R_iadd o dL_law_762 ?_
  refine R_sld oS dL_law_763 ?_
  refine K_ih (callV' (As := [.int (xs (x3 + 1).toNatClampNeg), .int (xs (x3 + 2).toNatClampNeg)]) (rest := []) o dL_law_764 lk_L_70 rfl sh_0 rfl rfl rfl rfl (Nat.le_of_ble_eq_true rfl)) (c_X6_dots g l h (xs (x3 + 1).toNatClampNeg) (xs (x3 + 2).toNatClampNeg)) (fun r764 h764 => ?_)
  refine R_aload_n o 2 dL_law_767 rfl rfl ?_
  refine R_aloadS oS 0 dL_law_768 rfl rfl ?_
  refine R_iload_n o 3 dL_law_769 rfl rfl ?_
  refine R_iconst (v := 1) o dL_law_770 (by decide) ?_
  refine R_iadd o dL_law_771 ?_
  refine R_sld oS dL_law_772 ?_
  refine R_aloadS oS 0 dL_law_773 rfl rfl ?_
  refine R_iload_n o 3 dL_law_774 rfl rfl ?_
  refine R_iconst (v := 2) o dL_law_775 (by decide) ?_
  refine R_iadd o dL_law_776 ?_
  refine R_sld oS dL_law_777 ?_
  refine K_ih (callV' (As := [.int (xs (x3 + 1).toNatClampNeg), .int (xs (x3 + 2).toNatClampNeg)]) (rest := [.int r764]) o dL_law_778 lk_L_73 rfl sh_64 rfl rfl rfl rfl (Nat.le_of_ble_eq_true rfl)) (c_X7_dots g l h764 (xs (x3 + 1).toNatClampNeg) (xs (x3 + 2).toNatClampNeg)) (fun r778 h778 => ?_)
  refine R_icmp_eq o 1957 dL_law_781 (by decide) ?_ ?_
  · refine R_iinc (v := (x3 + 6)) (lv2 := [(0, .ref b), (1, rA g 0), (2, rA g 64), (3, .int (x3 + 6))]) o 3 dL_law_1957 rfl rfl (by decide) rfl ?_
    refine R_goto o 18 dL_law_1960 (by decide) ?_
    exact T_some (fun p => oP.wide p)
  · refine R_iconst (v := 0) o dL_law_784 (by decide) ?_
    exact T_some (fun p => absurd (show false = true from p) (by decide))
noncomputable def f_L_law_J786_18 (xs : Nat → Int32) (L : Nat) (h : MH) (x3 : Int32) : Option ((Int32 × MH) ⊕ (MH ⊕ Bool)) :=
  gd (ix (x3 + 1) L) (gd (ix (x3 + 2) L) (gd (ix (x3 + 3) L) (bnd2 (f_X6_dot h (xs (x3 + 1).toNatClampNeg) (xs (x3 + 2).toNatClampNeg) (xs (x3 + 3).toNatClampNeg)) (fun r802 h802 => gd (ix (x3 + 1) L) (gd (ix (x3 + 2) L) (gd (ix (x3 + 3) L) (bnd2 (f_X7_dot h802 (xs (x3 + 1).toNatClampNeg) (xs (x3 + 2).toNatClampNeg) (xs (x3 + 3).toNatClampNeg)) (fun r821 h821 => (if r802 = r821 then some (.inl ((x3 + 6), h821)) else some (.inr (.inr false)))))))))))
set_option maxRecDepth 100000 in
set_option maxHeartbeats 4000000 in
theorem t_L_law_J786_18 {g : Gx} {l : Launch} {V V1 : VT} {b L : Nat} {xs : Nat → Int32} {ce sl : Nat} (oP : OkLP g l b L xs ce sl V V1) (h : MH) (x3 : Int32) : T (Sum.elim (fun s => V1 18 [(0, .ref b), (1, rA g 0), (2, rA g 64), (3, .int s.1)] [] s.2) (Sum.elim (fun b0 => V 1963 [] [] b0) (fun r => r = true))) (f_L_law_J786_18 xs L  h x3) (V 786 [(0, .ref b), (1, rA g 0), (2, rA g 64), (3, .int x3)] [] h) := by
  have oS := oP.fst
  have oS1 := oP.snd
  have o := oS.ok
  have o1 := oS1.ok
  unfold f_L_law_J786_18
  refine R_aload_n o 1 dL_law_786 rfl rfl ?_
  refine R_aloadS oS 0 dL_law_787 rfl rfl ?_
  refine R_iload_n o 3 dL_law_788 rfl rfl ?_
  refine R_iconst (v := 1) o dL_law_789 (by decide) ?_
  refine R_iadd o dL_law_790 ?_
  refine R_sld oS dL_law_791 ?_
  refine R_aloadS oS 0 dL_law_792 rfl rfl ?_
  refine R_iload_n o 3 dL_law_793 rfl rfl ?_
  refine R_iconst (v := 2) o dL_law_794 (by decide) ?_
  refine R_iadd o dL_law_795 ?_
  refine R_sld oS dL_law_796 ?_
  refine R_aloadS oS 0 dL_law_797 rfl rfl ?_
  refine R_iload_n o 3 dL_law_798 rfl rfl ?_
  refine R_iconst (v := 3) o dL_law_799 (by decide) ?_
  refine R_iadd o dL_law_800 ?_
  refine R_sld oS dL_law_801 ?_
  refine K_ih (callV' (As := [.int (xs (x3 + 1).toNatClampNeg), .int (xs (x3 + 2).toNatClampNeg), .int (xs (x3 + 3).toNatClampNeg)]) (rest := []) o dL_law_802 lk_L_74 rfl sh_0 rfl rfl rfl rfl (Nat.le_of_ble_eq_true rfl)) (c_X6_dot g l h (xs (x3 + 1).toNatClampNeg) (xs (x3 + 2).toNatClampNeg) (xs (x3 + 3).toNatClampNeg)) (fun r802 h802 => ?_)
  refine R_aload_n o 2 dL_law_805 rfl rfl ?_
  refine R_aloadS oS 0 dL_law_806 rfl rfl ?_
  refine R_iload_n o 3 dL_law_807 rfl rfl ?_
  refine R_iconst (v := 1) o dL_law_808 (by decide) ?_
  refine R_iadd o dL_law_809 ?_
  refine R_sld oS dL_law_810 ?_
  refine R_aloadS oS 0 dL_law_811 rfl rfl ?_
  refine R_iload_n o 3 dL_law_812 rfl rfl ?_
  refine R_iconst (v := 2) o dL_law_813 (by decide) ?_
  refine R_iadd o dL_law_814 ?_
  refine R_sld oS dL_law_815 ?_
  refine R_aloadS oS 0 dL_law_816 rfl rfl ?_
  refine R_iload_n o 3 dL_law_817 rfl rfl ?_
  refine R_iconst (v := 3) o dL_law_818 (by decide) ?_
  refine R_iadd o dL_law_819 ?_
  refine R_sld oS dL_law_820 ?_
  refine K_ih (callV' (As := [.int (xs (x3 + 1).toNatClampNeg), .int (xs (x3 + 2).toNatClampNeg), .int (xs (x3 + 3).toNatClampNeg)]) (rest := [.int r802]) o dL_law_821 lk_L_77 rfl sh_64 rfl rfl rfl rfl (Nat.le_of_ble_eq_true rfl)) (c_X7_dot g l h802 (xs (x3 + 1).toNatClampNeg) (xs (x3 + 2).toNatClampNeg) (xs (x3 + 3).toNatClampNeg)) (fun r821 h821 => ?_)
  refine R_icmp_eq o 1957 dL_law_824 (by decide) ?_ ?_
  · refine R_iinc (v := (x3 + 6)) (lv2 := [(0, .ref b), (1, rA g 0), (2, rA g 64), (3, .int (x3 + 6))]) o 3 dL_law_1957 rfl rfl (by decide) rfl ?_
    refine R_goto o 18 dL_law_1960 (by decide) ?_
    exact T_some (fun p => oP.wide p)
  · refine R_iconst (v := 0) o dL_law_827 (by decide) ?_
    exact T_some (fun p => absurd (show false = true from p) (by decide))
noncomputable def f_L_law_J829_18 (xs : Nat → Int32) (L : Nat) (h : MH) (x3 : Int32) : Option ((Int32 × MH) ⊕ (MH ⊕ Bool)) :=
  gd (ix (x3 + 1) L) (bnd2 (f_X6_kind h (xs (x3 + 1).toNatClampNeg)) (fun r835 h835 => gd (ix (x3 + 1) L) (bnd2 (f_X7_kind h835 (xs (x3 + 1).toNatClampNeg)) (fun r844 h844 => (if r835 = r844 then some (.inl ((x3 + 6), h844)) else some (.inr (.inr false)))))))
set_option maxRecDepth 100000 in
set_option maxHeartbeats 4000000 in
theorem t_L_law_J829_18 {g : Gx} {l : Launch} {V V1 : VT} {b L : Nat} {xs : Nat → Int32} {ce sl : Nat} (oP : OkLP g l b L xs ce sl V V1) (h : MH) (x3 : Int32) : T (Sum.elim (fun s => V1 18 [(0, .ref b), (1, rA g 0), (2, rA g 64), (3, .int s.1)] [] s.2) (Sum.elim (fun b0 => V 1963 [] [] b0) (fun r => r = true))) (f_L_law_J829_18 xs L  h x3) (V 829 [(0, .ref b), (1, rA g 0), (2, rA g 64), (3, .int x3)] [] h) := by
  have oS := oP.fst
  have oS1 := oP.snd
  have o := oS.ok
  have o1 := oS1.ok
  unfold f_L_law_J829_18
  refine R_aload_n o 1 dL_law_829 rfl rfl ?_
  refine R_aloadS oS 0 dL_law_830 rfl rfl ?_
  refine R_iload_n o 3 dL_law_831 rfl rfl ?_
  refine R_iconst (v := 1) o dL_law_832 (by decide) ?_
  refine R_iadd o dL_law_833 ?_
  refine R_sld oS dL_law_834 ?_
  refine K_ih (callV' (As := [.int (xs (x3 + 1).toNatClampNeg)]) (rest := []) o dL_law_835 lk_L_78 rfl sh_0 rfl rfl rfl rfl (Nat.le_of_ble_eq_true rfl)) (c_X6_kind g l h (xs (x3 + 1).toNatClampNeg)) (fun r835 h835 => ?_)
  refine R_aload_n o 2 dL_law_838 rfl rfl ?_
  refine R_aloadS oS 0 dL_law_839 rfl rfl ?_
  refine R_iload_n o 3 dL_law_840 rfl rfl ?_
  refine R_iconst (v := 1) o dL_law_841 (by decide) ?_
  refine R_iadd o dL_law_842 ?_
  refine R_sld oS dL_law_843 ?_
  refine K_ih (callV' (As := [.int (xs (x3 + 1).toNatClampNeg)]) (rest := [.int r835]) o dL_law_844 lk_L_81 rfl sh_64 rfl rfl rfl rfl (Nat.le_of_ble_eq_true rfl)) (c_X7_kind g l h835 (xs (x3 + 1).toNatClampNeg)) (fun r844 h844 => ?_)
  refine R_icmp_eq o 1957 dL_law_847 (by decide) ?_ ?_
  · refine R_iinc (v := (x3 + 6)) (lv2 := [(0, .ref b), (1, rA g 0), (2, rA g 64), (3, .int (x3 + 6))]) o 3 dL_law_1957 rfl rfl (by decide) rfl ?_
    refine R_goto o 18 dL_law_1960 (by decide) ?_
    exact T_some (fun p => oP.wide p)
  · refine R_iconst (v := 0) o dL_law_850 (by decide) ?_
    exact T_some (fun p => absurd (show false = true from p) (by decide))
noncomputable def f_L_law_J852_18 (xs : Nat → Int32) (L : Nat) (h : MH) (x3 : Int32) : Option ((Int32 × MH) ⊕ (MH ⊕ Bool)) :=
  gd (ix (x3 + 1) L) (gd (ix (x3 + 2) L) (bnd2 (f_X6_mark h (xs (x3 + 1).toNatClampNeg) (xs (x3 + 2).toNatClampNeg)) (fun r863 h863 => gd (ix (x3 + 1) L) (gd (ix (x3 + 2) L) (bnd2 (f_X7_mark h863 (xs (x3 + 1).toNatClampNeg) (xs (x3 + 2).toNatClampNeg)) (fun r877 h877 => (if r863 = r877 then some (.inl ((x3 + 6), h877)) else some (.inr (.inr false)))))))))
set_option maxRecDepth 100000 in
set_option maxHeartbeats 4000000 in
theorem t_L_law_J852_18 {g : Gx} {l : Launch} {V V1 : VT} {b L : Nat} {xs : Nat → Int32} {ce sl : Nat} (oP : OkLP g l b L xs ce sl V V1) (h : MH) (x3 : Int32) : T (Sum.elim (fun s => V1 18 [(0, .ref b), (1, rA g 0), (2, rA g 64), (3, .int s.1)] [] s.2) (Sum.elim (fun b0 => V 1963 [] [] b0) (fun r => r = true))) (f_L_law_J852_18 xs L  h x3) (V 852 [(0, .ref b), (1, rA g 0), (2, rA g 64), (3, .int x3)] [] h) := by
  have oS := oP.fst
  have oS1 := oP.snd
  have o := oS.ok
  have o1 := oS1.ok
  unfold f_L_law_J852_18
  refine R_aload_n o 1 dL_law_852 rfl rfl ?_
  refine R_aloadS oS 0 dL_law_853 rfl rfl ?_
  refine R_iload_n o 3 dL_law_854 rfl rfl ?_
  refine R_iconst (v := 1) o dL_law_855 (by decide) ?_
  refine R_iadd o dL_law_856 ?_
  refine R_sld oS dL_law_857 ?_
  refine R_aloadS oS 0 dL_law_858 rfl rfl ?_
  refine R_iload_n o 3 dL_law_859 rfl rfl ?_
  refine R_iconst (v := 2) o dL_law_860 (by decide) ?_
  refine R_iadd o dL_law_861 ?_
  refine R_sld oS dL_law_862 ?_
  refine K_ih (callV' (As := [.int (xs (x3 + 1).toNatClampNeg), .int (xs (x3 + 2).toNatClampNeg)]) (rest := []) o dL_law_863 lk_L_82 rfl sh_0 rfl rfl rfl rfl (Nat.le_of_ble_eq_true rfl)) (c_X6_mark g l h (xs (x3 + 1).toNatClampNeg) (xs (x3 + 2).toNatClampNeg)) (fun r863 h863 => ?_)
  refine R_aload_n o 2 dL_law_866 rfl rfl ?_
  refine R_aloadS oS 0 dL_law_867 rfl rfl ?_
  refine R_iload_n o 3 dL_law_868 rfl rfl ?_
  refine R_iconst (v := 1) o dL_law_869 (by decide) ?_
  refine R_iadd o dL_law_870 ?_
  refine R_sld oS dL_law_871 ?_
  refine R_aloadS oS 0 dL_law_872 rfl rfl ?_
  refine R_iload_n o 3 dL_law_873 rfl rfl ?_
  refine R_iconst (v := 2) o dL_law_874 (by decide) ?_
  refine R_iadd o dL_law_875 ?_
  refine R_sld oS dL_law_876 ?_
  refine K_ih (callV' (As := [.int (xs (x3 + 1).toNatClampNeg), .int (xs (x3 + 2).toNatClampNeg)]) (rest := [.int r863]) o dL_law_877 lk_L_85 rfl sh_64 rfl rfl rfl rfl (Nat.le_of_ble_eq_true rfl)) (c_X7_mark g l h863 (xs (x3 + 1).toNatClampNeg) (xs (x3 + 2).toNatClampNeg)) (fun r877 h877 => ?_)
  refine R_icmp_eq o 1957 dL_law_880 (by decide) ?_ ?_
  · refine R_iinc (v := (x3 + 6)) (lv2 := [(0, .ref b), (1, rA g 0), (2, rA g 64), (3, .int (x3 + 6))]) o 3 dL_law_1957 rfl rfl (by decide) rfl ?_
    refine R_goto o 18 dL_law_1960 (by decide) ?_
    exact T_some (fun p => oP.wide p)
  · refine R_iconst (v := 0) o dL_law_883 (by decide) ?_
    exact T_some (fun p => absurd (show false = true from p) (by decide))
noncomputable def f_L_law_J885_18 (xs : Nat → Int32) (L : Nat) (h : MH) (x3 : Int32) : Option ((Int32 × MH) ⊕ (MH ⊕ Bool)) :=
  gd (ix (x3 + 1) L) (gd (ix (x3 + 2) L) (gd (ix (x3 + 3) L) (bnd2 (f_X6_place h (xs (x3 + 1).toNatClampNeg) (xs (x3 + 2).toNatClampNeg) (xs (x3 + 3).toNatClampNeg)) (fun r901 h901 => gd (ix (x3 + 1) L) (gd (ix (x3 + 2) L) (gd (ix (x3 + 3) L) (bnd2 (f_X7_place h901 (xs (x3 + 1).toNatClampNeg) (xs (x3 + 2).toNatClampNeg) (xs (x3 + 3).toNatClampNeg)) (fun r920 h920 => (if r901 = r920 then some (.inl ((x3 + 6), h920)) else some (.inr (.inr false)))))))))))
set_option maxRecDepth 100000 in
set_option maxHeartbeats 4000000 in
theorem t_L_law_J885_18 {g : Gx} {l : Launch} {V V1 : VT} {b L : Nat} {xs : Nat → Int32} {ce sl : Nat} (oP : OkLP g l b L xs ce sl V V1) (h : MH) (x3 : Int32) : T (Sum.elim (fun s => V1 18 [(0, .ref b), (1, rA g 0), (2, rA g 64), (3, .int s.1)] [] s.2) (Sum.elim (fun b0 => V 1963 [] [] b0) (fun r => r = true))) (f_L_law_J885_18 xs L  h x3) (V 885 [(0, .ref b), (1, rA g 0), (2, rA g 64), (3, .int x3)] [] h) := by
  have oS := oP.fst
  have oS1 := oP.snd
  have o := oS.ok
  have o1 := oS1.ok
  unfold f_L_law_J885_18
  refine R_aload_n o 1 dL_law_885 rfl rfl ?_
  refine R_aloadS oS 0 dL_law_886 rfl rfl ?_
  refine R_iload_n o 3 dL_law_887 rfl rfl ?_
  refine R_iconst (v := 1) o dL_law_888 (by decide) ?_
  refine R_iadd o dL_law_889 ?_
  refine R_sld oS dL_law_890 ?_
  refine R_aloadS oS 0 dL_law_891 rfl rfl ?_
  refine R_iload_n o 3 dL_law_892 rfl rfl ?_
  refine R_iconst (v := 2) o dL_law_893 (by decide) ?_
  refine R_iadd o dL_law_894 ?_
  refine R_sld oS dL_law_895 ?_
  refine R_aloadS oS 0 dL_law_896 rfl rfl ?_
  refine R_iload_n o 3 dL_law_897 rfl rfl ?_
  refine R_iconst (v := 3) o dL_law_898 (by decide) ?_
  refine R_iadd o dL_law_899 ?_
  refine R_sld oS dL_law_900 ?_
  refine K_ih (callV' (As := [.int (xs (x3 + 1).toNatClampNeg), .int (xs (x3 + 2).toNatClampNeg), .int (xs (x3 + 3).toNatClampNeg)]) (rest := []) o dL_law_901 lk_L_86 rfl sh_0 rfl rfl rfl rfl (Nat.le_of_ble_eq_true rfl)) (c_X6_place g l h (xs (x3 + 1).toNatClampNeg) (xs (x3 + 2).toNatClampNeg) (xs (x3 + 3).toNatClampNeg)) (fun r901 h901 => ?_)
  refine R_aload_n o 2 dL_law_904 rfl rfl ?_
  refine R_aloadS oS 0 dL_law_905 rfl rfl ?_
  refine R_iload_n o 3 dL_law_906 rfl rfl ?_
  refine R_iconst (v := 1) o dL_law_907 (by decide) ?_
  refine R_iadd o dL_law_908 ?_
  refine R_sld oS dL_law_909 ?_
  refine R_aloadS oS 0 dL_law_910 rfl rfl ?_
  refine R_iload_n o 3 dL_law_911 rfl rfl ?_
  refine R_iconst (v := 2) o dL_law_912 (by decide) ?_
  refine R_iadd o dL_law_913 ?_
  refine R_sld oS dL_law_914 ?_
  refine R_aloadS oS 0 dL_law_915 rfl rfl ?_
  refine R_iload_n o 3 dL_law_916 rfl rfl ?_
  refine R_iconst (v := 3) o dL_law_917 (by decide) ?_
  refine R_iadd o dL_law_918 ?_
  refine R_sld oS dL_law_919 ?_
  refine K_ih (callV' (As := [.int (xs (x3 + 1).toNatClampNeg), .int (xs (x3 + 2).toNatClampNeg), .int (xs (x3 + 3).toNatClampNeg)]) (rest := [.int r901]) o dL_law_920 lk_L_89 rfl sh_64 rfl rfl rfl rfl (Nat.le_of_ble_eq_true rfl)) (c_X7_place g l h901 (xs (x3 + 1).toNatClampNeg) (xs (x3 + 2).toNatClampNeg) (xs (x3 + 3).toNatClampNeg)) (fun r920 h920 => ?_)
  refine R_icmp_eq o 1957 dL_law_923 (by decide) ?_ ?_
  · refine R_iinc (v := (x3 + 6)) (lv2 := [(0, .ref b), (1, rA g 0), (2, rA g 64), (3, .int (x3 + 6))]) o 3 dL_law_1957 rfl rfl (by decide) rfl ?_
    refine R_goto o 18 dL_law_1960 (by decide) ?_
    exact T_some (fun p => oP.wide p)
  · refine R_iconst (v := 0) o dL_law_926 (by decide) ?_
    exact T_some (fun p => absurd (show false = true from p) (by decide))
noncomputable def f_L_law_J928_18 (xs : Nat → Int32) (L : Nat) (h : MH) (x3 : Int32) : Option ((Int32 × MH) ⊕ (MH ⊕ Bool)) :=
  gd (ix (x3 + 1) L) (bnd2 (f_X6_fault h (xs (x3 + 1).toNatClampNeg)) (fun r934 h934 => gd (ix (x3 + 1) L) (bnd2 (f_X7_fault h934 (xs (x3 + 1).toNatClampNeg)) (fun r943 h943 => (if r934 = r943 then some (.inl ((x3 + 6), h943)) else some (.inr (.inr false)))))))
set_option maxRecDepth 100000 in
set_option maxHeartbeats 4000000 in
theorem t_L_law_J928_18 {g : Gx} {l : Launch} {V V1 : VT} {b L : Nat} {xs : Nat → Int32} {ce sl : Nat} (oP : OkLP g l b L xs ce sl V V1) (h : MH) (x3 : Int32) : T (Sum.elim (fun s => V1 18 [(0, .ref b), (1, rA g 0), (2, rA g 64), (3, .int s.1)] [] s.2) (Sum.elim (fun b0 => V 1963 [] [] b0) (fun r => r = true))) (f_L_law_J928_18 xs L  h x3) (V 928 [(0, .ref b), (1, rA g 0), (2, rA g 64), (3, .int x3)] [] h) := by
  have oS := oP.fst
  have oS1 := oP.snd
  have o := oS.ok
  have o1 := oS1.ok
  unfold f_L_law_J928_18
  refine R_aload_n o 1 dL_law_928 rfl rfl ?_
  refine R_aloadS oS 0 dL_law_929 rfl rfl ?_
  refine R_iload_n o 3 dL_law_930 rfl rfl ?_
  refine R_iconst (v := 1) o dL_law_931 (by decide) ?_
  refine R_iadd o dL_law_932 ?_
  refine R_sld oS dL_law_933 ?_
  refine K_ih (callV' (As := [.int (xs (x3 + 1).toNatClampNeg)]) (rest := []) o dL_law_934 lk_L_90 rfl sh_0 rfl rfl rfl rfl (Nat.le_of_ble_eq_true rfl)) (c_X6_fault g l h (xs (x3 + 1).toNatClampNeg)) (fun r934 h934 => ?_)
  refine R_aload_n o 2 dL_law_937 rfl rfl ?_
  refine R_aloadS oS 0 dL_law_938 rfl rfl ?_
  refine R_iload_n o 3 dL_law_939 rfl rfl ?_
  refine R_iconst (v := 1) o dL_law_940 (by decide) ?_
  refine R_iadd o dL_law_941 ?_
  refine R_sld oS dL_law_942 ?_
  refine K_ih (callV' (As := [.int (xs (x3 + 1).toNatClampNeg)]) (rest := [.int r934]) o dL_law_943 lk_L_93 rfl sh_64 rfl rfl rfl rfl (Nat.le_of_ble_eq_true rfl)) (c_X7_fault g l h934 (xs (x3 + 1).toNatClampNeg)) (fun r943 h943 => ?_)
  refine R_icmp_eq o 1957 dL_law_946 (by decide) ?_ ?_
  · refine R_iinc (v := (x3 + 6)) (lv2 := [(0, .ref b), (1, rA g 0), (2, rA g 64), (3, .int (x3 + 6))]) o 3 dL_law_1957 rfl rfl (by decide) rfl ?_
    refine R_goto o 18 dL_law_1960 (by decide) ?_
    exact T_some (fun p => oP.wide p)
  · refine R_iconst (v := 0) o dL_law_949 (by decide) ?_
    exact T_some (fun p => absurd (show false = true from p) (by decide))
noncomputable def f_L_law_J951_18 (xs : Nat → Int32) (L : Nat) (h : MH) (x3 : Int32) : Option ((Int32 × MH) ⊕ (MH ⊕ Bool)) :=
  gd (ix (x3 + 1) L) (gd (ix (x3 + 2) L) (bnd2 (f_X6_code h (xs (x3 + 1).toNatClampNeg) (xs (x3 + 2).toNatClampNeg)) (fun r962 h962 => gd (ix (x3 + 1) L) (gd (ix (x3 + 2) L) (bnd2 (f_X7_code h962 (xs (x3 + 1).toNatClampNeg) (xs (x3 + 2).toNatClampNeg)) (fun r976 h976 => (if r962 = r976 then some (.inl ((x3 + 6), h976)) else some (.inr (.inr false)))))))))
set_option maxRecDepth 100000 in
set_option maxHeartbeats 4000000 in
theorem t_L_law_J951_18 {g : Gx} {l : Launch} {V V1 : VT} {b L : Nat} {xs : Nat → Int32} {ce sl : Nat} (oP : OkLP g l b L xs ce sl V V1) (h : MH) (x3 : Int32) : T (Sum.elim (fun s => V1 18 [(0, .ref b), (1, rA g 0), (2, rA g 64), (3, .int s.1)] [] s.2) (Sum.elim (fun b0 => V 1963 [] [] b0) (fun r => r = true))) (f_L_law_J951_18 xs L  h x3) (V 951 [(0, .ref b), (1, rA g 0), (2, rA g 64), (3, .int x3)] [] h) := by
  have oS := oP.fst
  have oS1 := oP.snd
  have o := oS.ok
  have o1 := oS1.ok
  unfold f_L_law_J951_18
  refine R_aload_n o 1 dL_law_951 rfl rfl ?_
  refine R_aloadS oS 0 dL_law_952 rfl rfl ?_
  refine R_iload_n o 3 dL_law_953 rfl rfl ?_
  refine R_iconst (v := 1) o dL_law_954 (by decide) ?_
  refine R_iadd o dL_law_955 ?_
  refine R_sld oS dL_law_956 ?_
  refine R_aloadS oS 0 dL_law_957 rfl rfl ?_
  refine R_iload_n o 3 dL_law_958 rfl rfl ?_
  refine R_iconst (v := 2) o dL_law_959 (by decide) ?_
  refine R_iadd o dL_law_960 ?_
  refine R_sld oS dL_law_961 ?_
  refine K_ih (callV' (As := [.int (xs (x3 + 1).toNatClampNeg), .int (xs (x3 + 2).toNatClampNeg)]) (rest := []) o dL_law_962 lk_L_94 rfl sh_0 rfl rfl rfl rfl (Nat.le_of_ble_eq_true rfl)) (c_X6_code g l h (xs (x3 + 1).toNatClampNeg) (xs (x3 + 2).toNatClampNeg)) (fun r962 h962 => ?_)
  refine R_aload_n o 2 dL_law_965 rfl rfl ?_
  refine R_aloadS oS 0 dL_law_966 rfl rfl ?_
  refine R_iload_n o 3 dL_law_967 rfl rfl ?_
  refine R_iconst (v := 1) o dL_law_968 (by decide) ?_
  refine R_iadd o dL_law_969 ?_
  refine R_sld oS dL_law_970 ?_
  refine R_aloadS oS 0 dL_law_971 rfl rfl ?_
  refine R_iload_n o 3 dL_law_972 rfl rfl ?_
  refine R_iconst (v := 2) o dL_law_973 (by decide) ?_
  refine R_iadd o dL_law_974 ?_
  refine R_sld oS dL_law_975 ?_
  refine K_ih (callV' (As := [.int (xs (x3 + 1).toNatClampNeg), .int (xs (x3 + 2).toNatClampNeg)]) (rest := [.int r962]) o dL_law_976 lk_L_97 rfl sh_64 rfl rfl rfl rfl (Nat.le_of_ble_eq_true rfl)) (c_X7_code g l h962 (xs (x3 + 1).toNatClampNeg) (xs (x3 + 2).toNatClampNeg)) (fun r976 h976 => ?_)
  refine R_icmp_eq o 1957 dL_law_979 (by decide) ?_ ?_
  · refine R_iinc (v := (x3 + 6)) (lv2 := [(0, .ref b), (1, rA g 0), (2, rA g 64), (3, .int (x3 + 6))]) o 3 dL_law_1957 rfl rfl (by decide) rfl ?_
    refine R_goto o 18 dL_law_1960 (by decide) ?_
    exact T_some (fun p => oP.wide p)
  · refine R_iconst (v := 0) o dL_law_982 (by decide) ?_
    exact T_some (fun p => absurd (show false = true from p) (by decide))
noncomputable def f_L_law_J984_18 (xs : Nat → Int32) (L : Nat) (h : MH) (x3 : Int32) : Option ((Int32 × MH) ⊕ (MH ⊕ Bool)) :=
  gd (ix (x3 + 1) L) (gd (ix (x3 + 2) L) (bnd2 (f_X6_line h (xs (x3 + 1).toNatClampNeg) (xs (x3 + 2).toNatClampNeg)) (fun r995 h995 => gd (ix (x3 + 1) L) (gd (ix (x3 + 2) L) (bnd2 (f_X7_line h995 (xs (x3 + 1).toNatClampNeg) (xs (x3 + 2).toNatClampNeg)) (fun r1009 h1009 => (if r995 = r1009 then some (.inl ((x3 + 6), h1009)) else some (.inr (.inr false)))))))))
set_option maxRecDepth 100000 in
set_option maxHeartbeats 4000000 in
theorem t_L_law_J984_18 {g : Gx} {l : Launch} {V V1 : VT} {b L : Nat} {xs : Nat → Int32} {ce sl : Nat} (oP : OkLP g l b L xs ce sl V V1) (h : MH) (x3 : Int32) : T (Sum.elim (fun s => V1 18 [(0, .ref b), (1, rA g 0), (2, rA g 64), (3, .int s.1)] [] s.2) (Sum.elim (fun b0 => V 1963 [] [] b0) (fun r => r = true))) (f_L_law_J984_18 xs L  h x3) (V 984 [(0, .ref b), (1, rA g 0), (2, rA g 64), (3, .int x3)] [] h) := by
  have oS := oP.fst
  have oS1 := oP.snd
  have o := oS.ok
  have o1 := oS1.ok
  unfold f_L_law_J984_18
  refine R_aload_n o 1 dL_law_984 rfl rfl ?_
  refine R_aloadS oS 0 dL_law_985 rfl rfl ?_
  refine R_iload_n o 3 dL_law_986 rfl rfl ?_
  refine R_iconst (v := 1) o dL_law_987 (by decide) ?_
  refine R_iadd o dL_law_988 ?_
  refine R_sld oS dL_law_989 ?_
  refine R_aloadS oS 0 dL_law_990 rfl rfl ?_
  refine R_iload_n o 3 dL_law_991 rfl rfl ?_
  refine R_iconst (v := 2) o dL_law_992 (by decide) ?_
  refine R_iadd o dL_law_993 ?_
  refine R_sld oS dL_law_994 ?_
  refine K_ih (callV' (As := [.int (xs (x3 + 1).toNatClampNeg), .int (xs (x3 + 2).toNatClampNeg)]) (rest := []) o dL_law_995 lk_L_98 rfl sh_0 rfl rfl rfl rfl (Nat.le_of_ble_eq_true rfl)) (c_X6_line g l h (xs (x3 + 1).toNatClampNeg) (xs (x3 + 2).toNatClampNeg)) (fun r995 h995 => ?_)
  refine R_aload_n o 2 dL_law_998 rfl rfl ?_
  refine R_aloadS oS 0 dL_law_999 rfl rfl ?_
  refine R_iload_n o 3 dL_law_1000 rfl rfl ?_
  refine R_iconst (v := 1) o dL_law_1001 (by decide) ?_
  refine R_iadd o dL_law_1002 ?_
  refine R_sld oS dL_law_1003 ?_
  refine R_aloadS oS 0 dL_law_1004 rfl rfl ?_
  refine R_iload_n o 3 dL_law_1005 rfl rfl ?_
  refine R_iconst (v := 2) o dL_law_1006 (by decide) ?_
  refine R_iadd o dL_law_1007 ?_
  refine R_sld oS dL_law_1008 ?_
  refine K_ih (callV' (As := [.int (xs (x3 + 1).toNatClampNeg), .int (xs (x3 + 2).toNatClampNeg)]) (rest := [.int r995]) o dL_law_1009 lk_L_101 rfl sh_64 rfl rfl rfl rfl (Nat.le_of_ble_eq_true rfl)) (c_X7_line g l h995 (xs (x3 + 1).toNatClampNeg) (xs (x3 + 2).toNatClampNeg)) (fun r1009 h1009 => ?_)
  refine R_icmp_eq o 1957 dL_law_1012 (by decide) ?_ ?_
  · refine R_iinc (v := (x3 + 6)) (lv2 := [(0, .ref b), (1, rA g 0), (2, rA g 64), (3, .int (x3 + 6))]) o 3 dL_law_1957 rfl rfl (by decide) rfl ?_
    refine R_goto o 18 dL_law_1960 (by decide) ?_
    exact T_some (fun p => oP.wide p)
  · refine R_iconst (v := 0) o dL_law_1015 (by decide) ?_
    exact T_some (fun p => absurd (show false = true from p) (by decide))
noncomputable def f_L_law_J1017_18 (xs : Nat → Int32) (L : Nat) (h : MH) (x3 : Int32) : Option ((Int32 × MH) ⊕ (MH ⊕ Bool)) :=
  gd (ix (x3 + 1) L) (gd (ix (x3 + 2) L) (bnd2 (f_X6_room h (xs (x3 + 1).toNatClampNeg) (xs (x3 + 2).toNatClampNeg)) (fun r1028 h1028 => gd (ix (x3 + 1) L) (gd (ix (x3 + 2) L) (bnd2 (f_X7_room h1028 (xs (x3 + 1).toNatClampNeg) (xs (x3 + 2).toNatClampNeg)) (fun r1042 h1042 => (if r1028 = r1042 then some (.inl ((x3 + 6), h1042)) else some (.inr (.inr false)))))))))
set_option maxRecDepth 100000 in
set_option maxHeartbeats 4000000 in
theorem t_L_law_J1017_18 {g : Gx} {l : Launch} {V V1 : VT} {b L : Nat} {xs : Nat → Int32} {ce sl : Nat} (oP : OkLP g l b L xs ce sl V V1) (h : MH) (x3 : Int32) : T (Sum.elim (fun s => V1 18 [(0, .ref b), (1, rA g 0), (2, rA g 64), (3, .int s.1)] [] s.2) (Sum.elim (fun b0 => V 1963 [] [] b0) (fun r => r = true))) (f_L_law_J1017_18 xs L  h x3) (V 1017 [(0, .ref b), (1, rA g 0), (2, rA g 64), (3, .int x3)] [] h) := by
  have oS := oP.fst
  have oS1 := oP.snd
  have o := oS.ok
  have o1 := oS1.ok
  unfold f_L_law_J1017_18
  refine R_aload_n o 1 dL_law_1017 rfl rfl ?_
  refine R_aloadS oS 0 dL_law_1018 rfl rfl ?_
  refine R_iload_n o 3 dL_law_1019 rfl rfl ?_
  refine R_iconst (v := 1) o dL_law_1020 (by decide) ?_
  refine R_iadd o dL_law_1021 ?_
  refine R_sld oS dL_law_1022 ?_
  refine R_aloadS oS 0 dL_law_1023 rfl rfl ?_
  refine R_iload_n o 3 dL_law_1024 rfl rfl ?_
  refine R_iconst (v := 2) o dL_law_1025 (by decide) ?_
  refine R_iadd o dL_law_1026 ?_
  refine R_sld oS dL_law_1027 ?_
  refine K_ih (callV' (As := [.int (xs (x3 + 1).toNatClampNeg), .int (xs (x3 + 2).toNatClampNeg)]) (rest := []) o dL_law_1028 lk_L_102 rfl sh_0 rfl rfl rfl rfl (Nat.le_of_ble_eq_true rfl)) (c_X6_room g l h (xs (x3 + 1).toNatClampNeg) (xs (x3 + 2).toNatClampNeg)) (fun r1028 h1028 => ?_)
  refine R_aload_n o 2 dL_law_1031 rfl rfl ?_
  refine R_aloadS oS 0 dL_law_1032 rfl rfl ?_
  refine R_iload_n o 3 dL_law_1033 rfl rfl ?_
  refine R_iconst (v := 1) o dL_law_1034 (by decide) ?_
  refine R_iadd o dL_law_1035 ?_
  refine R_sld oS dL_law_1036 ?_
  refine R_aloadS oS 0 dL_law_1037 rfl rfl ?_
  refine R_iload_n o 3 dL_law_1038 rfl rfl ?_
  refine R_iconst (v := 2) o dL_law_1039 (by decide) ?_
  refine R_iadd o dL_law_1040 ?_
  refine R_sld oS dL_law_1041 ?_
  refine K_ih (callV' (As := [.int (xs (x3 + 1).toNatClampNeg), .int (xs (x3 + 2).toNatClampNeg)]) (rest := [.int r1028]) o dL_law_1042 lk_L_105 rfl sh_64 rfl rfl rfl rfl (Nat.le_of_ble_eq_true rfl)) (c_X7_room g l h1028 (xs (x3 + 1).toNatClampNeg) (xs (x3 + 2).toNatClampNeg)) (fun r1042 h1042 => ?_)
  refine R_icmp_eq o 1957 dL_law_1045 (by decide) ?_ ?_
  · refine R_iinc (v := (x3 + 6)) (lv2 := [(0, .ref b), (1, rA g 0), (2, rA g 64), (3, .int (x3 + 6))]) o 3 dL_law_1957 rfl rfl (by decide) rfl ?_
    refine R_goto o 18 dL_law_1960 (by decide) ?_
    exact T_some (fun p => oP.wide p)
  · refine R_iconst (v := 0) o dL_law_1048 (by decide) ?_
    exact T_some (fun p => absurd (show false = true from p) (by decide))
noncomputable def f_L_law_J1050_18 (xs : Nat → Int32) (L : Nat) (h : MH) (x3 : Int32) : Option ((Int32 × MH) ⊕ (MH ⊕ Bool)) :=
  gd (ix (x3 + 1) L) (gd (ix (x3 + 2) L) (gd (ix (x3 + 3) L) (gd (ix (x3 + 4) L) (bnd2 (f_X6_hide h (xs (x3 + 1).toNatClampNeg) (xs (x3 + 2).toNatClampNeg) (xs (x3 + 3).toNatClampNeg) (xs (x3 + 4).toNatClampNeg)) (fun r1071 h1071 => gd (ix (x3 + 1) L) (gd (ix (x3 + 2) L) (gd (ix (x3 + 3) L) (gd (ix (x3 + 4) L) (bnd2 (f_X7_hide h1071 (xs (x3 + 1).toNatClampNeg) (xs (x3 + 2).toNatClampNeg) (xs (x3 + 3).toNatClampNeg) (xs (x3 + 4).toNatClampNeg)) (fun r1095 h1095 => (if r1071 = r1095 then some (.inl ((x3 + 6), h1095)) else some (.inr (.inr false)))))))))))))
set_option maxRecDepth 100000 in
set_option maxHeartbeats 4000000 in
theorem t_L_law_J1050_18 {g : Gx} {l : Launch} {V V1 : VT} {b L : Nat} {xs : Nat → Int32} {ce sl : Nat} (oP : OkLP g l b L xs ce sl V V1) (h : MH) (x3 : Int32) : T (Sum.elim (fun s => V1 18 [(0, .ref b), (1, rA g 0), (2, rA g 64), (3, .int s.1)] [] s.2) (Sum.elim (fun b0 => V 1963 [] [] b0) (fun r => r = true))) (f_L_law_J1050_18 xs L  h x3) (V 1050 [(0, .ref b), (1, rA g 0), (2, rA g 64), (3, .int x3)] [] h) := by
  have oS := oP.fst
  have oS1 := oP.snd
  have o := oS.ok
  have o1 := oS1.ok
  unfold f_L_law_J1050_18
  refine R_aload_n o 1 dL_law_1050 rfl rfl ?_
  refine R_aloadS oS 0 dL_law_1051 rfl rfl ?_
  refine R_iload_n o 3 dL_law_1052 rfl rfl ?_
  refine R_iconst (v := 1) o dL_law_1053 (by decide) ?_
  refine R_iadd o dL_law_1054 ?_
  refine R_sld oS dL_law_1055 ?_
  refine R_aloadS oS 0 dL_law_1056 rfl rfl ?_
  refine R_iload_n o 3 dL_law_1057 rfl rfl ?_
  refine R_iconst (v := 2) o dL_law_1058 (by decide) ?_
  refine R_iadd o dL_law_1059 ?_
  refine R_sld oS dL_law_1060 ?_
  refine R_aloadS oS 0 dL_law_1061 rfl rfl ?_
  refine R_iload_n o 3 dL_law_1062 rfl rfl ?_
  refine R_iconst (v := 3) o dL_law_1063 (by decide) ?_
  refine R_iadd o dL_law_1064 ?_
  refine R_sld oS dL_law_1065 ?_
  refine R_aloadS oS 0 dL_law_1066 rfl rfl ?_
  refine R_iload_n o 3 dL_law_1067 rfl rfl ?_
  refine R_iconst (v := 4) o dL_law_1068 (by decide) ?_
  refine R_iadd o dL_law_1069 ?_
  refine R_sld oS dL_law_1070 ?_
  refine K_ih (callV' (As := [.int (xs (x3 + 1).toNatClampNeg), .int (xs (x3 + 2).toNatClampNeg), .int (xs (x3 + 3).toNatClampNeg), .int (xs (x3 + 4).toNatClampNeg)]) (rest := []) o dL_law_1071 lk_L_106 rfl sh_0 rfl rfl rfl rfl (Nat.le_of_ble_eq_true rfl)) (c_X6_hide g l h (xs (x3 + 1).toNatClampNeg) (xs (x3 + 2).toNatClampNeg) (xs (x3 + 3).toNatClampNeg) (xs (x3 + 4).toNatClampNeg)) (fun r1071 h1071 => ?_)
  refine R_aload_n o 2 dL_law_1074 rfl rfl ?_
  refine R_aloadS oS 0 dL_law_1075 rfl rfl ?_
  refine R_iload_n o 3 dL_law_1076 rfl rfl ?_
  refine R_iconst (v := 1) o dL_law_1077 (by decide) ?_
  refine R_iadd o dL_law_1078 ?_
  refine R_sld oS dL_law_1079 ?_
  refine R_aloadS oS 0 dL_law_1080 rfl rfl ?_
  refine R_iload_n o 3 dL_law_1081 rfl rfl ?_
  refine R_iconst (v := 2) o dL_law_1082 (by decide) ?_
  refine R_iadd o dL_law_1083 ?_
  refine R_sld oS dL_law_1084 ?_
  refine R_aloadS oS 0 dL_law_1085 rfl rfl ?_
  refine R_iload_n o 3 dL_law_1086 rfl rfl ?_
  refine R_iconst (v := 3) o dL_law_1087 (by decide) ?_
  refine R_iadd o dL_law_1088 ?_
  refine R_sld oS dL_law_1089 ?_
  refine R_aloadS oS 0 dL_law_1090 rfl rfl ?_
  refine R_iload_n o 3 dL_law_1091 rfl rfl ?_
  refine R_iconst (v := 4) o dL_law_1092 (by decide) ?_
  refine R_iadd o dL_law_1093 ?_
  refine R_sld oS dL_law_1094 ?_
  refine K_ih (callV' (As := [.int (xs (x3 + 1).toNatClampNeg), .int (xs (x3 + 2).toNatClampNeg), .int (xs (x3 + 3).toNatClampNeg), .int (xs (x3 + 4).toNatClampNeg)]) (rest := [.int r1071]) o dL_law_1095 lk_L_110 rfl sh_64 rfl rfl rfl rfl (Nat.le_of_ble_eq_true rfl)) (c_X7_hide g l h1071 (xs (x3 + 1).toNatClampNeg) (xs (x3 + 2).toNatClampNeg) (xs (x3 + 3).toNatClampNeg) (xs (x3 + 4).toNatClampNeg)) (fun r1095 h1095 => ?_)
  refine R_icmp_eq o 1957 dL_law_1098 (by decide) ?_ ?_
  · refine R_iinc (v := (x3 + 6)) (lv2 := [(0, .ref b), (1, rA g 0), (2, rA g 64), (3, .int (x3 + 6))]) o 3 dL_law_1957 rfl rfl (by decide) rfl ?_
    refine R_goto o 18 dL_law_1960 (by decide) ?_
    exact T_some (fun p => oP.wide p)
  · refine R_iconst (v := 0) o dL_law_1101 (by decide) ?_
    exact T_some (fun p => absurd (show false = true from p) (by decide))
noncomputable def f_L_law_J1103_18 (xs : Nat → Int32) (L : Nat) (h : MH) (x3 : Int32) : Option ((Int32 × MH) ⊕ (MH ⊕ Bool)) :=
  gd (ix (x3 + 1) L) (gd (ix (x3 + 2) L) (gd (ix (x3 + 3) L) (gd (ix (x3 + 4) L) (bnd2 (f_X6_price h (xs (x3 + 1).toNatClampNeg) (xs (x3 + 2).toNatClampNeg) (xs (x3 + 3).toNatClampNeg) (xs (x3 + 4).toNatClampNeg)) (fun r1124 h1124 => gd (ix (x3 + 1) L) (gd (ix (x3 + 2) L) (gd (ix (x3 + 3) L) (gd (ix (x3 + 4) L) (bnd2 (f_X7_price h1124 (xs (x3 + 1).toNatClampNeg) (xs (x3 + 2).toNatClampNeg) (xs (x3 + 3).toNatClampNeg) (xs (x3 + 4).toNatClampNeg)) (fun r1148 h1148 => (if r1124 = r1148 then some (.inl ((x3 + 6), h1148)) else some (.inr (.inr false)))))))))))))
set_option maxRecDepth 100000 in
set_option maxHeartbeats 4000000 in
theorem t_L_law_J1103_18 {g : Gx} {l : Launch} {V V1 : VT} {b L : Nat} {xs : Nat → Int32} {ce sl : Nat} (oP : OkLP g l b L xs ce sl V V1) (h : MH) (x3 : Int32) : T (Sum.elim (fun s => V1 18 [(0, .ref b), (1, rA g 0), (2, rA g 64), (3, .int s.1)] [] s.2) (Sum.elim (fun b0 => V 1963 [] [] b0) (fun r => r = true))) (f_L_law_J1103_18 xs L  h x3) (V 1103 [(0, .ref b), (1, rA g 0), (2, rA g 64), (3, .int x3)] [] h) := by
  have oS := oP.fst
  have oS1 := oP.snd
  have o := oS.ok
  have o1 := oS1.ok
  unfold f_L_law_J1103_18
  refine R_aload_n o 1 dL_law_1103 rfl rfl ?_
  refine R_aloadS oS 0 dL_law_1104 rfl rfl ?_
  refine R_iload_n o 3 dL_law_1105 rfl rfl ?_
  refine R_iconst (v := 1) o dL_law_1106 (by decide) ?_
  refine R_iadd o dL_law_1107 ?_
  refine R_sld oS dL_law_1108 ?_
  refine R_aloadS oS 0 dL_law_1109 rfl rfl ?_
  refine R_iload_n o 3 dL_law_1110 rfl rfl ?_
  refine R_iconst (v := 2) o dL_law_1111 (by decide) ?_
  refine R_iadd o dL_law_1112 ?_
  refine R_sld oS dL_law_1113 ?_
  refine R_aloadS oS 0 dL_law_1114 rfl rfl ?_
  refine R_iload_n o 3 dL_law_1115 rfl rfl ?_
  refine R_iconst (v := 3) o dL_law_1116 (by decide) ?_
  refine R_iadd o dL_law_1117 ?_
  refine R_sld oS dL_law_1118 ?_
  refine R_aloadS oS 0 dL_law_1119 rfl rfl ?_
  refine R_iload_n o 3 dL_law_1120 rfl rfl ?_
  refine R_iconst (v := 4) o dL_law_1121 (by decide) ?_
  refine R_iadd o dL_law_1122 ?_
  refine R_sld oS dL_law_1123 ?_
  refine K_ih (callV' (As := [.int (xs (x3 + 1).toNatClampNeg), .int (xs (x3 + 2).toNatClampNeg), .int (xs (x3 + 3).toNatClampNeg), .int (xs (x3 + 4).toNatClampNeg)]) (rest := []) o dL_law_1124 lk_L_111 rfl sh_0 rfl rfl rfl rfl (Nat.le_of_ble_eq_true rfl)) (c_X6_price g l h (xs (x3 + 1).toNatClampNeg) (xs (x3 + 2).toNatClampNeg) (xs (x3 + 3).toNatClampNeg) (xs (x3 + 4).toNatClampNeg)) (fun r1124 h1124 => ?_)
  refine R_aload_n o 2 dL_law_1127 rfl rfl ?_
  refine R_aloadS oS 0 dL_law_1128 rfl rfl ?_
  refine R_iload_n o 3 dL_law_1129 rfl rfl ?_
  refine R_iconst (v := 1) o dL_law_1130 (by decide) ?_
  refine R_iadd o dL_law_1131 ?_
  refine R_sld oS dL_law_1132 ?_
  refine R_aloadS oS 0 dL_law_1133 rfl rfl ?_
  refine R_iload_n o 3 dL_law_1134 rfl rfl ?_
  refine R_iconst (v := 2) o dL_law_1135 (by decide) ?_
  refine R_iadd o dL_law_1136 ?_
  refine R_sld oS dL_law_1137 ?_
  refine R_aloadS oS 0 dL_law_1138 rfl rfl ?_
  refine R_iload_n o 3 dL_law_1139 rfl rfl ?_
  refine R_iconst (v := 3) o dL_law_1140 (by decide) ?_
  refine R_iadd o dL_law_1141 ?_
  refine R_sld oS dL_law_1142 ?_
  refine R_aloadS oS 0 dL_law_1143 rfl rfl ?_
  refine R_iload_n o 3 dL_law_1144 rfl rfl ?_
  refine R_iconst (v := 4) o dL_law_1145 (by decide) ?_
  refine R_iadd o dL_law_1146 ?_
  refine R_sld oS dL_law_1147 ?_
  refine K_ih (callV' (As := [.int (xs (x3 + 1).toNatClampNeg), .int (xs (x3 + 2).toNatClampNeg), .int (xs (x3 + 3).toNatClampNeg), .int (xs (x3 + 4).toNatClampNeg)]) (rest := [.int r1124]) o dL_law_1148 lk_L_114 rfl sh_64 rfl rfl rfl rfl (Nat.le_of_ble_eq_true rfl)) (c_X7_price g l h1124 (xs (x3 + 1).toNatClampNeg) (xs (x3 + 2).toNatClampNeg) (xs (x3 + 3).toNatClampNeg) (xs (x3 + 4).toNatClampNeg)) (fun r1148 h1148 => ?_)
  refine R_icmp_eq o 1957 dL_law_1151 (by decide) ?_ ?_
  · refine R_iinc (v := (x3 + 6)) (lv2 := [(0, .ref b), (1, rA g 0), (2, rA g 64), (3, .int (x3 + 6))]) o 3 dL_law_1957 rfl rfl (by decide) rfl ?_
    refine R_goto o 18 dL_law_1960 (by decide) ?_
    exact T_some (fun p => oP.wide p)
  · refine R_iconst (v := 0) o dL_law_1154 (by decide) ?_
    exact T_some (fun p => absurd (show false = true from p) (by decide))
noncomputable def f_L_law_J1156_18 (xs : Nat → Int32) (L : Nat) (h : MH) (x3 : Int32) : Option ((Int32 × MH) ⊕ (MH ⊕ Bool)) :=
  gd (ix (x3 + 1) L) (gd (ix (x3 + 2) L) (gd (ix (x3 + 3) L) (gd (ix (x3 + 4) L) (gd (ix (x3 + 5) L) (bnd2 (f_X6_read h (xs (x3 + 1).toNatClampNeg) (xs (x3 + 2).toNatClampNeg) (xs (x3 + 3).toNatClampNeg) (xs (x3 + 4).toNatClampNeg) (xs (x3 + 5).toNatClampNeg)) (fun r1182 h1182 => gd (ix (x3 + 1) L) (gd (ix (x3 + 2) L) (gd (ix (x3 + 3) L) (gd (ix (x3 + 4) L) (gd (ix (x3 + 5) L) (bnd2 (f_X7_read h1182 (xs (x3 + 1).toNatClampNeg) (xs (x3 + 2).toNatClampNeg) (xs (x3 + 3).toNatClampNeg) (xs (x3 + 4).toNatClampNeg) (xs (x3 + 5).toNatClampNeg)) (fun r1211 h1211 => (if r1182 = r1211 then some (.inl ((x3 + 6), h1211)) else some (.inr (.inr false)))))))))))))))
set_option maxRecDepth 100000 in
set_option maxHeartbeats 4000000 in
theorem t_L_law_J1156_18 {g : Gx} {l : Launch} {V V1 : VT} {b L : Nat} {xs : Nat → Int32} {ce sl : Nat} (oP : OkLP g l b L xs ce sl V V1) (h : MH) (x3 : Int32) : T (Sum.elim (fun s => V1 18 [(0, .ref b), (1, rA g 0), (2, rA g 64), (3, .int s.1)] [] s.2) (Sum.elim (fun b0 => V 1963 [] [] b0) (fun r => r = true))) (f_L_law_J1156_18 xs L  h x3) (V 1156 [(0, .ref b), (1, rA g 0), (2, rA g 64), (3, .int x3)] [] h) := by
  have oS := oP.fst
  have oS1 := oP.snd
  have o := oS.ok
  have o1 := oS1.ok
  unfold f_L_law_J1156_18
  refine R_aload_n o 1 dL_law_1156 rfl rfl ?_
  refine R_aloadS oS 0 dL_law_1157 rfl rfl ?_
  refine R_iload_n o 3 dL_law_1158 rfl rfl ?_
  refine R_iconst (v := 1) o dL_law_1159 (by decide) ?_
  refine R_iadd o dL_law_1160 ?_
  refine R_sld oS dL_law_1161 ?_
  refine R_aloadS oS 0 dL_law_1162 rfl rfl ?_
  refine R_iload_n o 3 dL_law_1163 rfl rfl ?_
  refine R_iconst (v := 2) o dL_law_1164 (by decide) ?_
  refine R_iadd o dL_law_1165 ?_
  refine R_sld oS dL_law_1166 ?_
  refine R_aloadS oS 0 dL_law_1167 rfl rfl ?_
  refine R_iload_n o 3 dL_law_1168 rfl rfl ?_
  refine R_iconst (v := 3) o dL_law_1169 (by decide) ?_
  refine R_iadd o dL_law_1170 ?_
  refine R_sld oS dL_law_1171 ?_
  refine R_aloadS oS 0 dL_law_1172 rfl rfl ?_
  refine R_iload_n o 3 dL_law_1173 rfl rfl ?_
  refine R_iconst (v := 4) o dL_law_1174 (by decide) ?_
  refine R_iadd o dL_law_1175 ?_
  refine R_sld oS dL_law_1176 ?_
  refine R_aloadS oS 0 dL_law_1177 rfl rfl ?_
  refine R_iload_n o 3 dL_law_1178 rfl rfl ?_
  refine R_iconst (v := 5) o dL_law_1179 (by decide) ?_
  refine R_iadd o dL_law_1180 ?_
  refine R_sld oS dL_law_1181 ?_
  refine K_ih (callV' (As := [.int (xs (x3 + 1).toNatClampNeg), .int (xs (x3 + 2).toNatClampNeg), .int (xs (x3 + 3).toNatClampNeg), .int (xs (x3 + 4).toNatClampNeg), .int (xs (x3 + 5).toNatClampNeg)]) (rest := []) o dL_law_1182 lk_L_115 rfl sh_0 rfl rfl rfl rfl (Nat.le_of_ble_eq_true rfl)) (c_X6_read g l h (xs (x3 + 1).toNatClampNeg) (xs (x3 + 2).toNatClampNeg) (xs (x3 + 3).toNatClampNeg) (xs (x3 + 4).toNatClampNeg) (xs (x3 + 5).toNatClampNeg)) (fun r1182 h1182 => ?_)
  refine R_aload_n o 2 dL_law_1185 rfl rfl ?_
  refine R_aloadS oS 0 dL_law_1186 rfl rfl ?_
  refine R_iload_n o 3 dL_law_1187 rfl rfl ?_
  refine R_iconst (v := 1) o dL_law_1188 (by decide) ?_
  refine R_iadd o dL_law_1189 ?_
  refine R_sld oS dL_law_1190 ?_
  refine R_aloadS oS 0 dL_law_1191 rfl rfl ?_
  refine R_iload_n o 3 dL_law_1192 rfl rfl ?_
  refine R_iconst (v := 2) o dL_law_1193 (by decide) ?_
  refine R_iadd o dL_law_1194 ?_
  refine R_sld oS dL_law_1195 ?_
  refine R_aloadS oS 0 dL_law_1196 rfl rfl ?_
  refine R_iload_n o 3 dL_law_1197 rfl rfl ?_
  refine R_iconst (v := 3) o dL_law_1198 (by decide) ?_
  refine R_iadd o dL_law_1199 ?_
  refine R_sld oS dL_law_1200 ?_
  refine R_aloadS oS 0 dL_law_1201 rfl rfl ?_
  refine R_iload_n o 3 dL_law_1202 rfl rfl ?_
  refine R_iconst (v := 4) o dL_law_1203 (by decide) ?_
  refine R_iadd o dL_law_1204 ?_
  refine R_sld oS dL_law_1205 ?_
  refine R_aloadS oS 0 dL_law_1206 rfl rfl ?_
  refine R_iload_n o 3 dL_law_1207 rfl rfl ?_
  refine R_iconst (v := 5) o dL_law_1208 (by decide) ?_
  refine R_iadd o dL_law_1209 ?_
  refine R_sld oS dL_law_1210 ?_
  refine K_ih (callV' (As := [.int (xs (x3 + 1).toNatClampNeg), .int (xs (x3 + 2).toNatClampNeg), .int (xs (x3 + 3).toNatClampNeg), .int (xs (x3 + 4).toNatClampNeg), .int (xs (x3 + 5).toNatClampNeg)]) (rest := [.int r1182]) o dL_law_1211 lk_L_118 rfl sh_64 rfl rfl rfl rfl (Nat.le_of_ble_eq_true rfl)) (c_X7_read g l h1182 (xs (x3 + 1).toNatClampNeg) (xs (x3 + 2).toNatClampNeg) (xs (x3 + 3).toNatClampNeg) (xs (x3 + 4).toNatClampNeg) (xs (x3 + 5).toNatClampNeg)) (fun r1211 h1211 => ?_)
  refine R_icmp_eq o 1957 dL_law_1214 (by decide) ?_ ?_
  · refine R_iinc (v := (x3 + 6)) (lv2 := [(0, .ref b), (1, rA g 0), (2, rA g 64), (3, .int (x3 + 6))]) o 3 dL_law_1957 rfl rfl (by decide) rfl ?_
    refine R_goto o 18 dL_law_1960 (by decide) ?_
    exact T_some (fun p => oP.wide p)
  · refine R_iconst (v := 0) o dL_law_1217 (by decide) ?_
    exact T_some (fun p => absurd (show false = true from p) (by decide))
noncomputable def f_L_law_J1219_18 (xs : Nat → Int32) (L : Nat) (h : MH) (x3 : Int32) : Option ((Int32 × MH) ⊕ (MH ⊕ Bool)) :=
  gd (ix (x3 + 1) L) (bnd2 (f_X6_changes h (xs (x3 + 1).toNatClampNeg)) (fun r1225 h1225 => gd (ix (x3 + 1) L) (bnd2 (f_X7_changes h1225 (xs (x3 + 1).toNatClampNeg)) (fun r1234 h1234 => (if r1225 = r1234 then some (.inl ((x3 + 6), h1234)) else some (.inr (.inr false)))))))
set_option maxRecDepth 100000 in
set_option maxHeartbeats 4000000 in
theorem t_L_law_J1219_18 {g : Gx} {l : Launch} {V V1 : VT} {b L : Nat} {xs : Nat → Int32} {ce sl : Nat} (oP : OkLP g l b L xs ce sl V V1) (h : MH) (x3 : Int32) : T (Sum.elim (fun s => V1 18 [(0, .ref b), (1, rA g 0), (2, rA g 64), (3, .int s.1)] [] s.2) (Sum.elim (fun b0 => V 1963 [] [] b0) (fun r => r = true))) (f_L_law_J1219_18 xs L  h x3) (V 1219 [(0, .ref b), (1, rA g 0), (2, rA g 64), (3, .int x3)] [] h) := by
  have oS := oP.fst
  have oS1 := oP.snd
  have o := oS.ok
  have o1 := oS1.ok
  unfold f_L_law_J1219_18
  refine R_aload_n o 1 dL_law_1219 rfl rfl ?_
  refine R_aloadS oS 0 dL_law_1220 rfl rfl ?_
  refine R_iload_n o 3 dL_law_1221 rfl rfl ?_
  refine R_iconst (v := 1) o dL_law_1222 (by decide) ?_
  refine R_iadd o dL_law_1223 ?_
  refine R_sld oS dL_law_1224 ?_
  refine K_ih (callV' (As := [.int (xs (x3 + 1).toNatClampNeg)]) (rest := []) o dL_law_1225 lk_L_119 rfl sh_0 rfl rfl rfl rfl (Nat.le_of_ble_eq_true rfl)) (c_X6_changes g l h (xs (x3 + 1).toNatClampNeg)) (fun r1225 h1225 => ?_)
  refine R_aload_n o 2 dL_law_1228 rfl rfl ?_
  refine R_aloadS oS 0 dL_law_1229 rfl rfl ?_
  refine R_iload_n o 3 dL_law_1230 rfl rfl ?_
  refine R_iconst (v := 1) o dL_law_1231 (by decide) ?_
  refine R_iadd o dL_law_1232 ?_
  refine R_sld oS dL_law_1233 ?_
  refine K_ih (callV' (As := [.int (xs (x3 + 1).toNatClampNeg)]) (rest := [.int r1225]) o dL_law_1234 lk_L_122 rfl sh_64 rfl rfl rfl rfl (Nat.le_of_ble_eq_true rfl)) (c_X7_changes g l h1225 (xs (x3 + 1).toNatClampNeg)) (fun r1234 h1234 => ?_)
  refine R_icmp_eq o 1957 dL_law_1237 (by decide) ?_ ?_
  · refine R_iinc (v := (x3 + 6)) (lv2 := [(0, .ref b), (1, rA g 0), (2, rA g 64), (3, .int (x3 + 6))]) o 3 dL_law_1957 rfl rfl (by decide) rfl ?_
    refine R_goto o 18 dL_law_1960 (by decide) ?_
    exact T_some (fun p => oP.wide p)
  · refine R_iconst (v := 0) o dL_law_1240 (by decide) ?_
    exact T_some (fun p => absurd (show false = true from p) (by decide))
noncomputable def f_L_law_J1242_18 (xs : Nat → Int32) (L : Nat) (h : MH) (x3 : Int32) : Option ((Int32 × MH) ⊕ (MH ⊕ Bool)) :=
  gd (ix (x3 + 1) L) (bnd2 (f_X6_reach h (xs (x3 + 1).toNatClampNeg)) (fun r1248 h1248 => gd (ix (x3 + 1) L) (bnd2 (f_X7_reach h1248 (xs (x3 + 1).toNatClampNeg)) (fun r1257 h1257 => (if r1248 = r1257 then some (.inl ((x3 + 6), h1257)) else some (.inr (.inr false)))))))
set_option maxRecDepth 100000 in
set_option maxHeartbeats 4000000 in
theorem t_L_law_J1242_18 {g : Gx} {l : Launch} {V V1 : VT} {b L : Nat} {xs : Nat → Int32} {ce sl : Nat} (oP : OkLP g l b L xs ce sl V V1) (h : MH) (x3 : Int32) : T (Sum.elim (fun s => V1 18 [(0, .ref b), (1, rA g 0), (2, rA g 64), (3, .int s.1)] [] s.2) (Sum.elim (fun b0 => V 1963 [] [] b0) (fun r => r = true))) (f_L_law_J1242_18 xs L  h x3) (V 1242 [(0, .ref b), (1, rA g 0), (2, rA g 64), (3, .int x3)] [] h) := by
  have oS := oP.fst
  have oS1 := oP.snd
  have o := oS.ok
  have o1 := oS1.ok
  unfold f_L_law_J1242_18
  refine R_aload_n o 1 dL_law_1242 rfl rfl ?_
  refine R_aloadS oS 0 dL_law_1243 rfl rfl ?_
  refine R_iload_n o 3 dL_law_1244 rfl rfl ?_
  refine R_iconst (v := 1) o dL_law_1245 (by decide) ?_
  refine R_iadd o dL_law_1246 ?_
  refine R_sld oS dL_law_1247 ?_
  refine K_ih (callV' (As := [.int (xs (x3 + 1).toNatClampNeg)]) (rest := []) o dL_law_1248 lk_L_123 rfl sh_0 rfl rfl rfl rfl (Nat.le_of_ble_eq_true rfl)) (c_X6_reach g l h (xs (x3 + 1).toNatClampNeg)) (fun r1248 h1248 => ?_)
  refine R_aload_n o 2 dL_law_1251 rfl rfl ?_
  refine R_aloadS oS 0 dL_law_1252 rfl rfl ?_
  refine R_iload_n o 3 dL_law_1253 rfl rfl ?_
  refine R_iconst (v := 1) o dL_law_1254 (by decide) ?_
  refine R_iadd o dL_law_1255 ?_
  refine R_sld oS dL_law_1256 ?_
  refine K_ih (callV' (As := [.int (xs (x3 + 1).toNatClampNeg)]) (rest := [.int r1248]) o dL_law_1257 lk_L_126 rfl sh_64 rfl rfl rfl rfl (Nat.le_of_ble_eq_true rfl)) (c_X7_reach g l h1248 (xs (x3 + 1).toNatClampNeg)) (fun r1257 h1257 => ?_)
  refine R_icmp_eq o 1957 dL_law_1260 (by decide) ?_ ?_
  · refine R_iinc (v := (x3 + 6)) (lv2 := [(0, .ref b), (1, rA g 0), (2, rA g 64), (3, .int (x3 + 6))]) o 3 dL_law_1957 rfl rfl (by decide) rfl ?_
    refine R_goto o 18 dL_law_1960 (by decide) ?_
    exact T_some (fun p => oP.wide p)
  · refine R_iconst (v := 0) o dL_law_1263 (by decide) ?_
    exact T_some (fun p => absurd (show false = true from p) (by decide))
noncomputable def f_L_law_J1265_18 (xs : Nat → Int32) (L : Nat) (h : MH) (x3 : Int32) : Option ((Int32 × MH) ⊕ (MH ⊕ Bool)) :=
  gd (ix (x3 + 1) L) (gd (ix (x3 + 2) L) (gd (ix (x3 + 3) L) (gd (ix (x3 + 4) L) (gd (ix (x3 + 5) L) (bnd2 (f_X6_parts h (xs (x3 + 1).toNatClampNeg) (xs (x3 + 2).toNatClampNeg) (xs (x3 + 3).toNatClampNeg) (xs (x3 + 4).toNatClampNeg) (xs (x3 + 5).toNatClampNeg)) (fun r1291 h1291 => gd (ix (x3 + 1) L) (gd (ix (x3 + 2) L) (gd (ix (x3 + 3) L) (gd (ix (x3 + 4) L) (gd (ix (x3 + 5) L) (bnd2 (f_X7_parts h1291 (xs (x3 + 1).toNatClampNeg) (xs (x3 + 2).toNatClampNeg) (xs (x3 + 3).toNatClampNeg) (xs (x3 + 4).toNatClampNeg) (xs (x3 + 5).toNatClampNeg)) (fun r1320 h1320 => (if r1291 = r1320 then some (.inl ((x3 + 6), h1320)) else some (.inr (.inr false)))))))))))))))
set_option maxRecDepth 100000 in
set_option maxHeartbeats 4000000 in
theorem t_L_law_J1265_18 {g : Gx} {l : Launch} {V V1 : VT} {b L : Nat} {xs : Nat → Int32} {ce sl : Nat} (oP : OkLP g l b L xs ce sl V V1) (h : MH) (x3 : Int32) : T (Sum.elim (fun s => V1 18 [(0, .ref b), (1, rA g 0), (2, rA g 64), (3, .int s.1)] [] s.2) (Sum.elim (fun b0 => V 1963 [] [] b0) (fun r => r = true))) (f_L_law_J1265_18 xs L  h x3) (V 1265 [(0, .ref b), (1, rA g 0), (2, rA g 64), (3, .int x3)] [] h) := by
  have oS := oP.fst
  have oS1 := oP.snd
  have o := oS.ok
  have o1 := oS1.ok
  unfold f_L_law_J1265_18
  refine R_aload_n o 1 dL_law_1265 rfl rfl ?_
  refine R_aloadS oS 0 dL_law_1266 rfl rfl ?_
  refine R_iload_n o 3 dL_law_1267 rfl rfl ?_
  refine R_iconst (v := 1) o dL_law_1268 (by decide) ?_
  refine R_iadd o dL_law_1269 ?_
  refine R_sld oS dL_law_1270 ?_
  refine R_aloadS oS 0 dL_law_1271 rfl rfl ?_
  refine R_iload_n o 3 dL_law_1272 rfl rfl ?_
  refine R_iconst (v := 2) o dL_law_1273 (by decide) ?_
  refine R_iadd o dL_law_1274 ?_
  refine R_sld oS dL_law_1275 ?_
  refine R_aloadS oS 0 dL_law_1276 rfl rfl ?_
  refine R_iload_n o 3 dL_law_1277 rfl rfl ?_
  refine R_iconst (v := 3) o dL_law_1278 (by decide) ?_
  refine R_iadd o dL_law_1279 ?_
  refine R_sld oS dL_law_1280 ?_
  refine R_aloadS oS 0 dL_law_1281 rfl rfl ?_
  refine R_iload_n o 3 dL_law_1282 rfl rfl ?_
  refine R_iconst (v := 4) o dL_law_1283 (by decide) ?_
  refine R_iadd o dL_law_1284 ?_
  refine R_sld oS dL_law_1285 ?_
  refine R_aloadS oS 0 dL_law_1286 rfl rfl ?_
  refine R_iload_n o 3 dL_law_1287 rfl rfl ?_
  refine R_iconst (v := 5) o dL_law_1288 (by decide) ?_
  refine R_iadd o dL_law_1289 ?_
  refine R_sld oS dL_law_1290 ?_
  refine K_ih (callV' (As := [.int (xs (x3 + 1).toNatClampNeg), .int (xs (x3 + 2).toNatClampNeg), .int (xs (x3 + 3).toNatClampNeg), .int (xs (x3 + 4).toNatClampNeg), .int (xs (x3 + 5).toNatClampNeg)]) (rest := []) o dL_law_1291 lk_L_127 rfl sh_0 rfl rfl rfl rfl (Nat.le_of_ble_eq_true rfl)) (c_X6_parts g l h (xs (x3 + 1).toNatClampNeg) (xs (x3 + 2).toNatClampNeg) (xs (x3 + 3).toNatClampNeg) (xs (x3 + 4).toNatClampNeg) (xs (x3 + 5).toNatClampNeg)) (fun r1291 h1291 => ?_)
  refine R_aload_n o 2 dL_law_1294 rfl rfl ?_
  refine R_aloadS oS 0 dL_law_1295 rfl rfl ?_
  refine R_iload_n o 3 dL_law_1296 rfl rfl ?_
  refine R_iconst (v := 1) o dL_law_1297 (by decide) ?_
  refine R_iadd o dL_law_1298 ?_
  refine R_sld oS dL_law_1299 ?_
  refine R_aloadS oS 0 dL_law_1300 rfl rfl ?_
  refine R_iload_n o 3 dL_law_1301 rfl rfl ?_
  refine R_iconst (v := 2) o dL_law_1302 (by decide) ?_
  refine R_iadd o dL_law_1303 ?_
  refine R_sld oS dL_law_1304 ?_
  refine R_aloadS oS 0 dL_law_1305 rfl rfl ?_
  refine R_iload_n o 3 dL_law_1306 rfl rfl ?_
  refine R_iconst (v := 3) o dL_law_1307 (by decide) ?_
  refine R_iadd o dL_law_1308 ?_
  refine R_sld oS dL_law_1309 ?_
  refine R_aloadS oS 0 dL_law_1310 rfl rfl ?_
  refine R_iload_n o 3 dL_law_1311 rfl rfl ?_
  refine R_iconst (v := 4) o dL_law_1312 (by decide) ?_
  refine R_iadd o dL_law_1313 ?_
  refine R_sld oS dL_law_1314 ?_
  refine R_aloadS oS 0 dL_law_1315 rfl rfl ?_
  refine R_iload_n o 3 dL_law_1316 rfl rfl ?_
  refine R_iconst (v := 5) o dL_law_1317 (by decide) ?_
  refine R_iadd o dL_law_1318 ?_
  refine R_sld oS dL_law_1319 ?_
  refine K_ih (callV' (As := [.int (xs (x3 + 1).toNatClampNeg), .int (xs (x3 + 2).toNatClampNeg), .int (xs (x3 + 3).toNatClampNeg), .int (xs (x3 + 4).toNatClampNeg), .int (xs (x3 + 5).toNatClampNeg)]) (rest := [.int r1291]) o dL_law_1320 lk_L_130 rfl sh_64 rfl rfl rfl rfl (Nat.le_of_ble_eq_true rfl)) (c_X7_parts g l h1291 (xs (x3 + 1).toNatClampNeg) (xs (x3 + 2).toNatClampNeg) (xs (x3 + 3).toNatClampNeg) (xs (x3 + 4).toNatClampNeg) (xs (x3 + 5).toNatClampNeg)) (fun r1320 h1320 => ?_)
  refine R_icmp_eq o 1957 dL_law_1323 (by decide) ?_ ?_
  · refine R_iinc (v := (x3 + 6)) (lv2 := [(0, .ref b), (1, rA g 0), (2, rA g 64), (3, .int (x3 + 6))]) o 3 dL_law_1957 rfl rfl (by decide) rfl ?_
    refine R_goto o 18 dL_law_1960 (by decide) ?_
    exact T_some (fun p => oP.wide p)
  · refine R_iconst (v := 0) o dL_law_1326 (by decide) ?_
    exact T_some (fun p => absurd (show false = true from p) (by decide))
noncomputable def f_L_law_J1328_18 (xs : Nat → Int32) (L : Nat) (h : MH) (x3 : Int32) : Option ((Int32 × MH) ⊕ (MH ⊕ Bool)) :=
  gd (ix (x3 + 1) L) (bnd2 (f_X6_join h (xs (x3 + 1).toNatClampNeg)) (fun r1334 h1334 => gd (ix (x3 + 1) L) (bnd2 (f_X7_join h1334 (xs (x3 + 1).toNatClampNeg)) (fun r1343 h1343 => (if r1334 = r1343 then some (.inl ((x3 + 6), h1343)) else some (.inr (.inr false)))))))
set_option maxRecDepth 100000 in
set_option maxHeartbeats 4000000 in
theorem t_L_law_J1328_18 {g : Gx} {l : Launch} {V V1 : VT} {b L : Nat} {xs : Nat → Int32} {ce sl : Nat} (oP : OkLP g l b L xs ce sl V V1) (h : MH) (x3 : Int32) : T (Sum.elim (fun s => V1 18 [(0, .ref b), (1, rA g 0), (2, rA g 64), (3, .int s.1)] [] s.2) (Sum.elim (fun b0 => V 1963 [] [] b0) (fun r => r = true))) (f_L_law_J1328_18 xs L  h x3) (V 1328 [(0, .ref b), (1, rA g 0), (2, rA g 64), (3, .int x3)] [] h) := by
  have oS := oP.fst
  have oS1 := oP.snd
  have o := oS.ok
  have o1 := oS1.ok
  unfold f_L_law_J1328_18
  refine R_aload_n o 1 dL_law_1328 rfl rfl ?_
  refine R_aloadS oS 0 dL_law_1329 rfl rfl ?_
  refine R_iload_n o 3 dL_law_1330 rfl rfl ?_
  refine R_iconst (v := 1) o dL_law_1331 (by decide) ?_
  refine R_iadd o dL_law_1332 ?_
  refine R_sld oS dL_law_1333 ?_
  refine K_ih (callV' (As := [.int (xs (x3 + 1).toNatClampNeg)]) (rest := []) o dL_law_1334 lk_L_131 rfl sh_0 rfl rfl rfl rfl (Nat.le_of_ble_eq_true rfl)) (c_X6_join g l h (xs (x3 + 1).toNatClampNeg)) (fun r1334 h1334 => ?_)
  refine R_aload_n o 2 dL_law_1337 rfl rfl ?_
  refine R_aloadS oS 0 dL_law_1338 rfl rfl ?_
  refine R_iload_n o 3 dL_law_1339 rfl rfl ?_
  refine R_iconst (v := 1) o dL_law_1340 (by decide) ?_
  refine R_iadd o dL_law_1341 ?_
  refine R_sld oS dL_law_1342 ?_
  refine K_ih (callV' (As := [.int (xs (x3 + 1).toNatClampNeg)]) (rest := [.int r1334]) o dL_law_1343 lk_L_134 rfl sh_64 rfl rfl rfl rfl (Nat.le_of_ble_eq_true rfl)) (c_X7_join g l h1334 (xs (x3 + 1).toNatClampNeg)) (fun r1343 h1343 => ?_)
  refine R_icmp_eq o 1957 dL_law_1346 (by decide) ?_ ?_
  · refine R_iinc (v := (x3 + 6)) (lv2 := [(0, .ref b), (1, rA g 0), (2, rA g 64), (3, .int (x3 + 6))]) o 3 dL_law_1957 rfl rfl (by decide) rfl ?_
    refine R_goto o 18 dL_law_1960 (by decide) ?_
    exact T_some (fun p => oP.wide p)
  · refine R_iconst (v := 0) o dL_law_1349 (by decide) ?_
    exact T_some (fun p => absurd (show false = true from p) (by decide))
noncomputable def f_L_law_J1351_18 (xs : Nat → Int32) (L : Nat) (h : MH) (x3 : Int32) : Option ((Int32 × MH) ⊕ (MH ⊕ Bool)) :=
  gd (ix (x3 + 1) L) (gd (ix (x3 + 2) L) (gd (ix (x3 + 3) L) (bnd2 (f_X6_spread h (xs (x3 + 1).toNatClampNeg) (xs (x3 + 2).toNatClampNeg) (xs (x3 + 3).toNatClampNeg)) (fun r1367 h1367 => gd (ix (x3 + 1) L) (gd (ix (x3 + 2) L) (gd (ix (x3 + 3) L) (bnd2 (f_X7_spread h1367 (xs (x3 + 1).toNatClampNeg) (xs (x3 + 2).toNatClampNeg) (xs (x3 + 3).toNatClampNeg)) (fun r1386 h1386 => (if r1367 = r1386 then some (.inl ((x3 + 6), h1386)) else some (.inr (.inr false)))))))))))
set_option maxRecDepth 100000 in
set_option maxHeartbeats 4000000 in
theorem t_L_law_J1351_18 {g : Gx} {l : Launch} {V V1 : VT} {b L : Nat} {xs : Nat → Int32} {ce sl : Nat} (oP : OkLP g l b L xs ce sl V V1) (h : MH) (x3 : Int32) : T (Sum.elim (fun s => V1 18 [(0, .ref b), (1, rA g 0), (2, rA g 64), (3, .int s.1)] [] s.2) (Sum.elim (fun b0 => V 1963 [] [] b0) (fun r => r = true))) (f_L_law_J1351_18 xs L  h x3) (V 1351 [(0, .ref b), (1, rA g 0), (2, rA g 64), (3, .int x3)] [] h) := by
  have oS := oP.fst
  have oS1 := oP.snd
  have o := oS.ok
  have o1 := oS1.ok
  unfold f_L_law_J1351_18
  refine R_aload_n o 1 dL_law_1351 rfl rfl ?_
  refine R_aloadS oS 0 dL_law_1352 rfl rfl ?_
  refine R_iload_n o 3 dL_law_1353 rfl rfl ?_
  refine R_iconst (v := 1) o dL_law_1354 (by decide) ?_
  refine R_iadd o dL_law_1355 ?_
  refine R_sld oS dL_law_1356 ?_
  refine R_aloadS oS 0 dL_law_1357 rfl rfl ?_
  refine R_iload_n o 3 dL_law_1358 rfl rfl ?_
  refine R_iconst (v := 2) o dL_law_1359 (by decide) ?_
  refine R_iadd o dL_law_1360 ?_
  refine R_sld oS dL_law_1361 ?_
  refine R_aloadS oS 0 dL_law_1362 rfl rfl ?_
  refine R_iload_n o 3 dL_law_1363 rfl rfl ?_
  refine R_iconst (v := 3) o dL_law_1364 (by decide) ?_
  refine R_iadd o dL_law_1365 ?_
  refine R_sld oS dL_law_1366 ?_
  refine K_ih (callV' (As := [.int (xs (x3 + 1).toNatClampNeg), .int (xs (x3 + 2).toNatClampNeg), .int (xs (x3 + 3).toNatClampNeg)]) (rest := []) o dL_law_1367 lk_L_135 rfl sh_0 rfl rfl rfl rfl (Nat.le_of_ble_eq_true rfl)) (c_X6_spread g l h (xs (x3 + 1).toNatClampNeg) (xs (x3 + 2).toNatClampNeg) (xs (x3 + 3).toNatClampNeg)) (fun r1367 h1367 => ?_)
  refine R_aload_n o 2 dL_law_1370 rfl rfl ?_
  refine R_aloadS oS 0 dL_law_1371 rfl rfl ?_
  refine R_iload_n o 3 dL_law_1372 rfl rfl ?_
  refine R_iconst (v := 1) o dL_law_1373 (by decide) ?_
  refine R_iadd o dL_law_1374 ?_
  refine R_sld oS dL_law_1375 ?_
  refine R_aloadS oS 0 dL_law_1376 rfl rfl ?_
  refine R_iload_n o 3 dL_law_1377 rfl rfl ?_
  refine R_iconst (v := 2) o dL_law_1378 (by decide) ?_
  refine R_iadd o dL_law_1379 ?_
  refine R_sld oS dL_law_1380 ?_
  refine R_aloadS oS 0 dL_law_1381 rfl rfl ?_
  refine R_iload_n o 3 dL_law_1382 rfl rfl ?_
  refine R_iconst (v := 3) o dL_law_1383 (by decide) ?_
  refine R_iadd o dL_law_1384 ?_
  refine R_sld oS dL_law_1385 ?_
  refine K_ih (callV' (As := [.int (xs (x3 + 1).toNatClampNeg), .int (xs (x3 + 2).toNatClampNeg), .int (xs (x3 + 3).toNatClampNeg)]) (rest := [.int r1367]) o dL_law_1386 lk_L_138 rfl sh_64 rfl rfl rfl rfl (Nat.le_of_ble_eq_true rfl)) (c_X7_spread g l h1367 (xs (x3 + 1).toNatClampNeg) (xs (x3 + 2).toNatClampNeg) (xs (x3 + 3).toNatClampNeg)) (fun r1386 h1386 => ?_)
  refine R_icmp_eq o 1957 dL_law_1389 (by decide) ?_ ?_
  · refine R_iinc (v := (x3 + 6)) (lv2 := [(0, .ref b), (1, rA g 0), (2, rA g 64), (3, .int (x3 + 6))]) o 3 dL_law_1957 rfl rfl (by decide) rfl ?_
    refine R_goto o 18 dL_law_1960 (by decide) ?_
    exact T_some (fun p => oP.wide p)
  · refine R_iconst (v := 0) o dL_law_1392 (by decide) ?_
    exact T_some (fun p => absurd (show false = true from p) (by decide))
noncomputable def f_L_law_J1394_18 (xs : Nat → Int32) (L : Nat) (h : MH) (x3 : Int32) : Option ((Int32 × MH) ⊕ (MH ⊕ Bool)) :=
  gd (ix (x3 + 1) L) (gd (ix (x3 + 2) L) (gd (ix (x3 + 3) L) (bnd2 (f_X6_sum h (xs (x3 + 1).toNatClampNeg) (xs (x3 + 2).toNatClampNeg) (xs (x3 + 3).toNatClampNeg)) (fun r1410 h1410 => gd (ix (x3 + 1) L) (gd (ix (x3 + 2) L) (gd (ix (x3 + 3) L) (bnd2 (f_X7_sum h1410 (xs (x3 + 1).toNatClampNeg) (xs (x3 + 2).toNatClampNeg) (xs (x3 + 3).toNatClampNeg)) (fun r1429 h1429 => (if r1410 = r1429 then some (.inl ((x3 + 6), h1429)) else some (.inr (.inr false)))))))))))
set_option maxRecDepth 100000 in
set_option maxHeartbeats 4000000 in
theorem t_L_law_J1394_18 {g : Gx} {l : Launch} {V V1 : VT} {b L : Nat} {xs : Nat → Int32} {ce sl : Nat} (oP : OkLP g l b L xs ce sl V V1) (h : MH) (x3 : Int32) : T (Sum.elim (fun s => V1 18 [(0, .ref b), (1, rA g 0), (2, rA g 64), (3, .int s.1)] [] s.2) (Sum.elim (fun b0 => V 1963 [] [] b0) (fun r => r = true))) (f_L_law_J1394_18 xs L  h x3) (V 1394 [(0, .ref b), (1, rA g 0), (2, rA g 64), (3, .int x3)] [] h) := by
  have oS := oP.fst
  have oS1 := oP.snd
  have o := oS.ok
  have o1 := oS1.ok
  unfold f_L_law_J1394_18
  refine R_aload_n o 1 dL_law_1394 rfl rfl ?_
  refine R_aloadS oS 0 dL_law_1395 rfl rfl ?_
  refine R_iload_n o 3 dL_law_1396 rfl rfl ?_
  refine R_iconst (v := 1) o dL_law_1397 (by decide) ?_
  refine R_iadd o dL_law_1398 ?_
  refine R_sld oS dL_law_1399 ?_
  refine R_aloadS oS 0 dL_law_1400 rfl rfl ?_
  refine R_iload_n o 3 dL_law_1401 rfl rfl ?_
  refine R_iconst (v := 2) o dL_law_1402 (by decide) ?_
  refine R_iadd o dL_law_1403 ?_
  refine R_sld oS dL_law_1404 ?_
  refine R_aloadS oS 0 dL_law_1405 rfl rfl ?_
  refine R_iload_n o 3 dL_law_1406 rfl rfl ?_
  refine R_iconst (v := 3) o dL_law_1407 (by decide) ?_
  refine R_iadd o dL_law_1408 ?_
  refine R_sld oS dL_law_1409 ?_
  refine K_ih (callV' (As := [.int (xs (x3 + 1).toNatClampNeg), .int (xs (x3 + 2).toNatClampNeg), .int (xs (x3 + 3).toNatClampNeg)]) (rest := []) o dL_law_1410 lk_L_139 rfl sh_0 rfl rfl rfl rfl (Nat.le_of_ble_eq_true rfl)) (c_X6_sum g l h (xs (x3 + 1).toNatClampNeg) (xs (x3 + 2).toNatClampNeg) (xs (x3 + 3).toNatClampNeg)) (fun r1410 h1410 => ?_)
  refine R_aload_n o 2 dL_law_1413 rfl rfl ?_
  refine R_aloadS oS 0 dL_law_1414 rfl rfl ?_
  refine R_iload_n o 3 dL_law_1415 rfl rfl ?_
  refine R_iconst (v := 1) o dL_law_1416 (by decide) ?_
  refine R_iadd o dL_law_1417 ?_
  refine R_sld oS dL_law_1418 ?_
  refine R_aloadS oS 0 dL_law_1419 rfl rfl ?_
  refine R_iload_n o 3 dL_law_1420 rfl rfl ?_
  refine R_iconst (v := 2) o dL_law_1421 (by decide) ?_
  refine R_iadd o dL_law_1422 ?_
  refine R_sld oS dL_law_1423 ?_
  refine R_aloadS oS 0 dL_law_1424 rfl rfl ?_
  refine R_iload_n o 3 dL_law_1425 rfl rfl ?_
  refine R_iconst (v := 3) o dL_law_1426 (by decide) ?_
  refine R_iadd o dL_law_1427 ?_
  refine R_sld oS dL_law_1428 ?_
  refine K_ih (callV' (As := [.int (xs (x3 + 1).toNatClampNeg), .int (xs (x3 + 2).toNatClampNeg), .int (xs (x3 + 3).toNatClampNeg)]) (rest := [.int r1410]) o dL_law_1429 lk_L_142 rfl sh_64 rfl rfl rfl rfl (Nat.le_of_ble_eq_true rfl)) (c_X7_sum g l h1410 (xs (x3 + 1).toNatClampNeg) (xs (x3 + 2).toNatClampNeg) (xs (x3 + 3).toNatClampNeg)) (fun r1429 h1429 => ?_)
  refine R_icmp_eq o 1957 dL_law_1432 (by decide) ?_ ?_
  · refine R_iinc (v := (x3 + 6)) (lv2 := [(0, .ref b), (1, rA g 0), (2, rA g 64), (3, .int (x3 + 6))]) o 3 dL_law_1957 rfl rfl (by decide) rfl ?_
    refine R_goto o 18 dL_law_1960 (by decide) ?_
    exact T_some (fun p => oP.wide p)
  · refine R_iconst (v := 0) o dL_law_1435 (by decide) ?_
    exact T_some (fun p => absurd (show false = true from p) (by decide))
noncomputable def f_L_law_J1437_18 (xs : Nat → Int32) (L : Nat) (h : MH) (x3 : Int32) : Option ((Int32 × MH) ⊕ (MH ⊕ Bool)) :=
  gd (ix (x3 + 1) L) (gd (ix (x3 + 2) L) (bnd2 (f_X6_lineUp h (xs (x3 + 1).toNatClampNeg) (xs (x3 + 2).toNatClampNeg)) (fun r1448 h1448 => gd (ix (x3 + 1) L) (gd (ix (x3 + 2) L) (bnd2 (f_X7_lineUp h1448 (xs (x3 + 1).toNatClampNeg) (xs (x3 + 2).toNatClampNeg)) (fun r1462 h1462 => (if r1448 = r1462 then some (.inl ((x3 + 6), h1462)) else some (.inr (.inr false)))))))))
set_option maxRecDepth 100000 in
set_option maxHeartbeats 4000000 in
theorem t_L_law_J1437_18 {g : Gx} {l : Launch} {V V1 : VT} {b L : Nat} {xs : Nat → Int32} {ce sl : Nat} (oP : OkLP g l b L xs ce sl V V1) (h : MH) (x3 : Int32) : T (Sum.elim (fun s => V1 18 [(0, .ref b), (1, rA g 0), (2, rA g 64), (3, .int s.1)] [] s.2) (Sum.elim (fun b0 => V 1963 [] [] b0) (fun r => r = true))) (f_L_law_J1437_18 xs L  h x3) (V 1437 [(0, .ref b), (1, rA g 0), (2, rA g 64), (3, .int x3)] [] h) := by
  have oS := oP.fst
  have oS1 := oP.snd
  have o := oS.ok
  have o1 := oS1.ok
  unfold f_L_law_J1437_18
  refine R_aload_n o 1 dL_law_1437 rfl rfl ?_
  refine R_aloadS oS 0 dL_law_1438 rfl rfl ?_
  refine R_iload_n o 3 dL_law_1439 rfl rfl ?_
  refine R_iconst (v := 1) o dL_law_1440 (by decide) ?_
  refine R_iadd o dL_law_1441 ?_
  refine R_sld oS dL_law_1442 ?_
  refine R_aloadS oS 0 dL_law_1443 rfl rfl ?_
  refine R_iload_n o 3 dL_law_1444 rfl rfl ?_
  refine R_iconst (v := 2) o dL_law_1445 (by decide) ?_
  refine R_iadd o dL_law_1446 ?_
  refine R_sld oS dL_law_1447 ?_
  refine K_ih (callV' (As := [.int (xs (x3 + 1).toNatClampNeg), .int (xs (x3 + 2).toNatClampNeg)]) (rest := []) o dL_law_1448 lk_L_143 rfl sh_0 rfl rfl rfl rfl (Nat.le_of_ble_eq_true rfl)) (c_X6_lineUp g l h (xs (x3 + 1).toNatClampNeg) (xs (x3 + 2).toNatClampNeg)) (fun r1448 h1448 => ?_)
  refine R_aload_n o 2 dL_law_1451 rfl rfl ?_
  refine R_aloadS oS 0 dL_law_1452 rfl rfl ?_
  refine R_iload_n o 3 dL_law_1453 rfl rfl ?_
  refine R_iconst (v := 1) o dL_law_1454 (by decide) ?_
  refine R_iadd o dL_law_1455 ?_
  refine R_sld oS dL_law_1456 ?_
  refine R_aloadS oS 0 dL_law_1457 rfl rfl ?_
  refine R_iload_n o 3 dL_law_1458 rfl rfl ?_
  refine R_iconst (v := 2) o dL_law_1459 (by decide) ?_
  refine R_iadd o dL_law_1460 ?_
  refine R_sld oS dL_law_1461 ?_
  refine K_ih (callV' (As := [.int (xs (x3 + 1).toNatClampNeg), .int (xs (x3 + 2).toNatClampNeg)]) (rest := [.int r1448]) o dL_law_1462 lk_L_146 rfl sh_64 rfl rfl rfl rfl (Nat.le_of_ble_eq_true rfl)) (c_X7_lineUp g l h1448 (xs (x3 + 1).toNatClampNeg) (xs (x3 + 2).toNatClampNeg)) (fun r1462 h1462 => ?_)
  refine R_icmp_eq o 1957 dL_law_1465 (by decide) ?_ ?_
  · refine R_iinc (v := (x3 + 6)) (lv2 := [(0, .ref b), (1, rA g 0), (2, rA g 64), (3, .int (x3 + 6))]) o 3 dL_law_1957 rfl rfl (by decide) rfl ?_
    refine R_goto o 18 dL_law_1960 (by decide) ?_
    exact T_some (fun p => oP.wide p)
  · refine R_iconst (v := 0) o dL_law_1468 (by decide) ?_
    exact T_some (fun p => absurd (show false = true from p) (by decide))
noncomputable def f_L_law_J1470_18 (xs : Nat → Int32) (L : Nat) (h : MH) (x3 : Int32) : Option ((Int32 × MH) ⊕ (MH ⊕ Bool)) :=
  gd (ix (x3 + 1) L) (gd (ix (x3 + 2) L) (bnd2 (f_X6_falseShare h (xs (x3 + 1).toNatClampNeg) (xs (x3 + 2).toNatClampNeg)) (fun r1481 h1481 => gd (ix (x3 + 1) L) (gd (ix (x3 + 2) L) (bnd2 (f_X7_falseShare h1481 (xs (x3 + 1).toNatClampNeg) (xs (x3 + 2).toNatClampNeg)) (fun r1495 h1495 => (if r1481 = r1495 then some (.inl ((x3 + 6), h1495)) else some (.inr (.inr false)))))))))
set_option maxRecDepth 100000 in
set_option maxHeartbeats 4000000 in
theorem t_L_law_J1470_18 {g : Gx} {l : Launch} {V V1 : VT} {b L : Nat} {xs : Nat → Int32} {ce sl : Nat} (oP : OkLP g l b L xs ce sl V V1) (h : MH) (x3 : Int32) : T (Sum.elim (fun s => V1 18 [(0, .ref b), (1, rA g 0), (2, rA g 64), (3, .int s.1)] [] s.2) (Sum.elim (fun b0 => V 1963 [] [] b0) (fun r => r = true))) (f_L_law_J1470_18 xs L  h x3) (V 1470 [(0, .ref b), (1, rA g 0), (2, rA g 64), (3, .int x3)] [] h) := by
  have oS := oP.fst
  have oS1 := oP.snd
  have o := oS.ok
  have o1 := oS1.ok
  unfold f_L_law_J1470_18
  refine R_aload_n o 1 dL_law_1470 rfl rfl ?_
  refine R_aloadS oS 0 dL_law_1471 rfl rfl ?_
  refine R_iload_n o 3 dL_law_1472 rfl rfl ?_
  refine R_iconst (v := 1) o dL_law_1473 (by decide) ?_
  refine R_iadd o dL_law_1474 ?_
  refine R_sld oS dL_law_1475 ?_
  refine R_aloadS oS 0 dL_law_1476 rfl rfl ?_
  refine R_iload_n o 3 dL_law_1477 rfl rfl ?_
  refine R_iconst (v := 2) o dL_law_1478 (by decide) ?_
  refine R_iadd o dL_law_1479 ?_
  refine R_sld oS dL_law_1480 ?_
  refine K1_ih (callVL (As := [.int (xs (x3 + 1).toNatClampNeg), .int (xs (x3 + 2).toNatClampNeg)]) (rest := []) oP dL_law_1481 lk_L_147 rfl sh_0 rfl rfl rfl rfl (Nat.le_of_ble_eq_true rfl)) (c_X6_falseShare g l h (xs (x3 + 1).toNatClampNeg) (xs (x3 + 2).toNatClampNeg)) (fun r1481 h1481 => ?_)
  refine R_aload_n o1 2 dL_law_1484 rfl rfl ?_
  refine R_aloadS oS1 0 dL_law_1485 rfl rfl ?_
  refine R_iload_n o1 3 dL_law_1486 rfl rfl ?_
  refine R_iconst (v := 1) o1 dL_law_1487 (by decide) ?_
  refine R_iadd o1 dL_law_1488 ?_
  refine R_sld oS1 dL_law_1489 ?_
  refine R_aloadS oS1 0 dL_law_1490 rfl rfl ?_
  refine R_iload_n o1 3 dL_law_1491 rfl rfl ?_
  refine R_iconst (v := 2) o1 dL_law_1492 (by decide) ?_
  refine R_iadd o1 dL_law_1493 ?_
  refine R_sld oS1 dL_law_1494 ?_
  refine K_ih (callV' (As := [.int (xs (x3 + 1).toNatClampNeg), .int (xs (x3 + 2).toNatClampNeg)]) (rest := [.int r1481]) o1 dL_law_1495 lk_L_150 rfl sh_64 rfl rfl rfl rfl (Nat.le_of_ble_eq_true rfl)) (c_X7_falseShare g l h1481 (xs (x3 + 1).toNatClampNeg) (xs (x3 + 2).toNatClampNeg)) (fun r1495 h1495 => ?_)
  refine R_icmp_eq o1 1957 dL_law_1498 (by decide) ?_ ?_
  · refine R_iinc (v := (x3 + 6)) (lv2 := [(0, .ref b), (1, rA g 0), (2, rA g 64), (3, .int (x3 + 6))]) o1 3 dL_law_1957 rfl rfl (by decide) rfl ?_
    refine R_goto o1 18 dL_law_1960 (by decide) ?_
    exact T_some (fun p => p)
  · refine R_iconst (v := 0) o1 dL_law_1501 (by decide) ?_
    exact T_some (fun p => absurd (show false = true from p) (by decide))
noncomputable def f_L_law_J1503_18 (xs : Nat → Int32) (L : Nat) (h : MH) (x3 : Int32) : Option ((Int32 × MH) ⊕ (MH ⊕ Bool)) :=
  gd (ix (x3 + 1) L) (gd (ix (x3 + 2) L) (gd (ix (x3 + 3) L) (gd (ix (x3 + 4) L) (bnd2 (f_X6_cut h (xs (x3 + 1).toNatClampNeg) (xs (x3 + 2).toNatClampNeg) (xs (x3 + 3).toNatClampNeg) (xs (x3 + 4).toNatClampNeg)) (fun r1524 h1524 => gd (ix (x3 + 1) L) (gd (ix (x3 + 2) L) (gd (ix (x3 + 3) L) (gd (ix (x3 + 4) L) (bnd2 (f_X7_cut h1524 (xs (x3 + 1).toNatClampNeg) (xs (x3 + 2).toNatClampNeg) (xs (x3 + 3).toNatClampNeg) (xs (x3 + 4).toNatClampNeg)) (fun r1548 h1548 => (if r1524 = r1548 then some (.inl ((x3 + 6), h1548)) else some (.inr (.inr false)))))))))))))
set_option maxRecDepth 100000 in
set_option maxHeartbeats 4000000 in
theorem t_L_law_J1503_18 {g : Gx} {l : Launch} {V V1 : VT} {b L : Nat} {xs : Nat → Int32} {ce sl : Nat} (oP : OkLP g l b L xs ce sl V V1) (h : MH) (x3 : Int32) : T (Sum.elim (fun s => V1 18 [(0, .ref b), (1, rA g 0), (2, rA g 64), (3, .int s.1)] [] s.2) (Sum.elim (fun b0 => V 1963 [] [] b0) (fun r => r = true))) (f_L_law_J1503_18 xs L  h x3) (V 1503 [(0, .ref b), (1, rA g 0), (2, rA g 64), (3, .int x3)] [] h) := by
  have oS := oP.fst
  have oS1 := oP.snd
  have o := oS.ok
  have o1 := oS1.ok
  unfold f_L_law_J1503_18
  refine R_aload_n o 1 dL_law_1503 rfl rfl ?_
  refine R_aloadS oS 0 dL_law_1504 rfl rfl ?_
  refine R_iload_n o 3 dL_law_1505 rfl rfl ?_
  refine R_iconst (v := 1) o dL_law_1506 (by decide) ?_
  refine R_iadd o dL_law_1507 ?_
  refine R_sld oS dL_law_1508 ?_
  refine R_aloadS oS 0 dL_law_1509 rfl rfl ?_
  refine R_iload_n o 3 dL_law_1510 rfl rfl ?_
  refine R_iconst (v := 2) o dL_law_1511 (by decide) ?_
  refine R_iadd o dL_law_1512 ?_
  refine R_sld oS dL_law_1513 ?_
  refine R_aloadS oS 0 dL_law_1514 rfl rfl ?_
  refine R_iload_n o 3 dL_law_1515 rfl rfl ?_
  refine R_iconst (v := 3) o dL_law_1516 (by decide) ?_
  refine R_iadd o dL_law_1517 ?_
  refine R_sld oS dL_law_1518 ?_
  refine R_aloadS oS 0 dL_law_1519 rfl rfl ?_
  refine R_iload_n o 3 dL_law_1520 rfl rfl ?_
  refine R_iconst (v := 4) o dL_law_1521 (by decide) ?_
  refine R_iadd o dL_law_1522 ?_
  refine R_sld oS dL_law_1523 ?_
  refine K_ih (callV' (As := [.int (xs (x3 + 1).toNatClampNeg), .int (xs (x3 + 2).toNatClampNeg), .int (xs (x3 + 3).toNatClampNeg), .int (xs (x3 + 4).toNatClampNeg)]) (rest := []) o dL_law_1524 lk_L_151 rfl sh_0 rfl rfl rfl rfl (Nat.le_of_ble_eq_true rfl)) (c_X6_cut g l h (xs (x3 + 1).toNatClampNeg) (xs (x3 + 2).toNatClampNeg) (xs (x3 + 3).toNatClampNeg) (xs (x3 + 4).toNatClampNeg)) (fun r1524 h1524 => ?_)
  refine R_aload_n o 2 dL_law_1527 rfl rfl ?_
  refine R_aloadS oS 0 dL_law_1528 rfl rfl ?_
  refine R_iload_n o 3 dL_law_1529 rfl rfl ?_
  refine R_iconst (v := 1) o dL_law_1530 (by decide) ?_
  refine R_iadd o dL_law_1531 ?_
  refine R_sld oS dL_law_1532 ?_
  refine R_aloadS oS 0 dL_law_1533 rfl rfl ?_
  refine R_iload_n o 3 dL_law_1534 rfl rfl ?_
  refine R_iconst (v := 2) o dL_law_1535 (by decide) ?_
  refine R_iadd o dL_law_1536 ?_
  refine R_sld oS dL_law_1537 ?_
  refine R_aloadS oS 0 dL_law_1538 rfl rfl ?_
  refine R_iload_n o 3 dL_law_1539 rfl rfl ?_
  refine R_iconst (v := 3) o dL_law_1540 (by decide) ?_
  refine R_iadd o dL_law_1541 ?_
  refine R_sld oS dL_law_1542 ?_
  refine R_aloadS oS 0 dL_law_1543 rfl rfl ?_
  refine R_iload_n o 3 dL_law_1544 rfl rfl ?_
  refine R_iconst (v := 4) o dL_law_1545 (by decide) ?_
  refine R_iadd o dL_law_1546 ?_
  refine R_sld oS dL_law_1547 ?_
  refine K_ih (callV' (As := [.int (xs (x3 + 1).toNatClampNeg), .int (xs (x3 + 2).toNatClampNeg), .int (xs (x3 + 3).toNatClampNeg), .int (xs (x3 + 4).toNatClampNeg)]) (rest := [.int r1524]) o dL_law_1548 lk_L_154 rfl sh_64 rfl rfl rfl rfl (Nat.le_of_ble_eq_true rfl)) (c_X7_cut g l h1524 (xs (x3 + 1).toNatClampNeg) (xs (x3 + 2).toNatClampNeg) (xs (x3 + 3).toNatClampNeg) (xs (x3 + 4).toNatClampNeg)) (fun r1548 h1548 => ?_)
  refine R_icmp_eq o 1957 dL_law_1551 (by decide) ?_ ?_
  · refine R_iinc (v := (x3 + 6)) (lv2 := [(0, .ref b), (1, rA g 0), (2, rA g 64), (3, .int (x3 + 6))]) o 3 dL_law_1957 rfl rfl (by decide) rfl ?_
    refine R_goto o 18 dL_law_1960 (by decide) ?_
    exact T_some (fun p => oP.wide p)
  · refine R_iconst (v := 0) o dL_law_1554 (by decide) ?_
    exact T_some (fun p => absurd (show false = true from p) (by decide))
noncomputable def f_L_law_J1556_18 (xs : Nat → Int32) (L : Nat) (h : MH) (x3 : Int32) : Option ((Int32 × MH) ⊕ (MH ⊕ Bool)) :=
  gd (ix (x3 + 1) L) (gd (ix (x3 + 2) L) (gd (ix (x3 + 3) L) (bnd2 (f_X6_makes h (xs (x3 + 1).toNatClampNeg) (xs (x3 + 2).toNatClampNeg) (xs (x3 + 3).toNatClampNeg)) (fun r1572 h1572 => gd (ix (x3 + 1) L) (gd (ix (x3 + 2) L) (gd (ix (x3 + 3) L) (bnd2 (f_X7_makes h1572 (xs (x3 + 1).toNatClampNeg) (xs (x3 + 2).toNatClampNeg) (xs (x3 + 3).toNatClampNeg)) (fun r1591 h1591 => (if r1572 = r1591 then some (.inl ((x3 + 6), h1591)) else some (.inr (.inr false)))))))))))
set_option maxRecDepth 100000 in
set_option maxHeartbeats 4000000 in
theorem t_L_law_J1556_18 {g : Gx} {l : Launch} {V V1 : VT} {b L : Nat} {xs : Nat → Int32} {ce sl : Nat} (oP : OkLP g l b L xs ce sl V V1) (h : MH) (x3 : Int32) : T (Sum.elim (fun s => V1 18 [(0, .ref b), (1, rA g 0), (2, rA g 64), (3, .int s.1)] [] s.2) (Sum.elim (fun b0 => V 1963 [] [] b0) (fun r => r = true))) (f_L_law_J1556_18 xs L  h x3) (V 1556 [(0, .ref b), (1, rA g 0), (2, rA g 64), (3, .int x3)] [] h) := by
  have oS := oP.fst
  have oS1 := oP.snd
  have o := oS.ok
  have o1 := oS1.ok
  unfold f_L_law_J1556_18
  refine R_aload_n o 1 dL_law_1556 rfl rfl ?_
  refine R_aloadS oS 0 dL_law_1557 rfl rfl ?_
  refine R_iload_n o 3 dL_law_1558 rfl rfl ?_
  refine R_iconst (v := 1) o dL_law_1559 (by decide) ?_
  refine R_iadd o dL_law_1560 ?_
  refine R_sld oS dL_law_1561 ?_
  refine R_aloadS oS 0 dL_law_1562 rfl rfl ?_
  refine R_iload_n o 3 dL_law_1563 rfl rfl ?_
  refine R_iconst (v := 2) o dL_law_1564 (by decide) ?_
  refine R_iadd o dL_law_1565 ?_
  refine R_sld oS dL_law_1566 ?_
  refine R_aloadS oS 0 dL_law_1567 rfl rfl ?_
  refine R_iload_n o 3 dL_law_1568 rfl rfl ?_
  refine R_iconst (v := 3) o dL_law_1569 (by decide) ?_
  refine R_iadd o dL_law_1570 ?_
  refine R_sld oS dL_law_1571 ?_
  refine K_ih (callV' (As := [.int (xs (x3 + 1).toNatClampNeg), .int (xs (x3 + 2).toNatClampNeg), .int (xs (x3 + 3).toNatClampNeg)]) (rest := []) o dL_law_1572 lk_L_155 rfl sh_0 rfl rfl rfl rfl (Nat.le_of_ble_eq_true rfl)) (c_X6_makes g l h (xs (x3 + 1).toNatClampNeg) (xs (x3 + 2).toNatClampNeg) (xs (x3 + 3).toNatClampNeg)) (fun r1572 h1572 => ?_)
  refine R_aload_n o 2 dL_law_1575 rfl rfl ?_
  refine R_aloadS oS 0 dL_law_1576 rfl rfl ?_
  refine R_iload_n o 3 dL_law_1577 rfl rfl ?_
  refine R_iconst (v := 1) o dL_law_1578 (by decide) ?_
  refine R_iadd o dL_law_1579 ?_
  refine R_sld oS dL_law_1580 ?_
  refine R_aloadS oS 0 dL_law_1581 rfl rfl ?_
  refine R_iload_n o 3 dL_law_1582 rfl rfl ?_
  refine R_iconst (v := 2) o dL_law_1583 (by decide) ?_
  refine R_iadd o dL_law_1584 ?_
  refine R_sld oS dL_law_1585 ?_
  refine R_aloadS oS 0 dL_law_1586 rfl rfl ?_
  refine R_iload_n o 3 dL_law_1587 rfl rfl ?_
  refine R_iconst (v := 3) o dL_law_1588 (by decide) ?_
  refine R_iadd o dL_law_1589 ?_
  refine R_sld oS dL_law_1590 ?_
  refine K_ih (callV' (As := [.int (xs (x3 + 1).toNatClampNeg), .int (xs (x3 + 2).toNatClampNeg), .int (xs (x3 + 3).toNatClampNeg)]) (rest := [.int r1572]) o dL_law_1591 lk_L_158 rfl sh_64 rfl rfl rfl rfl (Nat.le_of_ble_eq_true rfl)) (c_X7_makes g l h1572 (xs (x3 + 1).toNatClampNeg) (xs (x3 + 2).toNatClampNeg) (xs (x3 + 3).toNatClampNeg)) (fun r1591 h1591 => ?_)
  refine R_icmp_eq o 1957 dL_law_1594 (by decide) ?_ ?_
  · refine R_iinc (v := (x3 + 6)) (lv2 := [(0, .ref b), (1, rA g 0), (2, rA g 64), (3, .int (x3 + 6))]) o 3 dL_law_1957 rfl rfl (by decide) rfl ?_
    refine R_goto o 18 dL_law_1960 (by decide) ?_
    exact T_some (fun p => oP.wide p)
  · refine R_iconst (v := 0) o dL_law_1597 (by decide) ?_
    exact T_some (fun p => absurd (show false = true from p) (by decide))
noncomputable def f_L_law_J1599_18 (xs : Nat → Int32) (L : Nat) (h : MH) (x3 : Int32) : Option ((Int32 × MH) ⊕ (MH ⊕ Bool)) :=
  gd (ix (x3 + 1) L) (gd (ix (x3 + 2) L) (gd (ix (x3 + 3) L) (bnd2 (f_X6_guilty h (xs (x3 + 1).toNatClampNeg) (xs (x3 + 2).toNatClampNeg) (xs (x3 + 3).toNatClampNeg)) (fun r1615 h1615 => gd (ix (x3 + 1) L) (gd (ix (x3 + 2) L) (gd (ix (x3 + 3) L) (bnd2 (f_X7_guilty h1615 (xs (x3 + 1).toNatClampNeg) (xs (x3 + 2).toNatClampNeg) (xs (x3 + 3).toNatClampNeg)) (fun r1634 h1634 => (if r1615 = r1634 then some (.inl ((x3 + 6), h1634)) else some (.inr (.inr false)))))))))))
set_option maxRecDepth 100000 in
set_option maxHeartbeats 4000000 in
theorem t_L_law_J1599_18 {g : Gx} {l : Launch} {V V1 : VT} {b L : Nat} {xs : Nat → Int32} {ce sl : Nat} (oP : OkLP g l b L xs ce sl V V1) (h : MH) (x3 : Int32) : T (Sum.elim (fun s => V1 18 [(0, .ref b), (1, rA g 0), (2, rA g 64), (3, .int s.1)] [] s.2) (Sum.elim (fun b0 => V 1963 [] [] b0) (fun r => r = true))) (f_L_law_J1599_18 xs L  h x3) (V 1599 [(0, .ref b), (1, rA g 0), (2, rA g 64), (3, .int x3)] [] h) := by
  have oS := oP.fst
  have oS1 := oP.snd
  have o := oS.ok
  have o1 := oS1.ok
  unfold f_L_law_J1599_18
  refine R_aload_n o 1 dL_law_1599 rfl rfl ?_
  refine R_aloadS oS 0 dL_law_1600 rfl rfl ?_
  refine R_iload_n o 3 dL_law_1601 rfl rfl ?_
  refine R_iconst (v := 1) o dL_law_1602 (by decide) ?_
  refine R_iadd o dL_law_1603 ?_
  refine R_sld oS dL_law_1604 ?_
  refine R_aloadS oS 0 dL_law_1605 rfl rfl ?_
  refine R_iload_n o 3 dL_law_1606 rfl rfl ?_
  refine R_iconst (v := 2) o dL_law_1607 (by decide) ?_
  refine R_iadd o dL_law_1608 ?_
  refine R_sld oS dL_law_1609 ?_
  refine R_aloadS oS 0 dL_law_1610 rfl rfl ?_
  refine R_iload_n o 3 dL_law_1611 rfl rfl ?_
  refine R_iconst (v := 3) o dL_law_1612 (by decide) ?_
  refine R_iadd o dL_law_1613 ?_
  refine R_sld oS dL_law_1614 ?_
  refine K_ih (callV' (As := [.int (xs (x3 + 1).toNatClampNeg), .int (xs (x3 + 2).toNatClampNeg), .int (xs (x3 + 3).toNatClampNeg)]) (rest := []) o dL_law_1615 lk_L_159 rfl sh_0 rfl rfl rfl rfl (Nat.le_of_ble_eq_true rfl)) (c_X6_guilty g l h (xs (x3 + 1).toNatClampNeg) (xs (x3 + 2).toNatClampNeg) (xs (x3 + 3).toNatClampNeg)) (fun r1615 h1615 => ?_)
  refine R_aload_n o 2 dL_law_1618 rfl rfl ?_
  refine R_aloadS oS 0 dL_law_1619 rfl rfl ?_
  refine R_iload_n o 3 dL_law_1620 rfl rfl ?_
  refine R_iconst (v := 1) o dL_law_1621 (by decide) ?_
  refine R_iadd o dL_law_1622 ?_
  refine R_sld oS dL_law_1623 ?_
  refine R_aloadS oS 0 dL_law_1624 rfl rfl ?_
  refine R_iload_n o 3 dL_law_1625 rfl rfl ?_
  refine R_iconst (v := 2) o dL_law_1626 (by decide) ?_
  refine R_iadd o dL_law_1627 ?_
  refine R_sld oS dL_law_1628 ?_
  refine R_aloadS oS 0 dL_law_1629 rfl rfl ?_
  refine R_iload_n o 3 dL_law_1630 rfl rfl ?_
  refine R_iconst (v := 3) o dL_law_1631 (by decide) ?_
  refine R_iadd o dL_law_1632 ?_
  refine R_sld oS dL_law_1633 ?_
  refine K_ih (callV' (As := [.int (xs (x3 + 1).toNatClampNeg), .int (xs (x3 + 2).toNatClampNeg), .int (xs (x3 + 3).toNatClampNeg)]) (rest := [.int r1615]) o dL_law_1634 lk_L_162 rfl sh_64 rfl rfl rfl rfl (Nat.le_of_ble_eq_true rfl)) (c_X7_guilty g l h1615 (xs (x3 + 1).toNatClampNeg) (xs (x3 + 2).toNatClampNeg) (xs (x3 + 3).toNatClampNeg)) (fun r1634 h1634 => ?_)
  refine R_icmp_eq o 1957 dL_law_1637 (by decide) ?_ ?_
  · refine R_iinc (v := (x3 + 6)) (lv2 := [(0, .ref b), (1, rA g 0), (2, rA g 64), (3, .int (x3 + 6))]) o 3 dL_law_1957 rfl rfl (by decide) rfl ?_
    refine R_goto o 18 dL_law_1960 (by decide) ?_
    exact T_some (fun p => oP.wide p)
  · refine R_iconst (v := 0) o dL_law_1640 (by decide) ?_
    exact T_some (fun p => absurd (show false = true from p) (by decide))
noncomputable def f_L_law_J1642_18 (xs : Nat → Int32) (L : Nat) (h : MH) (x3 : Int32) : Option ((Int32 × MH) ⊕ (MH ⊕ Bool)) :=
  gd (ix (x3 + 1) L) (bnd2 (f_X6_apart h (xs (x3 + 1).toNatClampNeg)) (fun r1648 h1648 => gd (ix (x3 + 1) L) (bnd2 (f_X7_apart h1648 (xs (x3 + 1).toNatClampNeg)) (fun r1657 h1657 => (if r1648 = r1657 then some (.inl ((x3 + 6), h1657)) else some (.inr (.inr false)))))))
set_option maxRecDepth 100000 in
set_option maxHeartbeats 4000000 in
theorem t_L_law_J1642_18 {g : Gx} {l : Launch} {V V1 : VT} {b L : Nat} {xs : Nat → Int32} {ce sl : Nat} (oP : OkLP g l b L xs ce sl V V1) (h : MH) (x3 : Int32) : T (Sum.elim (fun s => V1 18 [(0, .ref b), (1, rA g 0), (2, rA g 64), (3, .int s.1)] [] s.2) (Sum.elim (fun b0 => V 1963 [] [] b0) (fun r => r = true))) (f_L_law_J1642_18 xs L  h x3) (V 1642 [(0, .ref b), (1, rA g 0), (2, rA g 64), (3, .int x3)] [] h) := by
  have oS := oP.fst
  have oS1 := oP.snd
  have o := oS.ok
  have o1 := oS1.ok
  unfold f_L_law_J1642_18
  refine R_aload_n o 1 dL_law_1642 rfl rfl ?_
  refine R_aloadS oS 0 dL_law_1643 rfl rfl ?_
  refine R_iload_n o 3 dL_law_1644 rfl rfl ?_
  refine R_iconst (v := 1) o dL_law_1645 (by decide) ?_
  refine R_iadd o dL_law_1646 ?_
  refine R_sld oS dL_law_1647 ?_
  refine K_ih (callV' (As := [.int (xs (x3 + 1).toNatClampNeg)]) (rest := []) o dL_law_1648 lk_L_163 rfl sh_0 rfl rfl rfl rfl (Nat.le_of_ble_eq_true rfl)) (c_X6_apart g l h (xs (x3 + 1).toNatClampNeg)) (fun r1648 h1648 => ?_)
  refine R_aload_n o 2 dL_law_1651 rfl rfl ?_
  refine R_aloadS oS 0 dL_law_1652 rfl rfl ?_
  refine R_iload_n o 3 dL_law_1653 rfl rfl ?_
  refine R_iconst (v := 1) o dL_law_1654 (by decide) ?_
  refine R_iadd o dL_law_1655 ?_
  refine R_sld oS dL_law_1656 ?_
  refine K_ih (callV' (As := [.int (xs (x3 + 1).toNatClampNeg)]) (rest := [.int r1648]) o dL_law_1657 lk_L_166 rfl sh_64 rfl rfl rfl rfl (Nat.le_of_ble_eq_true rfl)) (c_X7_apart g l h1648 (xs (x3 + 1).toNatClampNeg)) (fun r1657 h1657 => ?_)
  refine R_icmp_eq o 1957 dL_law_1660 (by decide) ?_ ?_
  · refine R_iinc (v := (x3 + 6)) (lv2 := [(0, .ref b), (1, rA g 0), (2, rA g 64), (3, .int (x3 + 6))]) o 3 dL_law_1957 rfl rfl (by decide) rfl ?_
    refine R_goto o 18 dL_law_1960 (by decide) ?_
    exact T_some (fun p => oP.wide p)
  · refine R_iconst (v := 0) o dL_law_1663 (by decide) ?_
    exact T_some (fun p => absurd (show false = true from p) (by decide))
noncomputable def f_L_law_J1665_18 (xs : Nat → Int32) (L : Nat) (h : MH) (x3 : Int32) : Option ((Int32 × MH) ⊕ (MH ⊕ Bool)) :=
  gd (ix (x3 + 1) L) (gd (ix (x3 + 2) L) (bnd2 (f_X6_howFar h (xs (x3 + 1).toNatClampNeg) (xs (x3 + 2).toNatClampNeg)) (fun r1676 h1676 => gd (ix (x3 + 1) L) (gd (ix (x3 + 2) L) (bnd2 (f_X7_howFar h1676 (xs (x3 + 1).toNatClampNeg) (xs (x3 + 2).toNatClampNeg)) (fun r1690 h1690 => (if r1676 = r1690 then some (.inl ((x3 + 6), h1690)) else some (.inr (.inr false)))))))))
set_option maxRecDepth 100000 in
set_option maxHeartbeats 4000000 in
theorem t_L_law_J1665_18 {g : Gx} {l : Launch} {V V1 : VT} {b L : Nat} {xs : Nat → Int32} {ce sl : Nat} (oP : OkLP g l b L xs ce sl V V1) (h : MH) (x3 : Int32) : T (Sum.elim (fun s => V1 18 [(0, .ref b), (1, rA g 0), (2, rA g 64), (3, .int s.1)] [] s.2) (Sum.elim (fun b0 => V 1963 [] [] b0) (fun r => r = true))) (f_L_law_J1665_18 xs L  h x3) (V 1665 [(0, .ref b), (1, rA g 0), (2, rA g 64), (3, .int x3)] [] h) := by
  have oS := oP.fst
  have oS1 := oP.snd
  have o := oS.ok
  have o1 := oS1.ok
  unfold f_L_law_J1665_18
  refine R_aload_n o 1 dL_law_1665 rfl rfl ?_
  refine R_aloadS oS 0 dL_law_1666 rfl rfl ?_
  refine R_iload_n o 3 dL_law_1667 rfl rfl ?_
  refine R_iconst (v := 1) o dL_law_1668 (by decide) ?_
  refine R_iadd o dL_law_1669 ?_
  refine R_sld oS dL_law_1670 ?_
  refine R_aloadS oS 0 dL_law_1671 rfl rfl ?_
  refine R_iload_n o 3 dL_law_1672 rfl rfl ?_
  refine R_iconst (v := 2) o dL_law_1673 (by decide) ?_
  refine R_iadd o dL_law_1674 ?_
  refine R_sld oS dL_law_1675 ?_
  refine K_ih (callV' (As := [.int (xs (x3 + 1).toNatClampNeg), .int (xs (x3 + 2).toNatClampNeg)]) (rest := []) o dL_law_1676 lk_L_167 rfl sh_0 rfl rfl rfl rfl (Nat.le_of_ble_eq_true rfl)) (c_X6_howFar g l h (xs (x3 + 1).toNatClampNeg) (xs (x3 + 2).toNatClampNeg)) (fun r1676 h1676 => ?_)
  refine R_aload_n o 2 dL_law_1679 rfl rfl ?_
  refine R_aloadS oS 0 dL_law_1680 rfl rfl ?_
  refine R_iload_n o 3 dL_law_1681 rfl rfl ?_
  refine R_iconst (v := 1) o dL_law_1682 (by decide) ?_
  refine R_iadd o dL_law_1683 ?_
  refine R_sld oS dL_law_1684 ?_
  refine R_aloadS oS 0 dL_law_1685 rfl rfl ?_
  refine R_iload_n o 3 dL_law_1686 rfl rfl ?_
  refine R_iconst (v := 2) o dL_law_1687 (by decide) ?_
  refine R_iadd o dL_law_1688 ?_
  refine R_sld oS dL_law_1689 ?_
  refine K_ih (callV' (As := [.int (xs (x3 + 1).toNatClampNeg), .int (xs (x3 + 2).toNatClampNeg)]) (rest := [.int r1676]) o dL_law_1690 lk_L_170 rfl sh_64 rfl rfl rfl rfl (Nat.le_of_ble_eq_true rfl)) (c_X7_howFar g l h1676 (xs (x3 + 1).toNatClampNeg) (xs (x3 + 2).toNatClampNeg)) (fun r1690 h1690 => ?_)
  refine R_icmp_eq o 1957 dL_law_1693 (by decide) ?_ ?_
  · refine R_iinc (v := (x3 + 6)) (lv2 := [(0, .ref b), (1, rA g 0), (2, rA g 64), (3, .int (x3 + 6))]) o 3 dL_law_1957 rfl rfl (by decide) rfl ?_
    refine R_goto o 18 dL_law_1960 (by decide) ?_
    exact T_some (fun p => oP.wide p)
  · refine R_iconst (v := 0) o dL_law_1696 (by decide) ?_
    exact T_some (fun p => absurd (show false = true from p) (by decide))
noncomputable def f_L_law_J1698_18 (xs : Nat → Int32) (L : Nat) (h : MH) (x3 : Int32) : Option ((Int32 × MH) ⊕ (MH ⊕ Bool)) :=
  gd (ix (x3 + 1) L) (gd (ix (x3 + 2) L) (bnd2 (f_X6_bestTest h (xs (x3 + 1).toNatClampNeg) (xs (x3 + 2).toNatClampNeg)) (fun r1709 h1709 => gd (ix (x3 + 1) L) (gd (ix (x3 + 2) L) (bnd2 (f_X7_bestTest h1709 (xs (x3 + 1).toNatClampNeg) (xs (x3 + 2).toNatClampNeg)) (fun r1723 h1723 => (if r1709 = r1723 then some (.inl ((x3 + 6), h1723)) else some (.inr (.inr false)))))))))
set_option maxRecDepth 100000 in
set_option maxHeartbeats 4000000 in
theorem t_L_law_J1698_18 {g : Gx} {l : Launch} {V V1 : VT} {b L : Nat} {xs : Nat → Int32} {ce sl : Nat} (oP : OkLP g l b L xs ce sl V V1) (h : MH) (x3 : Int32) : T (Sum.elim (fun s => V1 18 [(0, .ref b), (1, rA g 0), (2, rA g 64), (3, .int s.1)] [] s.2) (Sum.elim (fun b0 => V 1963 [] [] b0) (fun r => r = true))) (f_L_law_J1698_18 xs L  h x3) (V 1698 [(0, .ref b), (1, rA g 0), (2, rA g 64), (3, .int x3)] [] h) := by
  have oS := oP.fst
  have oS1 := oP.snd
  have o := oS.ok
  have o1 := oS1.ok
  unfold f_L_law_J1698_18
  refine R_aload_n o 1 dL_law_1698 rfl rfl ?_
  refine R_aloadS oS 0 dL_law_1699 rfl rfl ?_
  refine R_iload_n o 3 dL_law_1700 rfl rfl ?_
  refine R_iconst (v := 1) o dL_law_1701 (by decide) ?_
  refine R_iadd o dL_law_1702 ?_
  refine R_sld oS dL_law_1703 ?_
  refine R_aloadS oS 0 dL_law_1704 rfl rfl ?_
  refine R_iload_n o 3 dL_law_1705 rfl rfl ?_
  refine R_iconst (v := 2) o dL_law_1706 (by decide) ?_
  refine R_iadd o dL_law_1707 ?_
  refine R_sld oS dL_law_1708 ?_
  refine K_ih (callV' (As := [.int (xs (x3 + 1).toNatClampNeg), .int (xs (x3 + 2).toNatClampNeg)]) (rest := []) o dL_law_1709 lk_L_171 rfl sh_0 rfl rfl rfl rfl (Nat.le_of_ble_eq_true rfl)) (c_X6_bestTest g l h (xs (x3 + 1).toNatClampNeg) (xs (x3 + 2).toNatClampNeg)) (fun r1709 h1709 => ?_)
  refine R_aload_n o 2 dL_law_1712 rfl rfl ?_
  refine R_aloadS oS 0 dL_law_1713 rfl rfl ?_
  refine R_iload_n o 3 dL_law_1714 rfl rfl ?_
  refine R_iconst (v := 1) o dL_law_1715 (by decide) ?_
  refine R_iadd o dL_law_1716 ?_
  refine R_sld oS dL_law_1717 ?_
  refine R_aloadS oS 0 dL_law_1718 rfl rfl ?_
  refine R_iload_n o 3 dL_law_1719 rfl rfl ?_
  refine R_iconst (v := 2) o dL_law_1720 (by decide) ?_
  refine R_iadd o dL_law_1721 ?_
  refine R_sld oS dL_law_1722 ?_
  refine K_ih (callV' (As := [.int (xs (x3 + 1).toNatClampNeg), .int (xs (x3 + 2).toNatClampNeg)]) (rest := [.int r1709]) o dL_law_1723 lk_L_174 rfl sh_64 rfl rfl rfl rfl (Nat.le_of_ble_eq_true rfl)) (c_X7_bestTest g l h1709 (xs (x3 + 1).toNatClampNeg) (xs (x3 + 2).toNatClampNeg)) (fun r1723 h1723 => ?_)
  refine R_icmp_eq o 1957 dL_law_1726 (by decide) ?_ ?_
  · refine R_iinc (v := (x3 + 6)) (lv2 := [(0, .ref b), (1, rA g 0), (2, rA g 64), (3, .int (x3 + 6))]) o 3 dL_law_1957 rfl rfl (by decide) rfl ?_
    refine R_goto o 18 dL_law_1960 (by decide) ?_
    exact T_some (fun p => oP.wide p)
  · refine R_iconst (v := 0) o dL_law_1729 (by decide) ?_
    exact T_some (fun p => absurd (show false = true from p) (by decide))
noncomputable def f_L_law_J1731_18 (xs : Nat → Int32) (L : Nat) (h : MH) (x3 : Int32) : Option ((Int32 × MH) ⊕ (MH ⊕ Bool)) :=
  gd (ix (x3 + 1) L) (gd (ix (x3 + 2) L) (bnd2 (f_X6_learn h (xs (x3 + 1).toNatClampNeg) (xs (x3 + 2).toNatClampNeg)) (fun r1742 h1742 => gd (ix (x3 + 1) L) (gd (ix (x3 + 2) L) (bnd2 (f_X7_learn h1742 (xs (x3 + 1).toNatClampNeg) (xs (x3 + 2).toNatClampNeg)) (fun r1756 h1756 => (if r1742 = r1756 then some (.inl ((x3 + 6), h1756)) else some (.inr (.inr false)))))))))
set_option maxRecDepth 100000 in
set_option maxHeartbeats 4000000 in
theorem t_L_law_J1731_18 {g : Gx} {l : Launch} {V V1 : VT} {b L : Nat} {xs : Nat → Int32} {ce sl : Nat} (oP : OkLP g l b L xs ce sl V V1) (h : MH) (x3 : Int32) : T (Sum.elim (fun s => V1 18 [(0, .ref b), (1, rA g 0), (2, rA g 64), (3, .int s.1)] [] s.2) (Sum.elim (fun b0 => V 1963 [] [] b0) (fun r => r = true))) (f_L_law_J1731_18 xs L  h x3) (V 1731 [(0, .ref b), (1, rA g 0), (2, rA g 64), (3, .int x3)] [] h) := by
  have oS := oP.fst
  have oS1 := oP.snd
  have o := oS.ok
  have o1 := oS1.ok
  unfold f_L_law_J1731_18
  refine R_aload_n o 1 dL_law_1731 rfl rfl ?_
  refine R_aloadS oS 0 dL_law_1732 rfl rfl ?_
  refine R_iload_n o 3 dL_law_1733 rfl rfl ?_
  refine R_iconst (v := 1) o dL_law_1734 (by decide) ?_
  refine R_iadd o dL_law_1735 ?_
  refine R_sld oS dL_law_1736 ?_
  refine R_aloadS oS 0 dL_law_1737 rfl rfl ?_
  refine R_iload_n o 3 dL_law_1738 rfl rfl ?_
  refine R_iconst (v := 2) o dL_law_1739 (by decide) ?_
  refine R_iadd o dL_law_1740 ?_
  refine R_sld oS dL_law_1741 ?_
  refine K_ih (callV' (As := [.int (xs (x3 + 1).toNatClampNeg), .int (xs (x3 + 2).toNatClampNeg)]) (rest := []) o dL_law_1742 lk_L_175 rfl sh_0 rfl rfl rfl rfl (Nat.le_of_ble_eq_true rfl)) (c_X6_learn g l h (xs (x3 + 1).toNatClampNeg) (xs (x3 + 2).toNatClampNeg)) (fun r1742 h1742 => ?_)
  refine R_aload_n o 2 dL_law_1745 rfl rfl ?_
  refine R_aloadS oS 0 dL_law_1746 rfl rfl ?_
  refine R_iload_n o 3 dL_law_1747 rfl rfl ?_
  refine R_iconst (v := 1) o dL_law_1748 (by decide) ?_
  refine R_iadd o dL_law_1749 ?_
  refine R_sld oS dL_law_1750 ?_
  refine R_aloadS oS 0 dL_law_1751 rfl rfl ?_
  refine R_iload_n o 3 dL_law_1752 rfl rfl ?_
  refine R_iconst (v := 2) o dL_law_1753 (by decide) ?_
  refine R_iadd o dL_law_1754 ?_
  refine R_sld oS dL_law_1755 ?_
  refine K_ih (callV' (As := [.int (xs (x3 + 1).toNatClampNeg), .int (xs (x3 + 2).toNatClampNeg)]) (rest := [.int r1742]) o dL_law_1756 lk_L_178 rfl sh_64 rfl rfl rfl rfl (Nat.le_of_ble_eq_true rfl)) (c_X7_learn g l h1742 (xs (x3 + 1).toNatClampNeg) (xs (x3 + 2).toNatClampNeg)) (fun r1756 h1756 => ?_)
  refine R_icmp_eq o 1957 dL_law_1759 (by decide) ?_ ?_
  · refine R_iinc (v := (x3 + 6)) (lv2 := [(0, .ref b), (1, rA g 0), (2, rA g 64), (3, .int (x3 + 6))]) o 3 dL_law_1957 rfl rfl (by decide) rfl ?_
    refine R_goto o 18 dL_law_1960 (by decide) ?_
    exact T_some (fun p => oP.wide p)
  · refine R_iconst (v := 0) o dL_law_1762 (by decide) ?_
    exact T_some (fun p => absurd (show false = true from p) (by decide))
noncomputable def f_L_law_J1764_18 (xs : Nat → Int32) (L : Nat) (h : MH) (x3 : Int32) : Option ((Int32 × MH) ⊕ (MH ⊕ Bool)) :=
  gd (ix (x3 + 1) L) (bnd2 (f_X6_pairs h (xs (x3 + 1).toNatClampNeg)) (fun r1770 h1770 => gd (ix (x3 + 1) L) (bnd2 (f_X7_pairs h1770 (xs (x3 + 1).toNatClampNeg)) (fun r1779 h1779 => (if r1770 = r1779 then some (.inl ((x3 + 6), h1779)) else some (.inr (.inr false)))))))
set_option maxRecDepth 100000 in
set_option maxHeartbeats 4000000 in
theorem t_L_law_J1764_18 {g : Gx} {l : Launch} {V V1 : VT} {b L : Nat} {xs : Nat → Int32} {ce sl : Nat} (oP : OkLP g l b L xs ce sl V V1) (h : MH) (x3 : Int32) : T (Sum.elim (fun s => V1 18 [(0, .ref b), (1, rA g 0), (2, rA g 64), (3, .int s.1)] [] s.2) (Sum.elim (fun b0 => V 1963 [] [] b0) (fun r => r = true))) (f_L_law_J1764_18 xs L  h x3) (V 1764 [(0, .ref b), (1, rA g 0), (2, rA g 64), (3, .int x3)] [] h) := by
  have oS := oP.fst
  have oS1 := oP.snd
  have o := oS.ok
  have o1 := oS1.ok
  unfold f_L_law_J1764_18
  refine R_aload_n o 1 dL_law_1764 rfl rfl ?_
  refine R_aloadS oS 0 dL_law_1765 rfl rfl ?_
  refine R_iload_n o 3 dL_law_1766 rfl rfl ?_
  refine R_iconst (v := 1) o dL_law_1767 (by decide) ?_
  refine R_iadd o dL_law_1768 ?_
  refine R_sld oS dL_law_1769 ?_
  refine K_ih (callV' (As := [.int (xs (x3 + 1).toNatClampNeg)]) (rest := []) o dL_law_1770 lk_L_179 rfl sh_0 rfl rfl rfl rfl (Nat.le_of_ble_eq_true rfl)) (c_X6_pairs g l h (xs (x3 + 1).toNatClampNeg)) (fun r1770 h1770 => ?_)
  refine R_aload_n o 2 dL_law_1773 rfl rfl ?_
  refine R_aloadS oS 0 dL_law_1774 rfl rfl ?_
  refine R_iload_n o 3 dL_law_1775 rfl rfl ?_
  refine R_iconst (v := 1) o dL_law_1776 (by decide) ?_
  refine R_iadd o dL_law_1777 ?_
  refine R_sld oS dL_law_1778 ?_
  refine K_ih (callV' (As := [.int (xs (x3 + 1).toNatClampNeg)]) (rest := [.int r1770]) o dL_law_1779 lk_L_182 rfl sh_64 rfl rfl rfl rfl (Nat.le_of_ble_eq_true rfl)) (c_X7_pairs g l h1770 (xs (x3 + 1).toNatClampNeg)) (fun r1779 h1779 => ?_)
  refine R_icmp_eq o 1957 dL_law_1782 (by decide) ?_ ?_
  · refine R_iinc (v := (x3 + 6)) (lv2 := [(0, .ref b), (1, rA g 0), (2, rA g 64), (3, .int (x3 + 6))]) o 3 dL_law_1957 rfl rfl (by decide) rfl ?_
    refine R_goto o 18 dL_law_1960 (by decide) ?_
    exact T_some (fun p => oP.wide p)
  · refine R_iconst (v := 0) o dL_law_1785 (by decide) ?_
    exact T_some (fun p => absurd (show false = true from p) (by decide))
noncomputable def f_L_law_J1787_18 (xs : Nat → Int32) (L : Nat) (h : MH) (x3 : Int32) : Option ((Int32 × MH) ⊕ (MH ⊕ Bool)) :=
  gd (ix (x3 + 1) L) (bnd2 (f_X6_rank h (xs (x3 + 1).toNatClampNeg)) (fun r1793 h1793 => gd (ix (x3 + 1) L) (bnd2 (f_X7_rank h1793 (xs (x3 + 1).toNatClampNeg)) (fun r1802 h1802 => (if r1793 = r1802 then some (.inl ((x3 + 6), h1802)) else some (.inr (.inr false)))))))
set_option maxRecDepth 100000 in
set_option maxHeartbeats 4000000 in
theorem t_L_law_J1787_18 {g : Gx} {l : Launch} {V V1 : VT} {b L : Nat} {xs : Nat → Int32} {ce sl : Nat} (oP : OkLP g l b L xs ce sl V V1) (h : MH) (x3 : Int32) : T (Sum.elim (fun s => V1 18 [(0, .ref b), (1, rA g 0), (2, rA g 64), (3, .int s.1)] [] s.2) (Sum.elim (fun b0 => V 1963 [] [] b0) (fun r => r = true))) (f_L_law_J1787_18 xs L  h x3) (V 1787 [(0, .ref b), (1, rA g 0), (2, rA g 64), (3, .int x3)] [] h) := by
  have oS := oP.fst
  have oS1 := oP.snd
  have o := oS.ok
  have o1 := oS1.ok
  unfold f_L_law_J1787_18
  refine R_aload_n o 1 dL_law_1787 rfl rfl ?_
  refine R_aloadS oS 0 dL_law_1788 rfl rfl ?_
  refine R_iload_n o 3 dL_law_1789 rfl rfl ?_
  refine R_iconst (v := 1) o dL_law_1790 (by decide) ?_
  refine R_iadd o dL_law_1791 ?_
  refine R_sld oS dL_law_1792 ?_
  refine K_ih (callV' (As := [.int (xs (x3 + 1).toNatClampNeg)]) (rest := []) o dL_law_1793 lk_L_183 rfl sh_0 rfl rfl rfl rfl (Nat.le_of_ble_eq_true rfl)) (c_X6_rank g l h (xs (x3 + 1).toNatClampNeg)) (fun r1793 h1793 => ?_)
  refine R_aload_n o 2 dL_law_1796 rfl rfl ?_
  refine R_aloadS oS 0 dL_law_1797 rfl rfl ?_
  refine R_iload_n o 3 dL_law_1798 rfl rfl ?_
  refine R_iconst (v := 1) o dL_law_1799 (by decide) ?_
  refine R_iadd o dL_law_1800 ?_
  refine R_sld oS dL_law_1801 ?_
  refine K_ih (callV' (As := [.int (xs (x3 + 1).toNatClampNeg)]) (rest := [.int r1793]) o dL_law_1802 lk_L_186 rfl sh_64 rfl rfl rfl rfl (Nat.le_of_ble_eq_true rfl)) (c_X7_rank g l h1793 (xs (x3 + 1).toNatClampNeg)) (fun r1802 h1802 => ?_)
  refine R_icmp_eq o 1957 dL_law_1805 (by decide) ?_ ?_
  · refine R_iinc (v := (x3 + 6)) (lv2 := [(0, .ref b), (1, rA g 0), (2, rA g 64), (3, .int (x3 + 6))]) o 3 dL_law_1957 rfl rfl (by decide) rfl ?_
    refine R_goto o 18 dL_law_1960 (by decide) ?_
    exact T_some (fun p => oP.wide p)
  · refine R_iconst (v := 0) o dL_law_1808 (by decide) ?_
    exact T_some (fun p => absurd (show false = true from p) (by decide))
noncomputable def f_L_law_J1810_18 (xs : Nat → Int32) (L : Nat) (h : MH) (x3 : Int32) : Option ((Int32 × MH) ⊕ (MH ⊕ Bool)) :=
  gd (ix (x3 + 1) L) (gd (ix (x3 + 2) L) (bnd2 (f_X6_arrange h (xs (x3 + 1).toNatClampNeg) (xs (x3 + 2).toNatClampNeg)) (fun r1821 h1821 => gd (ix (x3 + 1) L) (gd (ix (x3 + 2) L) (bnd2 (f_X7_arrange h1821 (xs (x3 + 1).toNatClampNeg) (xs (x3 + 2).toNatClampNeg)) (fun r1835 h1835 => (if r1821 = r1835 then some (.inl ((x3 + 6), h1835)) else some (.inr (.inr false)))))))))
set_option maxRecDepth 100000 in
set_option maxHeartbeats 4000000 in
theorem t_L_law_J1810_18 {g : Gx} {l : Launch} {V V1 : VT} {b L : Nat} {xs : Nat → Int32} {ce sl : Nat} (oP : OkLP g l b L xs ce sl V V1) (h : MH) (x3 : Int32) : T (Sum.elim (fun s => V1 18 [(0, .ref b), (1, rA g 0), (2, rA g 64), (3, .int s.1)] [] s.2) (Sum.elim (fun b0 => V 1963 [] [] b0) (fun r => r = true))) (f_L_law_J1810_18 xs L  h x3) (V 1810 [(0, .ref b), (1, rA g 0), (2, rA g 64), (3, .int x3)] [] h) := by
  have oS := oP.fst
  have oS1 := oP.snd
  have o := oS.ok
  have o1 := oS1.ok
  unfold f_L_law_J1810_18
  refine R_aload_n o 1 dL_law_1810 rfl rfl ?_
  refine R_aloadS oS 0 dL_law_1811 rfl rfl ?_
  refine R_iload_n o 3 dL_law_1812 rfl rfl ?_
  refine R_iconst (v := 1) o dL_law_1813 (by decide) ?_
  refine R_iadd o dL_law_1814 ?_
  refine R_sld oS dL_law_1815 ?_
  refine R_aloadS oS 0 dL_law_1816 rfl rfl ?_
  refine R_iload_n o 3 dL_law_1817 rfl rfl ?_
  refine R_iconst (v := 2) o dL_law_1818 (by decide) ?_
  refine R_iadd o dL_law_1819 ?_
  refine R_sld oS dL_law_1820 ?_
  refine K_ih (callV' (As := [.int (xs (x3 + 1).toNatClampNeg), .int (xs (x3 + 2).toNatClampNeg)]) (rest := []) o dL_law_1821 lk_L_187 rfl sh_0 rfl rfl rfl rfl (Nat.le_of_ble_eq_true rfl)) (c_X6_arrange g l h (xs (x3 + 1).toNatClampNeg) (xs (x3 + 2).toNatClampNeg)) (fun r1821 h1821 => ?_)
  refine R_aload_n o 2 dL_law_1824 rfl rfl ?_
  refine R_aloadS oS 0 dL_law_1825 rfl rfl ?_
  refine R_iload_n o 3 dL_law_1826 rfl rfl ?_
  refine R_iconst (v := 1) o dL_law_1827 (by decide) ?_
  refine R_iadd o dL_law_1828 ?_
  refine R_sld oS dL_law_1829 ?_
  refine R_aloadS oS 0 dL_law_1830 rfl rfl ?_
  refine R_iload_n o 3 dL_law_1831 rfl rfl ?_
  refine R_iconst (v := 2) o dL_law_1832 (by decide) ?_
  refine R_iadd o dL_law_1833 ?_
  refine R_sld oS dL_law_1834 ?_
  refine K_ih (callV' (As := [.int (xs (x3 + 1).toNatClampNeg), .int (xs (x3 + 2).toNatClampNeg)]) (rest := [.int r1821]) o dL_law_1835 lk_L_190 rfl sh_64 rfl rfl rfl rfl (Nat.le_of_ble_eq_true rfl)) (c_X7_arrange g l h1821 (xs (x3 + 1).toNatClampNeg) (xs (x3 + 2).toNatClampNeg)) (fun r1835 h1835 => ?_)
  refine R_icmp_eq o 1957 dL_law_1838 (by decide) ?_ ?_
  · refine R_iinc (v := (x3 + 6)) (lv2 := [(0, .ref b), (1, rA g 0), (2, rA g 64), (3, .int (x3 + 6))]) o 3 dL_law_1957 rfl rfl (by decide) rfl ?_
    refine R_goto o 18 dL_law_1960 (by decide) ?_
    exact T_some (fun p => oP.wide p)
  · refine R_iconst (v := 0) o dL_law_1841 (by decide) ?_
    exact T_some (fun p => absurd (show false = true from p) (by decide))
noncomputable def f_L_law_J1843_18 (xs : Nat → Int32) (L : Nat) (h : MH) (x3 : Int32) : Option ((Int32 × MH) ⊕ (MH ⊕ Bool)) :=
  Option.bind (f_X6_asked h) (fun r1844 => Option.bind (f_X7_asked h) (fun r1848 => (if r1844 = r1848 then some (.inl ((x3 + 6), h)) else some (.inr (.inr false)))))
set_option maxRecDepth 100000 in
set_option maxHeartbeats 4000000 in
theorem t_L_law_J1843_18 {g : Gx} {l : Launch} {V V1 : VT} {b L : Nat} {xs : Nat → Int32} {ce sl : Nat} (oP : OkLP g l b L xs ce sl V V1) (h : MH) (x3 : Int32) : T (Sum.elim (fun s => V1 18 [(0, .ref b), (1, rA g 0), (2, rA g 64), (3, .int s.1)] [] s.2) (Sum.elim (fun b0 => V 1963 [] [] b0) (fun r => r = true))) (f_L_law_J1843_18 xs L  h x3) (V 1843 [(0, .ref b), (1, rA g 0), (2, rA g 64), (3, .int x3)] [] h) := by
  have oS := oP.fst
  have oS1 := oP.snd
  have o := oS.ok
  have o1 := oS1.ok
  unfold f_L_law_J1843_18
  refine R_aload_n o 1 dL_law_1843 rfl rfl ?_
  refine K_i (callV' (As := []) (rest := []) o dL_law_1844 lk_L_191 rfl sh_0 rfl rfl rfl rfl (Nat.le_of_ble_eq_true rfl)) (c_X6_asked g l h) (fun r1844 => ?_)
  refine R_aload_n o 2 dL_law_1847 rfl rfl ?_
  refine K_i (callV' (As := []) (rest := [.int r1844]) o dL_law_1848 lk_L_195 rfl sh_64 rfl rfl rfl rfl (Nat.le_of_ble_eq_true rfl)) (c_X7_asked g l h) (fun r1848 => ?_)
  refine R_icmp_eq o 1957 dL_law_1851 (by decide) ?_ ?_
  · refine R_iinc (v := (x3 + 6)) (lv2 := [(0, .ref b), (1, rA g 0), (2, rA g 64), (3, .int (x3 + 6))]) o 3 dL_law_1957 rfl rfl (by decide) rfl ?_
    refine R_goto o 18 dL_law_1960 (by decide) ?_
    exact T_some (fun p => oP.wide p)
  · refine R_iconst (v := 0) o dL_law_1854 (by decide) ?_
    exact T_some (fun p => absurd (show false = true from p) (by decide))
noncomputable def f_L_law_J1856_18 (xs : Nat → Int32) (L : Nat) (h : MH) (x3 : Int32) : Option ((Int32 × MH) ⊕ (MH ⊕ Bool)) :=
  Option.bind (f_X6_upper h) (fun r1857 => Option.bind (f_X7_upper h) (fun r1861 => (if r1857 = r1861 then some (.inl ((x3 + 6), h)) else some (.inr (.inr false)))))
set_option maxRecDepth 100000 in
set_option maxHeartbeats 4000000 in
theorem t_L_law_J1856_18 {g : Gx} {l : Launch} {V V1 : VT} {b L : Nat} {xs : Nat → Int32} {ce sl : Nat} (oP : OkLP g l b L xs ce sl V V1) (h : MH) (x3 : Int32) : T (Sum.elim (fun s => V1 18 [(0, .ref b), (1, rA g 0), (2, rA g 64), (3, .int s.1)] [] s.2) (Sum.elim (fun b0 => V 1963 [] [] b0) (fun r => r = true))) (f_L_law_J1856_18 xs L  h x3) (V 1856 [(0, .ref b), (1, rA g 0), (2, rA g 64), (3, .int x3)] [] h) := by
  have oS := oP.fst
  have oS1 := oP.snd
  have o := oS.ok
  have o1 := oS1.ok
  unfold f_L_law_J1856_18
  refine R_aload_n o 1 dL_law_1856 rfl rfl ?_
  refine K_l (callV' (As := []) (rest := []) o dL_law_1857 lk_L_196 rfl sh_0 rfl rfl rfl rfl (Nat.le_of_ble_eq_true rfl)) (c_X6_upper g l h) (fun r1857 => ?_)
  refine R_aload_n o 2 dL_law_1860 rfl rfl ?_
  refine K_l (callV' (As := []) (rest := [.long r1857]) o dL_law_1861 lk_L_200 rfl sh_64 rfl rfl rfl rfl (Nat.le_of_ble_eq_true rfl)) (c_X7_upper g l h) (fun r1861 => ?_)
  refine R_lcmp_eq o 1957 dL_law_1864 dL_law_1865 (by decide) ?_ ?_
  · refine R_iinc (v := (x3 + 6)) (lv2 := [(0, .ref b), (1, rA g 0), (2, rA g 64), (3, .int (x3 + 6))]) o 3 dL_law_1957 rfl rfl (by decide) rfl ?_
    refine R_goto o 18 dL_law_1960 (by decide) ?_
    exact T_some (fun p => oP.wide p)
  · refine R_iconst (v := 0) o dL_law_1868 (by decide) ?_
    exact T_some (fun p => absurd (show false = true from p) (by decide))
noncomputable def f_L_law_J1870_18 (xs : Nat → Int32) (L : Nat) (h : MH) (x3 : Int32) : Option ((Int32 × MH) ⊕ (MH ⊕ Bool)) :=
  Option.bind (f_X6_lower h) (fun r1871 => Option.bind (f_X7_lower h) (fun r1875 => (if r1871 = r1875 then some (.inl ((x3 + 6), h)) else some (.inr (.inr false)))))
set_option maxRecDepth 100000 in
set_option maxHeartbeats 4000000 in
theorem t_L_law_J1870_18 {g : Gx} {l : Launch} {V V1 : VT} {b L : Nat} {xs : Nat → Int32} {ce sl : Nat} (oP : OkLP g l b L xs ce sl V V1) (h : MH) (x3 : Int32) : T (Sum.elim (fun s => V1 18 [(0, .ref b), (1, rA g 0), (2, rA g 64), (3, .int s.1)] [] s.2) (Sum.elim (fun b0 => V 1963 [] [] b0) (fun r => r = true))) (f_L_law_J1870_18 xs L  h x3) (V 1870 [(0, .ref b), (1, rA g 0), (2, rA g 64), (3, .int x3)] [] h) := by
  have oS := oP.fst
  have oS1 := oP.snd
  have o := oS.ok
  have o1 := oS1.ok
  unfold f_L_law_J1870_18
  refine R_aload_n o 1 dL_law_1870 rfl rfl ?_
  refine K_l (callV' (As := []) (rest := []) o dL_law_1871 lk_L_201 rfl sh_0 rfl rfl rfl rfl (Nat.le_of_ble_eq_true rfl)) (c_X6_lower g l h) (fun r1871 => ?_)
  refine R_aload_n o 2 dL_law_1874 rfl rfl ?_
  refine K_l (callV' (As := []) (rest := [.long r1871]) o dL_law_1875 lk_L_204 rfl sh_64 rfl rfl rfl rfl (Nat.le_of_ble_eq_true rfl)) (c_X7_lower g l h) (fun r1875 => ?_)
  refine R_lcmp_eq o 1957 dL_law_1878 dL_law_1879 (by decide) ?_ ?_
  · refine R_iinc (v := (x3 + 6)) (lv2 := [(0, .ref b), (1, rA g 0), (2, rA g 64), (3, .int (x3 + 6))]) o 3 dL_law_1957 rfl rfl (by decide) rfl ?_
    refine R_goto o 18 dL_law_1960 (by decide) ?_
    exact T_some (fun p => oP.wide p)
  · refine R_iconst (v := 0) o dL_law_1882 (by decide) ?_
    exact T_some (fun p => absurd (show false = true from p) (by decide))
noncomputable def f_L_law_J1884_18 (xs : Nat → Int32) (L : Nat) (h : MH) (x3 : Int32) : Option ((Int32 × MH) ⊕ (MH ⊕ Bool)) :=
  gd (ix (x3 + 1) L) (Option.bind (f_X6_count h (xs (x3 + 1).toNatClampNeg)) (fun r1890 => gd (ix (x3 + 1) L) (Option.bind (f_X7_count h (xs (x3 + 1).toNatClampNeg)) (fun r1899 => (if r1890 = r1899 then some (.inl ((x3 + 6), h)) else some (.inr (.inr false)))))))
set_option maxRecDepth 100000 in
set_option maxHeartbeats 4000000 in
theorem t_L_law_J1884_18 {g : Gx} {l : Launch} {V V1 : VT} {b L : Nat} {xs : Nat → Int32} {ce sl : Nat} (oP : OkLP g l b L xs ce sl V V1) (h : MH) (x3 : Int32) : T (Sum.elim (fun s => V1 18 [(0, .ref b), (1, rA g 0), (2, rA g 64), (3, .int s.1)] [] s.2) (Sum.elim (fun b0 => V 1963 [] [] b0) (fun r => r = true))) (f_L_law_J1884_18 xs L  h x3) (V 1884 [(0, .ref b), (1, rA g 0), (2, rA g 64), (3, .int x3)] [] h) := by
  have oS := oP.fst
  have oS1 := oP.snd
  have o := oS.ok
  have o1 := oS1.ok
  unfold f_L_law_J1884_18
  refine R_aload_n o 1 dL_law_1884 rfl rfl ?_
  refine R_aloadS oS 0 dL_law_1885 rfl rfl ?_
  refine R_iload_n o 3 dL_law_1886 rfl rfl ?_
  refine R_iconst (v := 1) o dL_law_1887 (by decide) ?_
  refine R_iadd o dL_law_1888 ?_
  refine R_sld oS dL_law_1889 ?_
  refine K_i (callV' (As := [.int (xs (x3 + 1).toNatClampNeg)]) (rest := []) o dL_law_1890 lk_L_205 rfl sh_0 rfl rfl rfl rfl (Nat.le_of_ble_eq_true rfl)) (c_X6_count g l h (xs (x3 + 1).toNatClampNeg)) (fun r1890 => ?_)
  refine R_aload_n o 2 dL_law_1893 rfl rfl ?_
  refine R_aloadS oS 0 dL_law_1894 rfl rfl ?_
  refine R_iload_n o 3 dL_law_1895 rfl rfl ?_
  refine R_iconst (v := 1) o dL_law_1896 (by decide) ?_
  refine R_iadd o dL_law_1897 ?_
  refine R_sld oS dL_law_1898 ?_
  refine K_i (callV' (As := [.int (xs (x3 + 1).toNatClampNeg)]) (rest := [.int r1890]) o dL_law_1899 lk_L_208 rfl sh_64 rfl rfl rfl rfl (Nat.le_of_ble_eq_true rfl)) (c_X7_count g l h (xs (x3 + 1).toNatClampNeg)) (fun r1899 => ?_)
  refine R_icmp_eq o 1957 dL_law_1902 (by decide) ?_ ?_
  · refine R_iinc (v := (x3 + 6)) (lv2 := [(0, .ref b), (1, rA g 0), (2, rA g 64), (3, .int (x3 + 6))]) o 3 dL_law_1957 rfl rfl (by decide) rfl ?_
    refine R_goto o 18 dL_law_1960 (by decide) ?_
    exact T_some (fun p => oP.wide p)
  · refine R_iconst (v := 0) o dL_law_1905 (by decide) ?_
    exact T_some (fun p => absurd (show false = true from p) (by decide))
noncomputable def f_L_law_J1907_18 (xs : Nat → Int32) (L : Nat) (h : MH) (x3 : Int32) : Option ((Int32 × MH) ⊕ (MH ⊕ Bool)) :=
  Option.bind (f_X6_finding h) (fun r1908 => Option.bind (f_X7_finding h) (fun r1912 => (if r1908 = r1912 then some (.inl ((x3 + 6), h)) else some (.inr (.inr false)))))
set_option maxRecDepth 100000 in
set_option maxHeartbeats 4000000 in
theorem t_L_law_J1907_18 {g : Gx} {l : Launch} {V V1 : VT} {b L : Nat} {xs : Nat → Int32} {ce sl : Nat} (oP : OkLP g l b L xs ce sl V V1) (h : MH) (x3 : Int32) : T (Sum.elim (fun s => V1 18 [(0, .ref b), (1, rA g 0), (2, rA g 64), (3, .int s.1)] [] s.2) (Sum.elim (fun b0 => V 1963 [] [] b0) (fun r => r = true))) (f_L_law_J1907_18 xs L  h x3) (V 1907 [(0, .ref b), (1, rA g 0), (2, rA g 64), (3, .int x3)] [] h) := by
  have oS := oP.fst
  have oS1 := oP.snd
  have o := oS.ok
  have o1 := oS1.ok
  unfold f_L_law_J1907_18
  refine R_aload_n o 1 dL_law_1907 rfl rfl ?_
  refine K_i (callV' (As := []) (rest := []) o dL_law_1908 lk_L_209 rfl sh_0 rfl rfl rfl rfl (Nat.le_of_ble_eq_true rfl)) (c_X6_finding g l h) (fun r1908 => ?_)
  refine R_aload_n o 2 dL_law_1911 rfl rfl ?_
  refine K_i (callV' (As := []) (rest := [.int r1908]) o dL_law_1912 lk_L_212 rfl sh_64 rfl rfl rfl rfl (Nat.le_of_ble_eq_true rfl)) (c_X7_finding g l h) (fun r1912 => ?_)
  refine R_icmp_eq o 1957 dL_law_1915 (by decide) ?_ ?_
  · refine R_iinc (v := (x3 + 6)) (lv2 := [(0, .ref b), (1, rA g 0), (2, rA g 64), (3, .int (x3 + 6))]) o 3 dL_law_1957 rfl rfl (by decide) rfl ?_
    refine R_goto o 18 dL_law_1960 (by decide) ?_
    exact T_some (fun p => oP.wide p)
  · refine R_iconst (v := 0) o dL_law_1918 (by decide) ?_
    exact T_some (fun p => absurd (show false = true from p) (by decide))
noncomputable def f_L_law_J1920_18 (xs : Nat → Int32) (L : Nat) (h : MH) (x3 : Int32) : Option ((Int32 × MH) ⊕ (MH ⊕ Bool)) :=
  gd (ix (x3 + 1) L) (Option.bind (f_X6_findings h (xs (x3 + 1).toNatClampNeg)) (fun r1926 => gd (ix (x3 + 1) L) (Option.bind (f_X7_findings h (xs (x3 + 1).toNatClampNeg)) (fun r1935 => (if r1926 = r1935 then some (.inl ((x3 + 6), h)) else some (.inr (.inr false)))))))
set_option maxRecDepth 100000 in
set_option maxHeartbeats 4000000 in
theorem t_L_law_J1920_18 {g : Gx} {l : Launch} {V V1 : VT} {b L : Nat} {xs : Nat → Int32} {ce sl : Nat} (oP : OkLP g l b L xs ce sl V V1) (h : MH) (x3 : Int32) : T (Sum.elim (fun s => V1 18 [(0, .ref b), (1, rA g 0), (2, rA g 64), (3, .int s.1)] [] s.2) (Sum.elim (fun b0 => V 1963 [] [] b0) (fun r => r = true))) (f_L_law_J1920_18 xs L  h x3) (V 1920 [(0, .ref b), (1, rA g 0), (2, rA g 64), (3, .int x3)] [] h) := by
  have oS := oP.fst
  have oS1 := oP.snd
  have o := oS.ok
  have o1 := oS1.ok
  unfold f_L_law_J1920_18
  refine R_aload_n o 1 dL_law_1920 rfl rfl ?_
  refine R_aloadS oS 0 dL_law_1921 rfl rfl ?_
  refine R_iload_n o 3 dL_law_1922 rfl rfl ?_
  refine R_iconst (v := 1) o dL_law_1923 (by decide) ?_
  refine R_iadd o dL_law_1924 ?_
  refine R_sld oS dL_law_1925 ?_
  refine K_i (callV' (As := [.int (xs (x3 + 1).toNatClampNeg)]) (rest := []) o dL_law_1926 lk_L_213 rfl sh_0 rfl rfl rfl rfl (Nat.le_of_ble_eq_true rfl)) (c_X6_findings g l h (xs (x3 + 1).toNatClampNeg)) (fun r1926 => ?_)
  refine R_aload_n o 2 dL_law_1929 rfl rfl ?_
  refine R_aloadS oS 0 dL_law_1930 rfl rfl ?_
  refine R_iload_n o 3 dL_law_1931 rfl rfl ?_
  refine R_iconst (v := 1) o dL_law_1932 (by decide) ?_
  refine R_iadd o dL_law_1933 ?_
  refine R_sld oS dL_law_1934 ?_
  refine K_i (callV' (As := [.int (xs (x3 + 1).toNatClampNeg)]) (rest := [.int r1926]) o dL_law_1935 lk_L_216 rfl sh_64 rfl rfl rfl rfl (Nat.le_of_ble_eq_true rfl)) (c_X7_findings g l h (xs (x3 + 1).toNatClampNeg)) (fun r1935 => ?_)
  refine R_icmp_eq o 1957 dL_law_1938 (by decide) ?_ ?_
  · refine R_iinc (v := (x3 + 6)) (lv2 := [(0, .ref b), (1, rA g 0), (2, rA g 64), (3, .int (x3 + 6))]) o 3 dL_law_1957 rfl rfl (by decide) rfl ?_
    refine R_goto o 18 dL_law_1960 (by decide) ?_
    exact T_some (fun p => oP.wide p)
  · refine R_iconst (v := 0) o dL_law_1941 (by decide) ?_
    exact T_some (fun p => absurd (show false = true from p) (by decide))
noncomputable def f_L_law_J1943_18 (xs : Nat → Int32) (L : Nat) (h : MH) (x3 : Int32) : Option ((Int32 × MH) ⊕ (MH ⊕ Bool)) :=
  Option.bind (f_X6_digest h) (fun r1944 => bnd2 (f_X7_digest h) (fun r1948 h1948 => (if r1944 = r1948 then some (.inl ((x3 + 6), h1948)) else some (.inr (.inr false)))))
set_option maxRecDepth 100000 in
set_option maxHeartbeats 4000000 in
theorem t_L_law_J1943_18 {g : Gx} {l : Launch} {V V1 : VT} {b L : Nat} {xs : Nat → Int32} {ce sl : Nat} (oP : OkLP g l b L xs ce sl V V1) (h : MH) (x3 : Int32) : T (Sum.elim (fun s => V1 18 [(0, .ref b), (1, rA g 0), (2, rA g 64), (3, .int s.1)] [] s.2) (Sum.elim (fun b0 => V 1963 [] [] b0) (fun r => r = true))) (f_L_law_J1943_18 xs L  h x3) (V 1943 [(0, .ref b), (1, rA g 0), (2, rA g 64), (3, .int x3)] [] h) := by
  have oS := oP.fst
  have oS1 := oP.snd
  have o := oS.ok
  have o1 := oS1.ok
  unfold f_L_law_J1943_18
  refine R_aload_n o 1 dL_law_1943 rfl rfl ?_
  refine K_l (callV' (As := []) (rest := []) o dL_law_1944 lk_L_217 rfl sh_0 rfl rfl rfl rfl (Nat.le_of_ble_eq_true rfl)) (c_X6_digest g l h) (fun r1944 => ?_)
  refine R_aload_n o 2 dL_law_1947 rfl rfl ?_
  refine K_lh (callV' (As := []) (rest := [.long r1944]) o dL_law_1948 lk_L_220 rfl sh_64 rfl rfl rfl rfl (Nat.le_of_ble_eq_true rfl)) (c_X7_digest g l h) (fun r1948 h1948 => ?_)
  refine R_lcmp_eq o 1957 dL_law_1951 dL_law_1952 (by decide) ?_ ?_
  · refine R_iinc (v := (x3 + 6)) (lv2 := [(0, .ref b), (1, rA g 0), (2, rA g 64), (3, .int (x3 + 6))]) o 3 dL_law_1957 rfl rfl (by decide) rfl ?_
    refine R_goto o 18 dL_law_1960 (by decide) ?_
    exact T_some (fun p => oP.wide p)
  · refine R_iconst (v := 0) o dL_law_1955 (by decide) ?_
    exact T_some (fun p => absurd (show false = true from p) (by decide))
noncomputable def f_L_law_B18 (xs : Nat → Int32) (L : Nat) (h : MH) (x3 : Int32) : Option ((Int32 × MH) ⊕ (MH ⊕ Bool)) :=
  (if ((nI L) - 6) < x3 then some (.inr (.inl h)) else gd (ix x3 L) (sw ((xs x3.toNatClampNeg) &&& 63) 0 [f_L_law_J248_18 xs L h x3, f_L_law_J281_18 xs L h x3, f_L_law_J324_18 xs L h x3, f_L_law_J357_18 xs L h x3, f_L_law_J380_18 xs L h x3, f_L_law_J443_18 xs L h x3, f_L_law_J466_18 xs L h x3, f_L_law_J499_18 xs L h x3, f_L_law_J542_18 xs L h x3, f_L_law_J585_18 xs L h x3, f_L_law_J654_18 xs L h x3, f_L_law_J697_18 xs L h x3, f_L_law_J730_18 xs L h x3, f_L_law_J753_18 xs L h x3, f_L_law_J786_18 xs L h x3, f_L_law_J829_18 xs L h x3, f_L_law_J852_18 xs L h x3, f_L_law_J885_18 xs L h x3, f_L_law_J928_18 xs L h x3, f_L_law_J951_18 xs L h x3, f_L_law_J984_18 xs L h x3, f_L_law_J1017_18 xs L h x3, f_L_law_J1050_18 xs L h x3, f_L_law_J1103_18 xs L h x3, f_L_law_J1156_18 xs L h x3, f_L_law_J1219_18 xs L h x3, f_L_law_J1242_18 xs L h x3, f_L_law_J1265_18 xs L h x3, f_L_law_J1328_18 xs L h x3, f_L_law_J1351_18 xs L h x3, f_L_law_J1394_18 xs L h x3, f_L_law_J1437_18 xs L h x3, f_L_law_J1470_18 xs L h x3, f_L_law_J1503_18 xs L h x3, f_L_law_J1556_18 xs L h x3, f_L_law_J1599_18 xs L h x3, f_L_law_J1642_18 xs L h x3, f_L_law_J1665_18 xs L h x3, f_L_law_J1698_18 xs L h x3, f_L_law_J1731_18 xs L h x3, f_L_law_J1764_18 xs L h x3, f_L_law_J1787_18 xs L h x3, f_L_law_J1810_18 xs L h x3, f_L_law_J1843_18 xs L h x3, f_L_law_J1856_18 xs L h x3, f_L_law_J1870_18 xs L h x3, f_L_law_J1884_18 xs L h x3, f_L_law_J1907_18 xs L h x3, f_L_law_J1920_18 xs L h x3, f_L_law_J1943_18 xs L h x3] (some (.inl ((x3 + 6), h)))))
set_option maxRecDepth 100000 in
set_option maxHeartbeats 4000000 in
theorem t_L_law_B18 {g : Gx} {l : Launch} {V V1 : VT} {b L : Nat} {xs : Nat → Int32} {ce sl : Nat} (oP : OkLP g l b L xs ce sl V V1) (h : MH) (x3 : Int32) : T (Sum.elim (fun s => V1 18 [(0, .ref b), (1, rA g 0), (2, rA g 64), (3, .int s.1)] [] s.2) (Sum.elim (fun b0 => V 1963 [] [] b0) (fun r => r = true))) (f_L_law_B18 xs L  h x3) (V 18 [(0, .ref b), (1, rA g 0), (2, rA g 64), (3, .int x3)] [] h) := by
  have oS := oP.fst
  have oS1 := oP.snd
  have o := oS.ok
  have o1 := oS1.ok
  unfold f_L_law_B18
  refine R_iload_n o 3 dL_law_18 rfl rfl ?_
  refine R_aloadS oS 0 dL_law_19 rfl rfl ?_
  refine R_slen oS dL_law_20 ?_
  refine R_bipush (v := 6) o dL_law_21 (by decide) ?_
  refine R_isub o dL_law_23 ?_
  refine R_icmp_gt o 1963 dL_law_24 (by decide) ?_ ?_
  · refine R_drop (lv2 := []) o [] rfl ?_
    exact T_some (fun p => p)
  · refine R_aloadS oS 0 dL_law_27 rfl rfl ?_
    refine R_iload_n o 3 dL_law_28 rfl rfl ?_
    refine R_sld oS dL_law_29 ?_
    refine R_bipush (v := 63) o dL_law_30 (by decide) ?_
    refine R_iand o dL_law_32 ?_
    refine R_tsw (lo0 := 0) (hi0 := 49) (N := 50) o dL_law_33 rfl (by decide) rfl [248, 281, 324, 357, 380, 443, 466, 499, 542, 585, 654, 697, 730, 753, 786, 829, 852, 885, 928, 951, 984, 1017, 1050, 1103, 1156, 1219, 1242, 1265, 1328, 1351, 1394, 1437, 1470, 1503, 1556, 1599, 1642, 1665, 1698, 1731, 1764, 1787, 1810, 1843, 1856, 1870, 1884, 1907, 1920, 1943] 1957 (by decide +kernel) (by decide) ?_ ?_
    · intro j X tj hX hj
      match j, hX, hj with
      | 0, hX, hj =>
        cases hX
        cases hj
        exact t_L_law_J248_18 oP h x3
      | 1, hX, hj =>
        cases hX
        cases hj
        exact t_L_law_J281_18 oP h x3
      | 2, hX, hj =>
        cases hX
        cases hj
        exact t_L_law_J324_18 oP h x3
      | 3, hX, hj =>
        cases hX
        cases hj
        exact t_L_law_J357_18 oP h x3
      | 4, hX, hj =>
        cases hX
        cases hj
        exact t_L_law_J380_18 oP h x3
      | 5, hX, hj =>
        cases hX
        cases hj
        exact t_L_law_J443_18 oP h x3
      | 6, hX, hj =>
        cases hX
        cases hj
        exact t_L_law_J466_18 oP h x3
      | 7, hX, hj =>
        cases hX
        cases hj
        exact t_L_law_J499_18 oP h x3
      | 8, hX, hj =>
        cases hX
        cases hj
        exact t_L_law_J542_18 oP h x3
      | 9, hX, hj =>
        cases hX
        cases hj
        exact t_L_law_J585_18 oP h x3
      | 10, hX, hj =>
        cases hX
        cases hj
        exact t_L_law_J654_18 oP h x3
      | 11, hX, hj =>
        cases hX
        cases hj
        exact t_L_law_J697_18 oP h x3
      | 12, hX, hj =>
        cases hX
        cases hj
        exact t_L_law_J730_18 oP h x3
      | 13, hX, hj =>
        cases hX
        cases hj
        exact t_L_law_J753_18 oP h x3
      | 14, hX, hj =>
        cases hX
        cases hj
        exact t_L_law_J786_18 oP h x3
      | 15, hX, hj =>
        cases hX
        cases hj
        exact t_L_law_J829_18 oP h x3
      | 16, hX, hj =>
        cases hX
        cases hj
        exact t_L_law_J852_18 oP h x3
      | 17, hX, hj =>
        cases hX
        cases hj
        exact t_L_law_J885_18 oP h x3
      | 18, hX, hj =>
        cases hX
        cases hj
        exact t_L_law_J928_18 oP h x3
      | 19, hX, hj =>
        cases hX
        cases hj
        exact t_L_law_J951_18 oP h x3
      | 20, hX, hj =>
        cases hX
        cases hj
        exact t_L_law_J984_18 oP h x3
      | 21, hX, hj =>
        cases hX
        cases hj
        exact t_L_law_J1017_18 oP h x3
      | 22, hX, hj =>
        cases hX
        cases hj
        exact t_L_law_J1050_18 oP h x3
      | 23, hX, hj =>
        cases hX
        cases hj
        exact t_L_law_J1103_18 oP h x3
      | 24, hX, hj =>
        cases hX
        cases hj
        exact t_L_law_J1156_18 oP h x3
      | 25, hX, hj =>
        cases hX
        cases hj
        exact t_L_law_J1219_18 oP h x3
      | 26, hX, hj =>
        cases hX
        cases hj
        exact t_L_law_J1242_18 oP h x3
      | 27, hX, hj =>
        cases hX
        cases hj
        exact t_L_law_J1265_18 oP h x3
      | 28, hX, hj =>
        cases hX
        cases hj
        exact t_L_law_J1328_18 oP h x3
      | 29, hX, hj =>
        cases hX
        cases hj
        exact t_L_law_J1351_18 oP h x3
      | 30, hX, hj =>
        cases hX
        cases hj
        exact t_L_law_J1394_18 oP h x3
      | 31, hX, hj =>
        cases hX
        cases hj
        exact t_L_law_J1437_18 oP h x3
      | 32, hX, hj =>
        cases hX
        cases hj
        exact t_L_law_J1470_18 oP h x3
      | 33, hX, hj =>
        cases hX
        cases hj
        exact t_L_law_J1503_18 oP h x3
      | 34, hX, hj =>
        cases hX
        cases hj
        exact t_L_law_J1556_18 oP h x3
      | 35, hX, hj =>
        cases hX
        cases hj
        exact t_L_law_J1599_18 oP h x3
      | 36, hX, hj =>
        cases hX
        cases hj
        exact t_L_law_J1642_18 oP h x3
      | 37, hX, hj =>
        cases hX
        cases hj
        exact t_L_law_J1665_18 oP h x3
      | 38, hX, hj =>
        cases hX
        cases hj
        exact t_L_law_J1698_18 oP h x3
      | 39, hX, hj =>
        cases hX
        cases hj
        exact t_L_law_J1731_18 oP h x3
      | 40, hX, hj =>
        cases hX
        cases hj
        exact t_L_law_J1764_18 oP h x3
      | 41, hX, hj =>
        cases hX
        cases hj
        exact t_L_law_J1787_18 oP h x3
      | 42, hX, hj =>
        cases hX
        cases hj
        exact t_L_law_J1810_18 oP h x3
      | 43, hX, hj =>
        cases hX
        cases hj
        exact t_L_law_J1843_18 oP h x3
      | 44, hX, hj =>
        cases hX
        cases hj
        exact t_L_law_J1856_18 oP h x3
      | 45, hX, hj =>
        cases hX
        cases hj
        exact t_L_law_J1870_18 oP h x3
      | 46, hX, hj =>
        cases hX
        cases hj
        exact t_L_law_J1884_18 oP h x3
      | 47, hX, hj =>
        cases hX
        cases hj
        exact t_L_law_J1907_18 oP h x3
      | 48, hX, hj =>
        cases hX
        cases hj
        exact t_L_law_J1920_18 oP h x3
      | 49, hX, hj =>
        cases hX
        cases hj
        exact t_L_law_J1943_18 oP h x3
      | j + 50, hX, _ => simp at hX
    · refine R_iinc (v := (x3 + 6)) (lv2 := [(0, .ref b), (1, rA g 0), (2, rA g 64), (3, .int (x3 + 6))]) o 3 dL_law_1957 rfl rfl (by decide) rfl ?_
      refine R_goto o 18 dL_law_1960 (by decide) ?_
      exact T_some (fun p => oP.wide p)
