set_option maxRecDepth 100000 in
set_option maxHeartbeats 4000000 in
theorem lc_5 {G : Gt} {p : Program} {l : Launch} {e : Env} {s : State} {m : MethodId} {args : Array Value} {below : List Frame} {meth : Method} {c : Code} {H : Heap} {locs : List Loc} {Q : State → Prop} {ls : Array Slot} {b L : Nat} {xs : Nat → Int32} {i n : Nat} {h : Hp} {A : Ast} (xk : XK G) (hl0 : l.stackTraces = false) (X : LwC G p s m meth c args b L xs) (hi : i + 6 ≤ L) (hn : n < 1000) (I : LwI G s b i n h A H locs ls) (kk : ∀ (H : Heap) (locs : List Loc) (ls : Array Slot) (h : Hp) (A : Ast), LwI G s b i (n + 1) h A H locs ls → W p l e room_1 s m args below meth c H locs (Kc + (n + 1)) (Ks + 6 * (n + 1)) Q (F0 m 1656 ls [])) : W p l e room_1 s m args below meth c H locs (Kc + n) (Ks + 6 * n) Q (F0 m 333 ls []) := by
  obtain ⟨C, hr, hlk, hX, hbl, hbA, hL⟩ := X
  obtain ⟨B, t3, hR, hS, hl⟩ := I
  have hl : lv_has ls 8 [(4, .int (nI i)), (3, .ref (G.2.2 + 230)), (2, .ref (G.2.2 + 202)), (1, .ref (G.2.2 + 1)), (0, .ref b)] := hl
  have t1 := B.1.s.t1
  have t2 := B.2.1.s.1
  have hK := Kc_e
  have hK2 := Ks_e
  obtain ⟨out, e1, bk⟩ := bx_camp B hn (xs (nI i + (1 : Int32)).toNatClampNeg) (xs (nI i + (2 : Int32)).toNatClampNeg)
  refine lv_aload_n C.x C.b dL_law_333 rfl (lv_at hl 3 rfl) ?_
  refine lv_aload_n C.x C.b dL_law_334 rfl (lv_at hl 4 rfl) ?_
  refine lv_iload C.x C.b dL_law_335 (lv_at hl 0 rfl) ?_
  refine lv_iconst (v := (1 : Int32)) C.x C.b dL_law_337 (by decide) ?_
  refine lv_iadd C.x C.b dL_law_338 ?_
  refine va_sld C.x C.b hX hbl hbA hS (inL_1 hi hL) dL_law_339 ?_
  refine lv_aload_n C.x C.b dL_law_340 rfl (lv_at hl 4 rfl) ?_
  refine lv_iload C.x C.b dL_law_341 (lv_at hl 0 rfl) ?_
  refine lv_iconst (v := (2 : Int32)) C.x C.b dL_law_343 (by decide) ?_
  refine lv_iadd C.x C.b dL_law_344 ?_
  refine va_sld C.x C.b hX hbl hbA hS (inL_2 hi hL) dL_law_345 ?_
  refine lv_aload_n C.x C.b dL_law_346 rfl (lv_at hl 1 rfl) ?_
  refine r_callSW (As := [.ref (G.2.2 + 1), .int (xs (nI i + (1 : Int32)).toNatClampNeg), .int (xs (nI i + (2 : Int32)).toNatClampNeg), .ref (G.2.2 + 230)]) (rest := []) C hR hS mkL_camp csL_49 (k_L_camp xk hl0 t1 t3 e1) ⟨⟨Nat.le_of_ble_eq_true rfl, Nat.le_of_ble_eq_true rfl⟩, ⟨rfl, rfl⟩, (show Kc + n + 1 ≤ 601024 by omega), (show Ks + 6 * n + 6 ≤ 7293034 by omega)⟩ rfl hl.1 rfl (Nat.le_of_ble_eq_true rfl) dL_law_347 (fun v1 h1 H locs ph hR hS hE1 => ?_)
  obtain ⟨kv, v2, h2, rfl, e2, B2, hth, hout⟩ := bk v1 h1 ph
  have t2 : hpT h1 202 = (1, 10) := hE1.at t2 (by decide)
  have t3 : hpT h1 230 = (3, 1) := hE1.at t3 (by decide)
  refine lv_istore (x := kv) (rest := []) (lv' := [(5, .int kv), (4, .int (nI i)), (3, .ref (G.2.2 + 230)), (2, .ref (G.2.2 + 202)), (1, .ref (G.2.2 + 1)), (0, .ref b)]) C.x C.b dL_law_350 hl (by decide) rfl (fun ls hl => ?_)
  refine lv_aload_n C.x C.b dL_law_352 rfl (lv_at hl 3 rfl) ?_
  refine lv_aload_n C.x C.b dL_law_353 rfl (lv_at hl 5 rfl) ?_
  refine lv_iload C.x C.b dL_law_354 (lv_at hl 1 rfl) ?_
  refine lv_iconst (v := (1 : Int32)) C.x C.b dL_law_356 (by decide) ?_
  refine lv_iadd C.x C.b dL_law_357 ?_
  refine va_sld C.x C.b hX hbl hbA hS (inL_1 hi hL) dL_law_358 ?_
  refine lv_aload_n C.x C.b dL_law_359 rfl (lv_at hl 5 rfl) ?_
  refine lv_iload C.x C.b dL_law_360 (lv_at hl 1 rfl) ?_
  refine lv_iconst (v := (2 : Int32)) C.x C.b dL_law_362 (by decide) ?_
  refine lv_iadd C.x C.b dL_law_363 ?_
  refine va_sld C.x C.b hX hbl hbA hS (inL_2 hi hL) dL_law_364 ?_
  refine r_callV (As := [.int (xs (nI i + (1 : Int32)).toNatClampNeg), .int (xs (nI i + (2 : Int32)).toNatClampNeg)]) (rest := []) C hR hS t2 rfl mk_X10_camp cl_L_54 (k_X10_camp t2 e2) ⟨⟨Nat.le_of_ble_eq_true rfl, Nat.le_of_ble_eq_true rfl⟩, ⟨rfl, rfl⟩, (show Kc + n + 1 + 0 ≤ 601024 by omega), (show Ks + 6 * n + 6 + 0 ≤ 7293034 by omega)⟩ rfl hl.1 rfl (Nat.le_of_ble_eq_true rfl) dL_law_365 (fun H locs hR hS hE2 z2 => ?_)
  have hR : Rel G h2 H := hR
  have t3 : hpT h2 230 = (3, 1) := hE2.at t3 (by decide)
  have t2 : hpT h2 202 = (1, 10) := hE2.at t2 (by decide)
  refine lv_istore (x := v2) (rest := []) (lv' := [(6, .int v2), (5, .int kv), (4, .int (nI i)), (3, .ref (G.2.2 + 230)), (2, .ref (G.2.2 + 202)), (1, .ref (G.2.2 + 1)), (0, .ref b)]) C.x C.b dL_law_368 hl (by decide) rfl (fun ls hl => ?_)
  refine lv_aload_n C.x C.b dL_law_370 rfl (lv_at hl 4 rfl) ?_
  refine r_callV (As := []) (rest := []) C hR hS t2 rfl mk_X10_thrown cl_L_55 (k_X10_thrown t2 (show f_X10_thrown h2 202 = some (hpI h2 202 0) from rfl)) ⟨⟨Nat.le_of_ble_eq_true rfl, Nat.le_of_ble_eq_true rfl⟩, ⟨rfl, rfl⟩, (show Kc + n + 1 + 0 + 0 ≤ 601024 by omega), (show Ks + 6 * n + 6 + 0 + 0 ≤ 7293034 by omega)⟩ rfl hl.1 rfl (Nat.le_of_ble_eq_true rfl) dL_law_371 (fun H locs hR hS hE3 z3 => ?_)
  have hR : Rel G h2 H := hR
  have fin : W p l e room_1 s m args below meth c H locs (Kc + n + 1 + 0 + 0) (Ks + 6 * n + 6 + 0 + 0) Q (F0 m 398 ls []) := by
    refine lv_goto (tgt := 1656) C.x C.b dL_law_398 (by decide) ?_
    refine W.widen (k := Kc + (n + 1)) (n := Ks + 6 * (n + 1)) (by omega) (by omega) ?_
    exact kk _ _ _ _ _ ⟨B2, t3, hR, hS, lv_sub hl [2, 3, 4, 5, 6] rfl⟩
  refine lv_iload C.x C.b dL_law_374 (lv_at hl 1 rfl) ?_
  refine lv_icmp_eq (tgt := 381) C.x C.b dL_law_376 (by decide) (fun _ => ?_) (fun c => absurd hth c)
  refine lv_iload C.x C.b dL_law_381 (lv_at hl 1 rfl) ?_
  refine lv_if_ne (tgt := 398) C.x C.b dL_law_383 (by decide) (fun _ => fin) (fun c0 => ?_)
  refine lv_aload_n C.x C.b dL_law_386 rfl (lv_at hl 3 rfl) ?_
  refine lv_iconst (v := (0 : Int32)) C.x C.b dL_law_387 (by decide) ?_
  refine r_lald C hR (by rw [t3]) (by rw [t3]; decide) dL_law_388 ?_
  refine lv_iload C.x C.b dL_law_389 (lv_at hl 0 rfl) ?_
  refine lv_i2l C.x C.b dL_law_391 rfl ?_
  refine W.lcmp C.x C.b dL_law_392 ?_
  exact lv_if_eq (tgt := 398) C.x C.b dL_law_393 (by decide) (fun _ => fin) (fun c => absurd ((lg_cmp_eq _ _).mpr (hout c0)) c)
set_option maxRecDepth 100000 in
set_option maxHeartbeats 4000000 in
theorem lc_6 {G : Gt} {p : Program} {l : Launch} {e : Env} {s : State} {m : MethodId} {args : Array Value} {below : List Frame} {meth : Method} {c : Code} {H : Heap} {locs : List Loc} {Q : State → Prop} {ls : Array Slot} {b L : Nat} {xs : Nat → Int32} {i n : Nat} {h : Hp} {A : Ast} (xk : XK G) (hl0 : l.stackTraces = false) (X : LwC G p s m meth c args b L xs) (hi : i + 6 ≤ L) (hn : n < 1000) (I : LwI G s b i n h A H locs ls) (kk : ∀ (H : Heap) (locs : List Loc) (ls : Array Slot) (h : Hp) (A : Ast), LwI G s b i (n + 1) h A H locs ls → W p l e room_1 s m args below meth c H locs (Kc + (n + 1)) (Ks + 6 * (n + 1)) Q (F0 m 1656 ls [])) : W p l e room_1 s m args below meth c H locs (Kc + n) (Ks + 6 * n) Q (F0 m 401 ls []) := by
  obtain ⟨C, hr, hlk, hX, hbl, hbA, hL⟩ := X
  obtain ⟨B, t3, hR, hS, hl⟩ := I
  have hl : lv_has ls 8 [(4, .int (nI i)), (3, .ref (G.2.2 + 230)), (2, .ref (G.2.2 + 202)), (1, .ref (G.2.2 + 1)), (0, .ref b)] := hl
  have t1 := B.1.s.t1
  have t2 := B.2.1.s.1
  have hK := Kc_e
  have hK2 := Ks_e
  obtain ⟨out, e1, bk⟩ := bx_cell B hn (xs (nI i + (1 : Int32)).toNatClampNeg) (xs (nI i + (2 : Int32)).toNatClampNeg)
  refine lv_aload_n C.x C.b dL_law_401 rfl (lv_at hl 3 rfl) ?_
  refine lv_aload_n C.x C.b dL_law_402 rfl (lv_at hl 4 rfl) ?_
  refine lv_iload C.x C.b dL_law_403 (lv_at hl 0 rfl) ?_
  refine lv_iconst (v := (1 : Int32)) C.x C.b dL_law_405 (by decide) ?_
  refine lv_iadd C.x C.b dL_law_406 ?_
  refine va_sld C.x C.b hX hbl hbA hS (inL_1 hi hL) dL_law_407 ?_
  refine lv_aload_n C.x C.b dL_law_408 rfl (lv_at hl 4 rfl) ?_
  refine lv_iload C.x C.b dL_law_409 (lv_at hl 0 rfl) ?_
  refine lv_iconst (v := (2 : Int32)) C.x C.b dL_law_411 (by decide) ?_
  refine lv_iadd C.x C.b dL_law_412 ?_
  refine va_sld C.x C.b hX hbl hbA hS (inL_2 hi hL) dL_law_413 ?_
  refine lv_aload_n C.x C.b dL_law_414 rfl (lv_at hl 1 rfl) ?_
  refine r_callSW (As := [.ref (G.2.2 + 1), .int (xs (nI i + (1 : Int32)).toNatClampNeg), .int (xs (nI i + (2 : Int32)).toNatClampNeg), .ref (G.2.2 + 230)]) (rest := []) C hR hS mkL_cell csL_58 (k_L_cell xk hl0 t1 t3 e1) ⟨⟨Nat.le_of_ble_eq_true rfl, Nat.le_of_ble_eq_true rfl⟩, ⟨rfl, rfl⟩, (show Kc + n + 1 ≤ 601024 by omega), (show Ks + 6 * n + 6 ≤ 7293034 by omega)⟩ rfl hl.1 rfl (Nat.le_of_ble_eq_true rfl) dL_law_415 (fun v1 h1 H locs ph hR hS hE1 => ?_)
  obtain ⟨kv, v2, h2, rfl, e2, B2, hth, hout⟩ := bk v1 h1 ph
  have t2 : hpT h1 202 = (1, 10) := hE1.at t2 (by decide)
  have t3 : hpT h1 230 = (3, 1) := hE1.at t3 (by decide)
  refine lv_istore (x := kv) (rest := []) (lv' := [(5, .int kv), (4, .int (nI i)), (3, .ref (G.2.2 + 230)), (2, .ref (G.2.2 + 202)), (1, .ref (G.2.2 + 1)), (0, .ref b)]) C.x C.b dL_law_418 hl (by decide) rfl (fun ls hl => ?_)
  refine lv_aload_n C.x C.b dL_law_420 rfl (lv_at hl 3 rfl) ?_
  refine lv_aload_n C.x C.b dL_law_421 rfl (lv_at hl 5 rfl) ?_
  refine lv_iload C.x C.b dL_law_422 (lv_at hl 1 rfl) ?_
  refine lv_iconst (v := (1 : Int32)) C.x C.b dL_law_424 (by decide) ?_
  refine lv_iadd C.x C.b dL_law_425 ?_
  refine va_sld C.x C.b hX hbl hbA hS (inL_1 hi hL) dL_law_426 ?_
  refine lv_aload_n C.x C.b dL_law_427 rfl (lv_at hl 5 rfl) ?_
  refine lv_iload C.x C.b dL_law_428 (lv_at hl 1 rfl) ?_
  refine lv_iconst (v := (2 : Int32)) C.x C.b dL_law_430 (by decide) ?_
  refine lv_iadd C.x C.b dL_law_431 ?_
  refine va_sld C.x C.b hX hbl hbA hS (inL_2 hi hL) dL_law_432 ?_
  refine r_callV (As := [.int (xs (nI i + (1 : Int32)).toNatClampNeg), .int (xs (nI i + (2 : Int32)).toNatClampNeg)]) (rest := []) C hR hS t2 rfl mk_X10_cell cl_L_60 (k_X10_cell t2 e2) ⟨⟨Nat.le_of_ble_eq_true rfl, Nat.le_of_ble_eq_true rfl⟩, ⟨rfl, rfl⟩, (show Kc + n + 1 + 0 ≤ 601024 by omega), (show Ks + 6 * n + 6 + 0 ≤ 7293034 by omega)⟩ rfl hl.1 rfl (Nat.le_of_ble_eq_true rfl) dL_law_433 (fun H locs hR hS hE2 z2 => ?_)
  have hR : Rel G h2 H := hR
  have t3 : hpT h2 230 = (3, 1) := hE2.at t3 (by decide)
  have t2 : hpT h2 202 = (1, 10) := hE2.at t2 (by decide)
  refine lv_istore (x := v2) (rest := []) (lv' := [(6, .int v2), (5, .int kv), (4, .int (nI i)), (3, .ref (G.2.2 + 230)), (2, .ref (G.2.2 + 202)), (1, .ref (G.2.2 + 1)), (0, .ref b)]) C.x C.b dL_law_436 hl (by decide) rfl (fun ls hl => ?_)
  refine lv_aload_n C.x C.b dL_law_438 rfl (lv_at hl 4 rfl) ?_
  refine r_callV (As := []) (rest := []) C hR hS t2 rfl mk_X10_thrown cl_L_55 (k_X10_thrown t2 (show f_X10_thrown h2 202 = some (hpI h2 202 0) from rfl)) ⟨⟨Nat.le_of_ble_eq_true rfl, Nat.le_of_ble_eq_true rfl⟩, ⟨rfl, rfl⟩, (show Kc + n + 1 + 0 + 0 ≤ 601024 by omega), (show Ks + 6 * n + 6 + 0 + 0 ≤ 7293034 by omega)⟩ rfl hl.1 rfl (Nat.le_of_ble_eq_true rfl) dL_law_439 (fun H locs hR hS hE3 z3 => ?_)
  have hR : Rel G h2 H := hR
  have fin : W p l e room_1 s m args below meth c H locs (Kc + n + 1 + 0 + 0) (Ks + 6 * n + 6 + 0 + 0) Q (F0 m 466 ls []) := by
    refine lv_goto (tgt := 1656) C.x C.b dL_law_466 (by decide) ?_
    refine W.widen (k := Kc + (n + 1)) (n := Ks + 6 * (n + 1)) (by omega) (by omega) ?_
    exact kk _ _ _ _ _ ⟨B2, t3, hR, hS, lv_sub hl [2, 3, 4, 5, 6] rfl⟩
  refine lv_iload C.x C.b dL_law_442 (lv_at hl 1 rfl) ?_
  refine lv_icmp_eq (tgt := 449) C.x C.b dL_law_444 (by decide) (fun _ => ?_) (fun c => absurd hth c)
  refine lv_iload C.x C.b dL_law_449 (lv_at hl 1 rfl) ?_
  refine lv_if_ne (tgt := 466) C.x C.b dL_law_451 (by decide) (fun _ => fin) (fun c0 => ?_)
  refine lv_aload_n C.x C.b dL_law_454 rfl (lv_at hl 3 rfl) ?_
  refine lv_iconst (v := (0 : Int32)) C.x C.b dL_law_455 (by decide) ?_
  refine r_lald C hR (by rw [t3]) (by rw [t3]; decide) dL_law_456 ?_
  refine lv_iload C.x C.b dL_law_457 (lv_at hl 0 rfl) ?_
  refine lv_i2l C.x C.b dL_law_459 rfl ?_
  refine W.lcmp C.x C.b dL_law_460 ?_
  exact lv_if_eq (tgt := 466) C.x C.b dL_law_461 (by decide) (fun _ => fin) (fun c => absurd ((lg_cmp_eq _ _).mpr (hout c0)) c)
set_option maxRecDepth 100000 in
set_option maxHeartbeats 4000000 in
theorem lc_46 {G : Gt} {p : Program} {l : Launch} {e : Env} {s : State} {m : MethodId} {args : Array Value} {below : List Frame} {meth : Method} {c : Code} {H : Heap} {locs : List Loc} {Q : State → Prop} {ls : Array Slot} {b L : Nat} {xs : Nat → Int32} {i n : Nat} {h : Hp} {A : Ast} (xk : XK G) (hl0 : l.stackTraces = false) (X : LwC G p s m meth c args b L xs) (hi : i + 6 ≤ L) (hn : n < 1000) (I : LwI G s b i n h A H locs ls) (kk : ∀ (H : Heap) (locs : List Loc) (ls : Array Slot) (h : Hp) (A : Ast), LwI G s b i (n + 1) h A H locs ls → W p l e room_1 s m args below meth c H locs (Kc + (n + 1)) (Ks + 6 * (n + 1)) Q (F0 m 1656 ls [])) : W p l e room_1 s m args below meth c H locs (Kc + n) (Ks + 6 * n) Q (F0 m 1601 ls []) := by
  obtain ⟨C, hr, hlk, hX, hbl, hbA, hL⟩ := X
  obtain ⟨B, t3, hR, hS, hl⟩ := I
  have hl : lv_has ls 8 [(4, .int (nI i)), (3, .ref (G.2.2 + 230)), (2, .ref (G.2.2 + 202)), (1, .ref (G.2.2 + 1)), (0, .ref b)] := hl
  have t1 := B.1.s.t1
  have t2 := B.2.1.s.1
  have hK := Kc_e
  have hK2 := Ks_e
  obtain ⟨out, e1, bk⟩ := bx_row B hn (xs (nI i + (1 : Int32)).toNatClampNeg)
  refine lv_aload_n C.x C.b dL_law_1601 rfl (lv_at hl 3 rfl) ?_
  refine lv_aload_n C.x C.b dL_law_1602 rfl (lv_at hl 4 rfl) ?_
  refine lv_iload C.x C.b dL_law_1603 (lv_at hl 0 rfl) ?_
  refine lv_iconst (v := (1 : Int32)) C.x C.b dL_law_1605 (by decide) ?_
  refine lv_iadd C.x C.b dL_law_1606 ?_
  refine va_sld C.x C.b hX hbl hbA hS (inL_1 hi hL) dL_law_1607 ?_
  refine lv_aload_n C.x C.b dL_law_1608 rfl (lv_at hl 1 rfl) ?_
  refine r_callSW (As := [.ref (G.2.2 + 1), .int (xs (nI i + (1 : Int32)).toNatClampNeg), .ref (G.2.2 + 230)]) (rest := []) C hR hS mkL_row csL_221 (k_L_row xk hl0 t1 t3 e1) ⟨⟨Nat.le_of_ble_eq_true rfl, Nat.le_of_ble_eq_true rfl⟩, ⟨rfl, rfl⟩, (show Kc + n + 1 ≤ 601024 by omega), (show Ks + 6 * n + 6 ≤ 7293034 by omega)⟩ rfl hl.1 rfl (Nat.le_of_ble_eq_true rfl) dL_law_1609 (fun v1 h1 H locs ph hR hS hE1 => ?_)
  obtain ⟨kv, v2, h2, rfl, e2, B2, hth, hout⟩ := bk v1 h1 ph
  have t2 : hpT h1 202 = (1, 10) := hE1.at t2 (by decide)
  have t3 : hpT h1 230 = (3, 1) := hE1.at t3 (by decide)
  refine lv_istore (x := kv) (rest := []) (lv' := [(5, .int kv), (4, .int (nI i)), (3, .ref (G.2.2 + 230)), (2, .ref (G.2.2 + 202)), (1, .ref (G.2.2 + 1)), (0, .ref b)]) C.x C.b dL_law_1612 hl (by decide) rfl (fun ls hl => ?_)
  refine lv_aload_n C.x C.b dL_law_1614 rfl (lv_at hl 3 rfl) ?_
  refine lv_aload_n C.x C.b dL_law_1615 rfl (lv_at hl 5 rfl) ?_
  refine lv_iload C.x C.b dL_law_1616 (lv_at hl 1 rfl) ?_
  refine lv_iconst (v := (1 : Int32)) C.x C.b dL_law_1618 (by decide) ?_
  refine lv_iadd C.x C.b dL_law_1619 ?_
  refine va_sld C.x C.b hX hbl hbA hS (inL_1 hi hL) dL_law_1620 ?_
  refine r_callV (As := [.int (xs (nI i + (1 : Int32)).toNatClampNeg)]) (rest := []) C hR hS t2 rfl mk_X10_row cl_L_224 (k_X10_row t2 e2) ⟨⟨Nat.le_of_ble_eq_true rfl, Nat.le_of_ble_eq_true rfl⟩, ⟨rfl, rfl⟩, (show Kc + n + 1 + 0 ≤ 601024 by omega), (show Ks + 6 * n + 6 + 0 ≤ 7293034 by omega)⟩ rfl hl.1 rfl (Nat.le_of_ble_eq_true rfl) dL_law_1621 (fun H locs hR hS hE2 z2 => ?_)
  have hR : Rel G h2 H := hR
  have t3 : hpT h2 230 = (3, 1) := hE2.at t3 (by decide)
  have t2 : hpT h2 202 = (1, 10) := hE2.at t2 (by decide)
  refine lv_lstore (x := v2) (rest := []) (lv' := [(6, .long v2), (5, .int kv), (4, .int (nI i)), (3, .ref (G.2.2 + 230)), (2, .ref (G.2.2 + 202)), (1, .ref (G.2.2 + 1)), (0, .ref b)]) C.x C.b dL_law_1624 hl (by decide) rfl (fun ls hl => ?_)
  refine lv_aload_n C.x C.b dL_law_1626 rfl (lv_at hl 4 rfl) ?_
  refine r_callV (As := []) (rest := []) C hR hS t2 rfl mk_X10_thrown cl_L_55 (k_X10_thrown t2 (show f_X10_thrown h2 202 = some (hpI h2 202 0) from rfl)) ⟨⟨Nat.le_of_ble_eq_true rfl, Nat.le_of_ble_eq_true rfl⟩, ⟨rfl, rfl⟩, (show Kc + n + 1 + 0 + 0 ≤ 601024 by omega), (show Ks + 6 * n + 6 + 0 + 0 ≤ 7293034 by omega)⟩ rfl hl.1 rfl (Nat.le_of_ble_eq_true rfl) dL_law_1627 (fun H locs hR hS hE3 z3 => ?_)
  have hR : Rel G h2 H := hR
  have fin : W p l e room_1 s m args below meth c H locs (Kc + n + 1 + 0 + 0) (Ks + 6 * n + 6 + 0 + 0) Q (F0 m 1653 ls []) := by
    refine lv_goto (tgt := 1656) C.x C.b dL_law_1653 (by decide) ?_
    refine W.widen (k := Kc + (n + 1)) (n := Ks + 6 * (n + 1)) (by omega) (by omega) ?_
    exact kk _ _ _ _ _ ⟨B2, t3, hR, hS, lv_sub hl [2, 3, 4, 5, 6] rfl⟩
  refine lv_iload C.x C.b dL_law_1630 (lv_at hl 1 rfl) ?_
  refine lv_icmp_eq (tgt := 1637) C.x C.b dL_law_1632 (by decide) (fun _ => ?_) (fun c => absurd hth c)
  refine lv_iload C.x C.b dL_law_1637 (lv_at hl 1 rfl) ?_
  refine lv_if_ne (tgt := 1653) C.x C.b dL_law_1639 (by decide) (fun _ => fin) (fun c0 => ?_)
  refine lv_aload_n C.x C.b dL_law_1642 rfl (lv_at hl 3 rfl) ?_
  refine lv_iconst (v := (0 : Int32)) C.x C.b dL_law_1643 (by decide) ?_
  refine r_lald C hR (by rw [t3]) (by rw [t3]; decide) dL_law_1644 ?_
  refine lv_lload C.x C.b dL_law_1645 (lv_at hl 0 rfl) ?_
  refine W.lcmp C.x C.b dL_law_1647 ?_
  exact lv_if_eq (tgt := 1653) C.x C.b dL_law_1648 (by decide) (fun _ => fin) (fun c => absurd ((lg_cmp_eq _ _).mpr (hout c0)) c)
