set_option maxRecDepth 100000 in
set_option maxHeartbeats 4000000 in
theorem lc_0 {G : Gt} {p : Program} {l : Launch} {e : Env} {s : State} {m : MethodId} {args : Array Value} {below : List Frame} {meth : Method} {c : Code} {H : Heap} {locs : List Loc} {Q : State → Prop} {ls : Array Slot} {b L : Nat} {xs : Nat → Int32} {i n : Nat} {h : Hp} {A : Ast} (X : LwC G p s m meth c args b L xs) (hi : i + 6 ≤ L) (hn : n < 1000) (I : LwI G s b i n h A H locs ls) (kk : ∀ (H : Heap) (locs : List Loc) (ls : Array Slot) (h : Hp) (A : Ast), LwI G s b i (n + 1) h A H locs ls → W p l e room_1 s m args below meth c H locs (Kc + (n + 1)) (Ks + 6 * (n + 1)) Q (F0 m 1656 ls [])) : W p l e room_1 s m args below meth c H locs (Kc + n) (Ks + 6 * n) Q (F0 m 244 ls []) := by
  obtain ⟨C, hr, hlk, hX, hbl, hbA, hL⟩ := X
  obtain ⟨B, t3, hR, hS, hl⟩ := I
  have hl : lv_has ls 8 [(4, .int (nI i)), (3, .ref (G.2.2 + 230)), (2, .ref (G.2.2 + 202)), (1, .ref (G.2.2 + 1)), (0, .ref b)] := hl
  have t1 := B.1.s.t1
  have t2 := B.2.1.s.1
  have hK := Kc_e
  have hK2 := Ks_e
  obtain ⟨h1, h2, e1, e2, B2⟩ := bo_sign B hn (xs (nI i + (1 : Int32)).toNatClampNeg)
  obtain ⟨v1, ev⟩ : ∃ v, v = (sp_sign A (xs (nI i + (1 : Int32)).toNatClampNeg)).1 := ⟨_, rfl⟩
  rw [← ev] at e1 e2
  clear ev
  refine lv_aload_n C.x C.b dL_law_244 rfl (lv_at hl 3 rfl) ?_
  refine lv_aload_n C.x C.b dL_law_245 rfl (lv_at hl 4 rfl) ?_
  refine lv_iload C.x C.b dL_law_246 (lv_at hl 0 rfl) ?_
  refine lv_iconst (v := (1 : Int32)) C.x C.b dL_law_248 (by decide) ?_
  refine lv_iadd C.x C.b dL_law_249 ?_
  refine va_sld C.x C.b hX hbl hbA hS (inL_1 hi hL) dL_law_250 ?_
  refine r_callV (As := [.int (xs (nI i + (1 : Int32)).toNatClampNeg)]) (rest := []) C hR hS t1 rfl mk_X9_sign cl_L_26 (k_X9_sign t1 e1) ⟨⟨Nat.le_of_ble_eq_true rfl, Nat.le_of_ble_eq_true rfl⟩, ⟨rfl, rfl⟩, (show Kc + n + 0 ≤ 601024 by omega), (show Ks + 6 * n + 0 ≤ 7293034 by omega)⟩ rfl hl.1 rfl (Nat.le_of_ble_eq_true rfl) dL_law_251 (fun H locs hR hS hE1 z1 => ?_)
  have hR : Rel G h1 H := hR
  have t2 : hpT h1 202 = (1, 10) := hE1.at t2 (by decide)
  have t3 : hpT h1 230 = (3, 1) := hE1.at t3 (by decide)
  refine lv_aload_n C.x C.b dL_law_254 rfl (lv_at hl 2 rfl) ?_
  refine lv_aload_n C.x C.b dL_law_255 rfl (lv_at hl 4 rfl) ?_
  refine lv_iload C.x C.b dL_law_256 (lv_at hl 0 rfl) ?_
  refine lv_iconst (v := (1 : Int32)) C.x C.b dL_law_258 (by decide) ?_
  refine lv_iadd C.x C.b dL_law_259 ?_
  refine va_sld C.x C.b hX hbl hbA hS (inL_1 hi hL) dL_law_260 ?_
  refine r_callV (As := [.int (xs (nI i + (1 : Int32)).toNatClampNeg)]) (rest := [.int v1]) C hR hS t2 rfl mk_X10_sign cl_L_30 (k_X10_sign t2 e2) ⟨⟨Nat.le_of_ble_eq_true rfl, Nat.le_of_ble_eq_true rfl⟩, ⟨rfl, rfl⟩, (show Kc + n + 0 + 0 ≤ 601024 by omega), (show Ks + 6 * n + 0 + 0 ≤ 7293034 by omega)⟩ rfl hl.1 rfl (Nat.le_of_ble_eq_true rfl) dL_law_261 (fun H locs hR hS hE2 z2 => ?_)
  have hR : Rel G h2 H := hR
  have t3 : hpT h2 230 = (3, 1) := hE2.at t3 (by decide)
  refine lv_icmp_eq (tgt := 1656) C.x C.b dL_law_264 (by decide) (fun _ => ?_) (fun c => absurd rfl c)
  refine W.widen (k := Kc + (n + 1)) (n := Ks + 6 * (n + 1)) (by omega) (by omega) ?_
  exact kk _ _ _ _ _ ⟨B2, t3, hR, hS, hl⟩
set_option maxRecDepth 100000 in
set_option maxHeartbeats 4000000 in
theorem lc_1 {G : Gt} {p : Program} {l : Launch} {e : Env} {s : State} {m : MethodId} {args : Array Value} {below : List Frame} {meth : Method} {c : Code} {H : Heap} {locs : List Loc} {Q : State → Prop} {ls : Array Slot} {b L : Nat} {xs : Nat → Int32} {i n : Nat} {h : Hp} {A : Ast} (X : LwC G p s m meth c args b L xs) (hi : i + 6 ≤ L) (hn : n < 1000) (I : LwI G s b i n h A H locs ls) (kk : ∀ (H : Heap) (locs : List Loc) (ls : Array Slot) (h : Hp) (A : Ast), LwI G s b i (n + 1) h A H locs ls → W p l e room_1 s m args below meth c H locs (Kc + (n + 1)) (Ks + 6 * (n + 1)) Q (F0 m 1656 ls [])) : W p l e room_1 s m args below meth c H locs (Kc + n) (Ks + 6 * n) Q (F0 m 269 ls []) := by
  obtain ⟨C, hr, hlk, hX, hbl, hbA, hL⟩ := X
  obtain ⟨B, t3, hR, hS, hl⟩ := I
  have hl : lv_has ls 8 [(4, .int (nI i)), (3, .ref (G.2.2 + 230)), (2, .ref (G.2.2 + 202)), (1, .ref (G.2.2 + 1)), (0, .ref b)] := hl
  have t1 := B.1.s.t1
  have t2 := B.2.1.s.1
  have hK := Kc_e
  have hK2 := Ks_e
  obtain ⟨h1, h2, e1, e2, B2⟩ := bo_end B hn (xs (nI i + (1 : Int32)).toNatClampNeg)
  obtain ⟨v1, ev⟩ : ∃ v, v = (sp_end A (xs (nI i + (1 : Int32)).toNatClampNeg)).1 := ⟨_, rfl⟩
  rw [← ev] at e1 e2
  clear ev
  refine lv_aload_n C.x C.b dL_law_269 rfl (lv_at hl 3 rfl) ?_
  refine lv_aload_n C.x C.b dL_law_270 rfl (lv_at hl 4 rfl) ?_
  refine lv_iload C.x C.b dL_law_271 (lv_at hl 0 rfl) ?_
  refine lv_iconst (v := (1 : Int32)) C.x C.b dL_law_273 (by decide) ?_
  refine lv_iadd C.x C.b dL_law_274 ?_
  refine va_sld C.x C.b hX hbl hbA hS (inL_1 hi hL) dL_law_275 ?_
  refine r_callV (As := [.int (xs (nI i + (1 : Int32)).toNatClampNeg)]) (rest := []) C hR hS t1 rfl mk_X9_end cl_L_31 (k_X9_end t1 e1) ⟨⟨Nat.le_of_ble_eq_true rfl, Nat.le_of_ble_eq_true rfl⟩, ⟨rfl, rfl⟩, (show Kc + n + 0 ≤ 601024 by omega), (show Ks + 6 * n + 0 ≤ 7293034 by omega)⟩ rfl hl.1 rfl (Nat.le_of_ble_eq_true rfl) dL_law_276 (fun H locs hR hS hE1 z1 => ?_)
  have hR : Rel G h1 H := hR
  have t2 : hpT h1 202 = (1, 10) := hE1.at t2 (by decide)
  have t3 : hpT h1 230 = (3, 1) := hE1.at t3 (by decide)
  refine lv_aload_n C.x C.b dL_law_279 rfl (lv_at hl 2 rfl) ?_
  refine lv_aload_n C.x C.b dL_law_280 rfl (lv_at hl 4 rfl) ?_
  refine lv_iload C.x C.b dL_law_281 (lv_at hl 0 rfl) ?_
  refine lv_iconst (v := (1 : Int32)) C.x C.b dL_law_283 (by decide) ?_
  refine lv_iadd C.x C.b dL_law_284 ?_
  refine va_sld C.x C.b hX hbl hbA hS (inL_1 hi hL) dL_law_285 ?_
  refine r_callV (As := [.int (xs (nI i + (1 : Int32)).toNatClampNeg)]) (rest := [.int v1]) C hR hS t2 rfl mk_X10_end cl_L_35 (k_X10_end t2 e2) ⟨⟨Nat.le_of_ble_eq_true rfl, Nat.le_of_ble_eq_true rfl⟩, ⟨rfl, rfl⟩, (show Kc + n + 0 + 0 ≤ 601024 by omega), (show Ks + 6 * n + 0 + 0 ≤ 7293034 by omega)⟩ rfl hl.1 rfl (Nat.le_of_ble_eq_true rfl) dL_law_286 (fun H locs hR hS hE2 z2 => ?_)
  have hR : Rel G h2 H := hR
  have t3 : hpT h2 230 = (3, 1) := hE2.at t3 (by decide)
  refine lv_icmp_eq (tgt := 1656) C.x C.b dL_law_289 (by decide) (fun _ => ?_) (fun c => absurd rfl c)
  refine W.widen (k := Kc + (n + 1)) (n := Ks + 6 * (n + 1)) (by omega) (by omega) ?_
  exact kk _ _ _ _ _ ⟨B2, t3, hR, hS, hl⟩
set_option maxRecDepth 100000 in
set_option maxHeartbeats 4000000 in
theorem lc_2 {G : Gt} {p : Program} {l : Launch} {e : Env} {s : State} {m : MethodId} {args : Array Value} {below : List Frame} {meth : Method} {c : Code} {H : Heap} {locs : List Loc} {Q : State → Prop} {ls : Array Slot} {b L : Nat} {xs : Nat → Int32} {i n : Nat} {h : Hp} {A : Ast} (X : LwC G p s m meth c args b L xs) (hi : i + 6 ≤ L) (hn : n < 1000) (I : LwI G s b i n h A H locs ls) (kk : ∀ (H : Heap) (locs : List Loc) (ls : Array Slot) (h : Hp) (A : Ast), LwI G s b i (n + 1) h A H locs ls → W p l e room_1 s m args below meth c H locs (Kc + (n + 1)) (Ks + 6 * (n + 1)) Q (F0 m 1656 ls [])) : W p l e room_1 s m args below meth c H locs (Kc + n) (Ks + 6 * n) Q (F0 m 294 ls []) := by
  obtain ⟨C, hr, hlk, hX, hbl, hbA, hL⟩ := X
  obtain ⟨B, t3, hR, hS, hl⟩ := I
  have hl : lv_has ls 8 [(4, .int (nI i)), (3, .ref (G.2.2 + 230)), (2, .ref (G.2.2 + 202)), (1, .ref (G.2.2 + 1)), (0, .ref b)] := hl
  have t1 := B.1.s.t1
  have t2 := B.2.1.s.1
  have hK := Kc_e
  have hK2 := Ks_e
  obtain ⟨h1, h2, e1, e2, B2⟩ := bo_field B hn
  obtain ⟨v1, ev⟩ : ∃ v, v = (sp_field A).1 := ⟨_, rfl⟩
  rw [← ev] at e1 e2
  clear ev
  refine lv_aload_n C.x C.b dL_law_294 rfl (lv_at hl 3 rfl) ?_
  refine r_callV (As := []) (rest := []) C hR hS t1 rfl mk_X9_field cl_L_36 (k_X9_field t1 e1) ⟨⟨Nat.le_of_ble_eq_true rfl, Nat.le_of_ble_eq_true rfl⟩, ⟨rfl, rfl⟩, (show Kc + n + 0 ≤ 601024 by omega), (show Ks + 6 * n + 0 ≤ 7293034 by omega)⟩ rfl hl.1 rfl (Nat.le_of_ble_eq_true rfl) dL_law_295 (fun H locs hR hS hE1 z1 => ?_)
  have hR : Rel G h1 H := hR
  have t2 : hpT h1 202 = (1, 10) := hE1.at t2 (by decide)
  have t3 : hpT h1 230 = (3, 1) := hE1.at t3 (by decide)
  refine lv_aload_n C.x C.b dL_law_298 rfl (lv_at hl 2 rfl) ?_
  refine r_callV (As := []) (rest := [.int v1]) C hR hS t2 rfl mk_X10_field cl_L_40 (k_X10_field t2 e2) ⟨⟨Nat.le_of_ble_eq_true rfl, Nat.le_of_ble_eq_true rfl⟩, ⟨rfl, rfl⟩, (show Kc + n + 0 + 0 ≤ 601024 by omega), (show Ks + 6 * n + 0 + 0 ≤ 7293034 by omega)⟩ rfl hl.1 rfl (Nat.le_of_ble_eq_true rfl) dL_law_299 (fun H locs hR hS hE2 z2 => ?_)
  have hR : Rel G h2 H := hR
  have t3 : hpT h2 230 = (3, 1) := hE2.at t3 (by decide)
  refine lv_icmp_eq (tgt := 1656) C.x C.b dL_law_302 (by decide) (fun _ => ?_) (fun c => absurd rfl c)
  refine W.widen (k := Kc + (n + 1)) (n := Ks + 6 * (n + 1)) (by omega) (by omega) ?_
  exact kk _ _ _ _ _ ⟨B2, t3, hR, hS, hl⟩
set_option maxRecDepth 100000 in
set_option maxHeartbeats 4000000 in
theorem lc_3 {G : Gt} {p : Program} {l : Launch} {e : Env} {s : State} {m : MethodId} {args : Array Value} {below : List Frame} {meth : Method} {c : Code} {H : Heap} {locs : List Loc} {Q : State → Prop} {ls : Array Slot} {b L : Nat} {xs : Nat → Int32} {i n : Nat} {h : Hp} {A : Ast} (X : LwC G p s m meth c args b L xs) (hi : i + 6 ≤ L) (hn : n < 1000) (I : LwI G s b i n h A H locs ls) (kk : ∀ (H : Heap) (locs : List Loc) (ls : Array Slot) (h : Hp) (A : Ast), LwI G s b i (n + 1) h A H locs ls → W p l e room_1 s m args below meth c H locs (Kc + (n + 1)) (Ks + 6 * (n + 1)) Q (F0 m 1656 ls [])) : W p l e room_1 s m args below meth c H locs (Kc + n) (Ks + 6 * n) Q (F0 m 307 ls []) := by
  obtain ⟨C, hr, hlk, hX, hbl, hbA, hL⟩ := X
  obtain ⟨B, t3, hR, hS, hl⟩ := I
  have hl : lv_has ls 8 [(4, .int (nI i)), (3, .ref (G.2.2 + 230)), (2, .ref (G.2.2 + 202)), (1, .ref (G.2.2 + 1)), (0, .ref b)] := hl
  have t1 := B.1.s.t1
  have t2 := B.2.1.s.1
  have hK := Kc_e
  have hK2 := Ks_e
  obtain ⟨h1, h2, e1, e2, B2⟩ := bo_camps B hn
  obtain ⟨v1, ev⟩ : ∃ v, v = (sp_camps A).1 := ⟨_, rfl⟩
  rw [← ev] at e1 e2
  clear ev
  refine lv_aload_n C.x C.b dL_law_307 rfl (lv_at hl 3 rfl) ?_
  refine r_callV (As := []) (rest := []) C hR hS t1 rfl mk_X9_camps cl_L_41 (k_X9_camps t1 e1) ⟨⟨Nat.le_of_ble_eq_true rfl, Nat.le_of_ble_eq_true rfl⟩, ⟨rfl, rfl⟩, (show Kc + n + 0 ≤ 601024 by omega), (show Ks + 6 * n + 0 ≤ 7293034 by omega)⟩ rfl hl.1 rfl (Nat.le_of_ble_eq_true rfl) dL_law_308 (fun H locs hR hS hE1 z1 => ?_)
  have hR : Rel G h1 H := hR
  have t2 : hpT h1 202 = (1, 10) := hE1.at t2 (by decide)
  have t3 : hpT h1 230 = (3, 1) := hE1.at t3 (by decide)
  refine lv_aload_n C.x C.b dL_law_311 rfl (lv_at hl 2 rfl) ?_
  refine r_callV (As := []) (rest := [.int v1]) C hR hS t2 rfl mk_X10_camps cl_L_44 (k_X10_camps t2 e2) ⟨⟨Nat.le_of_ble_eq_true rfl, Nat.le_of_ble_eq_true rfl⟩, ⟨rfl, rfl⟩, (show Kc + n + 0 + 0 ≤ 601024 by omega), (show Ks + 6 * n + 0 + 0 ≤ 7293034 by omega)⟩ rfl hl.1 rfl (Nat.le_of_ble_eq_true rfl) dL_law_312 (fun H locs hR hS hE2 z2 => ?_)
  have hR : Rel G h2 H := hR
  have t3 : hpT h2 230 = (3, 1) := hE2.at t3 (by decide)
  refine lv_icmp_eq (tgt := 1656) C.x C.b dL_law_315 (by decide) (fun _ => ?_) (fun c => absurd rfl c)
  refine W.widen (k := Kc + (n + 1)) (n := Ks + 6 * (n + 1)) (by omega) (by omega) ?_
  exact kk _ _ _ _ _ ⟨B2, t3, hR, hS, hl⟩
set_option maxRecDepth 100000 in
set_option maxHeartbeats 4000000 in
theorem lc_4 {G : Gt} {p : Program} {l : Launch} {e : Env} {s : State} {m : MethodId} {args : Array Value} {below : List Frame} {meth : Method} {c : Code} {H : Heap} {locs : List Loc} {Q : State → Prop} {ls : Array Slot} {b L : Nat} {xs : Nat → Int32} {i n : Nat} {h : Hp} {A : Ast} (X : LwC G p s m meth c args b L xs) (hi : i + 6 ≤ L) (hn : n < 1000) (I : LwI G s b i n h A H locs ls) (kk : ∀ (H : Heap) (locs : List Loc) (ls : Array Slot) (h : Hp) (A : Ast), LwI G s b i (n + 1) h A H locs ls → W p l e room_1 s m args below meth c H locs (Kc + (n + 1)) (Ks + 6 * (n + 1)) Q (F0 m 1656 ls [])) : W p l e room_1 s m args below meth c H locs (Kc + n) (Ks + 6 * n) Q (F0 m 320 ls []) := by
  obtain ⟨C, hr, hlk, hX, hbl, hbA, hL⟩ := X
  obtain ⟨B, t3, hR, hS, hl⟩ := I
  have hl : lv_has ls 8 [(4, .int (nI i)), (3, .ref (G.2.2 + 230)), (2, .ref (G.2.2 + 202)), (1, .ref (G.2.2 + 1)), (0, .ref b)] := hl
  have t1 := B.1.s.t1
  have t2 := B.2.1.s.1
  have hK := Kc_e
  have hK2 := Ks_e
  obtain ⟨h1, h2, e1, e2, B2⟩ := bo_rule B hn
  obtain ⟨v1, ev⟩ : ∃ v, v = (sp_rule A).1 := ⟨_, rfl⟩
  rw [← ev] at e1 e2
  clear ev
  refine lv_aload_n C.x C.b dL_law_320 rfl (lv_at hl 3 rfl) ?_
  refine r_callV (As := []) (rest := []) C hR hS t1 rfl mk_X9_rule cl_L_45 (k_X9_rule t1 e1) ⟨⟨Nat.le_of_ble_eq_true rfl, Nat.le_of_ble_eq_true rfl⟩, ⟨rfl, rfl⟩, (show Kc + n + 0 ≤ 601024 by omega), (show Ks + 6 * n + 0 ≤ 7293034 by omega)⟩ rfl hl.1 rfl (Nat.le_of_ble_eq_true rfl) dL_law_321 (fun H locs hR hS hE1 z1 => ?_)
  have hR : Rel G h1 H := hR
  have t2 : hpT h1 202 = (1, 10) := hE1.at t2 (by decide)
  have t3 : hpT h1 230 = (3, 1) := hE1.at t3 (by decide)
  refine lv_aload_n C.x C.b dL_law_324 rfl (lv_at hl 2 rfl) ?_
  refine r_callV (As := []) (rest := [.int v1]) C hR hS t2 rfl mk_X10_rule cl_L_48 (k_X10_rule t2 e2) ⟨⟨Nat.le_of_ble_eq_true rfl, Nat.le_of_ble_eq_true rfl⟩, ⟨rfl, rfl⟩, (show Kc + n + 0 + 0 ≤ 601024 by omega), (show Ks + 6 * n + 0 + 0 ≤ 7293034 by omega)⟩ rfl hl.1 rfl (Nat.le_of_ble_eq_true rfl) dL_law_325 (fun H locs hR hS hE2 z2 => ?_)
  have hR : Rel G h2 H := hR
  have t3 : hpT h2 230 = (3, 1) := hE2.at t3 (by decide)
  refine lv_icmp_eq (tgt := 1656) C.x C.b dL_law_328 (by decide) (fun _ => ?_) (fun c => absurd rfl c)
  refine W.widen (k := Kc + (n + 1)) (n := Ks + 6 * (n + 1)) (by omega) (by omega) ?_
  exact kk _ _ _ _ _ ⟨B2, t3, hR, hS, hl⟩
set_option maxRecDepth 100000 in
set_option maxHeartbeats 4000000 in
theorem lc_7 {G : Gt} {p : Program} {l : Launch} {e : Env} {s : State} {m : MethodId} {args : Array Value} {below : List Frame} {meth : Method} {c : Code} {H : Heap} {locs : List Loc} {Q : State → Prop} {ls : Array Slot} {b L : Nat} {xs : Nat → Int32} {i n : Nat} {h : Hp} {A : Ast} (X : LwC G p s m meth c args b L xs) (hi : i + 6 ≤ L) (hn : n < 1000) (I : LwI G s b i n h A H locs ls) (kk : ∀ (H : Heap) (locs : List Loc) (ls : Array Slot) (h : Hp) (A : Ast), LwI G s b i (n + 1) h A H locs ls → W p l e room_1 s m args below meth c H locs (Kc + (n + 1)) (Ks + 6 * (n + 1)) Q (F0 m 1656 ls [])) : W p l e room_1 s m args below meth c H locs (Kc + n) (Ks + 6 * n) Q (F0 m 469 ls []) := by
  obtain ⟨C, hr, hlk, hX, hbl, hbA, hL⟩ := X
  obtain ⟨B, t3, hR, hS, hl⟩ := I
  have hl : lv_has ls 8 [(4, .int (nI i)), (3, .ref (G.2.2 + 230)), (2, .ref (G.2.2 + 202)), (1, .ref (G.2.2 + 1)), (0, .ref b)] := hl
  have t1 := B.1.s.t1
  have t2 := B.2.1.s.1
  have hK := Kc_e
  have hK2 := Ks_e
  obtain ⟨h1, h2, e1, e2, B2⟩ := bo_sheet B hn (xs (nI i + (1 : Int32)).toNatClampNeg) (xs (nI i + (2 : Int32)).toNatClampNeg) (xs (nI i + (3 : Int32)).toNatClampNeg) (xs (nI i + (4 : Int32)).toNatClampNeg)
  obtain ⟨v1, ev⟩ : ∃ v, v = (sp_sheet A (xs (nI i + (1 : Int32)).toNatClampNeg) (xs (nI i + (2 : Int32)).toNatClampNeg) (xs (nI i + (3 : Int32)).toNatClampNeg) (xs (nI i + (4 : Int32)).toNatClampNeg)).1 := ⟨_, rfl⟩
  rw [← ev] at e1 e2
  clear ev
  refine lv_aload_n C.x C.b dL_law_469 rfl (lv_at hl 3 rfl) ?_
  refine lv_aload_n C.x C.b dL_law_470 rfl (lv_at hl 4 rfl) ?_
  refine lv_iload C.x C.b dL_law_471 (lv_at hl 0 rfl) ?_
  refine lv_iconst (v := (1 : Int32)) C.x C.b dL_law_473 (by decide) ?_
  refine lv_iadd C.x C.b dL_law_474 ?_
  refine va_sld C.x C.b hX hbl hbA hS (inL_1 hi hL) dL_law_475 ?_
  refine lv_aload_n C.x C.b dL_law_476 rfl (lv_at hl 4 rfl) ?_
  refine lv_iload C.x C.b dL_law_477 (lv_at hl 0 rfl) ?_
  refine lv_iconst (v := (2 : Int32)) C.x C.b dL_law_479 (by decide) ?_
  refine lv_iadd C.x C.b dL_law_480 ?_
  refine va_sld C.x C.b hX hbl hbA hS (inL_2 hi hL) dL_law_481 ?_
  refine lv_aload_n C.x C.b dL_law_482 rfl (lv_at hl 4 rfl) ?_
  refine lv_iload C.x C.b dL_law_483 (lv_at hl 0 rfl) ?_
  refine lv_iconst (v := (3 : Int32)) C.x C.b dL_law_485 (by decide) ?_
  refine lv_iadd C.x C.b dL_law_486 ?_
  refine va_sld C.x C.b hX hbl hbA hS (inL_3 hi hL) dL_law_487 ?_
  refine lv_aload_n C.x C.b dL_law_488 rfl (lv_at hl 4 rfl) ?_
  refine lv_iload C.x C.b dL_law_489 (lv_at hl 0 rfl) ?_
  refine lv_iconst (v := (4 : Int32)) C.x C.b dL_law_491 (by decide) ?_
  refine lv_iadd C.x C.b dL_law_492 ?_
  refine va_sld C.x C.b hX hbl hbA hS (inL_4 hi hL) dL_law_493 ?_
  refine r_callV (As := [.int (xs (nI i + (1 : Int32)).toNatClampNeg), .int (xs (nI i + (2 : Int32)).toNatClampNeg), .int (xs (nI i + (3 : Int32)).toNatClampNeg), .int (xs (nI i + (4 : Int32)).toNatClampNeg)]) (rest := []) C hR hS t1 rfl mk_X9_sheet cl_L_61 (k_X9_sheet t1 e1) ⟨⟨Nat.le_of_ble_eq_true rfl, Nat.le_of_ble_eq_true rfl⟩, ⟨rfl, rfl⟩, (show Kc + n + 0 ≤ 601024 by omega), (show Ks + 6 * n + 0 ≤ 7293034 by omega)⟩ rfl hl.1 rfl (Nat.le_of_ble_eq_true rfl) dL_law_494 (fun H locs hR hS hE1 z1 => ?_)
  have hR : Rel G h1 H := hR
  have t2 : hpT h1 202 = (1, 10) := hE1.at t2 (by decide)
  have t3 : hpT h1 230 = (3, 1) := hE1.at t3 (by decide)
  refine lv_aload_n C.x C.b dL_law_497 rfl (lv_at hl 2 rfl) ?_
  refine lv_aload_n C.x C.b dL_law_498 rfl (lv_at hl 4 rfl) ?_
  refine lv_iload C.x C.b dL_law_499 (lv_at hl 0 rfl) ?_
  refine lv_iconst (v := (1 : Int32)) C.x C.b dL_law_501 (by decide) ?_
  refine lv_iadd C.x C.b dL_law_502 ?_
  refine va_sld C.x C.b hX hbl hbA hS (inL_1 hi hL) dL_law_503 ?_
  refine lv_aload_n C.x C.b dL_law_504 rfl (lv_at hl 4 rfl) ?_
  refine lv_iload C.x C.b dL_law_505 (lv_at hl 0 rfl) ?_
  refine lv_iconst (v := (2 : Int32)) C.x C.b dL_law_507 (by decide) ?_
  refine lv_iadd C.x C.b dL_law_508 ?_
  refine va_sld C.x C.b hX hbl hbA hS (inL_2 hi hL) dL_law_509 ?_
  refine lv_aload_n C.x C.b dL_law_510 rfl (lv_at hl 4 rfl) ?_
  refine lv_iload C.x C.b dL_law_511 (lv_at hl 0 rfl) ?_
  refine lv_iconst (v := (3 : Int32)) C.x C.b dL_law_513 (by decide) ?_
  refine lv_iadd C.x C.b dL_law_514 ?_
  refine va_sld C.x C.b hX hbl hbA hS (inL_3 hi hL) dL_law_515 ?_
  refine lv_aload_n C.x C.b dL_law_516 rfl (lv_at hl 4 rfl) ?_
  refine lv_iload C.x C.b dL_law_517 (lv_at hl 0 rfl) ?_
  refine lv_iconst (v := (4 : Int32)) C.x C.b dL_law_519 (by decide) ?_
  refine lv_iadd C.x C.b dL_law_520 ?_
  refine va_sld C.x C.b hX hbl hbA hS (inL_4 hi hL) dL_law_521 ?_
  refine r_callV (As := [.int (xs (nI i + (1 : Int32)).toNatClampNeg), .int (xs (nI i + (2 : Int32)).toNatClampNeg), .int (xs (nI i + (3 : Int32)).toNatClampNeg), .int (xs (nI i + (4 : Int32)).toNatClampNeg)]) (rest := [.int v1]) C hR hS t2 rfl mk_X10_sheet cl_L_65 (k_X10_sheet t2 e2) ⟨⟨Nat.le_of_ble_eq_true rfl, Nat.le_of_ble_eq_true rfl⟩, ⟨rfl, rfl⟩, (show Kc + n + 0 + 0 ≤ 601024 by omega), (show Ks + 6 * n + 0 + 0 ≤ 7293034 by omega)⟩ rfl hl.1 rfl (Nat.le_of_ble_eq_true rfl) dL_law_522 (fun H locs hR hS hE2 z2 => ?_)
  have hR : Rel G h2 H := hR
  have t3 : hpT h2 230 = (3, 1) := hE2.at t3 (by decide)
  refine lv_icmp_eq (tgt := 1656) C.x C.b dL_law_525 (by decide) (fun _ => ?_) (fun c => absurd rfl c)
  refine W.widen (k := Kc + (n + 1)) (n := Ks + 6 * (n + 1)) (by omega) (by omega) ?_
  exact kk _ _ _ _ _ ⟨B2, t3, hR, hS, hl⟩
set_option maxRecDepth 100000 in
set_option maxHeartbeats 4000000 in
theorem lc_8 {G : Gt} {p : Program} {l : Launch} {e : Env} {s : State} {m : MethodId} {args : Array Value} {below : List Frame} {meth : Method} {c : Code} {H : Heap} {locs : List Loc} {Q : State → Prop} {ls : Array Slot} {b L : Nat} {xs : Nat → Int32} {i n : Nat} {h : Hp} {A : Ast} (X : LwC G p s m meth c args b L xs) (hi : i + 6 ≤ L) (hn : n < 1000) (I : LwI G s b i n h A H locs ls) (kk : ∀ (H : Heap) (locs : List Loc) (ls : Array Slot) (h : Hp) (A : Ast), LwI G s b i (n + 1) h A H locs ls → W p l e room_1 s m args below meth c H locs (Kc + (n + 1)) (Ks + 6 * (n + 1)) Q (F0 m 1656 ls [])) : W p l e room_1 s m args below meth c H locs (Kc + n) (Ks + 6 * n) Q (F0 m 530 ls []) := by
  obtain ⟨C, hr, hlk, hX, hbl, hbA, hL⟩ := X
  obtain ⟨B, t3, hR, hS, hl⟩ := I
  have hl : lv_has ls 8 [(4, .int (nI i)), (3, .ref (G.2.2 + 230)), (2, .ref (G.2.2 + 202)), (1, .ref (G.2.2 + 1)), (0, .ref b)] := hl
  have t1 := B.1.s.t1
  have t2 := B.2.1.s.1
  have hK := Kc_e
  have hK2 := Ks_e
  obtain ⟨h1, h2, e1, e2, B2⟩ := bo_years B hn (xs (nI i + (1 : Int32)).toNatClampNeg)
  obtain ⟨v1, ev⟩ : ∃ v, v = (sp_years A (xs (nI i + (1 : Int32)).toNatClampNeg)).1 := ⟨_, rfl⟩
  rw [← ev] at e1 e2
  clear ev
  refine lv_aload_n C.x C.b dL_law_530 rfl (lv_at hl 3 rfl) ?_
  refine lv_aload_n C.x C.b dL_law_531 rfl (lv_at hl 4 rfl) ?_
  refine lv_iload C.x C.b dL_law_532 (lv_at hl 0 rfl) ?_
  refine lv_iconst (v := (1 : Int32)) C.x C.b dL_law_534 (by decide) ?_
  refine lv_iadd C.x C.b dL_law_535 ?_
  refine va_sld C.x C.b hX hbl hbA hS (inL_1 hi hL) dL_law_536 ?_
  refine r_callV (As := [.int (xs (nI i + (1 : Int32)).toNatClampNeg)]) (rest := []) C hR hS t1 rfl mk_X9_years cl_L_66 (k_X9_years t1 e1) ⟨⟨Nat.le_of_ble_eq_true rfl, Nat.le_of_ble_eq_true rfl⟩, ⟨rfl, rfl⟩, (show Kc + n + 0 ≤ 601024 by omega), (show Ks + 6 * n + 0 ≤ 7293034 by omega)⟩ rfl hl.1 rfl (Nat.le_of_ble_eq_true rfl) dL_law_537 (fun H locs hR hS hE1 z1 => ?_)
  have hR : Rel G h1 H := hR
  have t2 : hpT h1 202 = (1, 10) := hE1.at t2 (by decide)
  have t3 : hpT h1 230 = (3, 1) := hE1.at t3 (by decide)
  refine lv_aload_n C.x C.b dL_law_540 rfl (lv_at hl 2 rfl) ?_
  refine lv_aload_n C.x C.b dL_law_541 rfl (lv_at hl 4 rfl) ?_
  refine lv_iload C.x C.b dL_law_542 (lv_at hl 0 rfl) ?_
  refine lv_iconst (v := (1 : Int32)) C.x C.b dL_law_544 (by decide) ?_
  refine lv_iadd C.x C.b dL_law_545 ?_
  refine va_sld C.x C.b hX hbl hbA hS (inL_1 hi hL) dL_law_546 ?_
  refine r_callV (As := [.int (xs (nI i + (1 : Int32)).toNatClampNeg)]) (rest := [.int v1]) C hR hS t2 rfl mk_X10_years cl_L_69 (k_X10_years t2 e2) ⟨⟨Nat.le_of_ble_eq_true rfl, Nat.le_of_ble_eq_true rfl⟩, ⟨rfl, rfl⟩, (show Kc + n + 0 + 0 ≤ 601024 by omega), (show Ks + 6 * n + 0 + 0 ≤ 7293034 by omega)⟩ rfl hl.1 rfl (Nat.le_of_ble_eq_true rfl) dL_law_547 (fun H locs hR hS hE2 z2 => ?_)
  have hR : Rel G h2 H := hR
  have t3 : hpT h2 230 = (3, 1) := hE2.at t3 (by decide)
  refine lv_icmp_eq (tgt := 1656) C.x C.b dL_law_550 (by decide) (fun _ => ?_) (fun c => absurd rfl c)
  refine W.widen (k := Kc + (n + 1)) (n := Ks + 6 * (n + 1)) (by omega) (by omega) ?_
  exact kk _ _ _ _ _ ⟨B2, t3, hR, hS, hl⟩
set_option maxRecDepth 100000 in
set_option maxHeartbeats 4000000 in
theorem lc_9 {G : Gt} {p : Program} {l : Launch} {e : Env} {s : State} {m : MethodId} {args : Array Value} {below : List Frame} {meth : Method} {c : Code} {H : Heap} {locs : List Loc} {Q : State → Prop} {ls : Array Slot} {b L : Nat} {xs : Nat → Int32} {i n : Nat} {h : Hp} {A : Ast} (X : LwC G p s m meth c args b L xs) (hi : i + 6 ≤ L) (hn : n < 1000) (I : LwI G s b i n h A H locs ls) (kk : ∀ (H : Heap) (locs : List Loc) (ls : Array Slot) (h : Hp) (A : Ast), LwI G s b i (n + 1) h A H locs ls → W p l e room_1 s m args below meth c H locs (Kc + (n + 1)) (Ks + 6 * (n + 1)) Q (F0 m 1656 ls [])) : W p l e room_1 s m args below meth c H locs (Kc + n) (Ks + 6 * n) Q (F0 m 555 ls []) := by
  obtain ⟨C, hr, hlk, hX, hbl, hbA, hL⟩ := X
  obtain ⟨B, t3, hR, hS, hl⟩ := I
  have hl : lv_has ls 8 [(4, .int (nI i)), (3, .ref (G.2.2 + 230)), (2, .ref (G.2.2 + 202)), (1, .ref (G.2.2 + 1)), (0, .ref b)] := hl
  have t1 := B.1.s.t1
  have t2 := B.2.1.s.1
  have hK := Kc_e
  have hK2 := Ks_e
  obtain ⟨h1, h2, e1, e2, B2⟩ := bo_pitch B hn (xs (nI i + (1 : Int32)).toNatClampNeg) (xs (nI i + (2 : Int32)).toNatClampNeg) (xs (nI i + (3 : Int32)).toNatClampNeg) (xs (nI i + (4 : Int32)).toNatClampNeg) (xs (nI i + (5 : Int32)).toNatClampNeg)
  obtain ⟨v1, ev⟩ : ∃ v, v = (sp_act A (pitchS (aS A) (xs (nI i + (1 : Int32)).toNatClampNeg) (xs (nI i + (2 : Int32)).toNatClampNeg) (xs (nI i + (3 : Int32)).toNatClampNeg) (xs (nI i + (4 : Int32)).toNatClampNeg) (xs (nI i + (5 : Int32)).toNatClampNeg))).1 := ⟨_, rfl⟩
  rw [← ev] at e1 e2
  clear ev
  refine lv_aload_n C.x C.b dL_law_555 rfl (lv_at hl 3 rfl) ?_
  refine lv_aload_n C.x C.b dL_law_556 rfl (lv_at hl 4 rfl) ?_
  refine lv_iload C.x C.b dL_law_557 (lv_at hl 0 rfl) ?_
  refine lv_iconst (v := (1 : Int32)) C.x C.b dL_law_559 (by decide) ?_
  refine lv_iadd C.x C.b dL_law_560 ?_
  refine va_sld C.x C.b hX hbl hbA hS (inL_1 hi hL) dL_law_561 ?_
  refine lv_aload_n C.x C.b dL_law_562 rfl (lv_at hl 4 rfl) ?_
  refine lv_iload C.x C.b dL_law_563 (lv_at hl 0 rfl) ?_
  refine lv_iconst (v := (2 : Int32)) C.x C.b dL_law_565 (by decide) ?_
  refine lv_iadd C.x C.b dL_law_566 ?_
  refine va_sld C.x C.b hX hbl hbA hS (inL_2 hi hL) dL_law_567 ?_
  refine lv_aload_n C.x C.b dL_law_568 rfl (lv_at hl 4 rfl) ?_
  refine lv_iload C.x C.b dL_law_569 (lv_at hl 0 rfl) ?_
  refine lv_iconst (v := (3 : Int32)) C.x C.b dL_law_571 (by decide) ?_
  refine lv_iadd C.x C.b dL_law_572 ?_
  refine va_sld C.x C.b hX hbl hbA hS (inL_3 hi hL) dL_law_573 ?_
  refine lv_aload_n C.x C.b dL_law_574 rfl (lv_at hl 4 rfl) ?_
  refine lv_iload C.x C.b dL_law_575 (lv_at hl 0 rfl) ?_
  refine lv_iconst (v := (4 : Int32)) C.x C.b dL_law_577 (by decide) ?_
  refine lv_iadd C.x C.b dL_law_578 ?_
  refine va_sld C.x C.b hX hbl hbA hS (inL_4 hi hL) dL_law_579 ?_
  refine lv_aload_n C.x C.b dL_law_580 rfl (lv_at hl 4 rfl) ?_
  refine lv_iload C.x C.b dL_law_581 (lv_at hl 0 rfl) ?_
  refine lv_iconst (v := (5 : Int32)) C.x C.b dL_law_583 (by decide) ?_
  refine lv_iadd C.x C.b dL_law_584 ?_
  refine va_sld C.x C.b hX hbl hbA hS (inL_5 hi hL) dL_law_585 ?_
  refine r_callV (As := [.int (xs (nI i + (1 : Int32)).toNatClampNeg), .int (xs (nI i + (2 : Int32)).toNatClampNeg), .int (xs (nI i + (3 : Int32)).toNatClampNeg), .int (xs (nI i + (4 : Int32)).toNatClampNeg), .int (xs (nI i + (5 : Int32)).toNatClampNeg)]) (rest := []) C hR hS t1 rfl mk_X9_pitch cl_L_70 (k_X9_pitch t1 e1) ⟨⟨Nat.le_of_ble_eq_true rfl, Nat.le_of_ble_eq_true rfl⟩, ⟨rfl, rfl⟩, (show Kc + n + 0 ≤ 601024 by omega), (show Ks + 6 * n + 0 ≤ 7293034 by omega)⟩ rfl hl.1 rfl (Nat.le_of_ble_eq_true rfl) dL_law_586 (fun H locs hR hS hE1 z1 => ?_)
  have hR : Rel G h1 H := hR
  have t2 : hpT h1 202 = (1, 10) := hE1.at t2 (by decide)
  have t3 : hpT h1 230 = (3, 1) := hE1.at t3 (by decide)
  refine lv_aload_n C.x C.b dL_law_589 rfl (lv_at hl 2 rfl) ?_
  refine lv_aload_n C.x C.b dL_law_590 rfl (lv_at hl 4 rfl) ?_
  refine lv_iload C.x C.b dL_law_591 (lv_at hl 0 rfl) ?_
  refine lv_iconst (v := (1 : Int32)) C.x C.b dL_law_593 (by decide) ?_
  refine lv_iadd C.x C.b dL_law_594 ?_
  refine va_sld C.x C.b hX hbl hbA hS (inL_1 hi hL) dL_law_595 ?_
  refine lv_aload_n C.x C.b dL_law_596 rfl (lv_at hl 4 rfl) ?_
  refine lv_iload C.x C.b dL_law_597 (lv_at hl 0 rfl) ?_
  refine lv_iconst (v := (2 : Int32)) C.x C.b dL_law_599 (by decide) ?_
  refine lv_iadd C.x C.b dL_law_600 ?_
  refine va_sld C.x C.b hX hbl hbA hS (inL_2 hi hL) dL_law_601 ?_
  refine lv_aload_n C.x C.b dL_law_602 rfl (lv_at hl 4 rfl) ?_
  refine lv_iload C.x C.b dL_law_603 (lv_at hl 0 rfl) ?_
  refine lv_iconst (v := (3 : Int32)) C.x C.b dL_law_605 (by decide) ?_
  refine lv_iadd C.x C.b dL_law_606 ?_
  refine va_sld C.x C.b hX hbl hbA hS (inL_3 hi hL) dL_law_607 ?_
  refine lv_aload_n C.x C.b dL_law_608 rfl (lv_at hl 4 rfl) ?_
  refine lv_iload C.x C.b dL_law_609 (lv_at hl 0 rfl) ?_
  refine lv_iconst (v := (4 : Int32)) C.x C.b dL_law_611 (by decide) ?_
  refine lv_iadd C.x C.b dL_law_612 ?_
  refine va_sld C.x C.b hX hbl hbA hS (inL_4 hi hL) dL_law_613 ?_
  refine lv_aload_n C.x C.b dL_law_614 rfl (lv_at hl 4 rfl) ?_
  refine lv_iload C.x C.b dL_law_615 (lv_at hl 0 rfl) ?_
  refine lv_iconst (v := (5 : Int32)) C.x C.b dL_law_617 (by decide) ?_
  refine lv_iadd C.x C.b dL_law_618 ?_
  refine va_sld C.x C.b hX hbl hbA hS (inL_5 hi hL) dL_law_619 ?_
  refine r_callV (As := [.int (xs (nI i + (1 : Int32)).toNatClampNeg), .int (xs (nI i + (2 : Int32)).toNatClampNeg), .int (xs (nI i + (3 : Int32)).toNatClampNeg), .int (xs (nI i + (4 : Int32)).toNatClampNeg), .int (xs (nI i + (5 : Int32)).toNatClampNeg)]) (rest := [.int v1]) C hR hS t2 rfl mk_X10_pitch cl_L_74 (k_X10_pitch t2 e2) ⟨⟨Nat.le_of_ble_eq_true rfl, Nat.le_of_ble_eq_true rfl⟩, ⟨rfl, rfl⟩, (show Kc + n + 0 + 0 ≤ 601024 by omega), (show Ks + 6 * n + 0 + 0 ≤ 7293034 by omega)⟩ rfl hl.1 rfl (Nat.le_of_ble_eq_true rfl) dL_law_620 (fun H locs hR hS hE2 z2 => ?_)
  have hR : Rel G h2 H := hR
  have t3 : hpT h2 230 = (3, 1) := hE2.at t3 (by decide)
  refine lv_icmp_eq (tgt := 1656) C.x C.b dL_law_623 (by decide) (fun _ => ?_) (fun c => absurd rfl c)
  refine W.widen (k := Kc + (n + 1)) (n := Ks + 6 * (n + 1)) (by omega) (by omega) ?_
  exact kk _ _ _ _ _ ⟨B2, t3, hR, hS, hl⟩
set_option maxRecDepth 100000 in
set_option maxHeartbeats 4000000 in
theorem lc_10 {G : Gt} {p : Program} {l : Launch} {e : Env} {s : State} {m : MethodId} {args : Array Value} {below : List Frame} {meth : Method} {c : Code} {H : Heap} {locs : List Loc} {Q : State → Prop} {ls : Array Slot} {b L : Nat} {xs : Nat → Int32} {i n : Nat} {h : Hp} {A : Ast} (X : LwC G p s m meth c args b L xs) (hi : i + 6 ≤ L) (hn : n < 1000) (I : LwI G s b i n h A H locs ls) (kk : ∀ (H : Heap) (locs : List Loc) (ls : Array Slot) (h : Hp) (A : Ast), LwI G s b i (n + 1) h A H locs ls → W p l e room_1 s m args below meth c H locs (Kc + (n + 1)) (Ks + 6 * (n + 1)) Q (F0 m 1656 ls [])) : W p l e room_1 s m args below meth c H locs (Kc + n) (Ks + 6 * n) Q (F0 m 628 ls []) := by
  obtain ⟨C, hr, hlk, hX, hbl, hbA, hL⟩ := X
  obtain ⟨B, t3, hR, hS, hl⟩ := I
  have hl : lv_has ls 8 [(4, .int (nI i)), (3, .ref (G.2.2 + 230)), (2, .ref (G.2.2 + 202)), (1, .ref (G.2.2 + 1)), (0, .ref b)] := hl
  have t1 := B.1.s.t1
  have t2 := B.2.1.s.1
  have hK := Kc_e
  have hK2 := Ks_e
  obtain ⟨h1, h2, e1, e2, B2⟩ := bo_treads B hn (xs (nI i + (1 : Int32)).toNatClampNeg) (xs (nI i + (2 : Int32)).toNatClampNeg)
  obtain ⟨v1, ev⟩ : ∃ v, v = (sp_act A (treadS (aS A) (xs (nI i + (1 : Int32)).toNatClampNeg) (xs (nI i + (2 : Int32)).toNatClampNeg))).1 := ⟨_, rfl⟩
  rw [← ev] at e1 e2
  clear ev
  refine lv_aload_n C.x C.b dL_law_628 rfl (lv_at hl 3 rfl) ?_
  refine lv_aload_n C.x C.b dL_law_629 rfl (lv_at hl 4 rfl) ?_
  refine lv_iload C.x C.b dL_law_630 (lv_at hl 0 rfl) ?_
  refine lv_iconst (v := (1 : Int32)) C.x C.b dL_law_632 (by decide) ?_
  refine lv_iadd C.x C.b dL_law_633 ?_
  refine va_sld C.x C.b hX hbl hbA hS (inL_1 hi hL) dL_law_634 ?_
  refine lv_aload_n C.x C.b dL_law_635 rfl (lv_at hl 4 rfl) ?_
  refine lv_iload C.x C.b dL_law_636 (lv_at hl 0 rfl) ?_
  refine lv_iconst (v := (2 : Int32)) C.x C.b dL_law_638 (by decide) ?_
  refine lv_iadd C.x C.b dL_law_639 ?_
  refine va_sld C.x C.b hX hbl hbA hS (inL_2 hi hL) dL_law_640 ?_
  refine r_callV (As := [.int (xs (nI i + (1 : Int32)).toNatClampNeg), .int (xs (nI i + (2 : Int32)).toNatClampNeg)]) (rest := []) C hR hS t1 rfl mk_X9_treads cl_L_75 (k_X9_treads t1 e1) ⟨⟨Nat.le_of_ble_eq_true rfl, Nat.le_of_ble_eq_true rfl⟩, ⟨rfl, rfl⟩, (show Kc + n + 0 ≤ 601024 by omega), (show Ks + 6 * n + 0 ≤ 7293034 by omega)⟩ rfl hl.1 rfl (Nat.le_of_ble_eq_true rfl) dL_law_641 (fun H locs hR hS hE1 z1 => ?_)
  have hR : Rel G h1 H := hR
  have t2 : hpT h1 202 = (1, 10) := hE1.at t2 (by decide)
  have t3 : hpT h1 230 = (3, 1) := hE1.at t3 (by decide)
  refine lv_aload_n C.x C.b dL_law_644 rfl (lv_at hl 2 rfl) ?_
  refine lv_aload_n C.x C.b dL_law_645 rfl (lv_at hl 4 rfl) ?_
  refine lv_iload C.x C.b dL_law_646 (lv_at hl 0 rfl) ?_
  refine lv_iconst (v := (1 : Int32)) C.x C.b dL_law_648 (by decide) ?_
  refine lv_iadd C.x C.b dL_law_649 ?_
  refine va_sld C.x C.b hX hbl hbA hS (inL_1 hi hL) dL_law_650 ?_
  refine lv_aload_n C.x C.b dL_law_651 rfl (lv_at hl 4 rfl) ?_
  refine lv_iload C.x C.b dL_law_652 (lv_at hl 0 rfl) ?_
  refine lv_iconst (v := (2 : Int32)) C.x C.b dL_law_654 (by decide) ?_
  refine lv_iadd C.x C.b dL_law_655 ?_
  refine va_sld C.x C.b hX hbl hbA hS (inL_2 hi hL) dL_law_656 ?_
  refine r_callV (As := [.int (xs (nI i + (1 : Int32)).toNatClampNeg), .int (xs (nI i + (2 : Int32)).toNatClampNeg)]) (rest := [.int v1]) C hR hS t2 rfl mk_X10_treads cl_L_78 (k_X10_treads t2 e2) ⟨⟨Nat.le_of_ble_eq_true rfl, Nat.le_of_ble_eq_true rfl⟩, ⟨rfl, rfl⟩, (show Kc + n + 0 + 0 ≤ 601024 by omega), (show Ks + 6 * n + 0 + 0 ≤ 7293034 by omega)⟩ rfl hl.1 rfl (Nat.le_of_ble_eq_true rfl) dL_law_657 (fun H locs hR hS hE2 z2 => ?_)
  have hR : Rel G h2 H := hR
  have t3 : hpT h2 230 = (3, 1) := hE2.at t3 (by decide)
  refine lv_icmp_eq (tgt := 1656) C.x C.b dL_law_660 (by decide) (fun _ => ?_) (fun c => absurd rfl c)
  refine W.widen (k := Kc + (n + 1)) (n := Ks + 6 * (n + 1)) (by omega) (by omega) ?_
  exact kk _ _ _ _ _ ⟨B2, t3, hR, hS, hl⟩
set_option maxRecDepth 100000 in
set_option maxHeartbeats 4000000 in
theorem lc_11 {G : Gt} {p : Program} {l : Launch} {e : Env} {s : State} {m : MethodId} {args : Array Value} {below : List Frame} {meth : Method} {c : Code} {H : Heap} {locs : List Loc} {Q : State → Prop} {ls : Array Slot} {b L : Nat} {xs : Nat → Int32} {i n : Nat} {h : Hp} {A : Ast} (X : LwC G p s m meth c args b L xs) (hi : i + 6 ≤ L) (hn : n < 1000) (I : LwI G s b i n h A H locs ls) (kk : ∀ (H : Heap) (locs : List Loc) (ls : Array Slot) (h : Hp) (A : Ast), LwI G s b i (n + 1) h A H locs ls → W p l e room_1 s m args below meth c H locs (Kc + (n + 1)) (Ks + 6 * (n + 1)) Q (F0 m 1656 ls [])) : W p l e room_1 s m args below meth c H locs (Kc + n) (Ks + 6 * n) Q (F0 m 665 ls []) := by
  obtain ⟨C, hr, hlk, hX, hbl, hbA, hL⟩ := X
  obtain ⟨B, t3, hR, hS, hl⟩ := I
  have hl : lv_has ls 8 [(4, .int (nI i)), (3, .ref (G.2.2 + 230)), (2, .ref (G.2.2 + 202)), (1, .ref (G.2.2 + 1)), (0, .ref b)] := hl
  have t1 := B.1.s.t1
  have t2 := B.2.1.s.1
  have hK := Kc_e
  have hK2 := Ks_e
  obtain ⟨h1, h2, e1, e2, B2⟩ := bo_sings B hn (xs (nI i + (1 : Int32)).toNatClampNeg) (xs (nI i + (2 : Int32)).toNatClampNeg)
  obtain ⟨v1, ev⟩ : ∃ v, v = (sp_act A (singS (aS A) (xs (nI i + (1 : Int32)).toNatClampNeg) (xs (nI i + (2 : Int32)).toNatClampNeg))).1 := ⟨_, rfl⟩
  rw [← ev] at e1 e2
  clear ev
  refine lv_aload_n C.x C.b dL_law_665 rfl (lv_at hl 3 rfl) ?_
  refine lv_aload_n C.x C.b dL_law_666 rfl (lv_at hl 4 rfl) ?_
  refine lv_iload C.x C.b dL_law_667 (lv_at hl 0 rfl) ?_
  refine lv_iconst (v := (1 : Int32)) C.x C.b dL_law_669 (by decide) ?_
  refine lv_iadd C.x C.b dL_law_670 ?_
  refine va_sld C.x C.b hX hbl hbA hS (inL_1 hi hL) dL_law_671 ?_
  refine lv_aload_n C.x C.b dL_law_672 rfl (lv_at hl 4 rfl) ?_
  refine lv_iload C.x C.b dL_law_673 (lv_at hl 0 rfl) ?_
  refine lv_iconst (v := (2 : Int32)) C.x C.b dL_law_675 (by decide) ?_
  refine lv_iadd C.x C.b dL_law_676 ?_
  refine va_sld C.x C.b hX hbl hbA hS (inL_2 hi hL) dL_law_677 ?_
  refine r_callV (As := [.int (xs (nI i + (1 : Int32)).toNatClampNeg), .int (xs (nI i + (2 : Int32)).toNatClampNeg)]) (rest := []) C hR hS t1 rfl mk_X9_sings cl_L_79 (k_X9_sings t1 e1) ⟨⟨Nat.le_of_ble_eq_true rfl, Nat.le_of_ble_eq_true rfl⟩, ⟨rfl, rfl⟩, (show Kc + n + 0 ≤ 601024 by omega), (show Ks + 6 * n + 0 ≤ 7293034 by omega)⟩ rfl hl.1 rfl (Nat.le_of_ble_eq_true rfl) dL_law_678 (fun H locs hR hS hE1 z1 => ?_)
  have hR : Rel G h1 H := hR
  have t2 : hpT h1 202 = (1, 10) := hE1.at t2 (by decide)
  have t3 : hpT h1 230 = (3, 1) := hE1.at t3 (by decide)
  refine lv_aload_n C.x C.b dL_law_681 rfl (lv_at hl 2 rfl) ?_
  refine lv_aload_n C.x C.b dL_law_682 rfl (lv_at hl 4 rfl) ?_
  refine lv_iload C.x C.b dL_law_683 (lv_at hl 0 rfl) ?_
  refine lv_iconst (v := (1 : Int32)) C.x C.b dL_law_685 (by decide) ?_
  refine lv_iadd C.x C.b dL_law_686 ?_
  refine va_sld C.x C.b hX hbl hbA hS (inL_1 hi hL) dL_law_687 ?_
  refine lv_aload_n C.x C.b dL_law_688 rfl (lv_at hl 4 rfl) ?_
  refine lv_iload C.x C.b dL_law_689 (lv_at hl 0 rfl) ?_
  refine lv_iconst (v := (2 : Int32)) C.x C.b dL_law_691 (by decide) ?_
  refine lv_iadd C.x C.b dL_law_692 ?_
  refine va_sld C.x C.b hX hbl hbA hS (inL_2 hi hL) dL_law_693 ?_
  refine r_callV (As := [.int (xs (nI i + (1 : Int32)).toNatClampNeg), .int (xs (nI i + (2 : Int32)).toNatClampNeg)]) (rest := [.int v1]) C hR hS t2 rfl mk_X10_sings cl_L_82 (k_X10_sings t2 e2) ⟨⟨Nat.le_of_ble_eq_true rfl, Nat.le_of_ble_eq_true rfl⟩, ⟨rfl, rfl⟩, (show Kc + n + 0 + 0 ≤ 601024 by omega), (show Ks + 6 * n + 0 + 0 ≤ 7293034 by omega)⟩ rfl hl.1 rfl (Nat.le_of_ble_eq_true rfl) dL_law_694 (fun H locs hR hS hE2 z2 => ?_)
  have hR : Rel G h2 H := hR
  have t3 : hpT h2 230 = (3, 1) := hE2.at t3 (by decide)
  refine lv_icmp_eq (tgt := 1656) C.x C.b dL_law_697 (by decide) (fun _ => ?_) (fun c => absurd rfl c)
  refine W.widen (k := Kc + (n + 1)) (n := Ks + 6 * (n + 1)) (by omega) (by omega) ?_
  exact kk _ _ _ _ _ ⟨B2, t3, hR, hS, hl⟩
set_option maxRecDepth 100000 in
set_option maxHeartbeats 4000000 in
theorem lc_12 {G : Gt} {p : Program} {l : Launch} {e : Env} {s : State} {m : MethodId} {args : Array Value} {below : List Frame} {meth : Method} {c : Code} {H : Heap} {locs : List Loc} {Q : State → Prop} {ls : Array Slot} {b L : Nat} {xs : Nat → Int32} {i n : Nat} {h : Hp} {A : Ast} (X : LwC G p s m meth c args b L xs) (hi : i + 6 ≤ L) (hn : n < 1000) (I : LwI G s b i n h A H locs ls) (kk : ∀ (H : Heap) (locs : List Loc) (ls : Array Slot) (h : Hp) (A : Ast), LwI G s b i (n + 1) h A H locs ls → W p l e room_1 s m args below meth c H locs (Kc + (n + 1)) (Ks + 6 * (n + 1)) Q (F0 m 1656 ls [])) : W p l e room_1 s m args below meth c H locs (Kc + n) (Ks + 6 * n) Q (F0 m 702 ls []) := by
  obtain ⟨C, hr, hlk, hX, hbl, hbA, hL⟩ := X
  obtain ⟨B, t3, hR, hS, hl⟩ := I
  have hl : lv_has ls 8 [(4, .int (nI i)), (3, .ref (G.2.2 + 230)), (2, .ref (G.2.2 + 202)), (1, .ref (G.2.2 + 1)), (0, .ref b)] := hl
  have t1 := B.1.s.t1
  have t2 := B.2.1.s.1
  have hK := Kc_e
  have hK2 := Ks_e
  obtain ⟨h1, h2, e1, e2, B2⟩ := bo_moves B hn (xs (nI i + (1 : Int32)).toNatClampNeg) (xs (nI i + (2 : Int32)).toNatClampNeg)
  obtain ⟨v1, ev⟩ : ∃ v, v = (sp_act A (moveS (aS A) (xs (nI i + (1 : Int32)).toNatClampNeg) (xs (nI i + (2 : Int32)).toNatClampNeg))).1 := ⟨_, rfl⟩
  rw [← ev] at e1 e2
  clear ev
  refine lv_aload_n C.x C.b dL_law_702 rfl (lv_at hl 3 rfl) ?_
  refine lv_aload_n C.x C.b dL_law_703 rfl (lv_at hl 4 rfl) ?_
  refine lv_iload C.x C.b dL_law_704 (lv_at hl 0 rfl) ?_
  refine lv_iconst (v := (1 : Int32)) C.x C.b dL_law_706 (by decide) ?_
  refine lv_iadd C.x C.b dL_law_707 ?_
  refine va_sld C.x C.b hX hbl hbA hS (inL_1 hi hL) dL_law_708 ?_
  refine lv_aload_n C.x C.b dL_law_709 rfl (lv_at hl 4 rfl) ?_
  refine lv_iload C.x C.b dL_law_710 (lv_at hl 0 rfl) ?_
  refine lv_iconst (v := (2 : Int32)) C.x C.b dL_law_712 (by decide) ?_
  refine lv_iadd C.x C.b dL_law_713 ?_
  refine va_sld C.x C.b hX hbl hbA hS (inL_2 hi hL) dL_law_714 ?_
  refine r_callV (As := [.int (xs (nI i + (1 : Int32)).toNatClampNeg), .int (xs (nI i + (2 : Int32)).toNatClampNeg)]) (rest := []) C hR hS t1 rfl mk_X9_moves cl_L_83 (k_X9_moves t1 e1) ⟨⟨Nat.le_of_ble_eq_true rfl, Nat.le_of_ble_eq_true rfl⟩, ⟨rfl, rfl⟩, (show Kc + n + 0 ≤ 601024 by omega), (show Ks + 6 * n + 0 ≤ 7293034 by omega)⟩ rfl hl.1 rfl (Nat.le_of_ble_eq_true rfl) dL_law_715 (fun H locs hR hS hE1 z1 => ?_)
  have hR : Rel G h1 H := hR
  have t2 : hpT h1 202 = (1, 10) := hE1.at t2 (by decide)
  have t3 : hpT h1 230 = (3, 1) := hE1.at t3 (by decide)
  refine lv_aload_n C.x C.b dL_law_718 rfl (lv_at hl 2 rfl) ?_
  refine lv_aload_n C.x C.b dL_law_719 rfl (lv_at hl 4 rfl) ?_
  refine lv_iload C.x C.b dL_law_720 (lv_at hl 0 rfl) ?_
  refine lv_iconst (v := (1 : Int32)) C.x C.b dL_law_722 (by decide) ?_
  refine lv_iadd C.x C.b dL_law_723 ?_
  refine va_sld C.x C.b hX hbl hbA hS (inL_1 hi hL) dL_law_724 ?_
  refine lv_aload_n C.x C.b dL_law_725 rfl (lv_at hl 4 rfl) ?_
  refine lv_iload C.x C.b dL_law_726 (lv_at hl 0 rfl) ?_
  refine lv_iconst (v := (2 : Int32)) C.x C.b dL_law_728 (by decide) ?_
  refine lv_iadd C.x C.b dL_law_729 ?_
  refine va_sld C.x C.b hX hbl hbA hS (inL_2 hi hL) dL_law_730 ?_
  refine r_callV (As := [.int (xs (nI i + (1 : Int32)).toNatClampNeg), .int (xs (nI i + (2 : Int32)).toNatClampNeg)]) (rest := [.int v1]) C hR hS t2 rfl mk_X10_moves cl_L_86 (k_X10_moves t2 e2) ⟨⟨Nat.le_of_ble_eq_true rfl, Nat.le_of_ble_eq_true rfl⟩, ⟨rfl, rfl⟩, (show Kc + n + 0 + 0 ≤ 601024 by omega), (show Ks + 6 * n + 0 + 0 ≤ 7293034 by omega)⟩ rfl hl.1 rfl (Nat.le_of_ble_eq_true rfl) dL_law_731 (fun H locs hR hS hE2 z2 => ?_)
  have hR : Rel G h2 H := hR
  have t3 : hpT h2 230 = (3, 1) := hE2.at t3 (by decide)
  refine lv_icmp_eq (tgt := 1656) C.x C.b dL_law_734 (by decide) (fun _ => ?_) (fun c => absurd rfl c)
  refine W.widen (k := Kc + (n + 1)) (n := Ks + 6 * (n + 1)) (by omega) (by omega) ?_
  exact kk _ _ _ _ _ ⟨B2, t3, hR, hS, hl⟩
set_option maxRecDepth 100000 in
set_option maxHeartbeats 4000000 in
theorem lc_13 {G : Gt} {p : Program} {l : Launch} {e : Env} {s : State} {m : MethodId} {args : Array Value} {below : List Frame} {meth : Method} {c : Code} {H : Heap} {locs : List Loc} {Q : State → Prop} {ls : Array Slot} {b L : Nat} {xs : Nat → Int32} {i n : Nat} {h : Hp} {A : Ast} (X : LwC G p s m meth c args b L xs) (hi : i + 6 ≤ L) (hn : n < 1000) (I : LwI G s b i n h A H locs ls) (kk : ∀ (H : Heap) (locs : List Loc) (ls : Array Slot) (h : Hp) (A : Ast), LwI G s b i (n + 1) h A H locs ls → W p l e room_1 s m args below meth c H locs (Kc + (n + 1)) (Ks + 6 * (n + 1)) Q (F0 m 1656 ls [])) : W p l e room_1 s m args below meth c H locs (Kc + n) (Ks + 6 * n) Q (F0 m 739 ls []) := by
  obtain ⟨C, hr, hlk, hX, hbl, hbA, hL⟩ := X
  obtain ⟨B, t3, hR, hS, hl⟩ := I
  have hl : lv_has ls 8 [(4, .int (nI i)), (3, .ref (G.2.2 + 230)), (2, .ref (G.2.2 + 202)), (1, .ref (G.2.2 + 1)), (0, .ref b)] := hl
  have t1 := B.1.s.t1
  have t2 := B.2.1.s.1
  have hK := Kc_e
  have hK2 := Ks_e
  obtain ⟨h1, h2, e1, e2, B2⟩ := bo_story B hn
  obtain ⟨v1, ev⟩ : ∃ v, v = (sp_story A).1 := ⟨_, rfl⟩
  rw [← ev] at e1 e2
  clear ev
  refine lv_aload_n C.x C.b dL_law_739 rfl (lv_at hl 3 rfl) ?_
  refine r_callV (As := []) (rest := []) C hR hS t1 rfl mk_X9_story cl_L_87 (k_X9_story t1 e1) ⟨⟨Nat.le_of_ble_eq_true rfl, Nat.le_of_ble_eq_true rfl⟩, ⟨rfl, rfl⟩, (show Kc + n + 0 ≤ 601024 by omega), (show Ks + 6 * n + 0 ≤ 7293034 by omega)⟩ rfl hl.1 rfl (Nat.le_of_ble_eq_true rfl) dL_law_740 (fun H locs hR hS hE1 z1 => ?_)
  have hR : Rel G h1 H := hR
  have t2 : hpT h1 202 = (1, 10) := hE1.at t2 (by decide)
  have t3 : hpT h1 230 = (3, 1) := hE1.at t3 (by decide)
  refine lv_aload_n C.x C.b dL_law_743 rfl (lv_at hl 2 rfl) ?_
  refine r_callV (As := []) (rest := [.int v1]) C hR hS t2 rfl mk_X10_story cl_L_90 (k_X10_story t2 e2) ⟨⟨Nat.le_of_ble_eq_true rfl, Nat.le_of_ble_eq_true rfl⟩, ⟨rfl, rfl⟩, (show Kc + n + 0 + 0 ≤ 601024 by omega), (show Ks + 6 * n + 0 + 0 ≤ 7293034 by omega)⟩ rfl hl.1 rfl (Nat.le_of_ble_eq_true rfl) dL_law_744 (fun H locs hR hS hE2 z2 => ?_)
  have hR : Rel G h2 H := hR
  have t3 : hpT h2 230 = (3, 1) := hE2.at t3 (by decide)
  refine lv_icmp_eq (tgt := 1656) C.x C.b dL_law_747 (by decide) (fun _ => ?_) (fun c => absurd rfl c)
  refine W.widen (k := Kc + (n + 1)) (n := Ks + 6 * (n + 1)) (by omega) (by omega) ?_
  exact kk _ _ _ _ _ ⟨B2, t3, hR, hS, hl⟩
set_option maxRecDepth 100000 in
set_option maxHeartbeats 4000000 in
theorem lc_14 {G : Gt} {p : Program} {l : Launch} {e : Env} {s : State} {m : MethodId} {args : Array Value} {below : List Frame} {meth : Method} {c : Code} {H : Heap} {locs : List Loc} {Q : State → Prop} {ls : Array Slot} {b L : Nat} {xs : Nat → Int32} {i n : Nat} {h : Hp} {A : Ast} (X : LwC G p s m meth c args b L xs) (hi : i + 6 ≤ L) (hn : n < 1000) (I : LwI G s b i n h A H locs ls) (kk : ∀ (H : Heap) (locs : List Loc) (ls : Array Slot) (h : Hp) (A : Ast), LwI G s b i (n + 1) h A H locs ls → W p l e room_1 s m args below meth c H locs (Kc + (n + 1)) (Ks + 6 * (n + 1)) Q (F0 m 1656 ls [])) : W p l e room_1 s m args below meth c H locs (Kc + n) (Ks + 6 * n) Q (F0 m 752 ls []) := by
  obtain ⟨C, hr, hlk, hX, hbl, hbA, hL⟩ := X
  obtain ⟨B, t3, hR, hS, hl⟩ := I
  have hl : lv_has ls 8 [(4, .int (nI i)), (3, .ref (G.2.2 + 230)), (2, .ref (G.2.2 + 202)), (1, .ref (G.2.2 + 1)), (0, .ref b)] := hl
  have t1 := B.1.s.t1
  have t2 := B.2.1.s.1
  have hK := Kc_e
  have hK2 := Ks_e
  obtain ⟨h1, h2, e1, e2, B2⟩ := bo_undo B hn
  obtain ⟨v1, ev⟩ : ∃ v, v = (sp_undo A).1 := ⟨_, rfl⟩
  rw [← ev] at e1 e2
  clear ev
  refine lv_aload_n C.x C.b dL_law_752 rfl (lv_at hl 3 rfl) ?_
  refine r_callV (As := []) (rest := []) C hR hS t1 rfl mk_X9_undo cl_L_91 (k_X9_undo t1 e1) ⟨⟨Nat.le_of_ble_eq_true rfl, Nat.le_of_ble_eq_true rfl⟩, ⟨rfl, rfl⟩, (show Kc + n + 0 ≤ 601024 by omega), (show Ks + 6 * n + 0 ≤ 7293034 by omega)⟩ rfl hl.1 rfl (Nat.le_of_ble_eq_true rfl) dL_law_753 (fun H locs hR hS hE1 z1 => ?_)
  have hR : Rel G h1 H := hR
  have t2 : hpT h1 202 = (1, 10) := hE1.at t2 (by decide)
  have t3 : hpT h1 230 = (3, 1) := hE1.at t3 (by decide)
  refine lv_aload_n C.x C.b dL_law_756 rfl (lv_at hl 2 rfl) ?_
  refine r_callV (As := []) (rest := [.int v1]) C hR hS t2 rfl mk_X10_undo cl_L_94 (k_X10_undo t2 e2) ⟨⟨Nat.le_of_ble_eq_true rfl, Nat.le_of_ble_eq_true rfl⟩, ⟨rfl, rfl⟩, (show Kc + n + 0 + 0 ≤ 601024 by omega), (show Ks + 6 * n + 0 + 0 ≤ 7293034 by omega)⟩ rfl hl.1 rfl (Nat.le_of_ble_eq_true rfl) dL_law_757 (fun H locs hR hS hE2 z2 => ?_)
  have hR : Rel G h2 H := hR
  have t3 : hpT h2 230 = (3, 1) := hE2.at t3 (by decide)
  refine lv_icmp_eq (tgt := 1656) C.x C.b dL_law_760 (by decide) (fun _ => ?_) (fun c => absurd rfl c)
  refine W.widen (k := Kc + (n + 1)) (n := Ks + 6 * (n + 1)) (by omega) (by omega) ?_
  exact kk _ _ _ _ _ ⟨B2, t3, hR, hS, hl⟩
set_option maxRecDepth 100000 in
set_option maxHeartbeats 4000000 in
theorem lc_15 {G : Gt} {p : Program} {l : Launch} {e : Env} {s : State} {m : MethodId} {args : Array Value} {below : List Frame} {meth : Method} {c : Code} {H : Heap} {locs : List Loc} {Q : State → Prop} {ls : Array Slot} {b L : Nat} {xs : Nat → Int32} {i n : Nat} {h : Hp} {A : Ast} (X : LwC G p s m meth c args b L xs) (hi : i + 6 ≤ L) (hn : n < 1000) (I : LwI G s b i n h A H locs ls) (kk : ∀ (H : Heap) (locs : List Loc) (ls : Array Slot) (h : Hp) (A : Ast), LwI G s b i (n + 1) h A H locs ls → W p l e room_1 s m args below meth c H locs (Kc + (n + 1)) (Ks + 6 * (n + 1)) Q (F0 m 1656 ls [])) : W p l e room_1 s m args below meth c H locs (Kc + n) (Ks + 6 * n) Q (F0 m 765 ls []) := by
  obtain ⟨C, hr, hlk, hX, hbl, hbA, hL⟩ := X
  obtain ⟨B, t3, hR, hS, hl⟩ := I
  have hl : lv_has ls 8 [(4, .int (nI i)), (3, .ref (G.2.2 + 230)), (2, .ref (G.2.2 + 202)), (1, .ref (G.2.2 + 1)), (0, .ref b)] := hl
  have t1 := B.1.s.t1
  have t2 := B.2.1.s.1
  have hK := Kc_e
  have hK2 := Ks_e
  obtain ⟨h1, h2, e1, e2, B2⟩ := bo_slept B hn
  obtain ⟨v1, ev⟩ : ∃ v, v = (sp_slept A).1 := ⟨_, rfl⟩
  rw [← ev] at e1 e2
  clear ev
  refine lv_aload_n C.x C.b dL_law_765 rfl (lv_at hl 3 rfl) ?_
  refine r_callV (As := []) (rest := []) C hR hS t1 rfl mk_X9_slept cl_L_95 (k_X9_slept t1 e1) ⟨⟨Nat.le_of_ble_eq_true rfl, Nat.le_of_ble_eq_true rfl⟩, ⟨rfl, rfl⟩, (show Kc + n + 0 ≤ 601024 by omega), (show Ks + 6 * n + 0 ≤ 7293034 by omega)⟩ rfl hl.1 rfl (Nat.le_of_ble_eq_true rfl) dL_law_766 (fun H locs hR hS hE1 z1 => ?_)
  have hR : Rel G h1 H := hR
  have t2 : hpT h1 202 = (1, 10) := hE1.at t2 (by decide)
  have t3 : hpT h1 230 = (3, 1) := hE1.at t3 (by decide)
  refine lv_aload_n C.x C.b dL_law_769 rfl (lv_at hl 2 rfl) ?_
  refine r_callV (As := []) (rest := [.long v1]) C hR hS t2 rfl mk_X10_slept cl_L_99 (k_X10_slept t2 e2) ⟨⟨Nat.le_of_ble_eq_true rfl, Nat.le_of_ble_eq_true rfl⟩, ⟨rfl, rfl⟩, (show Kc + n + 0 + 0 ≤ 601024 by omega), (show Ks + 6 * n + 0 + 0 ≤ 7293034 by omega)⟩ rfl hl.1 rfl (Nat.le_of_ble_eq_true rfl) dL_law_770 (fun H locs hR hS hE2 z2 => ?_)
  have hR : Rel G h2 H := hR
  have t3 : hpT h2 230 = (3, 1) := hE2.at t3 (by decide)
  refine W.lcmp C.x C.b dL_law_773 ?_
  refine lv_if_eq (tgt := 1656) C.x C.b dL_law_774 (by decide) (fun _ => ?_) (fun c => absurd ((lg_cmp_eq _ _).mpr rfl) c)
  refine W.widen (k := Kc + (n + 1)) (n := Ks + 6 * (n + 1)) (by omega) (by omega) ?_
  exact kk _ _ _ _ _ ⟨B2, t3, hR, hS, hl⟩
set_option maxRecDepth 100000 in
set_option maxHeartbeats 4000000 in
theorem lc_16 {G : Gt} {p : Program} {l : Launch} {e : Env} {s : State} {m : MethodId} {args : Array Value} {below : List Frame} {meth : Method} {c : Code} {H : Heap} {locs : List Loc} {Q : State → Prop} {ls : Array Slot} {b L : Nat} {xs : Nat → Int32} {i n : Nat} {h : Hp} {A : Ast} (X : LwC G p s m meth c args b L xs) (hi : i + 6 ≤ L) (hn : n < 1000) (I : LwI G s b i n h A H locs ls) (kk : ∀ (H : Heap) (locs : List Loc) (ls : Array Slot) (h : Hp) (A : Ast), LwI G s b i (n + 1) h A H locs ls → W p l e room_1 s m args below meth c H locs (Kc + (n + 1)) (Ks + 6 * (n + 1)) Q (F0 m 1656 ls [])) : W p l e room_1 s m args below meth c H locs (Kc + n) (Ks + 6 * n) Q (F0 m 779 ls []) := by
  obtain ⟨C, hr, hlk, hX, hbl, hbA, hL⟩ := X
  obtain ⟨B, t3, hR, hS, hl⟩ := I
  have hl : lv_has ls 8 [(4, .int (nI i)), (3, .ref (G.2.2 + 230)), (2, .ref (G.2.2 + 202)), (1, .ref (G.2.2 + 1)), (0, .ref b)] := hl
  have t1 := B.1.s.t1
  have t2 := B.2.1.s.1
  have hK := Kc_e
  have hK2 := Ks_e
  obtain ⟨h1, h2, e1, e2, B2⟩ := bo_crosses B hn
  obtain ⟨v1, ev⟩ : ∃ v, v = (sp_crosses A).1 := ⟨_, rfl⟩
  rw [← ev] at e1 e2
  clear ev
  refine lv_aload_n C.x C.b dL_law_779 rfl (lv_at hl 3 rfl) ?_
  refine r_callV (As := []) (rest := []) C hR hS t1 rfl mk_X9_crosses cl_L_100 (k_X9_crosses t1 e1) ⟨⟨Nat.le_of_ble_eq_true rfl, Nat.le_of_ble_eq_true rfl⟩, ⟨rfl, rfl⟩, (show Kc + n + 0 ≤ 601024 by omega), (show Ks + 6 * n + 0 ≤ 7293034 by omega)⟩ rfl hl.1 rfl (Nat.le_of_ble_eq_true rfl) dL_law_780 (fun H locs hR hS hE1 z1 => ?_)
  have hR : Rel G h1 H := hR
  have t2 : hpT h1 202 = (1, 10) := hE1.at t2 (by decide)
  have t3 : hpT h1 230 = (3, 1) := hE1.at t3 (by decide)
  refine lv_aload_n C.x C.b dL_law_783 rfl (lv_at hl 2 rfl) ?_
  refine r_callV (As := []) (rest := [.int v1]) C hR hS t2 rfl mk_X10_crosses cl_L_103 (k_X10_crosses t2 e2) ⟨⟨Nat.le_of_ble_eq_true rfl, Nat.le_of_ble_eq_true rfl⟩, ⟨rfl, rfl⟩, (show Kc + n + 0 + 0 ≤ 601024 by omega), (show Ks + 6 * n + 0 + 0 ≤ 7293034 by omega)⟩ rfl hl.1 rfl (Nat.le_of_ble_eq_true rfl) dL_law_784 (fun H locs hR hS hE2 z2 => ?_)
  have hR : Rel G h2 H := hR
  have t3 : hpT h2 230 = (3, 1) := hE2.at t3 (by decide)
  refine lv_icmp_eq (tgt := 1656) C.x C.b dL_law_787 (by decide) (fun _ => ?_) (fun c => absurd rfl c)
  refine W.widen (k := Kc + (n + 1)) (n := Ks + 6 * (n + 1)) (by omega) (by omega) ?_
  exact kk _ _ _ _ _ ⟨B2, t3, hR, hS, hl⟩
