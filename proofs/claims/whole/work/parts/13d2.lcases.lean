set_option maxRecDepth 100000 in
set_option maxHeartbeats 4000000 in
theorem lc_32 {G : Gt} {p : Program} {l : Launch} {e : Env} {s : State} {m : MethodId} {args : Array Value} {below : List Frame} {meth : Method} {c : Code} {H : Heap} {locs : List Loc} {Q : State → Prop} {ls : Array Slot} {b L : Nat} {xs : Nat → Int32} {i n : Nat} {h : Hp} {A : Ast} (X : LwC G p s m meth c args b L xs) (hi : i + 6 ≤ L) (hn : n < 1000) (I : LwI G s b i n h A H locs ls) (kk : ∀ (H : Heap) (locs : List Loc) (ls : Array Slot) (h : Hp) (A : Ast), LwI G s b i (n + 1) h A H locs ls → W p l e room_1 s m args below meth c H locs (Kc + (n + 1)) (Ks + 6 * (n + 1)) Q (F0 m 1656 ls [])) : W p l e room_1 s m args below meth c H locs (Kc + n) (Ks + 6 * n) Q (F0 m 1275 ls []) := by
  obtain ⟨C, hr, hlk, hX, hbl, hbA, hL⟩ := X
  obtain ⟨B, t3, hR, hS, hl⟩ := I
  have hl : lv_has ls 8 [(4, .int (nI i)), (3, .ref (G.2.2 + 230)), (2, .ref (G.2.2 + 202)), (1, .ref (G.2.2 + 1)), (0, .ref b)] := hl
  have t1 := B.1.s.t1
  have t2 := B.2.1.s.1
  have hK := Kc_e
  have hK2 := Ks_e
  obtain ⟨h1, h2, e1, e2, B2⟩ := bo_wiped B hn
  obtain ⟨v1, ev⟩ : ∃ v, v = (sp_wiped A).1 := ⟨_, rfl⟩
  rw [← ev] at e1 e2
  clear ev
  refine lv_aload_n C.x C.b dL_law_1275 rfl (lv_at hl 3 rfl) ?_
  refine r_callV (As := []) (rest := []) C hR hS t1 rfl mk_X9_wiped cl_L_165 (k_X9_wiped t1 e1) ⟨⟨Nat.le_of_ble_eq_true rfl, Nat.le_of_ble_eq_true rfl⟩, ⟨rfl, rfl⟩, (show Kc + n + 0 ≤ 601024 by omega), (show Ks + 6 * n + 0 ≤ 7293034 by omega)⟩ rfl hl.1 rfl (Nat.le_of_ble_eq_true rfl) dL_law_1276 (fun H locs hR hS hE1 z1 => ?_)
  have hR : Rel G h1 H := hR
  have t2 : hpT h1 202 = (1, 10) := hE1.at t2 (by decide)
  have t3 : hpT h1 230 = (3, 1) := hE1.at t3 (by decide)
  refine lv_aload_n C.x C.b dL_law_1279 rfl (lv_at hl 2 rfl) ?_
  refine r_callV (As := []) (rest := [.int v1]) C hR hS t2 rfl mk_X10_wiped cl_L_168 (k_X10_wiped t2 e2) ⟨⟨Nat.le_of_ble_eq_true rfl, Nat.le_of_ble_eq_true rfl⟩, ⟨rfl, rfl⟩, (show Kc + n + 0 + 0 ≤ 601024 by omega), (show Ks + 6 * n + 0 + 0 ≤ 7293034 by omega)⟩ rfl hl.1 rfl (Nat.le_of_ble_eq_true rfl) dL_law_1280 (fun H locs hR hS hE2 z2 => ?_)
  have hR : Rel G h2 H := hR
  have t3 : hpT h2 230 = (3, 1) := hE2.at t3 (by decide)
  refine lv_icmp_eq (tgt := 1656) C.x C.b dL_law_1283 (by decide) (fun _ => ?_) (fun c => absurd rfl c)
  refine W.widen (k := Kc + (n + 1)) (n := Ks + 6 * (n + 1)) (by omega) (by omega) ?_
  exact kk _ _ _ _ _ ⟨B2, t3, hR, hS, hl⟩
set_option maxRecDepth 100000 in
set_option maxHeartbeats 4000000 in
theorem lc_33 {G : Gt} {p : Program} {l : Launch} {e : Env} {s : State} {m : MethodId} {args : Array Value} {below : List Frame} {meth : Method} {c : Code} {H : Heap} {locs : List Loc} {Q : State → Prop} {ls : Array Slot} {b L : Nat} {xs : Nat → Int32} {i n : Nat} {h : Hp} {A : Ast} (X : LwC G p s m meth c args b L xs) (hi : i + 6 ≤ L) (hn : n < 1000) (I : LwI G s b i n h A H locs ls) (kk : ∀ (H : Heap) (locs : List Loc) (ls : Array Slot) (h : Hp) (A : Ast), LwI G s b i (n + 1) h A H locs ls → W p l e room_1 s m args below meth c H locs (Kc + (n + 1)) (Ks + 6 * (n + 1)) Q (F0 m 1656 ls [])) : W p l e room_1 s m args below meth c H locs (Kc + n) (Ks + 6 * n) Q (F0 m 1288 ls []) := by
  obtain ⟨C, hr, hlk, hX, hbl, hbA, hL⟩ := X
  obtain ⟨B, t3, hR, hS, hl⟩ := I
  have hl : lv_has ls 8 [(4, .int (nI i)), (3, .ref (G.2.2 + 230)), (2, .ref (G.2.2 + 202)), (1, .ref (G.2.2 + 1)), (0, .ref b)] := hl
  have t1 := B.1.s.t1
  have t2 := B.2.1.s.1
  have hK := Kc_e
  have hK2 := Ks_e
  obtain ⟨h1, h2, e1, e2, B2⟩ := bo_laws B hn
  obtain ⟨v1, ev⟩ : ∃ v, v = (sp_laws A).1 := ⟨_, rfl⟩
  rw [← ev] at e1 e2
  clear ev
  refine lv_aload_n C.x C.b dL_law_1288 rfl (lv_at hl 3 rfl) ?_
  refine r_callV (As := []) (rest := []) C hR hS t1 rfl mk_X9_laws cl_L_169 (k_X9_laws t1 e1) ⟨⟨Nat.le_of_ble_eq_true rfl, Nat.le_of_ble_eq_true rfl⟩, ⟨rfl, rfl⟩, (show Kc + n + 0 ≤ 601024 by omega), (show Ks + 6 * n + 0 ≤ 7293034 by omega)⟩ rfl hl.1 rfl (Nat.le_of_ble_eq_true rfl) dL_law_1289 (fun H locs hR hS hE1 z1 => ?_)
  have hR : Rel G h1 H := hR
  have t2 : hpT h1 202 = (1, 10) := hE1.at t2 (by decide)
  have t3 : hpT h1 230 = (3, 1) := hE1.at t3 (by decide)
  refine lv_aload_n C.x C.b dL_law_1292 rfl (lv_at hl 2 rfl) ?_
  refine r_callV (As := []) (rest := [.int v1]) C hR hS t2 rfl mk_X10_laws cl_L_172 (k_X10_laws t2 e2) ⟨⟨Nat.le_of_ble_eq_true rfl, Nat.le_of_ble_eq_true rfl⟩, ⟨rfl, rfl⟩, (show Kc + n + 0 + 0 ≤ 601024 by omega), (show Ks + 6 * n + 0 + 0 ≤ 7293034 by omega)⟩ rfl hl.1 rfl (Nat.le_of_ble_eq_true rfl) dL_law_1293 (fun H locs hR hS hE2 z2 => ?_)
  have hR : Rel G h2 H := hR
  have t3 : hpT h2 230 = (3, 1) := hE2.at t3 (by decide)
  refine lv_icmp_eq (tgt := 1656) C.x C.b dL_law_1296 (by decide) (fun _ => ?_) (fun c => absurd rfl c)
  refine W.widen (k := Kc + (n + 1)) (n := Ks + 6 * (n + 1)) (by omega) (by omega) ?_
  exact kk _ _ _ _ _ ⟨B2, t3, hR, hS, hl⟩
set_option maxRecDepth 100000 in
set_option maxHeartbeats 4000000 in
theorem lc_34 {G : Gt} {p : Program} {l : Launch} {e : Env} {s : State} {m : MethodId} {args : Array Value} {below : List Frame} {meth : Method} {c : Code} {H : Heap} {locs : List Loc} {Q : State → Prop} {ls : Array Slot} {b L : Nat} {xs : Nat → Int32} {i n : Nat} {h : Hp} {A : Ast} (X : LwC G p s m meth c args b L xs) (hi : i + 6 ≤ L) (hn : n < 1000) (I : LwI G s b i n h A H locs ls) (kk : ∀ (H : Heap) (locs : List Loc) (ls : Array Slot) (h : Hp) (A : Ast), LwI G s b i (n + 1) h A H locs ls → W p l e room_1 s m args below meth c H locs (Kc + (n + 1)) (Ks + 6 * (n + 1)) Q (F0 m 1656 ls [])) : W p l e room_1 s m args below meth c H locs (Kc + n) (Ks + 6 * n) Q (F0 m 1301 ls []) := by
  obtain ⟨C, hr, hlk, hX, hbl, hbA, hL⟩ := X
  obtain ⟨B, t3, hR, hS, hl⟩ := I
  have hl : lv_has ls 8 [(4, .int (nI i)), (3, .ref (G.2.2 + 230)), (2, .ref (G.2.2 + 202)), (1, .ref (G.2.2 + 1)), (0, .ref b)] := hl
  have t1 := B.1.s.t1
  have t2 := B.2.1.s.1
  have hK := Kc_e
  have hK2 := Ks_e
  obtain ⟨h1, h2, e1, e2, B2⟩ := bo_watch B hn
  obtain ⟨v1, ev⟩ : ∃ v, v = (sp_watch A).1 := ⟨_, rfl⟩
  rw [← ev] at e1 e2
  clear ev
  refine lv_aload_n C.x C.b dL_law_1301 rfl (lv_at hl 3 rfl) ?_
  refine r_callV (As := []) (rest := []) C hR hS t1 rfl mk_X9_watch cl_L_173 (k_X9_watch t1 e1) ⟨⟨Nat.le_of_ble_eq_true rfl, Nat.le_of_ble_eq_true rfl⟩, ⟨rfl, rfl⟩, (show Kc + n + 0 ≤ 601024 by omega), (show Ks + 6 * n + 0 ≤ 7293034 by omega)⟩ rfl hl.1 rfl (Nat.le_of_ble_eq_true rfl) dL_law_1302 (fun H locs hR hS hE1 z1 => ?_)
  have hR : Rel G h1 H := hR
  have t2 : hpT h1 202 = (1, 10) := hE1.at t2 (by decide)
  have t3 : hpT h1 230 = (3, 1) := hE1.at t3 (by decide)
  refine lv_aload_n C.x C.b dL_law_1305 rfl (lv_at hl 2 rfl) ?_
  refine r_callV (As := []) (rest := [.int v1]) C hR hS t2 rfl mk_X10_watch cl_L_176 (k_X10_watch t2 e2) ⟨⟨Nat.le_of_ble_eq_true rfl, Nat.le_of_ble_eq_true rfl⟩, ⟨rfl, rfl⟩, (show Kc + n + 0 + 0 ≤ 601024 by omega), (show Ks + 6 * n + 0 + 0 ≤ 7293034 by omega)⟩ rfl hl.1 rfl (Nat.le_of_ble_eq_true rfl) dL_law_1306 (fun H locs hR hS hE2 z2 => ?_)
  have hR : Rel G h2 H := hR
  have t3 : hpT h2 230 = (3, 1) := hE2.at t3 (by decide)
  refine lv_icmp_eq (tgt := 1656) C.x C.b dL_law_1309 (by decide) (fun _ => ?_) (fun c => absurd rfl c)
  refine W.widen (k := Kc + (n + 1)) (n := Ks + 6 * (n + 1)) (by omega) (by omega) ?_
  exact kk _ _ _ _ _ ⟨B2, t3, hR, hS, hl⟩
set_option maxRecDepth 100000 in
set_option maxHeartbeats 4000000 in
theorem lc_35 {G : Gt} {p : Program} {l : Launch} {e : Env} {s : State} {m : MethodId} {args : Array Value} {below : List Frame} {meth : Method} {c : Code} {H : Heap} {locs : List Loc} {Q : State → Prop} {ls : Array Slot} {b L : Nat} {xs : Nat → Int32} {i n : Nat} {h : Hp} {A : Ast} (X : LwC G p s m meth c args b L xs) (hi : i + 6 ≤ L) (hn : n < 1000) (I : LwI G s b i n h A H locs ls) (kk : ∀ (H : Heap) (locs : List Loc) (ls : Array Slot) (h : Hp) (A : Ast), LwI G s b i (n + 1) h A H locs ls → W p l e room_1 s m args below meth c H locs (Kc + (n + 1)) (Ks + 6 * (n + 1)) Q (F0 m 1656 ls [])) : W p l e room_1 s m args below meth c H locs (Kc + n) (Ks + 6 * n) Q (F0 m 1314 ls []) := by
  obtain ⟨C, hr, hlk, hX, hbl, hbA, hL⟩ := X
  obtain ⟨B, t3, hR, hS, hl⟩ := I
  have hl : lv_has ls 8 [(4, .int (nI i)), (3, .ref (G.2.2 + 230)), (2, .ref (G.2.2 + 202)), (1, .ref (G.2.2 + 1)), (0, .ref b)] := hl
  have t1 := B.1.s.t1
  have t2 := B.2.1.s.1
  have hK := Kc_e
  have hK2 := Ks_e
  obtain ⟨h1, h2, e1, e2, B2⟩ := bo_heard B hn (xs (nI i + (1 : Int32)).toNatClampNeg) (xs (nI i + (2 : Int32)).toNatClampNeg)
  obtain ⟨v1, ev⟩ : ∃ v, v = (sp_heard A (xs (nI i + (1 : Int32)).toNatClampNeg) (xs (nI i + (2 : Int32)).toNatClampNeg)).1 := ⟨_, rfl⟩
  rw [← ev] at e1 e2
  clear ev
  refine lv_aload_n C.x C.b dL_law_1314 rfl (lv_at hl 3 rfl) ?_
  refine lv_aload_n C.x C.b dL_law_1315 rfl (lv_at hl 4 rfl) ?_
  refine lv_iload C.x C.b dL_law_1316 (lv_at hl 0 rfl) ?_
  refine lv_iconst (v := (1 : Int32)) C.x C.b dL_law_1318 (by decide) ?_
  refine lv_iadd C.x C.b dL_law_1319 ?_
  refine va_sld C.x C.b hX hbl hbA hS (inL_1 hi hL) dL_law_1320 ?_
  refine lv_aload_n C.x C.b dL_law_1321 rfl (lv_at hl 4 rfl) ?_
  refine lv_iload C.x C.b dL_law_1322 (lv_at hl 0 rfl) ?_
  refine lv_iconst (v := (2 : Int32)) C.x C.b dL_law_1324 (by decide) ?_
  refine lv_iadd C.x C.b dL_law_1325 ?_
  refine va_sld C.x C.b hX hbl hbA hS (inL_2 hi hL) dL_law_1326 ?_
  refine r_callV (As := [.int (xs (nI i + (1 : Int32)).toNatClampNeg), .int (xs (nI i + (2 : Int32)).toNatClampNeg)]) (rest := []) C hR hS t1 rfl mk_X9_heard cl_L_177 (k_X9_heard t1 e1) ⟨⟨Nat.le_of_ble_eq_true rfl, Nat.le_of_ble_eq_true rfl⟩, ⟨rfl, rfl⟩, (show Kc + n + 0 ≤ 601024 by omega), (show Ks + 6 * n + 0 ≤ 7293034 by omega)⟩ rfl hl.1 rfl (Nat.le_of_ble_eq_true rfl) dL_law_1327 (fun H locs hR hS hE1 z1 => ?_)
  have hR : Rel G h1 H := hR
  have t2 : hpT h1 202 = (1, 10) := hE1.at t2 (by decide)
  have t3 : hpT h1 230 = (3, 1) := hE1.at t3 (by decide)
  refine lv_aload_n C.x C.b dL_law_1330 rfl (lv_at hl 2 rfl) ?_
  refine lv_aload_n C.x C.b dL_law_1331 rfl (lv_at hl 4 rfl) ?_
  refine lv_iload C.x C.b dL_law_1332 (lv_at hl 0 rfl) ?_
  refine lv_iconst (v := (1 : Int32)) C.x C.b dL_law_1334 (by decide) ?_
  refine lv_iadd C.x C.b dL_law_1335 ?_
  refine va_sld C.x C.b hX hbl hbA hS (inL_1 hi hL) dL_law_1336 ?_
  refine lv_aload_n C.x C.b dL_law_1337 rfl (lv_at hl 4 rfl) ?_
  refine lv_iload C.x C.b dL_law_1338 (lv_at hl 0 rfl) ?_
  refine lv_iconst (v := (2 : Int32)) C.x C.b dL_law_1340 (by decide) ?_
  refine lv_iadd C.x C.b dL_law_1341 ?_
  refine va_sld C.x C.b hX hbl hbA hS (inL_2 hi hL) dL_law_1342 ?_
  refine r_callV (As := [.int (xs (nI i + (1 : Int32)).toNatClampNeg), .int (xs (nI i + (2 : Int32)).toNatClampNeg)]) (rest := [.int v1]) C hR hS t2 rfl mk_X10_heard cl_L_180 (k_X10_heard t2 e2) ⟨⟨Nat.le_of_ble_eq_true rfl, Nat.le_of_ble_eq_true rfl⟩, ⟨rfl, rfl⟩, (show Kc + n + 0 + 0 ≤ 601024 by omega), (show Ks + 6 * n + 0 + 0 ≤ 7293034 by omega)⟩ rfl hl.1 rfl (Nat.le_of_ble_eq_true rfl) dL_law_1343 (fun H locs hR hS hE2 z2 => ?_)
  have hR : Rel G h2 H := hR
  have t3 : hpT h2 230 = (3, 1) := hE2.at t3 (by decide)
  refine lv_icmp_eq (tgt := 1656) C.x C.b dL_law_1346 (by decide) (fun _ => ?_) (fun c => absurd rfl c)
  refine W.widen (k := Kc + (n + 1)) (n := Ks + 6 * (n + 1)) (by omega) (by omega) ?_
  exact kk _ _ _ _ _ ⟨B2, t3, hR, hS, hl⟩
set_option maxRecDepth 100000 in
set_option maxHeartbeats 4000000 in
theorem lc_36 {G : Gt} {p : Program} {l : Launch} {e : Env} {s : State} {m : MethodId} {args : Array Value} {below : List Frame} {meth : Method} {c : Code} {H : Heap} {locs : List Loc} {Q : State → Prop} {ls : Array Slot} {b L : Nat} {xs : Nat → Int32} {i n : Nat} {h : Hp} {A : Ast} (X : LwC G p s m meth c args b L xs) (hi : i + 6 ≤ L) (hn : n < 1000) (I : LwI G s b i n h A H locs ls) (kk : ∀ (H : Heap) (locs : List Loc) (ls : Array Slot) (h : Hp) (A : Ast), LwI G s b i (n + 1) h A H locs ls → W p l e room_1 s m args below meth c H locs (Kc + (n + 1)) (Ks + 6 * (n + 1)) Q (F0 m 1656 ls [])) : W p l e room_1 s m args below meth c H locs (Kc + n) (Ks + 6 * n) Q (F0 m 1351 ls []) := by
  obtain ⟨C, hr, hlk, hX, hbl, hbA, hL⟩ := X
  obtain ⟨B, t3, hR, hS, hl⟩ := I
  have hl : lv_has ls 8 [(4, .int (nI i)), (3, .ref (G.2.2 + 230)), (2, .ref (G.2.2 + 202)), (1, .ref (G.2.2 + 1)), (0, .ref b)] := hl
  have t1 := B.1.s.t1
  have t2 := B.2.1.s.1
  have hK := Kc_e
  have hK2 := Ks_e
  obtain ⟨h1, h2, e1, e2, B2⟩ := bo_forget B hn
  obtain ⟨v1, ev⟩ : ∃ v, v = (sp_forget A).1 := ⟨_, rfl⟩
  rw [← ev] at e1 e2
  clear ev
  refine lv_aload_n C.x C.b dL_law_1351 rfl (lv_at hl 3 rfl) ?_
  refine r_callV (As := []) (rest := []) C hR hS t1 rfl mk_X9_forget cl_L_181 (k_X9_forget t1 e1) ⟨⟨Nat.le_of_ble_eq_true rfl, Nat.le_of_ble_eq_true rfl⟩, ⟨rfl, rfl⟩, (show Kc + n + 0 ≤ 601024 by omega), (show Ks + 6 * n + 0 ≤ 7293034 by omega)⟩ rfl hl.1 rfl (Nat.le_of_ble_eq_true rfl) dL_law_1352 (fun H locs hR hS hE1 z1 => ?_)
  have hR : Rel G h1 H := hR
  have t2 : hpT h1 202 = (1, 10) := hE1.at t2 (by decide)
  have t3 : hpT h1 230 = (3, 1) := hE1.at t3 (by decide)
  refine lv_aload_n C.x C.b dL_law_1355 rfl (lv_at hl 2 rfl) ?_
  refine r_callV (As := []) (rest := [.int v1]) C hR hS t2 rfl mk_X10_forget cl_L_184 (k_X10_forget t2 e2) ⟨⟨Nat.le_of_ble_eq_true rfl, Nat.le_of_ble_eq_true rfl⟩, ⟨rfl, rfl⟩, (show Kc + n + 0 + 0 ≤ 601024 by omega), (show Ks + 6 * n + 0 + 0 ≤ 7293034 by omega)⟩ rfl hl.1 rfl (Nat.le_of_ble_eq_true rfl) dL_law_1356 (fun H locs hR hS hE2 z2 => ?_)
  have hR : Rel G h2 H := hR
  have t3 : hpT h2 230 = (3, 1) := hE2.at t3 (by decide)
  refine lv_icmp_eq (tgt := 1656) C.x C.b dL_law_1359 (by decide) (fun _ => ?_) (fun c => absurd rfl c)
  refine W.widen (k := Kc + (n + 1)) (n := Ks + 6 * (n + 1)) (by omega) (by omega) ?_
  exact kk _ _ _ _ _ ⟨B2, t3, hR, hS, hl⟩
set_option maxRecDepth 100000 in
set_option maxHeartbeats 4000000 in
theorem lc_37 {G : Gt} {p : Program} {l : Launch} {e : Env} {s : State} {m : MethodId} {args : Array Value} {below : List Frame} {meth : Method} {c : Code} {H : Heap} {locs : List Loc} {Q : State → Prop} {ls : Array Slot} {b L : Nat} {xs : Nat → Int32} {i n : Nat} {h : Hp} {A : Ast} (X : LwC G p s m meth c args b L xs) (hi : i + 6 ≤ L) (hn : n < 1000) (I : LwI G s b i n h A H locs ls) (kk : ∀ (H : Heap) (locs : List Loc) (ls : Array Slot) (h : Hp) (A : Ast), LwI G s b i (n + 1) h A H locs ls → W p l e room_1 s m args below meth c H locs (Kc + (n + 1)) (Ks + 6 * (n + 1)) Q (F0 m 1656 ls [])) : W p l e room_1 s m args below meth c H locs (Kc + n) (Ks + 6 * n) Q (F0 m 1364 ls []) := by
  obtain ⟨C, hr, hlk, hX, hbl, hbA, hL⟩ := X
  obtain ⟨B, t3, hR, hS, hl⟩ := I
  have hl : lv_has ls 8 [(4, .int (nI i)), (3, .ref (G.2.2 + 230)), (2, .ref (G.2.2 + 202)), (1, .ref (G.2.2 + 1)), (0, .ref b)] := hl
  have t1 := B.1.s.t1
  have t2 := B.2.1.s.1
  have hK := Kc_e
  have hK2 := Ks_e
  obtain ⟨h1, h2, e1, e2, B2⟩ := bo_fits B hn
  obtain ⟨v1, ev⟩ : ∃ v, v = (sp_fits A).1 := ⟨_, rfl⟩
  rw [← ev] at e1 e2
  clear ev
  refine lv_aload_n C.x C.b dL_law_1364 rfl (lv_at hl 3 rfl) ?_
  refine r_callV (As := []) (rest := []) C hR hS t1 rfl mk_X9_fits cl_L_185 (k_X9_fits t1 e1) ⟨⟨Nat.le_of_ble_eq_true rfl, Nat.le_of_ble_eq_true rfl⟩, ⟨rfl, rfl⟩, (show Kc + n + 0 ≤ 601024 by omega), (show Ks + 6 * n + 0 ≤ 7293034 by omega)⟩ rfl hl.1 rfl (Nat.le_of_ble_eq_true rfl) dL_law_1365 (fun H locs hR hS hE1 z1 => ?_)
  have hR : Rel G h1 H := hR
  have t2 : hpT h1 202 = (1, 10) := hE1.at t2 (by decide)
  have t3 : hpT h1 230 = (3, 1) := hE1.at t3 (by decide)
  refine lv_aload_n C.x C.b dL_law_1368 rfl (lv_at hl 2 rfl) ?_
  refine r_callV (As := []) (rest := [.int v1]) C hR hS t2 rfl mk_X10_fits cl_L_188 (k_X10_fits t2 e2) ⟨⟨Nat.le_of_ble_eq_true rfl, Nat.le_of_ble_eq_true rfl⟩, ⟨rfl, rfl⟩, (show Kc + n + 0 + 0 ≤ 601024 by omega), (show Ks + 6 * n + 0 + 0 ≤ 7293034 by omega)⟩ rfl hl.1 rfl (Nat.le_of_ble_eq_true rfl) dL_law_1369 (fun H locs hR hS hE2 z2 => ?_)
  have hR : Rel G h2 H := hR
  have t3 : hpT h2 230 = (3, 1) := hE2.at t3 (by decide)
  refine lv_icmp_eq (tgt := 1656) C.x C.b dL_law_1372 (by decide) (fun _ => ?_) (fun c => absurd rfl c)
  refine W.widen (k := Kc + (n + 1)) (n := Ks + 6 * (n + 1)) (by omega) (by omega) ?_
  exact kk _ _ _ _ _ ⟨B2, t3, hR, hS, hl⟩
set_option maxRecDepth 100000 in
set_option maxHeartbeats 4000000 in
theorem lc_38 {G : Gt} {p : Program} {l : Launch} {e : Env} {s : State} {m : MethodId} {args : Array Value} {below : List Frame} {meth : Method} {c : Code} {H : Heap} {locs : List Loc} {Q : State → Prop} {ls : Array Slot} {b L : Nat} {xs : Nat → Int32} {i n : Nat} {h : Hp} {A : Ast} (X : LwC G p s m meth c args b L xs) (hi : i + 6 ≤ L) (hn : n < 1000) (I : LwI G s b i n h A H locs ls) (kk : ∀ (H : Heap) (locs : List Loc) (ls : Array Slot) (h : Hp) (A : Ast), LwI G s b i (n + 1) h A H locs ls → W p l e room_1 s m args below meth c H locs (Kc + (n + 1)) (Ks + 6 * (n + 1)) Q (F0 m 1656 ls [])) : W p l e room_1 s m args below meth c H locs (Kc + n) (Ks + 6 * n) Q (F0 m 1377 ls []) := by
  obtain ⟨C, hr, hlk, hX, hbl, hbA, hL⟩ := X
  obtain ⟨B, t3, hR, hS, hl⟩ := I
  have hl : lv_has ls 8 [(4, .int (nI i)), (3, .ref (G.2.2 + 230)), (2, .ref (G.2.2 + 202)), (1, .ref (G.2.2 + 1)), (0, .ref b)] := hl
  have t1 := B.1.s.t1
  have t2 := B.2.1.s.1
  have hK := Kc_e
  have hK2 := Ks_e
  obtain ⟨h1, h2, e1, e2, B2⟩ := bo_sung B hn (xs (nI i + (1 : Int32)).toNatClampNeg) (xs (nI i + (2 : Int32)).toNatClampNeg) (xs (nI i + (3 : Int32)).toNatClampNeg)
  obtain ⟨v1, ev⟩ : ∃ v, v = (sp_sung A (xs (nI i + (1 : Int32)).toNatClampNeg) (xs (nI i + (2 : Int32)).toNatClampNeg) (xs (nI i + (3 : Int32)).toNatClampNeg)).1 := ⟨_, rfl⟩
  rw [← ev] at e1 e2
  clear ev
  refine lv_aload_n C.x C.b dL_law_1377 rfl (lv_at hl 3 rfl) ?_
  refine lv_aload_n C.x C.b dL_law_1378 rfl (lv_at hl 4 rfl) ?_
  refine lv_iload C.x C.b dL_law_1379 (lv_at hl 0 rfl) ?_
  refine lv_iconst (v := (1 : Int32)) C.x C.b dL_law_1381 (by decide) ?_
  refine lv_iadd C.x C.b dL_law_1382 ?_
  refine va_sld C.x C.b hX hbl hbA hS (inL_1 hi hL) dL_law_1383 ?_
  refine lv_aload_n C.x C.b dL_law_1384 rfl (lv_at hl 4 rfl) ?_
  refine lv_iload C.x C.b dL_law_1385 (lv_at hl 0 rfl) ?_
  refine lv_iconst (v := (2 : Int32)) C.x C.b dL_law_1387 (by decide) ?_
  refine lv_iadd C.x C.b dL_law_1388 ?_
  refine va_sld C.x C.b hX hbl hbA hS (inL_2 hi hL) dL_law_1389 ?_
  refine lv_aload_n C.x C.b dL_law_1390 rfl (lv_at hl 4 rfl) ?_
  refine lv_iload C.x C.b dL_law_1391 (lv_at hl 0 rfl) ?_
  refine lv_iconst (v := (3 : Int32)) C.x C.b dL_law_1393 (by decide) ?_
  refine lv_iadd C.x C.b dL_law_1394 ?_
  refine va_sld C.x C.b hX hbl hbA hS (inL_3 hi hL) dL_law_1395 ?_
  refine r_callV (As := [.int (xs (nI i + (1 : Int32)).toNatClampNeg), .int (xs (nI i + (2 : Int32)).toNatClampNeg), .int (xs (nI i + (3 : Int32)).toNatClampNeg)]) (rest := []) C hR hS t1 rfl mk_X9_sung cl_L_189 (k_X9_sung t1 e1) ⟨⟨Nat.le_of_ble_eq_true rfl, Nat.le_of_ble_eq_true rfl⟩, ⟨rfl, rfl⟩, (show Kc + n + 0 ≤ 601024 by omega), (show Ks + 6 * n + 0 ≤ 7293034 by omega)⟩ rfl hl.1 rfl (Nat.le_of_ble_eq_true rfl) dL_law_1396 (fun H locs hR hS hE1 z1 => ?_)
  have hR : Rel G h1 H := hR
  have t2 : hpT h1 202 = (1, 10) := hE1.at t2 (by decide)
  have t3 : hpT h1 230 = (3, 1) := hE1.at t3 (by decide)
  refine lv_aload_n C.x C.b dL_law_1399 rfl (lv_at hl 2 rfl) ?_
  refine lv_aload_n C.x C.b dL_law_1400 rfl (lv_at hl 4 rfl) ?_
  refine lv_iload C.x C.b dL_law_1401 (lv_at hl 0 rfl) ?_
  refine lv_iconst (v := (1 : Int32)) C.x C.b dL_law_1403 (by decide) ?_
  refine lv_iadd C.x C.b dL_law_1404 ?_
  refine va_sld C.x C.b hX hbl hbA hS (inL_1 hi hL) dL_law_1405 ?_
  refine lv_aload_n C.x C.b dL_law_1406 rfl (lv_at hl 4 rfl) ?_
  refine lv_iload C.x C.b dL_law_1407 (lv_at hl 0 rfl) ?_
  refine lv_iconst (v := (2 : Int32)) C.x C.b dL_law_1409 (by decide) ?_
  refine lv_iadd C.x C.b dL_law_1410 ?_
  refine va_sld C.x C.b hX hbl hbA hS (inL_2 hi hL) dL_law_1411 ?_
  refine lv_aload_n C.x C.b dL_law_1412 rfl (lv_at hl 4 rfl) ?_
  refine lv_iload C.x C.b dL_law_1413 (lv_at hl 0 rfl) ?_
  refine lv_iconst (v := (3 : Int32)) C.x C.b dL_law_1415 (by decide) ?_
  refine lv_iadd C.x C.b dL_law_1416 ?_
  refine va_sld C.x C.b hX hbl hbA hS (inL_3 hi hL) dL_law_1417 ?_
  refine r_callV (As := [.int (xs (nI i + (1 : Int32)).toNatClampNeg), .int (xs (nI i + (2 : Int32)).toNatClampNeg), .int (xs (nI i + (3 : Int32)).toNatClampNeg)]) (rest := [.int v1]) C hR hS t2 rfl mk_X10_sung cl_L_192 (k_X10_sung t2 e2) ⟨⟨Nat.le_of_ble_eq_true rfl, Nat.le_of_ble_eq_true rfl⟩, ⟨rfl, rfl⟩, (show Kc + n + 0 + 0 ≤ 601024 by omega), (show Ks + 6 * n + 0 + 0 ≤ 7293034 by omega)⟩ rfl hl.1 rfl (Nat.le_of_ble_eq_true rfl) dL_law_1418 (fun H locs hR hS hE2 z2 => ?_)
  have hR : Rel G h2 H := hR
  have t3 : hpT h2 230 = (3, 1) := hE2.at t3 (by decide)
  refine lv_icmp_eq (tgt := 1656) C.x C.b dL_law_1421 (by decide) (fun _ => ?_) (fun c => absurd rfl c)
  refine W.widen (k := Kc + (n + 1)) (n := Ks + 6 * (n + 1)) (by omega) (by omega) ?_
  exact kk _ _ _ _ _ ⟨B2, t3, hR, hS, hl⟩
set_option maxRecDepth 100000 in
set_option maxHeartbeats 4000000 in
theorem lc_39 {G : Gt} {p : Program} {l : Launch} {e : Env} {s : State} {m : MethodId} {args : Array Value} {below : List Frame} {meth : Method} {c : Code} {H : Heap} {locs : List Loc} {Q : State → Prop} {ls : Array Slot} {b L : Nat} {xs : Nat → Int32} {i n : Nat} {h : Hp} {A : Ast} (X : LwC G p s m meth c args b L xs) (hi : i + 6 ≤ L) (hn : n < 1000) (I : LwI G s b i n h A H locs ls) (kk : ∀ (H : Heap) (locs : List Loc) (ls : Array Slot) (h : Hp) (A : Ast), LwI G s b i (n + 1) h A H locs ls → W p l e room_1 s m args below meth c H locs (Kc + (n + 1)) (Ks + 6 * (n + 1)) Q (F0 m 1656 ls [])) : W p l e room_1 s m args below meth c H locs (Kc + n) (Ks + 6 * n) Q (F0 m 1426 ls []) := by
  obtain ⟨C, hr, hlk, hX, hbl, hbA, hL⟩ := X
  obtain ⟨B, t3, hR, hS, hl⟩ := I
  have hl : lv_has ls 8 [(4, .int (nI i)), (3, .ref (G.2.2 + 230)), (2, .ref (G.2.2 + 202)), (1, .ref (G.2.2 + 1)), (0, .ref b)] := hl
  have t1 := B.1.s.t1
  have t2 := B.2.1.s.1
  have hK := Kc_e
  have hK2 := Ks_e
  obtain ⟨h1, h2, e1, e2, B2⟩ := bo_fence B hn (xs (nI i + (1 : Int32)).toNatClampNeg)
  obtain ⟨v1, ev⟩ : ∃ v, v = (sp_fence A (xs (nI i + (1 : Int32)).toNatClampNeg)).1 := ⟨_, rfl⟩
  rw [← ev] at e1 e2
  clear ev
  refine lv_aload_n C.x C.b dL_law_1426 rfl (lv_at hl 3 rfl) ?_
  refine lv_aload_n C.x C.b dL_law_1427 rfl (lv_at hl 4 rfl) ?_
  refine lv_iload C.x C.b dL_law_1428 (lv_at hl 0 rfl) ?_
  refine lv_iconst (v := (1 : Int32)) C.x C.b dL_law_1430 (by decide) ?_
  refine lv_iadd C.x C.b dL_law_1431 ?_
  refine va_sld C.x C.b hX hbl hbA hS (inL_1 hi hL) dL_law_1432 ?_
  refine r_callV (As := [.int (xs (nI i + (1 : Int32)).toNatClampNeg)]) (rest := []) C hR hS t1 rfl mk_X9_fence cl_L_193 (k_X9_fence t1 e1) ⟨⟨Nat.le_of_ble_eq_true rfl, Nat.le_of_ble_eq_true rfl⟩, ⟨rfl, rfl⟩, (show Kc + n + 0 ≤ 601024 by omega), (show Ks + 6 * n + 0 ≤ 7293034 by omega)⟩ rfl hl.1 rfl (Nat.le_of_ble_eq_true rfl) dL_law_1433 (fun H locs hR hS hE1 z1 => ?_)
  have hR : Rel G h1 H := hR
  have t2 : hpT h1 202 = (1, 10) := hE1.at t2 (by decide)
  have t3 : hpT h1 230 = (3, 1) := hE1.at t3 (by decide)
  refine lv_aload_n C.x C.b dL_law_1436 rfl (lv_at hl 2 rfl) ?_
  refine lv_aload_n C.x C.b dL_law_1437 rfl (lv_at hl 4 rfl) ?_
  refine lv_iload C.x C.b dL_law_1438 (lv_at hl 0 rfl) ?_
  refine lv_iconst (v := (1 : Int32)) C.x C.b dL_law_1440 (by decide) ?_
  refine lv_iadd C.x C.b dL_law_1441 ?_
  refine va_sld C.x C.b hX hbl hbA hS (inL_1 hi hL) dL_law_1442 ?_
  refine r_callV (As := [.int (xs (nI i + (1 : Int32)).toNatClampNeg)]) (rest := [.int v1]) C hR hS t2 rfl mk_X10_fence cl_L_196 (k_X10_fence t2 e2) ⟨⟨Nat.le_of_ble_eq_true rfl, Nat.le_of_ble_eq_true rfl⟩, ⟨rfl, rfl⟩, (show Kc + n + 0 + 0 ≤ 601024 by omega), (show Ks + 6 * n + 0 + 0 ≤ 7293034 by omega)⟩ rfl hl.1 rfl (Nat.le_of_ble_eq_true rfl) dL_law_1443 (fun H locs hR hS hE2 z2 => ?_)
  have hR : Rel G h2 H := hR
  have t3 : hpT h2 230 = (3, 1) := hE2.at t3 (by decide)
  refine lv_icmp_eq (tgt := 1656) C.x C.b dL_law_1446 (by decide) (fun _ => ?_) (fun c => absurd rfl c)
  refine W.widen (k := Kc + (n + 1)) (n := Ks + 6 * (n + 1)) (by omega) (by omega) ?_
  exact kk _ _ _ _ _ ⟨B2, t3, hR, hS, hl⟩
set_option maxRecDepth 100000 in
set_option maxHeartbeats 4000000 in
theorem lc_40 {G : Gt} {p : Program} {l : Launch} {e : Env} {s : State} {m : MethodId} {args : Array Value} {below : List Frame} {meth : Method} {c : Code} {H : Heap} {locs : List Loc} {Q : State → Prop} {ls : Array Slot} {b L : Nat} {xs : Nat → Int32} {i n : Nat} {h : Hp} {A : Ast} (X : LwC G p s m meth c args b L xs) (hi : i + 6 ≤ L) (hn : n < 1000) (I : LwI G s b i n h A H locs ls) (kk : ∀ (H : Heap) (locs : List Loc) (ls : Array Slot) (h : Hp) (A : Ast), LwI G s b i (n + 1) h A H locs ls → W p l e room_1 s m args below meth c H locs (Kc + (n + 1)) (Ks + 6 * (n + 1)) Q (F0 m 1656 ls [])) : W p l e room_1 s m args below meth c H locs (Kc + n) (Ks + 6 * n) Q (F0 m 1451 ls []) := by
  obtain ⟨C, hr, hlk, hX, hbl, hbA, hL⟩ := X
  obtain ⟨B, t3, hR, hS, hl⟩ := I
  have hl : lv_has ls 8 [(4, .int (nI i)), (3, .ref (G.2.2 + 230)), (2, .ref (G.2.2 + 202)), (1, .ref (G.2.2 + 1)), (0, .ref b)] := hl
  have t1 := B.1.s.t1
  have t2 := B.2.1.s.1
  have hK := Kc_e
  have hK2 := Ks_e
  obtain ⟨h1, h2, e1, e2, B2⟩ := bo_law B hn
  obtain ⟨v1, ev⟩ : ∃ v, v = (sp_law A).1 := ⟨_, rfl⟩
  rw [← ev] at e1 e2
  clear ev
  refine lv_aload_n C.x C.b dL_law_1451 rfl (lv_at hl 3 rfl) ?_
  refine r_callV (As := []) (rest := []) C hR hS t1 rfl mk_X9_law cl_L_197 (k_X9_law t1 e1) ⟨⟨Nat.le_of_ble_eq_true rfl, Nat.le_of_ble_eq_true rfl⟩, ⟨rfl, rfl⟩, (show Kc + n + 0 ≤ 601024 by omega), (show Ks + 6 * n + 0 ≤ 7293034 by omega)⟩ rfl hl.1 rfl (Nat.le_of_ble_eq_true rfl) dL_law_1452 (fun H locs hR hS hE1 z1 => ?_)
  have hR : Rel G h1 H := hR
  have t2 : hpT h1 202 = (1, 10) := hE1.at t2 (by decide)
  have t3 : hpT h1 230 = (3, 1) := hE1.at t3 (by decide)
  refine lv_aload_n C.x C.b dL_law_1455 rfl (lv_at hl 2 rfl) ?_
  refine r_callV (As := []) (rest := [.int v1]) C hR hS t2 rfl mk_X10_law cl_L_200 (k_X10_law t2 e2) ⟨⟨Nat.le_of_ble_eq_true rfl, Nat.le_of_ble_eq_true rfl⟩, ⟨rfl, rfl⟩, (show Kc + n + 0 + 0 ≤ 601024 by omega), (show Ks + 6 * n + 0 + 0 ≤ 7293034 by omega)⟩ rfl hl.1 rfl (Nat.le_of_ble_eq_true rfl) dL_law_1456 (fun H locs hR hS hE2 z2 => ?_)
  have hR : Rel G h2 H := hR
  have t3 : hpT h2 230 = (3, 1) := hE2.at t3 (by decide)
  refine lv_icmp_eq (tgt := 1656) C.x C.b dL_law_1459 (by decide) (fun _ => ?_) (fun c => absurd rfl c)
  refine W.widen (k := Kc + (n + 1)) (n := Ks + 6 * (n + 1)) (by omega) (by omega) ?_
  exact kk _ _ _ _ _ ⟨B2, t3, hR, hS, hl⟩
set_option maxRecDepth 100000 in
set_option maxHeartbeats 4000000 in
theorem lc_41 {G : Gt} {p : Program} {l : Launch} {e : Env} {s : State} {m : MethodId} {args : Array Value} {below : List Frame} {meth : Method} {c : Code} {H : Heap} {locs : List Loc} {Q : State → Prop} {ls : Array Slot} {b L : Nat} {xs : Nat → Int32} {i n : Nat} {h : Hp} {A : Ast} (X : LwC G p s m meth c args b L xs) (hi : i + 6 ≤ L) (hn : n < 1000) (I : LwI G s b i n h A H locs ls) (kk : ∀ (H : Heap) (locs : List Loc) (ls : Array Slot) (h : Hp) (A : Ast), LwI G s b i (n + 1) h A H locs ls → W p l e room_1 s m args below meth c H locs (Kc + (n + 1)) (Ks + 6 * (n + 1)) Q (F0 m 1656 ls [])) : W p l e room_1 s m args below meth c H locs (Kc + n) (Ks + 6 * n) Q (F0 m 1464 ls []) := by
  obtain ⟨C, hr, hlk, hX, hbl, hbA, hL⟩ := X
  obtain ⟨B, t3, hR, hS, hl⟩ := I
  have hl : lv_has ls 8 [(4, .int (nI i)), (3, .ref (G.2.2 + 230)), (2, .ref (G.2.2 + 202)), (1, .ref (G.2.2 + 1)), (0, .ref b)] := hl
  have t1 := B.1.s.t1
  have t2 := B.2.1.s.1
  have hK := Kc_e
  have hK2 := Ks_e
  obtain ⟨h1, h2, e1, e2, B2⟩ := bo_rests B hn (xs (nI i + (1 : Int32)).toNatClampNeg)
  obtain ⟨v1, ev⟩ : ∃ v, v = (sp_rests A (xs (nI i + (1 : Int32)).toNatClampNeg)).1 := ⟨_, rfl⟩
  rw [← ev] at e1 e2
  clear ev
  refine lv_aload_n C.x C.b dL_law_1464 rfl (lv_at hl 3 rfl) ?_
  refine lv_aload_n C.x C.b dL_law_1465 rfl (lv_at hl 4 rfl) ?_
  refine lv_iload C.x C.b dL_law_1466 (lv_at hl 0 rfl) ?_
  refine lv_iconst (v := (1 : Int32)) C.x C.b dL_law_1468 (by decide) ?_
  refine lv_iadd C.x C.b dL_law_1469 ?_
  refine va_sld C.x C.b hX hbl hbA hS (inL_1 hi hL) dL_law_1470 ?_
  refine r_callV (As := [.int (xs (nI i + (1 : Int32)).toNatClampNeg)]) (rest := []) C hR hS t1 rfl mk_X9_rests cl_L_201 (k_X9_rests t1 e1) ⟨⟨Nat.le_of_ble_eq_true rfl, Nat.le_of_ble_eq_true rfl⟩, ⟨rfl, rfl⟩, (show Kc + n + 0 ≤ 601024 by omega), (show Ks + 6 * n + 0 ≤ 7293034 by omega)⟩ rfl hl.1 rfl (Nat.le_of_ble_eq_true rfl) dL_law_1471 (fun H locs hR hS hE1 z1 => ?_)
  have hR : Rel G h1 H := hR
  have t2 : hpT h1 202 = (1, 10) := hE1.at t2 (by decide)
  have t3 : hpT h1 230 = (3, 1) := hE1.at t3 (by decide)
  refine lv_aload_n C.x C.b dL_law_1474 rfl (lv_at hl 2 rfl) ?_
  refine lv_aload_n C.x C.b dL_law_1475 rfl (lv_at hl 4 rfl) ?_
  refine lv_iload C.x C.b dL_law_1476 (lv_at hl 0 rfl) ?_
  refine lv_iconst (v := (1 : Int32)) C.x C.b dL_law_1478 (by decide) ?_
  refine lv_iadd C.x C.b dL_law_1479 ?_
  refine va_sld C.x C.b hX hbl hbA hS (inL_1 hi hL) dL_law_1480 ?_
  refine r_callV (As := [.int (xs (nI i + (1 : Int32)).toNatClampNeg)]) (rest := [.int v1]) C hR hS t2 rfl mk_X10_rests cl_L_204 (k_X10_rests t2 e2) ⟨⟨Nat.le_of_ble_eq_true rfl, Nat.le_of_ble_eq_true rfl⟩, ⟨rfl, rfl⟩, (show Kc + n + 0 + 0 ≤ 601024 by omega), (show Ks + 6 * n + 0 + 0 ≤ 7293034 by omega)⟩ rfl hl.1 rfl (Nat.le_of_ble_eq_true rfl) dL_law_1481 (fun H locs hR hS hE2 z2 => ?_)
  have hR : Rel G h2 H := hR
  have t3 : hpT h2 230 = (3, 1) := hE2.at t3 (by decide)
  refine lv_icmp_eq (tgt := 1656) C.x C.b dL_law_1484 (by decide) (fun _ => ?_) (fun c => absurd rfl c)
  refine W.widen (k := Kc + (n + 1)) (n := Ks + 6 * (n + 1)) (by omega) (by omega) ?_
  exact kk _ _ _ _ _ ⟨B2, t3, hR, hS, hl⟩
set_option maxRecDepth 100000 in
set_option maxHeartbeats 4000000 in
theorem lc_42 {G : Gt} {p : Program} {l : Launch} {e : Env} {s : State} {m : MethodId} {args : Array Value} {below : List Frame} {meth : Method} {c : Code} {H : Heap} {locs : List Loc} {Q : State → Prop} {ls : Array Slot} {b L : Nat} {xs : Nat → Int32} {i n : Nat} {h : Hp} {A : Ast} (X : LwC G p s m meth c args b L xs) (hi : i + 6 ≤ L) (hn : n < 1000) (I : LwI G s b i n h A H locs ls) (kk : ∀ (H : Heap) (locs : List Loc) (ls : Array Slot) (h : Hp) (A : Ast), LwI G s b i (n + 1) h A H locs ls → W p l e room_1 s m args below meth c H locs (Kc + (n + 1)) (Ks + 6 * (n + 1)) Q (F0 m 1656 ls [])) : W p l e room_1 s m args below meth c H locs (Kc + n) (Ks + 6 * n) Q (F0 m 1489 ls []) := by
  obtain ⟨C, hr, hlk, hX, hbl, hbA, hL⟩ := X
  obtain ⟨B, t3, hR, hS, hl⟩ := I
  have hl : lv_has ls 8 [(4, .int (nI i)), (3, .ref (G.2.2 + 230)), (2, .ref (G.2.2 + 202)), (1, .ref (G.2.2 + 1)), (0, .ref b)] := hl
  have t1 := B.1.s.t1
  have t2 := B.2.1.s.1
  have hK := Kc_e
  have hK2 := Ks_e
  obtain ⟨h1, h2, e1, e2, B2⟩ := bo_drawn B hn (xs (nI i + (1 : Int32)).toNatClampNeg) (xs (nI i + (2 : Int32)).toNatClampNeg)
  obtain ⟨v1, ev⟩ : ∃ v, v = (sp_drawn A (xs (nI i + (1 : Int32)).toNatClampNeg) (xs (nI i + (2 : Int32)).toNatClampNeg)).1 := ⟨_, rfl⟩
  rw [← ev] at e1 e2
  clear ev
  refine lv_aload_n C.x C.b dL_law_1489 rfl (lv_at hl 3 rfl) ?_
  refine lv_aload_n C.x C.b dL_law_1490 rfl (lv_at hl 4 rfl) ?_
  refine lv_iload C.x C.b dL_law_1491 (lv_at hl 0 rfl) ?_
  refine lv_iconst (v := (1 : Int32)) C.x C.b dL_law_1493 (by decide) ?_
  refine lv_iadd C.x C.b dL_law_1494 ?_
  refine va_sld C.x C.b hX hbl hbA hS (inL_1 hi hL) dL_law_1495 ?_
  refine lv_aload_n C.x C.b dL_law_1496 rfl (lv_at hl 4 rfl) ?_
  refine lv_iload C.x C.b dL_law_1497 (lv_at hl 0 rfl) ?_
  refine lv_iconst (v := (2 : Int32)) C.x C.b dL_law_1499 (by decide) ?_
  refine lv_iadd C.x C.b dL_law_1500 ?_
  refine va_sld C.x C.b hX hbl hbA hS (inL_2 hi hL) dL_law_1501 ?_
  refine r_callV (As := [.int (xs (nI i + (1 : Int32)).toNatClampNeg), .int (xs (nI i + (2 : Int32)).toNatClampNeg)]) (rest := []) C hR hS t1 rfl mk_X9_drawn cl_L_205 (k_X9_drawn t1 e1) ⟨⟨Nat.le_of_ble_eq_true rfl, Nat.le_of_ble_eq_true rfl⟩, ⟨rfl, rfl⟩, (show Kc + n + 1 ≤ 601024 by omega), (show Ks + 6 * n + 1 ≤ 7293034 by omega)⟩ rfl hl.1 rfl (Nat.le_of_ble_eq_true rfl) dL_law_1502 (fun H locs hR hS hE1 z1 => ?_)
  have hR : Rel G h1 H := hR
  have t2 : hpT h1 202 = (1, 10) := hE1.at t2 (by decide)
  have t3 : hpT h1 230 = (3, 1) := hE1.at t3 (by decide)
  refine lv_aload_n C.x C.b dL_law_1505 rfl (lv_at hl 2 rfl) ?_
  refine lv_aload_n C.x C.b dL_law_1506 rfl (lv_at hl 4 rfl) ?_
  refine lv_iload C.x C.b dL_law_1507 (lv_at hl 0 rfl) ?_
  refine lv_iconst (v := (1 : Int32)) C.x C.b dL_law_1509 (by decide) ?_
  refine lv_iadd C.x C.b dL_law_1510 ?_
  refine va_sld C.x C.b hX hbl hbA hS (inL_1 hi hL) dL_law_1511 ?_
  refine lv_aload_n C.x C.b dL_law_1512 rfl (lv_at hl 4 rfl) ?_
  refine lv_iload C.x C.b dL_law_1513 (lv_at hl 0 rfl) ?_
  refine lv_iconst (v := (2 : Int32)) C.x C.b dL_law_1515 (by decide) ?_
  refine lv_iadd C.x C.b dL_law_1516 ?_
  refine va_sld C.x C.b hX hbl hbA hS (inL_2 hi hL) dL_law_1517 ?_
  refine r_callV (As := [.int (xs (nI i + (1 : Int32)).toNatClampNeg), .int (xs (nI i + (2 : Int32)).toNatClampNeg)]) (rest := [.int v1]) C hR hS t2 rfl mk_X10_drawn cl_L_208 (k_X10_drawn t2 e2) ⟨⟨Nat.le_of_ble_eq_true rfl, Nat.le_of_ble_eq_true rfl⟩, ⟨rfl, rfl⟩, (show Kc + n + 1 + 0 ≤ 601024 by omega), (show Ks + 6 * n + 1 + 0 ≤ 7293034 by omega)⟩ rfl hl.1 rfl (Nat.le_of_ble_eq_true rfl) dL_law_1518 (fun H locs hR hS hE2 z2 => ?_)
  have hR : Rel G h2 H := hR
  have t3 : hpT h2 230 = (3, 1) := hE2.at t3 (by decide)
  refine lv_icmp_eq (tgt := 1656) C.x C.b dL_law_1521 (by decide) (fun _ => ?_) (fun c => absurd rfl c)
  refine W.widen (k := Kc + (n + 1)) (n := Ks + 6 * (n + 1)) (by omega) (by omega) ?_
  exact kk _ _ _ _ _ ⟨B2, t3, hR, hS, hl⟩
set_option maxRecDepth 100000 in
set_option maxHeartbeats 4000000 in
theorem lc_43 {G : Gt} {p : Program} {l : Launch} {e : Env} {s : State} {m : MethodId} {args : Array Value} {below : List Frame} {meth : Method} {c : Code} {H : Heap} {locs : List Loc} {Q : State → Prop} {ls : Array Slot} {b L : Nat} {xs : Nat → Int32} {i n : Nat} {h : Hp} {A : Ast} (X : LwC G p s m meth c args b L xs) (hi : i + 6 ≤ L) (hn : n < 1000) (I : LwI G s b i n h A H locs ls) (kk : ∀ (H : Heap) (locs : List Loc) (ls : Array Slot) (h : Hp) (A : Ast), LwI G s b i (n + 1) h A H locs ls → W p l e room_1 s m args below meth c H locs (Kc + (n + 1)) (Ks + 6 * (n + 1)) Q (F0 m 1656 ls [])) : W p l e room_1 s m args below meth c H locs (Kc + n) (Ks + 6 * n) Q (F0 m 1526 ls []) := by
  obtain ⟨C, hr, hlk, hX, hbl, hbA, hL⟩ := X
  obtain ⟨B, t3, hR, hS, hl⟩ := I
  have hl : lv_has ls 8 [(4, .int (nI i)), (3, .ref (G.2.2 + 230)), (2, .ref (G.2.2 + 202)), (1, .ref (G.2.2 + 1)), (0, .ref b)] := hl
  have t1 := B.1.s.t1
  have t2 := B.2.1.s.1
  have hK := Kc_e
  have hK2 := Ks_e
  obtain ⟨h1, h2, e1, e2, B2⟩ := bo_keep B hn (xs (nI i + (1 : Int32)).toNatClampNeg)
  obtain ⟨v1, ev⟩ : ∃ v, v = (sp_keep A (xs (nI i + (1 : Int32)).toNatClampNeg)).1 := ⟨_, rfl⟩
  rw [← ev] at e1 e2
  clear ev
  refine lv_aload_n C.x C.b dL_law_1526 rfl (lv_at hl 3 rfl) ?_
  refine lv_aload_n C.x C.b dL_law_1527 rfl (lv_at hl 4 rfl) ?_
  refine lv_iload C.x C.b dL_law_1528 (lv_at hl 0 rfl) ?_
  refine lv_iconst (v := (1 : Int32)) C.x C.b dL_law_1530 (by decide) ?_
  refine lv_iadd C.x C.b dL_law_1531 ?_
  refine va_sld C.x C.b hX hbl hbA hS (inL_1 hi hL) dL_law_1532 ?_
  refine r_callV (As := [.int (xs (nI i + (1 : Int32)).toNatClampNeg)]) (rest := []) C hR hS t1 rfl mk_X9_keep cl_L_209 (k_X9_keep t1 e1) ⟨⟨Nat.le_of_ble_eq_true rfl, Nat.le_of_ble_eq_true rfl⟩, ⟨rfl, rfl⟩, (show Kc + n + 0 ≤ 601024 by omega), (show Ks + 6 * n + 0 ≤ 7293034 by omega)⟩ rfl hl.1 rfl (Nat.le_of_ble_eq_true rfl) dL_law_1533 (fun H locs hR hS hE1 z1 => ?_)
  have hR : Rel G h1 H := hR
  have t2 : hpT h1 202 = (1, 10) := hE1.at t2 (by decide)
  have t3 : hpT h1 230 = (3, 1) := hE1.at t3 (by decide)
  refine lv_aload_n C.x C.b dL_law_1536 rfl (lv_at hl 2 rfl) ?_
  refine lv_aload_n C.x C.b dL_law_1537 rfl (lv_at hl 4 rfl) ?_
  refine lv_iload C.x C.b dL_law_1538 (lv_at hl 0 rfl) ?_
  refine lv_iconst (v := (1 : Int32)) C.x C.b dL_law_1540 (by decide) ?_
  refine lv_iadd C.x C.b dL_law_1541 ?_
  refine va_sld C.x C.b hX hbl hbA hS (inL_1 hi hL) dL_law_1542 ?_
  refine r_callV (As := [.int (xs (nI i + (1 : Int32)).toNatClampNeg)]) (rest := [.int v1]) C hR hS t2 rfl mk_X10_keep cl_L_212 (k_X10_keep t2 e2) ⟨⟨Nat.le_of_ble_eq_true rfl, Nat.le_of_ble_eq_true rfl⟩, ⟨rfl, rfl⟩, (show Kc + n + 0 + 0 ≤ 601024 by omega), (show Ks + 6 * n + 0 + 0 ≤ 7293034 by omega)⟩ rfl hl.1 rfl (Nat.le_of_ble_eq_true rfl) dL_law_1543 (fun H locs hR hS hE2 z2 => ?_)
  have hR : Rel G h2 H := hR
  have t3 : hpT h2 230 = (3, 1) := hE2.at t3 (by decide)
  refine lv_icmp_eq (tgt := 1656) C.x C.b dL_law_1546 (by decide) (fun _ => ?_) (fun c => absurd rfl c)
  refine W.widen (k := Kc + (n + 1)) (n := Ks + 6 * (n + 1)) (by omega) (by omega) ?_
  exact kk _ _ _ _ _ ⟨B2, t3, hR, hS, hl⟩
set_option maxRecDepth 100000 in
set_option maxHeartbeats 4000000 in
theorem lc_44 {G : Gt} {p : Program} {l : Launch} {e : Env} {s : State} {m : MethodId} {args : Array Value} {below : List Frame} {meth : Method} {c : Code} {H : Heap} {locs : List Loc} {Q : State → Prop} {ls : Array Slot} {b L : Nat} {xs : Nat → Int32} {i n : Nat} {h : Hp} {A : Ast} (X : LwC G p s m meth c args b L xs) (hi : i + 6 ≤ L) (hn : n < 1000) (I : LwI G s b i n h A H locs ls) (kk : ∀ (H : Heap) (locs : List Loc) (ls : Array Slot) (h : Hp) (A : Ast), LwI G s b i (n + 1) h A H locs ls → W p l e room_1 s m args below meth c H locs (Kc + (n + 1)) (Ks + 6 * (n + 1)) Q (F0 m 1656 ls [])) : W p l e room_1 s m args below meth c H locs (Kc + n) (Ks + 6 * n) Q (F0 m 1551 ls []) := by
  obtain ⟨C, hr, hlk, hX, hbl, hbA, hL⟩ := X
  obtain ⟨B, t3, hR, hS, hl⟩ := I
  have hl : lv_has ls 8 [(4, .int (nI i)), (3, .ref (G.2.2 + 230)), (2, .ref (G.2.2 + 202)), (1, .ref (G.2.2 + 1)), (0, .ref b)] := hl
  have t1 := B.1.s.t1
  have t2 := B.2.1.s.1
  have hK := Kc_e
  have hK2 := Ks_e
  obtain ⟨h1, h2, e1, e2, B2⟩ := bo_again B hn (xs (nI i + (1 : Int32)).toNatClampNeg)
  obtain ⟨v1, ev⟩ : ∃ v, v = (sp_again A (xs (nI i + (1 : Int32)).toNatClampNeg)).1 := ⟨_, rfl⟩
  rw [← ev] at e1 e2
  clear ev
  refine lv_aload_n C.x C.b dL_law_1551 rfl (lv_at hl 3 rfl) ?_
  refine lv_aload_n C.x C.b dL_law_1552 rfl (lv_at hl 4 rfl) ?_
  refine lv_iload C.x C.b dL_law_1553 (lv_at hl 0 rfl) ?_
  refine lv_iconst (v := (1 : Int32)) C.x C.b dL_law_1555 (by decide) ?_
  refine lv_iadd C.x C.b dL_law_1556 ?_
  refine va_sld C.x C.b hX hbl hbA hS (inL_1 hi hL) dL_law_1557 ?_
  refine r_callV (As := [.int (xs (nI i + (1 : Int32)).toNatClampNeg)]) (rest := []) C hR hS t1 rfl mk_X9_again cl_L_213 (k_X9_again t1 e1) ⟨⟨Nat.le_of_ble_eq_true rfl, Nat.le_of_ble_eq_true rfl⟩, ⟨rfl, rfl⟩, (show Kc + n + 0 ≤ 601024 by omega), (show Ks + 6 * n + 0 ≤ 7293034 by omega)⟩ rfl hl.1 rfl (Nat.le_of_ble_eq_true rfl) dL_law_1558 (fun H locs hR hS hE1 z1 => ?_)
  have hR : Rel G h1 H := hR
  have t2 : hpT h1 202 = (1, 10) := hE1.at t2 (by decide)
  have t3 : hpT h1 230 = (3, 1) := hE1.at t3 (by decide)
  refine lv_aload_n C.x C.b dL_law_1561 rfl (lv_at hl 2 rfl) ?_
  refine lv_aload_n C.x C.b dL_law_1562 rfl (lv_at hl 4 rfl) ?_
  refine lv_iload C.x C.b dL_law_1563 (lv_at hl 0 rfl) ?_
  refine lv_iconst (v := (1 : Int32)) C.x C.b dL_law_1565 (by decide) ?_
  refine lv_iadd C.x C.b dL_law_1566 ?_
  refine va_sld C.x C.b hX hbl hbA hS (inL_1 hi hL) dL_law_1567 ?_
  refine r_callV (As := [.int (xs (nI i + (1 : Int32)).toNatClampNeg)]) (rest := [.int v1]) C hR hS t2 rfl mk_X10_again cl_L_216 (k_X10_again t2 e2) ⟨⟨Nat.le_of_ble_eq_true rfl, Nat.le_of_ble_eq_true rfl⟩, ⟨rfl, rfl⟩, (show Kc + n + 0 + 0 ≤ 601024 by omega), (show Ks + 6 * n + 0 + 0 ≤ 7293034 by omega)⟩ rfl hl.1 rfl (Nat.le_of_ble_eq_true rfl) dL_law_1568 (fun H locs hR hS hE2 z2 => ?_)
  have hR : Rel G h2 H := hR
  have t3 : hpT h2 230 = (3, 1) := hE2.at t3 (by decide)
  refine lv_icmp_eq (tgt := 1656) C.x C.b dL_law_1571 (by decide) (fun _ => ?_) (fun c => absurd rfl c)
  refine W.widen (k := Kc + (n + 1)) (n := Ks + 6 * (n + 1)) (by omega) (by omega) ?_
  exact kk _ _ _ _ _ ⟨B2, t3, hR, hS, hl⟩
set_option maxRecDepth 100000 in
set_option maxHeartbeats 4000000 in
theorem lc_45 {G : Gt} {p : Program} {l : Launch} {e : Env} {s : State} {m : MethodId} {args : Array Value} {below : List Frame} {meth : Method} {c : Code} {H : Heap} {locs : List Loc} {Q : State → Prop} {ls : Array Slot} {b L : Nat} {xs : Nat → Int32} {i n : Nat} {h : Hp} {A : Ast} (X : LwC G p s m meth c args b L xs) (hi : i + 6 ≤ L) (hn : n < 1000) (I : LwI G s b i n h A H locs ls) (kk : ∀ (H : Heap) (locs : List Loc) (ls : Array Slot) (h : Hp) (A : Ast), LwI G s b i (n + 1) h A H locs ls → W p l e room_1 s m args below meth c H locs (Kc + (n + 1)) (Ks + 6 * (n + 1)) Q (F0 m 1656 ls [])) : W p l e room_1 s m args below meth c H locs (Kc + n) (Ks + 6 * n) Q (F0 m 1576 ls []) := by
  obtain ⟨C, hr, hlk, hX, hbl, hbA, hL⟩ := X
  obtain ⟨B, t3, hR, hS, hl⟩ := I
  have hl : lv_has ls 8 [(4, .int (nI i)), (3, .ref (G.2.2 + 230)), (2, .ref (G.2.2 + 202)), (1, .ref (G.2.2 + 1)), (0, .ref b)] := hl
  have t1 := B.1.s.t1
  have t2 := B.2.1.s.1
  have hK := Kc_e
  have hK2 := Ks_e
  obtain ⟨h2, e1, e2, B2⟩ := bo_count B hn (xs (nI i + (1 : Int32)).toNatClampNeg)
  generalize sp_count A (xs (nI i + (1 : Int32)).toNatClampNeg) = v1 at e1 e2
  refine lv_aload_n C.x C.b dL_law_1576 rfl (lv_at hl 3 rfl) ?_
  refine lv_aload_n C.x C.b dL_law_1577 rfl (lv_at hl 4 rfl) ?_
  refine lv_iload C.x C.b dL_law_1578 (lv_at hl 0 rfl) ?_
  refine lv_iconst (v := (1 : Int32)) C.x C.b dL_law_1580 (by decide) ?_
  refine lv_iadd C.x C.b dL_law_1581 ?_
  refine va_sld C.x C.b hX hbl hbA hS (inL_1 hi hL) dL_law_1582 ?_
  refine r_callV (As := [.int (xs (nI i + (1 : Int32)).toNatClampNeg)]) (rest := []) C hR hS t1 rfl mk_X9_count cl_L_217 (k_X9_count t1 e1) ⟨⟨Nat.le_of_ble_eq_true rfl, Nat.le_of_ble_eq_true rfl⟩, ⟨rfl, rfl⟩, (show Kc + n + 0 ≤ 601024 by omega), (show Ks + 6 * n + 0 ≤ 7293034 by omega)⟩ rfl hl.1 rfl (Nat.le_of_ble_eq_true rfl) dL_law_1583 (fun H locs hR hS hE1 z1 => ?_)
  have hR : Rel G h H := hR
  have t2 : hpT h 202 = (1, 10) := hE1.at t2 (by decide)
  have t3 : hpT h 230 = (3, 1) := hE1.at t3 (by decide)
  refine lv_aload_n C.x C.b dL_law_1586 rfl (lv_at hl 2 rfl) ?_
  refine lv_aload_n C.x C.b dL_law_1587 rfl (lv_at hl 4 rfl) ?_
  refine lv_iload C.x C.b dL_law_1588 (lv_at hl 0 rfl) ?_
  refine lv_iconst (v := (1 : Int32)) C.x C.b dL_law_1590 (by decide) ?_
  refine lv_iadd C.x C.b dL_law_1591 ?_
  refine va_sld C.x C.b hX hbl hbA hS (inL_1 hi hL) dL_law_1592 ?_
  refine r_callV (As := [.int (xs (nI i + (1 : Int32)).toNatClampNeg)]) (rest := [.int v1]) C hR hS t2 rfl mk_X10_count cl_L_220 (k_X10_count t2 e2) ⟨⟨Nat.le_of_ble_eq_true rfl, Nat.le_of_ble_eq_true rfl⟩, ⟨rfl, rfl⟩, (show Kc + n + 0 + 0 ≤ 601024 by omega), (show Ks + 6 * n + 0 + 0 ≤ 7293034 by omega)⟩ rfl hl.1 rfl (Nat.le_of_ble_eq_true rfl) dL_law_1593 (fun H locs hR hS hE2 z2 => ?_)
  have hR : Rel G h2 H := hR
  have t3 : hpT h2 230 = (3, 1) := hE2.at t3 (by decide)
  refine lv_icmp_eq (tgt := 1656) C.x C.b dL_law_1596 (by decide) (fun _ => ?_) (fun c => absurd rfl c)
  refine W.widen (k := Kc + (n + 1)) (n := Ks + 6 * (n + 1)) (by omega) (by omega) ?_
  exact kk _ _ _ _ _ ⟨B2, t3, hR, hS, hl⟩
