set_option maxRecDepth 100000 in
set_option maxHeartbeats 4000000 in
theorem lc_17 {G : Gt} {p : Program} {l : Launch} {e : Env} {s : State} {m : MethodId} {args : Array Value} {below : List Frame} {meth : Method} {c : Code} {H : Heap} {locs : List Loc} {Q : State → Prop} {ls : Array Slot} {b L : Nat} {xs : Nat → Int32} {i n : Nat} {h : Hp} {A : Ast} (X : LwC G p s m meth c args b L xs) (hi : i + 6 ≤ L) (hn : n < 1000) (I : LwI G s b i n h A H locs ls) (kk : ∀ (H : Heap) (locs : List Loc) (ls : Array Slot) (h : Hp) (A : Ast), LwI G s b i (n + 1) h A H locs ls → W p l e room_1 s m args below meth c H locs (Kc + (n + 1)) (Ks + 6 * (n + 1)) Q (F0 m 1656 ls [])) : W p l e room_1 s m args below meth c H locs (Kc + n) (Ks + 6 * n) Q (F0 m 792 ls []) := by
  obtain ⟨C, hr, hlk, hX, hbl, hbA, hL⟩ := X
  obtain ⟨B, t3, hR, hS, hl⟩ := I
  have hl : lv_has ls 8 [(4, .int (nI i)), (3, .ref (G.2.2 + 230)), (2, .ref (G.2.2 + 202)), (1, .ref (G.2.2 + 1)), (0, .ref b)] := hl
  have t1 := B.1.s.t1
  have t2 := B.2.1.s.1
  have hK := Kc_e
  have hK2 := Ks_e
  obtain ⟨h1, h2, e1, e2, B2⟩ := bo_heap B hn (xs (nI i + (1 : Int32)).toNatClampNeg)
  obtain ⟨v1, ev⟩ : ∃ v, v = (sp_heap A (xs (nI i + (1 : Int32)).toNatClampNeg)).1 := ⟨_, rfl⟩
  rw [← ev] at e1 e2
  clear ev
  refine lv_aload_n C.x C.b dL_law_792 rfl (lv_at hl 3 rfl) ?_
  refine lv_aload_n C.x C.b dL_law_793 rfl (lv_at hl 4 rfl) ?_
  refine lv_iload C.x C.b dL_law_794 (lv_at hl 0 rfl) ?_
  refine lv_iconst (v := (1 : Int32)) C.x C.b dL_law_796 (by decide) ?_
  refine lv_iadd C.x C.b dL_law_797 ?_
  refine va_sld C.x C.b hX hbl hbA hS (inL_1 hi hL) dL_law_798 ?_
  refine r_callV (As := [.int (xs (nI i + (1 : Int32)).toNatClampNeg)]) (rest := []) C hR hS t1 rfl mk_X9_heap cl_L_104 (k_X9_heap t1 e1) ⟨⟨Nat.le_of_ble_eq_true rfl, Nat.le_of_ble_eq_true rfl⟩, ⟨rfl, rfl⟩, (show Kc + n + 0 ≤ 601024 by omega), (show Ks + 6 * n + 0 ≤ 7293034 by omega)⟩ rfl hl.1 rfl (Nat.le_of_ble_eq_true rfl) dL_law_799 (fun H locs hR hS hE1 z1 => ?_)
  have hR : Rel G h1 H := hR
  have t2 : hpT h1 202 = (1, 10) := hE1.at t2 (by decide)
  have t3 : hpT h1 230 = (3, 1) := hE1.at t3 (by decide)
  refine lv_aload_n C.x C.b dL_law_802 rfl (lv_at hl 2 rfl) ?_
  refine lv_aload_n C.x C.b dL_law_803 rfl (lv_at hl 4 rfl) ?_
  refine lv_iload C.x C.b dL_law_804 (lv_at hl 0 rfl) ?_
  refine lv_iconst (v := (1 : Int32)) C.x C.b dL_law_806 (by decide) ?_
  refine lv_iadd C.x C.b dL_law_807 ?_
  refine va_sld C.x C.b hX hbl hbA hS (inL_1 hi hL) dL_law_808 ?_
  refine r_callV (As := [.int (xs (nI i + (1 : Int32)).toNatClampNeg)]) (rest := [.int v1]) C hR hS t2 rfl mk_X10_heap cl_L_107 (k_X10_heap t2 e2) ⟨⟨Nat.le_of_ble_eq_true rfl, Nat.le_of_ble_eq_true rfl⟩, ⟨rfl, rfl⟩, (show Kc + n + 0 + 0 ≤ 601024 by omega), (show Ks + 6 * n + 0 + 0 ≤ 7293034 by omega)⟩ rfl hl.1 rfl (Nat.le_of_ble_eq_true rfl) dL_law_809 (fun H locs hR hS hE2 z2 => ?_)
  have hR : Rel G h2 H := hR
  have t3 : hpT h2 230 = (3, 1) := hE2.at t3 (by decide)
  refine lv_icmp_eq (tgt := 1656) C.x C.b dL_law_812 (by decide) (fun _ => ?_) (fun c => absurd rfl c)
  refine W.widen (k := Kc + (n + 1)) (n := Ks + 6 * (n + 1)) (by omega) (by omega) ?_
  exact kk _ _ _ _ _ ⟨B2, t3, hR, hS, hl⟩
set_option maxRecDepth 100000 in
set_option maxHeartbeats 4000000 in
theorem lc_18 {G : Gt} {p : Program} {l : Launch} {e : Env} {s : State} {m : MethodId} {args : Array Value} {below : List Frame} {meth : Method} {c : Code} {H : Heap} {locs : List Loc} {Q : State → Prop} {ls : Array Slot} {b L : Nat} {xs : Nat → Int32} {i n : Nat} {h : Hp} {A : Ast} (X : LwC G p s m meth c args b L xs) (hi : i + 6 ≤ L) (hn : n < 1000) (I : LwI G s b i n h A H locs ls) (kk : ∀ (H : Heap) (locs : List Loc) (ls : Array Slot) (h : Hp) (A : Ast), LwI G s b i (n + 1) h A H locs ls → W p l e room_1 s m args below meth c H locs (Kc + (n + 1)) (Ks + 6 * (n + 1)) Q (F0 m 1656 ls [])) : W p l e room_1 s m args below meth c H locs (Kc + n) (Ks + 6 * n) Q (F0 m 817 ls []) := by
  obtain ⟨C, hr, hlk, hX, hbl, hbA, hL⟩ := X
  obtain ⟨B, t3, hR, hS, hl⟩ := I
  have hl : lv_has ls 8 [(4, .int (nI i)), (3, .ref (G.2.2 + 230)), (2, .ref (G.2.2 + 202)), (1, .ref (G.2.2 + 1)), (0, .ref b)] := hl
  have t1 := B.1.s.t1
  have t2 := B.2.1.s.1
  have hK := Kc_e
  have hK2 := Ks_e
  obtain ⟨h1, h2, e1, e2, B2⟩ := bo_gone B hn (xs (nI i + (1 : Int32)).toNatClampNeg)
  obtain ⟨v1, ev⟩ : ∃ v, v = (sp_gone A (xs (nI i + (1 : Int32)).toNatClampNeg)).1 := ⟨_, rfl⟩
  rw [← ev] at e1 e2
  clear ev
  refine lv_aload_n C.x C.b dL_law_817 rfl (lv_at hl 3 rfl) ?_
  refine lv_aload_n C.x C.b dL_law_818 rfl (lv_at hl 4 rfl) ?_
  refine lv_iload C.x C.b dL_law_819 (lv_at hl 0 rfl) ?_
  refine lv_iconst (v := (1 : Int32)) C.x C.b dL_law_821 (by decide) ?_
  refine lv_iadd C.x C.b dL_law_822 ?_
  refine va_sld C.x C.b hX hbl hbA hS (inL_1 hi hL) dL_law_823 ?_
  refine r_callV (As := [.int (xs (nI i + (1 : Int32)).toNatClampNeg)]) (rest := []) C hR hS t1 rfl mk_X9_gone cl_L_108 (k_X9_gone t1 e1) ⟨⟨Nat.le_of_ble_eq_true rfl, Nat.le_of_ble_eq_true rfl⟩, ⟨rfl, rfl⟩, (show Kc + n + 0 ≤ 601024 by omega), (show Ks + 6 * n + 0 ≤ 7293034 by omega)⟩ rfl hl.1 rfl (Nat.le_of_ble_eq_true rfl) dL_law_824 (fun H locs hR hS hE1 z1 => ?_)
  have hR : Rel G h1 H := hR
  have t2 : hpT h1 202 = (1, 10) := hE1.at t2 (by decide)
  have t3 : hpT h1 230 = (3, 1) := hE1.at t3 (by decide)
  refine lv_aload_n C.x C.b dL_law_827 rfl (lv_at hl 2 rfl) ?_
  refine lv_aload_n C.x C.b dL_law_828 rfl (lv_at hl 4 rfl) ?_
  refine lv_iload C.x C.b dL_law_829 (lv_at hl 0 rfl) ?_
  refine lv_iconst (v := (1 : Int32)) C.x C.b dL_law_831 (by decide) ?_
  refine lv_iadd C.x C.b dL_law_832 ?_
  refine va_sld C.x C.b hX hbl hbA hS (inL_1 hi hL) dL_law_833 ?_
  refine r_callV (As := [.int (xs (nI i + (1 : Int32)).toNatClampNeg)]) (rest := [.int v1]) C hR hS t2 rfl mk_X10_gone cl_L_111 (k_X10_gone t2 e2) ⟨⟨Nat.le_of_ble_eq_true rfl, Nat.le_of_ble_eq_true rfl⟩, ⟨rfl, rfl⟩, (show Kc + n + 0 + 0 ≤ 601024 by omega), (show Ks + 6 * n + 0 + 0 ≤ 7293034 by omega)⟩ rfl hl.1 rfl (Nat.le_of_ble_eq_true rfl) dL_law_834 (fun H locs hR hS hE2 z2 => ?_)
  have hR : Rel G h2 H := hR
  have t3 : hpT h2 230 = (3, 1) := hE2.at t3 (by decide)
  refine lv_icmp_eq (tgt := 1656) C.x C.b dL_law_837 (by decide) (fun _ => ?_) (fun c => absurd rfl c)
  refine W.widen (k := Kc + (n + 1)) (n := Ks + 6 * (n + 1)) (by omega) (by omega) ?_
  exact kk _ _ _ _ _ ⟨B2, t3, hR, hS, hl⟩
set_option maxRecDepth 100000 in
set_option maxHeartbeats 4000000 in
theorem lc_19 {G : Gt} {p : Program} {l : Launch} {e : Env} {s : State} {m : MethodId} {args : Array Value} {below : List Frame} {meth : Method} {c : Code} {H : Heap} {locs : List Loc} {Q : State → Prop} {ls : Array Slot} {b L : Nat} {xs : Nat → Int32} {i n : Nat} {h : Hp} {A : Ast} (X : LwC G p s m meth c args b L xs) (hi : i + 6 ≤ L) (hn : n < 1000) (I : LwI G s b i n h A H locs ls) (kk : ∀ (H : Heap) (locs : List Loc) (ls : Array Slot) (h : Hp) (A : Ast), LwI G s b i (n + 1) h A H locs ls → W p l e room_1 s m args below meth c H locs (Kc + (n + 1)) (Ks + 6 * (n + 1)) Q (F0 m 1656 ls [])) : W p l e room_1 s m args below meth c H locs (Kc + n) (Ks + 6 * n) Q (F0 m 842 ls []) := by
  obtain ⟨C, hr, hlk, hX, hbl, hbA, hL⟩ := X
  obtain ⟨B, t3, hR, hS, hl⟩ := I
  have hl : lv_has ls 8 [(4, .int (nI i)), (3, .ref (G.2.2 + 230)), (2, .ref (G.2.2 + 202)), (1, .ref (G.2.2 + 1)), (0, .ref b)] := hl
  have t1 := B.1.s.t1
  have t2 := B.2.1.s.1
  have hK := Kc_e
  have hK2 := Ks_e
  obtain ⟨h1, h2, e1, e2, B2⟩ := bo_lies B hn (xs (nI i + (1 : Int32)).toNatClampNeg) (xs (nI i + (2 : Int32)).toNatClampNeg)
  obtain ⟨v1, ev⟩ : ∃ v, v = (sp_lies A (xs (nI i + (1 : Int32)).toNatClampNeg) (xs (nI i + (2 : Int32)).toNatClampNeg)).1 := ⟨_, rfl⟩
  rw [← ev] at e1 e2
  clear ev
  refine lv_aload_n C.x C.b dL_law_842 rfl (lv_at hl 3 rfl) ?_
  refine lv_aload_n C.x C.b dL_law_843 rfl (lv_at hl 4 rfl) ?_
  refine lv_iload C.x C.b dL_law_844 (lv_at hl 0 rfl) ?_
  refine lv_iconst (v := (1 : Int32)) C.x C.b dL_law_846 (by decide) ?_
  refine lv_iadd C.x C.b dL_law_847 ?_
  refine va_sld C.x C.b hX hbl hbA hS (inL_1 hi hL) dL_law_848 ?_
  refine lv_aload_n C.x C.b dL_law_849 rfl (lv_at hl 4 rfl) ?_
  refine lv_iload C.x C.b dL_law_850 (lv_at hl 0 rfl) ?_
  refine lv_iconst (v := (2 : Int32)) C.x C.b dL_law_852 (by decide) ?_
  refine lv_iadd C.x C.b dL_law_853 ?_
  refine va_sld C.x C.b hX hbl hbA hS (inL_2 hi hL) dL_law_854 ?_
  refine r_callV (As := [.int (xs (nI i + (1 : Int32)).toNatClampNeg), .int (xs (nI i + (2 : Int32)).toNatClampNeg)]) (rest := []) C hR hS t1 rfl mk_X9_lies cl_L_112 (k_X9_lies t1 e1) ⟨⟨Nat.le_of_ble_eq_true rfl, Nat.le_of_ble_eq_true rfl⟩, ⟨rfl, rfl⟩, (show Kc + n + 0 ≤ 601024 by omega), (show Ks + 6 * n + 0 ≤ 7293034 by omega)⟩ rfl hl.1 rfl (Nat.le_of_ble_eq_true rfl) dL_law_855 (fun H locs hR hS hE1 z1 => ?_)
  have hR : Rel G h1 H := hR
  have t2 : hpT h1 202 = (1, 10) := hE1.at t2 (by decide)
  have t3 : hpT h1 230 = (3, 1) := hE1.at t3 (by decide)
  refine lv_aload_n C.x C.b dL_law_858 rfl (lv_at hl 2 rfl) ?_
  refine lv_aload_n C.x C.b dL_law_859 rfl (lv_at hl 4 rfl) ?_
  refine lv_iload C.x C.b dL_law_860 (lv_at hl 0 rfl) ?_
  refine lv_iconst (v := (1 : Int32)) C.x C.b dL_law_862 (by decide) ?_
  refine lv_iadd C.x C.b dL_law_863 ?_
  refine va_sld C.x C.b hX hbl hbA hS (inL_1 hi hL) dL_law_864 ?_
  refine lv_aload_n C.x C.b dL_law_865 rfl (lv_at hl 4 rfl) ?_
  refine lv_iload C.x C.b dL_law_866 (lv_at hl 0 rfl) ?_
  refine lv_iconst (v := (2 : Int32)) C.x C.b dL_law_868 (by decide) ?_
  refine lv_iadd C.x C.b dL_law_869 ?_
  refine va_sld C.x C.b hX hbl hbA hS (inL_2 hi hL) dL_law_870 ?_
  refine r_callV (As := [.int (xs (nI i + (1 : Int32)).toNatClampNeg), .int (xs (nI i + (2 : Int32)).toNatClampNeg)]) (rest := [.int v1]) C hR hS t2 rfl mk_X10_lies cl_L_115 (k_X10_lies t2 e2) ⟨⟨Nat.le_of_ble_eq_true rfl, Nat.le_of_ble_eq_true rfl⟩, ⟨rfl, rfl⟩, (show Kc + n + 0 + 0 ≤ 601024 by omega), (show Ks + 6 * n + 0 + 0 ≤ 7293034 by omega)⟩ rfl hl.1 rfl (Nat.le_of_ble_eq_true rfl) dL_law_871 (fun H locs hR hS hE2 z2 => ?_)
  have hR : Rel G h2 H := hR
  have t3 : hpT h2 230 = (3, 1) := hE2.at t3 (by decide)
  refine lv_icmp_eq (tgt := 1656) C.x C.b dL_law_874 (by decide) (fun _ => ?_) (fun c => absurd rfl c)
  refine W.widen (k := Kc + (n + 1)) (n := Ks + 6 * (n + 1)) (by omega) (by omega) ?_
  exact kk _ _ _ _ _ ⟨B2, t3, hR, hS, hl⟩
set_option maxRecDepth 100000 in
set_option maxHeartbeats 4000000 in
theorem lc_20 {G : Gt} {p : Program} {l : Launch} {e : Env} {s : State} {m : MethodId} {args : Array Value} {below : List Frame} {meth : Method} {c : Code} {H : Heap} {locs : List Loc} {Q : State → Prop} {ls : Array Slot} {b L : Nat} {xs : Nat → Int32} {i n : Nat} {h : Hp} {A : Ast} (X : LwC G p s m meth c args b L xs) (hi : i + 6 ≤ L) (hn : n < 1000) (I : LwI G s b i n h A H locs ls) (kk : ∀ (H : Heap) (locs : List Loc) (ls : Array Slot) (h : Hp) (A : Ast), LwI G s b i (n + 1) h A H locs ls → W p l e room_1 s m args below meth c H locs (Kc + (n + 1)) (Ks + 6 * (n + 1)) Q (F0 m 1656 ls [])) : W p l e room_1 s m args below meth c H locs (Kc + n) (Ks + 6 * n) Q (F0 m 879 ls []) := by
  obtain ⟨C, hr, hlk, hX, hbl, hbA, hL⟩ := X
  obtain ⟨B, t3, hR, hS, hl⟩ := I
  have hl : lv_has ls 8 [(4, .int (nI i)), (3, .ref (G.2.2 + 230)), (2, .ref (G.2.2 + 202)), (1, .ref (G.2.2 + 1)), (0, .ref b)] := hl
  have t1 := B.1.s.t1
  have t2 := B.2.1.s.1
  have hK := Kc_e
  have hK2 := Ks_e
  obtain ⟨h1, h2, e1, e2, B2⟩ := bo_clears B hn (xs (nI i + (1 : Int32)).toNatClampNeg)
  obtain ⟨v1, ev⟩ : ∃ v, v = (sp_clears A (xs (nI i + (1 : Int32)).toNatClampNeg)).1 := ⟨_, rfl⟩
  rw [← ev] at e1 e2
  clear ev
  refine lv_aload_n C.x C.b dL_law_879 rfl (lv_at hl 3 rfl) ?_
  refine lv_aload_n C.x C.b dL_law_880 rfl (lv_at hl 4 rfl) ?_
  refine lv_iload C.x C.b dL_law_881 (lv_at hl 0 rfl) ?_
  refine lv_iconst (v := (1 : Int32)) C.x C.b dL_law_883 (by decide) ?_
  refine lv_iadd C.x C.b dL_law_884 ?_
  refine va_sld C.x C.b hX hbl hbA hS (inL_1 hi hL) dL_law_885 ?_
  refine r_callV (As := [.int (xs (nI i + (1 : Int32)).toNatClampNeg)]) (rest := []) C hR hS t1 rfl mk_X9_clears cl_L_116 (k_X9_clears t1 e1) ⟨⟨Nat.le_of_ble_eq_true rfl, Nat.le_of_ble_eq_true rfl⟩, ⟨rfl, rfl⟩, (show Kc + n + 0 ≤ 601024 by omega), (show Ks + 6 * n + 0 ≤ 7293034 by omega)⟩ rfl hl.1 rfl (Nat.le_of_ble_eq_true rfl) dL_law_886 (fun H locs hR hS hE1 z1 => ?_)
  have hR : Rel G h1 H := hR
  have t2 : hpT h1 202 = (1, 10) := hE1.at t2 (by decide)
  have t3 : hpT h1 230 = (3, 1) := hE1.at t3 (by decide)
  refine lv_aload_n C.x C.b dL_law_889 rfl (lv_at hl 2 rfl) ?_
  refine lv_aload_n C.x C.b dL_law_890 rfl (lv_at hl 4 rfl) ?_
  refine lv_iload C.x C.b dL_law_891 (lv_at hl 0 rfl) ?_
  refine lv_iconst (v := (1 : Int32)) C.x C.b dL_law_893 (by decide) ?_
  refine lv_iadd C.x C.b dL_law_894 ?_
  refine va_sld C.x C.b hX hbl hbA hS (inL_1 hi hL) dL_law_895 ?_
  refine r_callV (As := [.int (xs (nI i + (1 : Int32)).toNatClampNeg)]) (rest := [.int v1]) C hR hS t2 rfl mk_X10_clears cl_L_119 (k_X10_clears t2 e2) ⟨⟨Nat.le_of_ble_eq_true rfl, Nat.le_of_ble_eq_true rfl⟩, ⟨rfl, rfl⟩, (show Kc + n + 0 + 0 ≤ 601024 by omega), (show Ks + 6 * n + 0 + 0 ≤ 7293034 by omega)⟩ rfl hl.1 rfl (Nat.le_of_ble_eq_true rfl) dL_law_896 (fun H locs hR hS hE2 z2 => ?_)
  have hR : Rel G h2 H := hR
  have t3 : hpT h2 230 = (3, 1) := hE2.at t3 (by decide)
  refine lv_icmp_eq (tgt := 1656) C.x C.b dL_law_899 (by decide) (fun _ => ?_) (fun c => absurd rfl c)
  refine W.widen (k := Kc + (n + 1)) (n := Ks + 6 * (n + 1)) (by omega) (by omega) ?_
  exact kk _ _ _ _ _ ⟨B2, t3, hR, hS, hl⟩
set_option maxRecDepth 100000 in
set_option maxHeartbeats 4000000 in
theorem lc_21 {G : Gt} {p : Program} {l : Launch} {e : Env} {s : State} {m : MethodId} {args : Array Value} {below : List Frame} {meth : Method} {c : Code} {H : Heap} {locs : List Loc} {Q : State → Prop} {ls : Array Slot} {b L : Nat} {xs : Nat → Int32} {i n : Nat} {h : Hp} {A : Ast} (X : LwC G p s m meth c args b L xs) (hi : i + 6 ≤ L) (hn : n < 1000) (I : LwI G s b i n h A H locs ls) (kk : ∀ (H : Heap) (locs : List Loc) (ls : Array Slot) (h : Hp) (A : Ast), LwI G s b i (n + 1) h A H locs ls → W p l e room_1 s m args below meth c H locs (Kc + (n + 1)) (Ks + 6 * (n + 1)) Q (F0 m 1656 ls [])) : W p l e room_1 s m args below meth c H locs (Kc + n) (Ks + 6 * n) Q (F0 m 904 ls []) := by
  obtain ⟨C, hr, hlk, hX, hbl, hbA, hL⟩ := X
  obtain ⟨B, t3, hR, hS, hl⟩ := I
  have hl : lv_has ls 8 [(4, .int (nI i)), (3, .ref (G.2.2 + 230)), (2, .ref (G.2.2 + 202)), (1, .ref (G.2.2 + 1)), (0, .ref b)] := hl
  have t1 := B.1.s.t1
  have t2 := B.2.1.s.1
  have hK := Kc_e
  have hK2 := Ks_e
  obtain ⟨h1, h2, e1, e2, B2⟩ := bo_room B hn (xs (nI i + (1 : Int32)).toNatClampNeg) (xs (nI i + (2 : Int32)).toNatClampNeg)
  obtain ⟨v1, ev⟩ : ∃ v, v = (sp_room A (xs (nI i + (1 : Int32)).toNatClampNeg) (xs (nI i + (2 : Int32)).toNatClampNeg)).1 := ⟨_, rfl⟩
  rw [← ev] at e1 e2
  clear ev
  refine lv_aload_n C.x C.b dL_law_904 rfl (lv_at hl 3 rfl) ?_
  refine lv_aload_n C.x C.b dL_law_905 rfl (lv_at hl 4 rfl) ?_
  refine lv_iload C.x C.b dL_law_906 (lv_at hl 0 rfl) ?_
  refine lv_iconst (v := (1 : Int32)) C.x C.b dL_law_908 (by decide) ?_
  refine lv_iadd C.x C.b dL_law_909 ?_
  refine va_sld C.x C.b hX hbl hbA hS (inL_1 hi hL) dL_law_910 ?_
  refine lv_aload_n C.x C.b dL_law_911 rfl (lv_at hl 4 rfl) ?_
  refine lv_iload C.x C.b dL_law_912 (lv_at hl 0 rfl) ?_
  refine lv_iconst (v := (2 : Int32)) C.x C.b dL_law_914 (by decide) ?_
  refine lv_iadd C.x C.b dL_law_915 ?_
  refine va_sld C.x C.b hX hbl hbA hS (inL_2 hi hL) dL_law_916 ?_
  refine r_callV (As := [.int (xs (nI i + (1 : Int32)).toNatClampNeg), .int (xs (nI i + (2 : Int32)).toNatClampNeg)]) (rest := []) C hR hS t1 rfl mk_X9_room cl_L_120 (k_X9_room t1 e1) ⟨⟨Nat.le_of_ble_eq_true rfl, Nat.le_of_ble_eq_true rfl⟩, ⟨rfl, rfl⟩, (show Kc + n + 0 ≤ 601024 by omega), (show Ks + 6 * n + 0 ≤ 7293034 by omega)⟩ rfl hl.1 rfl (Nat.le_of_ble_eq_true rfl) dL_law_917 (fun H locs hR hS hE1 z1 => ?_)
  have hR : Rel G h1 H := hR
  have t2 : hpT h1 202 = (1, 10) := hE1.at t2 (by decide)
  have t3 : hpT h1 230 = (3, 1) := hE1.at t3 (by decide)
  refine lv_aload_n C.x C.b dL_law_920 rfl (lv_at hl 2 rfl) ?_
  refine lv_aload_n C.x C.b dL_law_921 rfl (lv_at hl 4 rfl) ?_
  refine lv_iload C.x C.b dL_law_922 (lv_at hl 0 rfl) ?_
  refine lv_iconst (v := (1 : Int32)) C.x C.b dL_law_924 (by decide) ?_
  refine lv_iadd C.x C.b dL_law_925 ?_
  refine va_sld C.x C.b hX hbl hbA hS (inL_1 hi hL) dL_law_926 ?_
  refine lv_aload_n C.x C.b dL_law_927 rfl (lv_at hl 4 rfl) ?_
  refine lv_iload C.x C.b dL_law_928 (lv_at hl 0 rfl) ?_
  refine lv_iconst (v := (2 : Int32)) C.x C.b dL_law_930 (by decide) ?_
  refine lv_iadd C.x C.b dL_law_931 ?_
  refine va_sld C.x C.b hX hbl hbA hS (inL_2 hi hL) dL_law_932 ?_
  refine r_callV (As := [.int (xs (nI i + (1 : Int32)).toNatClampNeg), .int (xs (nI i + (2 : Int32)).toNatClampNeg)]) (rest := [.int v1]) C hR hS t2 rfl mk_X10_room cl_L_123 (k_X10_room t2 e2) ⟨⟨Nat.le_of_ble_eq_true rfl, Nat.le_of_ble_eq_true rfl⟩, ⟨rfl, rfl⟩, (show Kc + n + 0 + 0 ≤ 601024 by omega), (show Ks + 6 * n + 0 + 0 ≤ 7293034 by omega)⟩ rfl hl.1 rfl (Nat.le_of_ble_eq_true rfl) dL_law_933 (fun H locs hR hS hE2 z2 => ?_)
  have hR : Rel G h2 H := hR
  have t3 : hpT h2 230 = (3, 1) := hE2.at t3 (by decide)
  refine lv_icmp_eq (tgt := 1656) C.x C.b dL_law_936 (by decide) (fun _ => ?_) (fun c => absurd rfl c)
  refine W.widen (k := Kc + (n + 1)) (n := Ks + 6 * (n + 1)) (by omega) (by omega) ?_
  exact kk _ _ _ _ _ ⟨B2, t3, hR, hS, hl⟩
set_option maxRecDepth 100000 in
set_option maxHeartbeats 4000000 in
theorem lc_22 {G : Gt} {p : Program} {l : Launch} {e : Env} {s : State} {m : MethodId} {args : Array Value} {below : List Frame} {meth : Method} {c : Code} {H : Heap} {locs : List Loc} {Q : State → Prop} {ls : Array Slot} {b L : Nat} {xs : Nat → Int32} {i n : Nat} {h : Hp} {A : Ast} (X : LwC G p s m meth c args b L xs) (hi : i + 6 ≤ L) (hn : n < 1000) (I : LwI G s b i n h A H locs ls) (kk : ∀ (H : Heap) (locs : List Loc) (ls : Array Slot) (h : Hp) (A : Ast), LwI G s b i (n + 1) h A H locs ls → W p l e room_1 s m args below meth c H locs (Kc + (n + 1)) (Ks + 6 * (n + 1)) Q (F0 m 1656 ls [])) : W p l e room_1 s m args below meth c H locs (Kc + n) (Ks + 6 * n) Q (F0 m 941 ls []) := by
  obtain ⟨C, hr, hlk, hX, hbl, hbA, hL⟩ := X
  obtain ⟨B, t3, hR, hS, hl⟩ := I
  have hl : lv_has ls 8 [(4, .int (nI i)), (3, .ref (G.2.2 + 230)), (2, .ref (G.2.2 + 202)), (1, .ref (G.2.2 + 1)), (0, .ref b)] := hl
  have t1 := B.1.s.t1
  have t2 := B.2.1.s.1
  have hK := Kc_e
  have hK2 := Ks_e
  obtain ⟨h1, h2, e1, e2, B2⟩ := bo_when B hn (xs (nI i + (1 : Int32)).toNatClampNeg) (xs (nI i + (2 : Int32)).toNatClampNeg)
  obtain ⟨v1, ev⟩ : ∃ v, v = (sp_when A (xs (nI i + (1 : Int32)).toNatClampNeg) (xs (nI i + (2 : Int32)).toNatClampNeg)).1 := ⟨_, rfl⟩
  rw [← ev] at e1 e2
  clear ev
  refine lv_aload_n C.x C.b dL_law_941 rfl (lv_at hl 3 rfl) ?_
  refine lv_aload_n C.x C.b dL_law_942 rfl (lv_at hl 4 rfl) ?_
  refine lv_iload C.x C.b dL_law_943 (lv_at hl 0 rfl) ?_
  refine lv_iconst (v := (1 : Int32)) C.x C.b dL_law_945 (by decide) ?_
  refine lv_iadd C.x C.b dL_law_946 ?_
  refine va_sld C.x C.b hX hbl hbA hS (inL_1 hi hL) dL_law_947 ?_
  refine lv_aload_n C.x C.b dL_law_948 rfl (lv_at hl 4 rfl) ?_
  refine lv_iload C.x C.b dL_law_949 (lv_at hl 0 rfl) ?_
  refine lv_iconst (v := (2 : Int32)) C.x C.b dL_law_951 (by decide) ?_
  refine lv_iadd C.x C.b dL_law_952 ?_
  refine va_sld C.x C.b hX hbl hbA hS (inL_2 hi hL) dL_law_953 ?_
  refine r_callV (As := [.int (xs (nI i + (1 : Int32)).toNatClampNeg), .int (xs (nI i + (2 : Int32)).toNatClampNeg)]) (rest := []) C hR hS t1 rfl mk_X9_when cl_L_124 (k_X9_when t1 e1) ⟨⟨Nat.le_of_ble_eq_true rfl, Nat.le_of_ble_eq_true rfl⟩, ⟨rfl, rfl⟩, (show Kc + n + 0 ≤ 601024 by omega), (show Ks + 6 * n + 0 ≤ 7293034 by omega)⟩ rfl hl.1 rfl (Nat.le_of_ble_eq_true rfl) dL_law_954 (fun H locs hR hS hE1 z1 => ?_)
  have hR : Rel G h1 H := hR
  have t2 : hpT h1 202 = (1, 10) := hE1.at t2 (by decide)
  have t3 : hpT h1 230 = (3, 1) := hE1.at t3 (by decide)
  refine lv_aload_n C.x C.b dL_law_957 rfl (lv_at hl 2 rfl) ?_
  refine lv_aload_n C.x C.b dL_law_958 rfl (lv_at hl 4 rfl) ?_
  refine lv_iload C.x C.b dL_law_959 (lv_at hl 0 rfl) ?_
  refine lv_iconst (v := (1 : Int32)) C.x C.b dL_law_961 (by decide) ?_
  refine lv_iadd C.x C.b dL_law_962 ?_
  refine va_sld C.x C.b hX hbl hbA hS (inL_1 hi hL) dL_law_963 ?_
  refine lv_aload_n C.x C.b dL_law_964 rfl (lv_at hl 4 rfl) ?_
  refine lv_iload C.x C.b dL_law_965 (lv_at hl 0 rfl) ?_
  refine lv_iconst (v := (2 : Int32)) C.x C.b dL_law_967 (by decide) ?_
  refine lv_iadd C.x C.b dL_law_968 ?_
  refine va_sld C.x C.b hX hbl hbA hS (inL_2 hi hL) dL_law_969 ?_
  refine r_callV (As := [.int (xs (nI i + (1 : Int32)).toNatClampNeg), .int (xs (nI i + (2 : Int32)).toNatClampNeg)]) (rest := [.int v1]) C hR hS t2 rfl mk_X10_when cl_L_127 (k_X10_when t2 e2) ⟨⟨Nat.le_of_ble_eq_true rfl, Nat.le_of_ble_eq_true rfl⟩, ⟨rfl, rfl⟩, (show Kc + n + 0 + 0 ≤ 601024 by omega), (show Ks + 6 * n + 0 + 0 ≤ 7293034 by omega)⟩ rfl hl.1 rfl (Nat.le_of_ble_eq_true rfl) dL_law_970 (fun H locs hR hS hE2 z2 => ?_)
  have hR : Rel G h2 H := hR
  have t3 : hpT h2 230 = (3, 1) := hE2.at t3 (by decide)
  refine lv_icmp_eq (tgt := 1656) C.x C.b dL_law_973 (by decide) (fun _ => ?_) (fun c => absurd rfl c)
  refine W.widen (k := Kc + (n + 1)) (n := Ks + 6 * (n + 1)) (by omega) (by omega) ?_
  exact kk _ _ _ _ _ ⟨B2, t3, hR, hS, hl⟩
set_option maxRecDepth 100000 in
set_option maxHeartbeats 4000000 in
theorem lc_23 {G : Gt} {p : Program} {l : Launch} {e : Env} {s : State} {m : MethodId} {args : Array Value} {below : List Frame} {meth : Method} {c : Code} {H : Heap} {locs : List Loc} {Q : State → Prop} {ls : Array Slot} {b L : Nat} {xs : Nat → Int32} {i n : Nat} {h : Hp} {A : Ast} (X : LwC G p s m meth c args b L xs) (hi : i + 6 ≤ L) (hn : n < 1000) (I : LwI G s b i n h A H locs ls) (kk : ∀ (H : Heap) (locs : List Loc) (ls : Array Slot) (h : Hp) (A : Ast), LwI G s b i (n + 1) h A H locs ls → W p l e room_1 s m args below meth c H locs (Kc + (n + 1)) (Ks + 6 * (n + 1)) Q (F0 m 1656 ls [])) : W p l e room_1 s m args below meth c H locs (Kc + n) (Ks + 6 * n) Q (F0 m 978 ls []) := by
  obtain ⟨C, hr, hlk, hX, hbl, hbA, hL⟩ := X
  obtain ⟨B, t3, hR, hS, hl⟩ := I
  have hl : lv_has ls 8 [(4, .int (nI i)), (3, .ref (G.2.2 + 230)), (2, .ref (G.2.2 + 202)), (1, .ref (G.2.2 + 1)), (0, .ref b)] := hl
  have t1 := B.1.s.t1
  have t2 := B.2.1.s.1
  have hK := Kc_e
  have hK2 := Ks_e
  obtain ⟨h1, h2, e1, e2, B2⟩ := bo_least B hn (xs (nI i + (1 : Int32)).toNatClampNeg) (xs (nI i + (2 : Int32)).toNatClampNeg)
  obtain ⟨v1, ev⟩ : ∃ v, v = (sp_least A (xs (nI i + (1 : Int32)).toNatClampNeg) (xs (nI i + (2 : Int32)).toNatClampNeg)).1 := ⟨_, rfl⟩
  rw [← ev] at e1 e2
  clear ev
  refine lv_aload_n C.x C.b dL_law_978 rfl (lv_at hl 3 rfl) ?_
  refine lv_aload_n C.x C.b dL_law_979 rfl (lv_at hl 4 rfl) ?_
  refine lv_iload C.x C.b dL_law_980 (lv_at hl 0 rfl) ?_
  refine lv_iconst (v := (1 : Int32)) C.x C.b dL_law_982 (by decide) ?_
  refine lv_iadd C.x C.b dL_law_983 ?_
  refine va_sld C.x C.b hX hbl hbA hS (inL_1 hi hL) dL_law_984 ?_
  refine lv_aload_n C.x C.b dL_law_985 rfl (lv_at hl 4 rfl) ?_
  refine lv_iload C.x C.b dL_law_986 (lv_at hl 0 rfl) ?_
  refine lv_iconst (v := (2 : Int32)) C.x C.b dL_law_988 (by decide) ?_
  refine lv_iadd C.x C.b dL_law_989 ?_
  refine va_sld C.x C.b hX hbl hbA hS (inL_2 hi hL) dL_law_990 ?_
  refine r_callV (As := [.int (xs (nI i + (1 : Int32)).toNatClampNeg), .int (xs (nI i + (2 : Int32)).toNatClampNeg)]) (rest := []) C hR hS t1 rfl mk_X9_least cl_L_128 (k_X9_least t1 e1) ⟨⟨Nat.le_of_ble_eq_true rfl, Nat.le_of_ble_eq_true rfl⟩, ⟨rfl, rfl⟩, (show Kc + n + 0 ≤ 601024 by omega), (show Ks + 6 * n + 0 ≤ 7293034 by omega)⟩ rfl hl.1 rfl (Nat.le_of_ble_eq_true rfl) dL_law_991 (fun H locs hR hS hE1 z1 => ?_)
  have hR : Rel G h1 H := hR
  have t2 : hpT h1 202 = (1, 10) := hE1.at t2 (by decide)
  have t3 : hpT h1 230 = (3, 1) := hE1.at t3 (by decide)
  refine lv_aload_n C.x C.b dL_law_994 rfl (lv_at hl 2 rfl) ?_
  refine lv_aload_n C.x C.b dL_law_995 rfl (lv_at hl 4 rfl) ?_
  refine lv_iload C.x C.b dL_law_996 (lv_at hl 0 rfl) ?_
  refine lv_iconst (v := (1 : Int32)) C.x C.b dL_law_998 (by decide) ?_
  refine lv_iadd C.x C.b dL_law_999 ?_
  refine va_sld C.x C.b hX hbl hbA hS (inL_1 hi hL) dL_law_1000 ?_
  refine lv_aload_n C.x C.b dL_law_1001 rfl (lv_at hl 4 rfl) ?_
  refine lv_iload C.x C.b dL_law_1002 (lv_at hl 0 rfl) ?_
  refine lv_iconst (v := (2 : Int32)) C.x C.b dL_law_1004 (by decide) ?_
  refine lv_iadd C.x C.b dL_law_1005 ?_
  refine va_sld C.x C.b hX hbl hbA hS (inL_2 hi hL) dL_law_1006 ?_
  refine r_callV (As := [.int (xs (nI i + (1 : Int32)).toNatClampNeg), .int (xs (nI i + (2 : Int32)).toNatClampNeg)]) (rest := [.int v1]) C hR hS t2 rfl mk_X10_least cl_L_131 (k_X10_least t2 e2) ⟨⟨Nat.le_of_ble_eq_true rfl, Nat.le_of_ble_eq_true rfl⟩, ⟨rfl, rfl⟩, (show Kc + n + 0 + 0 ≤ 601024 by omega), (show Ks + 6 * n + 0 + 0 ≤ 7293034 by omega)⟩ rfl hl.1 rfl (Nat.le_of_ble_eq_true rfl) dL_law_1007 (fun H locs hR hS hE2 z2 => ?_)
  have hR : Rel G h2 H := hR
  have t3 : hpT h2 230 = (3, 1) := hE2.at t3 (by decide)
  refine lv_icmp_eq (tgt := 1656) C.x C.b dL_law_1010 (by decide) (fun _ => ?_) (fun c => absurd rfl c)
  refine W.widen (k := Kc + (n + 1)) (n := Ks + 6 * (n + 1)) (by omega) (by omega) ?_
  exact kk _ _ _ _ _ ⟨B2, t3, hR, hS, hl⟩
set_option maxRecDepth 100000 in
set_option maxHeartbeats 4000000 in
theorem lc_24 {G : Gt} {p : Program} {l : Launch} {e : Env} {s : State} {m : MethodId} {args : Array Value} {below : List Frame} {meth : Method} {c : Code} {H : Heap} {locs : List Loc} {Q : State → Prop} {ls : Array Slot} {b L : Nat} {xs : Nat → Int32} {i n : Nat} {h : Hp} {A : Ast} (X : LwC G p s m meth c args b L xs) (hi : i + 6 ≤ L) (hn : n < 1000) (I : LwI G s b i n h A H locs ls) (kk : ∀ (H : Heap) (locs : List Loc) (ls : Array Slot) (h : Hp) (A : Ast), LwI G s b i (n + 1) h A H locs ls → W p l e room_1 s m args below meth c H locs (Kc + (n + 1)) (Ks + 6 * (n + 1)) Q (F0 m 1656 ls [])) : W p l e room_1 s m args below meth c H locs (Kc + n) (Ks + 6 * n) Q (F0 m 1015 ls []) := by
  obtain ⟨C, hr, hlk, hX, hbl, hbA, hL⟩ := X
  obtain ⟨B, t3, hR, hS, hl⟩ := I
  have hl : lv_has ls 8 [(4, .int (nI i)), (3, .ref (G.2.2 + 230)), (2, .ref (G.2.2 + 202)), (1, .ref (G.2.2 + 1)), (0, .ref b)] := hl
  have t1 := B.1.s.t1
  have t2 := B.2.1.s.1
  have hK := Kc_e
  have hK2 := Ks_e
  obtain ⟨h1, h2, e1, e2, B2⟩ := bo_largest B hn
  obtain ⟨v1, ev⟩ : ∃ v, v = (sp_largest A).1 := ⟨_, rfl⟩
  rw [← ev] at e1 e2
  clear ev
  refine lv_aload_n C.x C.b dL_law_1015 rfl (lv_at hl 3 rfl) ?_
  refine r_callV (As := []) (rest := []) C hR hS t1 rfl mk_X9_largest cl_L_132 (k_X9_largest t1 e1) ⟨⟨Nat.le_of_ble_eq_true rfl, Nat.le_of_ble_eq_true rfl⟩, ⟨rfl, rfl⟩, (show Kc + n + 0 ≤ 601024 by omega), (show Ks + 6 * n + 0 ≤ 7293034 by omega)⟩ rfl hl.1 rfl (Nat.le_of_ble_eq_true rfl) dL_law_1016 (fun H locs hR hS hE1 z1 => ?_)
  have hR : Rel G h1 H := hR
  have t2 : hpT h1 202 = (1, 10) := hE1.at t2 (by decide)
  have t3 : hpT h1 230 = (3, 1) := hE1.at t3 (by decide)
  refine lv_aload_n C.x C.b dL_law_1019 rfl (lv_at hl 2 rfl) ?_
  refine r_callV (As := []) (rest := [.int v1]) C hR hS t2 rfl mk_X10_largest cl_L_135 (k_X10_largest t2 e2) ⟨⟨Nat.le_of_ble_eq_true rfl, Nat.le_of_ble_eq_true rfl⟩, ⟨rfl, rfl⟩, (show Kc + n + 0 + 0 ≤ 601024 by omega), (show Ks + 6 * n + 0 + 0 ≤ 7293034 by omega)⟩ rfl hl.1 rfl (Nat.le_of_ble_eq_true rfl) dL_law_1020 (fun H locs hR hS hE2 z2 => ?_)
  have hR : Rel G h2 H := hR
  have t3 : hpT h2 230 = (3, 1) := hE2.at t3 (by decide)
  refine lv_icmp_eq (tgt := 1656) C.x C.b dL_law_1023 (by decide) (fun _ => ?_) (fun c => absurd rfl c)
  refine W.widen (k := Kc + (n + 1)) (n := Ks + 6 * (n + 1)) (by omega) (by omega) ?_
  exact kk _ _ _ _ _ ⟨B2, t3, hR, hS, hl⟩
set_option maxRecDepth 100000 in
set_option maxHeartbeats 4000000 in
theorem lc_25 {G : Gt} {p : Program} {l : Launch} {e : Env} {s : State} {m : MethodId} {args : Array Value} {below : List Frame} {meth : Method} {c : Code} {H : Heap} {locs : List Loc} {Q : State → Prop} {ls : Array Slot} {b L : Nat} {xs : Nat → Int32} {i n : Nat} {h : Hp} {A : Ast} (X : LwC G p s m meth c args b L xs) (hi : i + 6 ≤ L) (hn : n < 1000) (I : LwI G s b i n h A H locs ls) (kk : ∀ (H : Heap) (locs : List Loc) (ls : Array Slot) (h : Hp) (A : Ast), LwI G s b i (n + 1) h A H locs ls → W p l e room_1 s m args below meth c H locs (Kc + (n + 1)) (Ks + 6 * (n + 1)) Q (F0 m 1656 ls [])) : W p l e room_1 s m args below meth c H locs (Kc + n) (Ks + 6 * n) Q (F0 m 1028 ls []) := by
  obtain ⟨C, hr, hlk, hX, hbl, hbA, hL⟩ := X
  obtain ⟨B, t3, hR, hS, hl⟩ := I
  have hl : lv_has ls 8 [(4, .int (nI i)), (3, .ref (G.2.2 + 230)), (2, .ref (G.2.2 + 202)), (1, .ref (G.2.2 + 1)), (0, .ref b)] := hl
  have t1 := B.1.s.t1
  have t2 := B.2.1.s.1
  have hK := Kc_e
  have hK2 := Ks_e
  obtain ⟨h1, h2, e1, e2, B2⟩ := bo_makes B hn (xs (nI i + (1 : Int32)).toNatClampNeg) (xs (nI i + (2 : Int32)).toNatClampNeg)
  obtain ⟨v1, ev⟩ : ∃ v, v = (sp_makes A (xs (nI i + (1 : Int32)).toNatClampNeg) (xs (nI i + (2 : Int32)).toNatClampNeg)).1 := ⟨_, rfl⟩
  rw [← ev] at e1 e2
  clear ev
  refine lv_aload_n C.x C.b dL_law_1028 rfl (lv_at hl 3 rfl) ?_
  refine lv_aload_n C.x C.b dL_law_1029 rfl (lv_at hl 4 rfl) ?_
  refine lv_iload C.x C.b dL_law_1030 (lv_at hl 0 rfl) ?_
  refine lv_iconst (v := (1 : Int32)) C.x C.b dL_law_1032 (by decide) ?_
  refine lv_iadd C.x C.b dL_law_1033 ?_
  refine va_sld C.x C.b hX hbl hbA hS (inL_1 hi hL) dL_law_1034 ?_
  refine lv_aload_n C.x C.b dL_law_1035 rfl (lv_at hl 4 rfl) ?_
  refine lv_iload C.x C.b dL_law_1036 (lv_at hl 0 rfl) ?_
  refine lv_iconst (v := (2 : Int32)) C.x C.b dL_law_1038 (by decide) ?_
  refine lv_iadd C.x C.b dL_law_1039 ?_
  refine va_sld C.x C.b hX hbl hbA hS (inL_2 hi hL) dL_law_1040 ?_
  refine r_callV (As := [.int (xs (nI i + (1 : Int32)).toNatClampNeg), .int (xs (nI i + (2 : Int32)).toNatClampNeg)]) (rest := []) C hR hS t1 rfl mk_X9_makes cl_L_136 (k_X9_makes t1 e1) ⟨⟨Nat.le_of_ble_eq_true rfl, Nat.le_of_ble_eq_true rfl⟩, ⟨rfl, rfl⟩, (show Kc + n + 0 ≤ 601024 by omega), (show Ks + 6 * n + 0 ≤ 7293034 by omega)⟩ rfl hl.1 rfl (Nat.le_of_ble_eq_true rfl) dL_law_1041 (fun H locs hR hS hE1 z1 => ?_)
  have hR : Rel G h1 H := hR
  have t2 : hpT h1 202 = (1, 10) := hE1.at t2 (by decide)
  have t3 : hpT h1 230 = (3, 1) := hE1.at t3 (by decide)
  refine lv_aload_n C.x C.b dL_law_1044 rfl (lv_at hl 2 rfl) ?_
  refine lv_aload_n C.x C.b dL_law_1045 rfl (lv_at hl 4 rfl) ?_
  refine lv_iload C.x C.b dL_law_1046 (lv_at hl 0 rfl) ?_
  refine lv_iconst (v := (1 : Int32)) C.x C.b dL_law_1048 (by decide) ?_
  refine lv_iadd C.x C.b dL_law_1049 ?_
  refine va_sld C.x C.b hX hbl hbA hS (inL_1 hi hL) dL_law_1050 ?_
  refine lv_aload_n C.x C.b dL_law_1051 rfl (lv_at hl 4 rfl) ?_
  refine lv_iload C.x C.b dL_law_1052 (lv_at hl 0 rfl) ?_
  refine lv_iconst (v := (2 : Int32)) C.x C.b dL_law_1054 (by decide) ?_
  refine lv_iadd C.x C.b dL_law_1055 ?_
  refine va_sld C.x C.b hX hbl hbA hS (inL_2 hi hL) dL_law_1056 ?_
  refine r_callV (As := [.int (xs (nI i + (1 : Int32)).toNatClampNeg), .int (xs (nI i + (2 : Int32)).toNatClampNeg)]) (rest := [.int v1]) C hR hS t2 rfl mk_X10_makes cl_L_139 (k_X10_makes t2 e2) ⟨⟨Nat.le_of_ble_eq_true rfl, Nat.le_of_ble_eq_true rfl⟩, ⟨rfl, rfl⟩, (show Kc + n + 0 + 0 ≤ 601024 by omega), (show Ks + 6 * n + 0 + 0 ≤ 7293034 by omega)⟩ rfl hl.1 rfl (Nat.le_of_ble_eq_true rfl) dL_law_1057 (fun H locs hR hS hE2 z2 => ?_)
  have hR : Rel G h2 H := hR
  have t3 : hpT h2 230 = (3, 1) := hE2.at t3 (by decide)
  refine lv_icmp_eq (tgt := 1656) C.x C.b dL_law_1060 (by decide) (fun _ => ?_) (fun c => absurd rfl c)
  refine W.widen (k := Kc + (n + 1)) (n := Ks + 6 * (n + 1)) (by omega) (by omega) ?_
  exact kk _ _ _ _ _ ⟨B2, t3, hR, hS, hl⟩
set_option maxRecDepth 100000 in
set_option maxHeartbeats 4000000 in
theorem lc_26 {G : Gt} {p : Program} {l : Launch} {e : Env} {s : State} {m : MethodId} {args : Array Value} {below : List Frame} {meth : Method} {c : Code} {H : Heap} {locs : List Loc} {Q : State → Prop} {ls : Array Slot} {b L : Nat} {xs : Nat → Int32} {i n : Nat} {h : Hp} {A : Ast} (X : LwC G p s m meth c args b L xs) (hi : i + 6 ≤ L) (hn : n < 1000) (I : LwI G s b i n h A H locs ls) (kk : ∀ (H : Heap) (locs : List Loc) (ls : Array Slot) (h : Hp) (A : Ast), LwI G s b i (n + 1) h A H locs ls → W p l e room_1 s m args below meth c H locs (Kc + (n + 1)) (Ks + 6 * (n + 1)) Q (F0 m 1656 ls [])) : W p l e room_1 s m args below meth c H locs (Kc + n) (Ks + 6 * n) Q (F0 m 1065 ls []) := by
  obtain ⟨C, hr, hlk, hX, hbl, hbA, hL⟩ := X
  obtain ⟨B, t3, hR, hS, hl⟩ := I
  have hl : lv_has ls 8 [(4, .int (nI i)), (3, .ref (G.2.2 + 230)), (2, .ref (G.2.2 + 202)), (1, .ref (G.2.2 + 1)), (0, .ref b)] := hl
  have t1 := B.1.s.t1
  have t2 := B.2.1.s.1
  have hK := Kc_e
  have hK2 := Ks_e
  obtain ⟨v1, A2, h1, h2, e1, e2, B2⟩ := bo_meets B hn (xs (nI i + (1 : Int32)).toNatClampNeg) (xs (nI i + (2 : Int32)).toNatClampNeg) (xs (nI i + (3 : Int32)).toNatClampNeg)
  refine lv_aload_n C.x C.b dL_law_1065 rfl (lv_at hl 3 rfl) ?_
  refine lv_aload_n C.x C.b dL_law_1066 rfl (lv_at hl 4 rfl) ?_
  refine lv_iload C.x C.b dL_law_1067 (lv_at hl 0 rfl) ?_
  refine lv_iconst (v := (1 : Int32)) C.x C.b dL_law_1069 (by decide) ?_
  refine lv_iadd C.x C.b dL_law_1070 ?_
  refine va_sld C.x C.b hX hbl hbA hS (inL_1 hi hL) dL_law_1071 ?_
  refine lv_aload_n C.x C.b dL_law_1072 rfl (lv_at hl 4 rfl) ?_
  refine lv_iload C.x C.b dL_law_1073 (lv_at hl 0 rfl) ?_
  refine lv_iconst (v := (2 : Int32)) C.x C.b dL_law_1075 (by decide) ?_
  refine lv_iadd C.x C.b dL_law_1076 ?_
  refine va_sld C.x C.b hX hbl hbA hS (inL_2 hi hL) dL_law_1077 ?_
  refine lv_aload_n C.x C.b dL_law_1078 rfl (lv_at hl 4 rfl) ?_
  refine lv_iload C.x C.b dL_law_1079 (lv_at hl 0 rfl) ?_
  refine lv_iconst (v := (3 : Int32)) C.x C.b dL_law_1081 (by decide) ?_
  refine lv_iadd C.x C.b dL_law_1082 ?_
  refine va_sld C.x C.b hX hbl hbA hS (inL_3 hi hL) dL_law_1083 ?_
  refine r_callV (As := [.int (xs (nI i + (1 : Int32)).toNatClampNeg), .int (xs (nI i + (2 : Int32)).toNatClampNeg), .int (xs (nI i + (3 : Int32)).toNatClampNeg)]) (rest := []) C hR hS t1 rfl mk_X9_meets cl_L_140 (k_X9_meets t1 e1) ⟨⟨Nat.le_of_ble_eq_true rfl, Nat.le_of_ble_eq_true rfl⟩, ⟨rfl, rfl⟩, (show Kc + n + 0 ≤ 601024 by omega), (show Ks + 6 * n + 0 ≤ 7293034 by omega)⟩ rfl hl.1 rfl (Nat.le_of_ble_eq_true rfl) dL_law_1084 (fun H locs hR hS hE1 z1 => ?_)
  have hR : Rel G h1 H := hR
  have t2 : hpT h1 202 = (1, 10) := hE1.at t2 (by decide)
  have t3 : hpT h1 230 = (3, 1) := hE1.at t3 (by decide)
  refine lv_aload_n C.x C.b dL_law_1087 rfl (lv_at hl 2 rfl) ?_
  refine lv_aload_n C.x C.b dL_law_1088 rfl (lv_at hl 4 rfl) ?_
  refine lv_iload C.x C.b dL_law_1089 (lv_at hl 0 rfl) ?_
  refine lv_iconst (v := (1 : Int32)) C.x C.b dL_law_1091 (by decide) ?_
  refine lv_iadd C.x C.b dL_law_1092 ?_
  refine va_sld C.x C.b hX hbl hbA hS (inL_1 hi hL) dL_law_1093 ?_
  refine lv_aload_n C.x C.b dL_law_1094 rfl (lv_at hl 4 rfl) ?_
  refine lv_iload C.x C.b dL_law_1095 (lv_at hl 0 rfl) ?_
  refine lv_iconst (v := (2 : Int32)) C.x C.b dL_law_1097 (by decide) ?_
  refine lv_iadd C.x C.b dL_law_1098 ?_
  refine va_sld C.x C.b hX hbl hbA hS (inL_2 hi hL) dL_law_1099 ?_
  refine lv_aload_n C.x C.b dL_law_1100 rfl (lv_at hl 4 rfl) ?_
  refine lv_iload C.x C.b dL_law_1101 (lv_at hl 0 rfl) ?_
  refine lv_iconst (v := (3 : Int32)) C.x C.b dL_law_1103 (by decide) ?_
  refine lv_iadd C.x C.b dL_law_1104 ?_
  refine va_sld C.x C.b hX hbl hbA hS (inL_3 hi hL) dL_law_1105 ?_
  refine r_callV (As := [.int (xs (nI i + (1 : Int32)).toNatClampNeg), .int (xs (nI i + (2 : Int32)).toNatClampNeg), .int (xs (nI i + (3 : Int32)).toNatClampNeg)]) (rest := [.int v1]) C hR hS t2 rfl mk_X10_meets cl_L_144 (k_X10_meets t2 e2) ⟨⟨Nat.le_of_ble_eq_true rfl, Nat.le_of_ble_eq_true rfl⟩, ⟨rfl, rfl⟩, (show Kc + n + 0 + 0 ≤ 601024 by omega), (show Ks + 6 * n + 0 + 0 ≤ 7293034 by omega)⟩ rfl hl.1 rfl (Nat.le_of_ble_eq_true rfl) dL_law_1106 (fun H locs hR hS hE2 z2 => ?_)
  have hR : Rel G h2 H := hR
  have t3 : hpT h2 230 = (3, 1) := hE2.at t3 (by decide)
  refine lv_icmp_eq (tgt := 1656) C.x C.b dL_law_1109 (by decide) (fun _ => ?_) (fun c => absurd rfl c)
  refine W.widen (k := Kc + (n + 1)) (n := Ks + 6 * (n + 1)) (by omega) (by omega) ?_
  exact kk _ _ _ _ _ ⟨B2, t3, hR, hS, hl⟩
set_option maxRecDepth 100000 in
set_option maxHeartbeats 4000000 in
theorem lc_27 {G : Gt} {p : Program} {l : Launch} {e : Env} {s : State} {m : MethodId} {args : Array Value} {below : List Frame} {meth : Method} {c : Code} {H : Heap} {locs : List Loc} {Q : State → Prop} {ls : Array Slot} {b L : Nat} {xs : Nat → Int32} {i n : Nat} {h : Hp} {A : Ast} (X : LwC G p s m meth c args b L xs) (hi : i + 6 ≤ L) (hn : n < 1000) (I : LwI G s b i n h A H locs ls) (kk : ∀ (H : Heap) (locs : List Loc) (ls : Array Slot) (h : Hp) (A : Ast), LwI G s b i (n + 1) h A H locs ls → W p l e room_1 s m args below meth c H locs (Kc + (n + 1)) (Ks + 6 * (n + 1)) Q (F0 m 1656 ls [])) : W p l e room_1 s m args below meth c H locs (Kc + n) (Ks + 6 * n) Q (F0 m 1114 ls []) := by
  obtain ⟨C, hr, hlk, hX, hbl, hbA, hL⟩ := X
  obtain ⟨B, t3, hR, hS, hl⟩ := I
  have hl : lv_has ls 8 [(4, .int (nI i)), (3, .ref (G.2.2 + 230)), (2, .ref (G.2.2 + 202)), (1, .ref (G.2.2 + 1)), (0, .ref b)] := hl
  have t1 := B.1.s.t1
  have t2 := B.2.1.s.1
  have hK := Kc_e
  have hK2 := Ks_e
  obtain ⟨v1, A2, h1, h2, e1, e2, B2⟩ := bo_quiet B hn (xs (nI i + (1 : Int32)).toNatClampNeg) (xs (nI i + (2 : Int32)).toNatClampNeg)
  refine lv_aload_n C.x C.b dL_law_1114 rfl (lv_at hl 3 rfl) ?_
  refine lv_aload_n C.x C.b dL_law_1115 rfl (lv_at hl 4 rfl) ?_
  refine lv_iload C.x C.b dL_law_1116 (lv_at hl 0 rfl) ?_
  refine lv_iconst (v := (1 : Int32)) C.x C.b dL_law_1118 (by decide) ?_
  refine lv_iadd C.x C.b dL_law_1119 ?_
  refine va_sld C.x C.b hX hbl hbA hS (inL_1 hi hL) dL_law_1120 ?_
  refine lv_aload_n C.x C.b dL_law_1121 rfl (lv_at hl 4 rfl) ?_
  refine lv_iload C.x C.b dL_law_1122 (lv_at hl 0 rfl) ?_
  refine lv_iconst (v := (2 : Int32)) C.x C.b dL_law_1124 (by decide) ?_
  refine lv_iadd C.x C.b dL_law_1125 ?_
  refine va_sld C.x C.b hX hbl hbA hS (inL_2 hi hL) dL_law_1126 ?_
  refine r_callV (As := [.int (xs (nI i + (1 : Int32)).toNatClampNeg), .int (xs (nI i + (2 : Int32)).toNatClampNeg)]) (rest := []) C hR hS t1 rfl mk_X9_quiet cl_L_145 (k_X9_quiet t1 e1) ⟨⟨Nat.le_of_ble_eq_true rfl, Nat.le_of_ble_eq_true rfl⟩, ⟨rfl, rfl⟩, (show Kc + n + 0 ≤ 601024 by omega), (show Ks + 6 * n + 0 ≤ 7293034 by omega)⟩ rfl hl.1 rfl (Nat.le_of_ble_eq_true rfl) dL_law_1127 (fun H locs hR hS hE1 z1 => ?_)
  have hR : Rel G h1 H := hR
  have t2 : hpT h1 202 = (1, 10) := hE1.at t2 (by decide)
  have t3 : hpT h1 230 = (3, 1) := hE1.at t3 (by decide)
  refine lv_aload_n C.x C.b dL_law_1130 rfl (lv_at hl 2 rfl) ?_
  refine lv_aload_n C.x C.b dL_law_1131 rfl (lv_at hl 4 rfl) ?_
  refine lv_iload C.x C.b dL_law_1132 (lv_at hl 0 rfl) ?_
  refine lv_iconst (v := (1 : Int32)) C.x C.b dL_law_1134 (by decide) ?_
  refine lv_iadd C.x C.b dL_law_1135 ?_
  refine va_sld C.x C.b hX hbl hbA hS (inL_1 hi hL) dL_law_1136 ?_
  refine lv_aload_n C.x C.b dL_law_1137 rfl (lv_at hl 4 rfl) ?_
  refine lv_iload C.x C.b dL_law_1138 (lv_at hl 0 rfl) ?_
  refine lv_iconst (v := (2 : Int32)) C.x C.b dL_law_1140 (by decide) ?_
  refine lv_iadd C.x C.b dL_law_1141 ?_
  refine va_sld C.x C.b hX hbl hbA hS (inL_2 hi hL) dL_law_1142 ?_
  refine r_callV (As := [.int (xs (nI i + (1 : Int32)).toNatClampNeg), .int (xs (nI i + (2 : Int32)).toNatClampNeg)]) (rest := [.int v1]) C hR hS t2 rfl mk_X10_quiet cl_L_148 (k_X10_quiet t2 e2) ⟨⟨Nat.le_of_ble_eq_true rfl, Nat.le_of_ble_eq_true rfl⟩, ⟨rfl, rfl⟩, (show Kc + n + 0 + 0 ≤ 601024 by omega), (show Ks + 6 * n + 0 + 0 ≤ 7293034 by omega)⟩ rfl hl.1 rfl (Nat.le_of_ble_eq_true rfl) dL_law_1143 (fun H locs hR hS hE2 z2 => ?_)
  have hR : Rel G h2 H := hR
  have t3 : hpT h2 230 = (3, 1) := hE2.at t3 (by decide)
  refine lv_icmp_eq (tgt := 1656) C.x C.b dL_law_1146 (by decide) (fun _ => ?_) (fun c => absurd rfl c)
  refine W.widen (k := Kc + (n + 1)) (n := Ks + 6 * (n + 1)) (by omega) (by omega) ?_
  exact kk _ _ _ _ _ ⟨B2, t3, hR, hS, hl⟩
set_option maxRecDepth 100000 in
set_option maxHeartbeats 4000000 in
theorem lc_28 {G : Gt} {p : Program} {l : Launch} {e : Env} {s : State} {m : MethodId} {args : Array Value} {below : List Frame} {meth : Method} {c : Code} {H : Heap} {locs : List Loc} {Q : State → Prop} {ls : Array Slot} {b L : Nat} {xs : Nat → Int32} {i n : Nat} {h : Hp} {A : Ast} (X : LwC G p s m meth c args b L xs) (hi : i + 6 ≤ L) (hn : n < 1000) (I : LwI G s b i n h A H locs ls) (kk : ∀ (H : Heap) (locs : List Loc) (ls : Array Slot) (h : Hp) (A : Ast), LwI G s b i (n + 1) h A H locs ls → W p l e room_1 s m args below meth c H locs (Kc + (n + 1)) (Ks + 6 * (n + 1)) Q (F0 m 1656 ls [])) : W p l e room_1 s m args below meth c H locs (Kc + n) (Ks + 6 * n) Q (F0 m 1151 ls []) := by
  obtain ⟨C, hr, hlk, hX, hbl, hbA, hL⟩ := X
  obtain ⟨B, t3, hR, hS, hl⟩ := I
  have hl : lv_has ls 8 [(4, .int (nI i)), (3, .ref (G.2.2 + 230)), (2, .ref (G.2.2 + 202)), (1, .ref (G.2.2 + 1)), (0, .ref b)] := hl
  have t1 := B.1.s.t1
  have t2 := B.2.1.s.1
  have hK := Kc_e
  have hK2 := Ks_e
  obtain ⟨v1, A2, h1, h2, e1, e2, B2⟩ := bo_soft B hn (xs (nI i + (1 : Int32)).toNatClampNeg) (xs (nI i + (2 : Int32)).toNatClampNeg)
  refine lv_aload_n C.x C.b dL_law_1151 rfl (lv_at hl 3 rfl) ?_
  refine lv_aload_n C.x C.b dL_law_1152 rfl (lv_at hl 4 rfl) ?_
  refine lv_iload C.x C.b dL_law_1153 (lv_at hl 0 rfl) ?_
  refine lv_iconst (v := (1 : Int32)) C.x C.b dL_law_1155 (by decide) ?_
  refine lv_iadd C.x C.b dL_law_1156 ?_
  refine va_sld C.x C.b hX hbl hbA hS (inL_1 hi hL) dL_law_1157 ?_
  refine lv_aload_n C.x C.b dL_law_1158 rfl (lv_at hl 4 rfl) ?_
  refine lv_iload C.x C.b dL_law_1159 (lv_at hl 0 rfl) ?_
  refine lv_iconst (v := (2 : Int32)) C.x C.b dL_law_1161 (by decide) ?_
  refine lv_iadd C.x C.b dL_law_1162 ?_
  refine va_sld C.x C.b hX hbl hbA hS (inL_2 hi hL) dL_law_1163 ?_
  refine r_callV (As := [.int (xs (nI i + (1 : Int32)).toNatClampNeg), .int (xs (nI i + (2 : Int32)).toNatClampNeg)]) (rest := []) C hR hS t1 rfl mk_X9_soft cl_L_149 (k_X9_soft t1 e1) ⟨⟨Nat.le_of_ble_eq_true rfl, Nat.le_of_ble_eq_true rfl⟩, ⟨rfl, rfl⟩, (show Kc + n + 0 ≤ 601024 by omega), (show Ks + 6 * n + 0 ≤ 7293034 by omega)⟩ rfl hl.1 rfl (Nat.le_of_ble_eq_true rfl) dL_law_1164 (fun H locs hR hS hE1 z1 => ?_)
  have hR : Rel G h1 H := hR
  have t2 : hpT h1 202 = (1, 10) := hE1.at t2 (by decide)
  have t3 : hpT h1 230 = (3, 1) := hE1.at t3 (by decide)
  refine lv_aload_n C.x C.b dL_law_1167 rfl (lv_at hl 2 rfl) ?_
  refine lv_aload_n C.x C.b dL_law_1168 rfl (lv_at hl 4 rfl) ?_
  refine lv_iload C.x C.b dL_law_1169 (lv_at hl 0 rfl) ?_
  refine lv_iconst (v := (1 : Int32)) C.x C.b dL_law_1171 (by decide) ?_
  refine lv_iadd C.x C.b dL_law_1172 ?_
  refine va_sld C.x C.b hX hbl hbA hS (inL_1 hi hL) dL_law_1173 ?_
  refine lv_aload_n C.x C.b dL_law_1174 rfl (lv_at hl 4 rfl) ?_
  refine lv_iload C.x C.b dL_law_1175 (lv_at hl 0 rfl) ?_
  refine lv_iconst (v := (2 : Int32)) C.x C.b dL_law_1177 (by decide) ?_
  refine lv_iadd C.x C.b dL_law_1178 ?_
  refine va_sld C.x C.b hX hbl hbA hS (inL_2 hi hL) dL_law_1179 ?_
  refine r_callV (As := [.int (xs (nI i + (1 : Int32)).toNatClampNeg), .int (xs (nI i + (2 : Int32)).toNatClampNeg)]) (rest := [.int v1]) C hR hS t2 rfl mk_X10_soft cl_L_152 (k_X10_soft t2 e2) ⟨⟨Nat.le_of_ble_eq_true rfl, Nat.le_of_ble_eq_true rfl⟩, ⟨rfl, rfl⟩, (show Kc + n + 0 + 0 ≤ 601024 by omega), (show Ks + 6 * n + 0 + 0 ≤ 7293034 by omega)⟩ rfl hl.1 rfl (Nat.le_of_ble_eq_true rfl) dL_law_1180 (fun H locs hR hS hE2 z2 => ?_)
  have hR : Rel G h2 H := hR
  have t3 : hpT h2 230 = (3, 1) := hE2.at t3 (by decide)
  refine lv_icmp_eq (tgt := 1656) C.x C.b dL_law_1183 (by decide) (fun _ => ?_) (fun c => absurd rfl c)
  refine W.widen (k := Kc + (n + 1)) (n := Ks + 6 * (n + 1)) (by omega) (by omega) ?_
  exact kk _ _ _ _ _ ⟨B2, t3, hR, hS, hl⟩
set_option maxRecDepth 100000 in
set_option maxHeartbeats 4000000 in
theorem lc_29 {G : Gt} {p : Program} {l : Launch} {e : Env} {s : State} {m : MethodId} {args : Array Value} {below : List Frame} {meth : Method} {c : Code} {H : Heap} {locs : List Loc} {Q : State → Prop} {ls : Array Slot} {b L : Nat} {xs : Nat → Int32} {i n : Nat} {h : Hp} {A : Ast} (X : LwC G p s m meth c args b L xs) (hi : i + 6 ≤ L) (hn : n < 1000) (I : LwI G s b i n h A H locs ls) (kk : ∀ (H : Heap) (locs : List Loc) (ls : Array Slot) (h : Hp) (A : Ast), LwI G s b i (n + 1) h A H locs ls → W p l e room_1 s m args below meth c H locs (Kc + (n + 1)) (Ks + 6 * (n + 1)) Q (F0 m 1656 ls [])) : W p l e room_1 s m args below meth c H locs (Kc + n) (Ks + 6 * n) Q (F0 m 1188 ls []) := by
  obtain ⟨C, hr, hlk, hX, hbl, hbA, hL⟩ := X
  obtain ⟨B, t3, hR, hS, hl⟩ := I
  have hl : lv_has ls 8 [(4, .int (nI i)), (3, .ref (G.2.2 + 230)), (2, .ref (G.2.2 + 202)), (1, .ref (G.2.2 + 1)), (0, .ref b)] := hl
  have t1 := B.1.s.t1
  have t2 := B.2.1.s.1
  have hK := Kc_e
  have hK2 := Ks_e
  obtain ⟨h1, h2, e1, e2, B2⟩ := bo_seen B hn (xs (nI i + (1 : Int32)).toNatClampNeg)
  obtain ⟨v1, ev⟩ : ∃ v, v = (sp_seen A (xs (nI i + (1 : Int32)).toNatClampNeg)).1 := ⟨_, rfl⟩
  rw [← ev] at e1 e2
  clear ev
  refine lv_aload_n C.x C.b dL_law_1188 rfl (lv_at hl 3 rfl) ?_
  refine lv_aload_n C.x C.b dL_law_1189 rfl (lv_at hl 4 rfl) ?_
  refine lv_iload C.x C.b dL_law_1190 (lv_at hl 0 rfl) ?_
  refine lv_iconst (v := (1 : Int32)) C.x C.b dL_law_1192 (by decide) ?_
  refine lv_iadd C.x C.b dL_law_1193 ?_
  refine va_sld C.x C.b hX hbl hbA hS (inL_1 hi hL) dL_law_1194 ?_
  refine r_callV (As := [.int (xs (nI i + (1 : Int32)).toNatClampNeg)]) (rest := []) C hR hS t1 rfl mk_X9_seen cl_L_153 (k_X9_seen t1 e1) ⟨⟨Nat.le_of_ble_eq_true rfl, Nat.le_of_ble_eq_true rfl⟩, ⟨rfl, rfl⟩, (show Kc + n + 0 ≤ 601024 by omega), (show Ks + 6 * n + 0 ≤ 7293034 by omega)⟩ rfl hl.1 rfl (Nat.le_of_ble_eq_true rfl) dL_law_1195 (fun H locs hR hS hE1 z1 => ?_)
  have hR : Rel G h1 H := hR
  have t2 : hpT h1 202 = (1, 10) := hE1.at t2 (by decide)
  have t3 : hpT h1 230 = (3, 1) := hE1.at t3 (by decide)
  refine lv_aload_n C.x C.b dL_law_1198 rfl (lv_at hl 2 rfl) ?_
  refine lv_aload_n C.x C.b dL_law_1199 rfl (lv_at hl 4 rfl) ?_
  refine lv_iload C.x C.b dL_law_1200 (lv_at hl 0 rfl) ?_
  refine lv_iconst (v := (1 : Int32)) C.x C.b dL_law_1202 (by decide) ?_
  refine lv_iadd C.x C.b dL_law_1203 ?_
  refine va_sld C.x C.b hX hbl hbA hS (inL_1 hi hL) dL_law_1204 ?_
  refine r_callV (As := [.int (xs (nI i + (1 : Int32)).toNatClampNeg)]) (rest := [.int v1]) C hR hS t2 rfl mk_X10_seen cl_L_156 (k_X10_seen t2 e2) ⟨⟨Nat.le_of_ble_eq_true rfl, Nat.le_of_ble_eq_true rfl⟩, ⟨rfl, rfl⟩, (show Kc + n + 0 + 0 ≤ 601024 by omega), (show Ks + 6 * n + 0 + 0 ≤ 7293034 by omega)⟩ rfl hl.1 rfl (Nat.le_of_ble_eq_true rfl) dL_law_1205 (fun H locs hR hS hE2 z2 => ?_)
  have hR : Rel G h2 H := hR
  have t3 : hpT h2 230 = (3, 1) := hE2.at t3 (by decide)
  refine lv_icmp_eq (tgt := 1656) C.x C.b dL_law_1208 (by decide) (fun _ => ?_) (fun c => absurd rfl c)
  refine W.widen (k := Kc + (n + 1)) (n := Ks + 6 * (n + 1)) (by omega) (by omega) ?_
  exact kk _ _ _ _ _ ⟨B2, t3, hR, hS, hl⟩
set_option maxRecDepth 100000 in
set_option maxHeartbeats 4000000 in
theorem lc_30 {G : Gt} {p : Program} {l : Launch} {e : Env} {s : State} {m : MethodId} {args : Array Value} {below : List Frame} {meth : Method} {c : Code} {H : Heap} {locs : List Loc} {Q : State → Prop} {ls : Array Slot} {b L : Nat} {xs : Nat → Int32} {i n : Nat} {h : Hp} {A : Ast} (X : LwC G p s m meth c args b L xs) (hi : i + 6 ≤ L) (hn : n < 1000) (I : LwI G s b i n h A H locs ls) (kk : ∀ (H : Heap) (locs : List Loc) (ls : Array Slot) (h : Hp) (A : Ast), LwI G s b i (n + 1) h A H locs ls → W p l e room_1 s m args below meth c H locs (Kc + (n + 1)) (Ks + 6 * (n + 1)) Q (F0 m 1656 ls [])) : W p l e room_1 s m args below meth c H locs (Kc + n) (Ks + 6 * n) Q (F0 m 1213 ls []) := by
  obtain ⟨C, hr, hlk, hX, hbl, hbA, hL⟩ := X
  obtain ⟨B, t3, hR, hS, hl⟩ := I
  have hl : lv_has ls 8 [(4, .int (nI i)), (3, .ref (G.2.2 + 230)), (2, .ref (G.2.2 + 202)), (1, .ref (G.2.2 + 1)), (0, .ref b)] := hl
  have t1 := B.1.s.t1
  have t2 := B.2.1.s.1
  have hK := Kc_e
  have hK2 := Ks_e
  obtain ⟨h1, h2, e1, e2, B2⟩ := bo_seats B hn
  obtain ⟨v1, ev⟩ : ∃ v, v = (sp_seats A).1 := ⟨_, rfl⟩
  rw [← ev] at e1 e2
  clear ev
  refine lv_aload_n C.x C.b dL_law_1213 rfl (lv_at hl 3 rfl) ?_
  refine r_callV (As := []) (rest := []) C hR hS t1 rfl mk_X9_seats cl_L_157 (k_X9_seats t1 e1) ⟨⟨Nat.le_of_ble_eq_true rfl, Nat.le_of_ble_eq_true rfl⟩, ⟨rfl, rfl⟩, (show Kc + n + 0 ≤ 601024 by omega), (show Ks + 6 * n + 0 ≤ 7293034 by omega)⟩ rfl hl.1 rfl (Nat.le_of_ble_eq_true rfl) dL_law_1214 (fun H locs hR hS hE1 z1 => ?_)
  have hR : Rel G h1 H := hR
  have t2 : hpT h1 202 = (1, 10) := hE1.at t2 (by decide)
  have t3 : hpT h1 230 = (3, 1) := hE1.at t3 (by decide)
  refine lv_aload_n C.x C.b dL_law_1217 rfl (lv_at hl 2 rfl) ?_
  refine r_callV (As := []) (rest := [.int v1]) C hR hS t2 rfl mk_X10_seats cl_L_160 (k_X10_seats t2 e2) ⟨⟨Nat.le_of_ble_eq_true rfl, Nat.le_of_ble_eq_true rfl⟩, ⟨rfl, rfl⟩, (show Kc + n + 0 + 0 ≤ 601024 by omega), (show Ks + 6 * n + 0 + 0 ≤ 7293034 by omega)⟩ rfl hl.1 rfl (Nat.le_of_ble_eq_true rfl) dL_law_1218 (fun H locs hR hS hE2 z2 => ?_)
  have hR : Rel G h2 H := hR
  have t3 : hpT h2 230 = (3, 1) := hE2.at t3 (by decide)
  refine lv_icmp_eq (tgt := 1656) C.x C.b dL_law_1221 (by decide) (fun _ => ?_) (fun c => absurd rfl c)
  refine W.widen (k := Kc + (n + 1)) (n := Ks + 6 * (n + 1)) (by omega) (by omega) ?_
  exact kk _ _ _ _ _ ⟨B2, t3, hR, hS, hl⟩
set_option maxRecDepth 100000 in
set_option maxHeartbeats 4000000 in
theorem lc_31 {G : Gt} {p : Program} {l : Launch} {e : Env} {s : State} {m : MethodId} {args : Array Value} {below : List Frame} {meth : Method} {c : Code} {H : Heap} {locs : List Loc} {Q : State → Prop} {ls : Array Slot} {b L : Nat} {xs : Nat → Int32} {i n : Nat} {h : Hp} {A : Ast} (X : LwC G p s m meth c args b L xs) (hi : i + 6 ≤ L) (hn : n < 1000) (I : LwI G s b i n h A H locs ls) (kk : ∀ (H : Heap) (locs : List Loc) (ls : Array Slot) (h : Hp) (A : Ast), LwI G s b i (n + 1) h A H locs ls → W p l e room_1 s m args below meth c H locs (Kc + (n + 1)) (Ks + 6 * (n + 1)) Q (F0 m 1656 ls [])) : W p l e room_1 s m args below meth c H locs (Kc + n) (Ks + 6 * n) Q (F0 m 1226 ls []) := by
  obtain ⟨C, hr, hlk, hX, hbl, hbA, hL⟩ := X
  obtain ⟨B, t3, hR, hS, hl⟩ := I
  have hl : lv_has ls 8 [(4, .int (nI i)), (3, .ref (G.2.2 + 230)), (2, .ref (G.2.2 + 202)), (1, .ref (G.2.2 + 1)), (0, .ref b)] := hl
  have t1 := B.1.s.t1
  have t2 := B.2.1.s.1
  have hK := Kc_e
  have hK2 := Ks_e
  obtain ⟨h1, h2, e1, e2, B2⟩ := bo_marked B hn (xs (nI i + (1 : Int32)).toNatClampNeg) (xs (nI i + (2 : Int32)).toNatClampNeg) (xs (nI i + (3 : Int32)).toNatClampNeg)
  obtain ⟨v1, ev⟩ : ∃ v, v = (sp_marked A (xs (nI i + (1 : Int32)).toNatClampNeg) (xs (nI i + (2 : Int32)).toNatClampNeg) (xs (nI i + (3 : Int32)).toNatClampNeg)).1 := ⟨_, rfl⟩
  rw [← ev] at e1 e2
  clear ev
  refine lv_aload_n C.x C.b dL_law_1226 rfl (lv_at hl 3 rfl) ?_
  refine lv_aload_n C.x C.b dL_law_1227 rfl (lv_at hl 4 rfl) ?_
  refine lv_iload C.x C.b dL_law_1228 (lv_at hl 0 rfl) ?_
  refine lv_iconst (v := (1 : Int32)) C.x C.b dL_law_1230 (by decide) ?_
  refine lv_iadd C.x C.b dL_law_1231 ?_
  refine va_sld C.x C.b hX hbl hbA hS (inL_1 hi hL) dL_law_1232 ?_
  refine lv_aload_n C.x C.b dL_law_1233 rfl (lv_at hl 4 rfl) ?_
  refine lv_iload C.x C.b dL_law_1234 (lv_at hl 0 rfl) ?_
  refine lv_iconst (v := (2 : Int32)) C.x C.b dL_law_1236 (by decide) ?_
  refine lv_iadd C.x C.b dL_law_1237 ?_
  refine va_sld C.x C.b hX hbl hbA hS (inL_2 hi hL) dL_law_1238 ?_
  refine lv_aload_n C.x C.b dL_law_1239 rfl (lv_at hl 4 rfl) ?_
  refine lv_iload C.x C.b dL_law_1240 (lv_at hl 0 rfl) ?_
  refine lv_iconst (v := (3 : Int32)) C.x C.b dL_law_1242 (by decide) ?_
  refine lv_iadd C.x C.b dL_law_1243 ?_
  refine va_sld C.x C.b hX hbl hbA hS (inL_3 hi hL) dL_law_1244 ?_
  refine r_callV (As := [.int (xs (nI i + (1 : Int32)).toNatClampNeg), .int (xs (nI i + (2 : Int32)).toNatClampNeg), .int (xs (nI i + (3 : Int32)).toNatClampNeg)]) (rest := []) C hR hS t1 rfl mk_X9_marked cl_L_161 (k_X9_marked t1 e1) ⟨⟨Nat.le_of_ble_eq_true rfl, Nat.le_of_ble_eq_true rfl⟩, ⟨rfl, rfl⟩, (show Kc + n + 0 ≤ 601024 by omega), (show Ks + 6 * n + 0 ≤ 7293034 by omega)⟩ rfl hl.1 rfl (Nat.le_of_ble_eq_true rfl) dL_law_1245 (fun H locs hR hS hE1 z1 => ?_)
  have hR : Rel G h1 H := hR
  have t2 : hpT h1 202 = (1, 10) := hE1.at t2 (by decide)
  have t3 : hpT h1 230 = (3, 1) := hE1.at t3 (by decide)
  refine lv_aload_n C.x C.b dL_law_1248 rfl (lv_at hl 2 rfl) ?_
  refine lv_aload_n C.x C.b dL_law_1249 rfl (lv_at hl 4 rfl) ?_
  refine lv_iload C.x C.b dL_law_1250 (lv_at hl 0 rfl) ?_
  refine lv_iconst (v := (1 : Int32)) C.x C.b dL_law_1252 (by decide) ?_
  refine lv_iadd C.x C.b dL_law_1253 ?_
  refine va_sld C.x C.b hX hbl hbA hS (inL_1 hi hL) dL_law_1254 ?_
  refine lv_aload_n C.x C.b dL_law_1255 rfl (lv_at hl 4 rfl) ?_
  refine lv_iload C.x C.b dL_law_1256 (lv_at hl 0 rfl) ?_
  refine lv_iconst (v := (2 : Int32)) C.x C.b dL_law_1258 (by decide) ?_
  refine lv_iadd C.x C.b dL_law_1259 ?_
  refine va_sld C.x C.b hX hbl hbA hS (inL_2 hi hL) dL_law_1260 ?_
  refine lv_aload_n C.x C.b dL_law_1261 rfl (lv_at hl 4 rfl) ?_
  refine lv_iload C.x C.b dL_law_1262 (lv_at hl 0 rfl) ?_
  refine lv_iconst (v := (3 : Int32)) C.x C.b dL_law_1264 (by decide) ?_
  refine lv_iadd C.x C.b dL_law_1265 ?_
  refine va_sld C.x C.b hX hbl hbA hS (inL_3 hi hL) dL_law_1266 ?_
  refine r_callV (As := [.int (xs (nI i + (1 : Int32)).toNatClampNeg), .int (xs (nI i + (2 : Int32)).toNatClampNeg), .int (xs (nI i + (3 : Int32)).toNatClampNeg)]) (rest := [.int v1]) C hR hS t2 rfl mk_X10_marked cl_L_164 (k_X10_marked t2 e2) ⟨⟨Nat.le_of_ble_eq_true rfl, Nat.le_of_ble_eq_true rfl⟩, ⟨rfl, rfl⟩, (show Kc + n + 0 + 0 ≤ 601024 by omega), (show Ks + 6 * n + 0 + 0 ≤ 7293034 by omega)⟩ rfl hl.1 rfl (Nat.le_of_ble_eq_true rfl) dL_law_1267 (fun H locs hR hS hE2 z2 => ?_)
  have hR : Rel G h2 H := hR
  have t3 : hpT h2 230 = (3, 1) := hE2.at t3 (by decide)
  refine lv_icmp_eq (tgt := 1656) C.x C.b dL_law_1270 (by decide) (fun _ => ?_) (fun c => absurd rfl c)
  refine W.widen (k := Kc + (n + 1)) (n := Ks + 6 * (n + 1)) (by omega) (by omega) ?_
  exact kk _ _ _ _ _ ⟨B2, t3, hR, hS, hl⟩
