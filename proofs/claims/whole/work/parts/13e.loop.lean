/-! the law's loop -/
theorem lw_neg : ∀ L : Nat, L < 6 → Int32.ofNat L - 6 < 0 := by decide
theorem lw_more {i L : Nat} (hL : L ≤ 3072) (hi : i ≤ L) (h : ¬ Int32.ofNat L - 6 < nI i) : i + 6 ≤ L := by
  by_cases h6 : L < 6
  · exact absurd (Int32.lt_of_lt_of_le (lw_neg L h6) (by rw [i0, nI_leI (by omega) (by omega)]; omega)) h
  · have e : Int32.ofNat L - 6 = nI (L - 6) := by
      have e1 : nI (L - 6) + nI 6 = nI L := by rw [nI_add]; congr 1; omega
      show nI L - nI 6 = nI (L - 6)
      rw [← e1, Int32.add_sub_cancel]
    rw [e, nI_ltI (by omega) (by omega)] at h
    omega
set_option maxRecDepth 100000 in
set_option maxHeartbeats 4000000 in
theorem lw_switch {G : Gt} {p : Program} {l : Launch} {e : Env} {s : State} {m : MethodId} {args : Array Value} {below : List Frame} {meth : Method} {c : Code} {H : Heap} {locs : List Loc} {Q : State → Prop} {ls : Array Slot} {b L : Nat} {xs : Nat → Int32} {i n : Nat} {h : Hp} {A : Ast} (xk : XK G) (hl0 : l.stackTraces = false) (v : Int32) (X : LwC G p s m meth c args b L xs) (hi : i + 6 ≤ L) (hn : n < 1000) (I : LwI G s b i n h A H locs ls) (kk : ∀ (H : Heap) (locs : List Loc) (ls : Array Slot) (h : Hp) (A : Ast), LwI G s b i (n + 1) h A H locs ls → W p l e room_1 s m args below meth c H locs (Kc + (n + 1)) (Ks + 6 * (n + 1)) Q (F0 m 1656 ls [])) : W p l e room_1 s m args below meth c H locs (Kc + n) (Ks + 6 * n) Q (F0 m 40 ls [.int v]) := by
  by_cases c_0 : v = (0 : Int32)
  · exact lv_tableIn (tgt := 244) X.1.x X.1.b dL_law_40 (by rw [c_0]; decide) (by rw [c_0]; decide) (by rw [c_0]; rfl) (by decide) (lc_0 X hi hn I kk)
  by_cases c_1 : v = (1 : Int32)
  · exact lv_tableIn (tgt := 269) X.1.x X.1.b dL_law_40 (by rw [c_1]; decide) (by rw [c_1]; decide) (by rw [c_1]; rfl) (by decide) (lc_1 X hi hn I kk)
  by_cases c_2 : v = (2 : Int32)
  · exact lv_tableIn (tgt := 294) X.1.x X.1.b dL_law_40 (by rw [c_2]; decide) (by rw [c_2]; decide) (by rw [c_2]; rfl) (by decide) (lc_2 X hi hn I kk)
  by_cases c_3 : v = (3 : Int32)
  · exact lv_tableIn (tgt := 307) X.1.x X.1.b dL_law_40 (by rw [c_3]; decide) (by rw [c_3]; decide) (by rw [c_3]; rfl) (by decide) (lc_3 X hi hn I kk)
  by_cases c_4 : v = (4 : Int32)
  · exact lv_tableIn (tgt := 320) X.1.x X.1.b dL_law_40 (by rw [c_4]; decide) (by rw [c_4]; decide) (by rw [c_4]; rfl) (by decide) (lc_4 X hi hn I kk)
  by_cases c_5 : v = (5 : Int32)
  · exact lv_tableIn (tgt := 333) X.1.x X.1.b dL_law_40 (by rw [c_5]; decide) (by rw [c_5]; decide) (by rw [c_5]; rfl) (by decide) (lc_5 xk hl0 X hi hn I kk)
  by_cases c_6 : v = (6 : Int32)
  · exact lv_tableIn (tgt := 401) X.1.x X.1.b dL_law_40 (by rw [c_6]; decide) (by rw [c_6]; decide) (by rw [c_6]; rfl) (by decide) (lc_6 xk hl0 X hi hn I kk)
  by_cases c_7 : v = (7 : Int32)
  · exact lv_tableIn (tgt := 469) X.1.x X.1.b dL_law_40 (by rw [c_7]; decide) (by rw [c_7]; decide) (by rw [c_7]; rfl) (by decide) (lc_7 X hi hn I kk)
  by_cases c_8 : v = (8 : Int32)
  · exact lv_tableIn (tgt := 530) X.1.x X.1.b dL_law_40 (by rw [c_8]; decide) (by rw [c_8]; decide) (by rw [c_8]; rfl) (by decide) (lc_8 X hi hn I kk)
  by_cases c_9 : v = (9 : Int32)
  · exact lv_tableIn (tgt := 555) X.1.x X.1.b dL_law_40 (by rw [c_9]; decide) (by rw [c_9]; decide) (by rw [c_9]; rfl) (by decide) (lc_9 X hi hn I kk)
  by_cases c_10 : v = (10 : Int32)
  · exact lv_tableIn (tgt := 628) X.1.x X.1.b dL_law_40 (by rw [c_10]; decide) (by rw [c_10]; decide) (by rw [c_10]; rfl) (by decide) (lc_10 X hi hn I kk)
  by_cases c_11 : v = (11 : Int32)
  · exact lv_tableIn (tgt := 665) X.1.x X.1.b dL_law_40 (by rw [c_11]; decide) (by rw [c_11]; decide) (by rw [c_11]; rfl) (by decide) (lc_11 X hi hn I kk)
  by_cases c_12 : v = (12 : Int32)
  · exact lv_tableIn (tgt := 702) X.1.x X.1.b dL_law_40 (by rw [c_12]; decide) (by rw [c_12]; decide) (by rw [c_12]; rfl) (by decide) (lc_12 X hi hn I kk)
  by_cases c_13 : v = (13 : Int32)
  · exact lv_tableIn (tgt := 739) X.1.x X.1.b dL_law_40 (by rw [c_13]; decide) (by rw [c_13]; decide) (by rw [c_13]; rfl) (by decide) (lc_13 X hi hn I kk)
  by_cases c_14 : v = (14 : Int32)
  · exact lv_tableIn (tgt := 752) X.1.x X.1.b dL_law_40 (by rw [c_14]; decide) (by rw [c_14]; decide) (by rw [c_14]; rfl) (by decide) (lc_14 X hi hn I kk)
  by_cases c_15 : v = (15 : Int32)
  · exact lv_tableIn (tgt := 765) X.1.x X.1.b dL_law_40 (by rw [c_15]; decide) (by rw [c_15]; decide) (by rw [c_15]; rfl) (by decide) (lc_15 X hi hn I kk)
  by_cases c_16 : v = (16 : Int32)
  · exact lv_tableIn (tgt := 779) X.1.x X.1.b dL_law_40 (by rw [c_16]; decide) (by rw [c_16]; decide) (by rw [c_16]; rfl) (by decide) (lc_16 X hi hn I kk)
  by_cases c_17 : v = (17 : Int32)
  · exact lv_tableIn (tgt := 792) X.1.x X.1.b dL_law_40 (by rw [c_17]; decide) (by rw [c_17]; decide) (by rw [c_17]; rfl) (by decide) (lc_17 X hi hn I kk)
  by_cases c_18 : v = (18 : Int32)
  · exact lv_tableIn (tgt := 817) X.1.x X.1.b dL_law_40 (by rw [c_18]; decide) (by rw [c_18]; decide) (by rw [c_18]; rfl) (by decide) (lc_18 X hi hn I kk)
  by_cases c_19 : v = (19 : Int32)
  · exact lv_tableIn (tgt := 842) X.1.x X.1.b dL_law_40 (by rw [c_19]; decide) (by rw [c_19]; decide) (by rw [c_19]; rfl) (by decide) (lc_19 X hi hn I kk)
  by_cases c_20 : v = (20 : Int32)
  · exact lv_tableIn (tgt := 879) X.1.x X.1.b dL_law_40 (by rw [c_20]; decide) (by rw [c_20]; decide) (by rw [c_20]; rfl) (by decide) (lc_20 X hi hn I kk)
  by_cases c_21 : v = (21 : Int32)
  · exact lv_tableIn (tgt := 904) X.1.x X.1.b dL_law_40 (by rw [c_21]; decide) (by rw [c_21]; decide) (by rw [c_21]; rfl) (by decide) (lc_21 X hi hn I kk)
  by_cases c_22 : v = (22 : Int32)
  · exact lv_tableIn (tgt := 941) X.1.x X.1.b dL_law_40 (by rw [c_22]; decide) (by rw [c_22]; decide) (by rw [c_22]; rfl) (by decide) (lc_22 X hi hn I kk)
  by_cases c_23 : v = (23 : Int32)
  · exact lv_tableIn (tgt := 978) X.1.x X.1.b dL_law_40 (by rw [c_23]; decide) (by rw [c_23]; decide) (by rw [c_23]; rfl) (by decide) (lc_23 X hi hn I kk)
  by_cases c_24 : v = (24 : Int32)
  · exact lv_tableIn (tgt := 1015) X.1.x X.1.b dL_law_40 (by rw [c_24]; decide) (by rw [c_24]; decide) (by rw [c_24]; rfl) (by decide) (lc_24 X hi hn I kk)
  by_cases c_25 : v = (25 : Int32)
  · exact lv_tableIn (tgt := 1028) X.1.x X.1.b dL_law_40 (by rw [c_25]; decide) (by rw [c_25]; decide) (by rw [c_25]; rfl) (by decide) (lc_25 X hi hn I kk)
  by_cases c_26 : v = (26 : Int32)
  · exact lv_tableIn (tgt := 1065) X.1.x X.1.b dL_law_40 (by rw [c_26]; decide) (by rw [c_26]; decide) (by rw [c_26]; rfl) (by decide) (lc_26 X hi hn I kk)
  by_cases c_27 : v = (27 : Int32)
  · exact lv_tableIn (tgt := 1114) X.1.x X.1.b dL_law_40 (by rw [c_27]; decide) (by rw [c_27]; decide) (by rw [c_27]; rfl) (by decide) (lc_27 X hi hn I kk)
  by_cases c_28 : v = (28 : Int32)
  · exact lv_tableIn (tgt := 1151) X.1.x X.1.b dL_law_40 (by rw [c_28]; decide) (by rw [c_28]; decide) (by rw [c_28]; rfl) (by decide) (lc_28 X hi hn I kk)
  by_cases c_29 : v = (29 : Int32)
  · exact lv_tableIn (tgt := 1188) X.1.x X.1.b dL_law_40 (by rw [c_29]; decide) (by rw [c_29]; decide) (by rw [c_29]; rfl) (by decide) (lc_29 X hi hn I kk)
  by_cases c_30 : v = (30 : Int32)
  · exact lv_tableIn (tgt := 1213) X.1.x X.1.b dL_law_40 (by rw [c_30]; decide) (by rw [c_30]; decide) (by rw [c_30]; rfl) (by decide) (lc_30 X hi hn I kk)
  by_cases c_31 : v = (31 : Int32)
  · exact lv_tableIn (tgt := 1226) X.1.x X.1.b dL_law_40 (by rw [c_31]; decide) (by rw [c_31]; decide) (by rw [c_31]; rfl) (by decide) (lc_31 X hi hn I kk)
  by_cases c_32 : v = (32 : Int32)
  · exact lv_tableIn (tgt := 1275) X.1.x X.1.b dL_law_40 (by rw [c_32]; decide) (by rw [c_32]; decide) (by rw [c_32]; rfl) (by decide) (lc_32 X hi hn I kk)
  by_cases c_33 : v = (33 : Int32)
  · exact lv_tableIn (tgt := 1288) X.1.x X.1.b dL_law_40 (by rw [c_33]; decide) (by rw [c_33]; decide) (by rw [c_33]; rfl) (by decide) (lc_33 X hi hn I kk)
  by_cases c_34 : v = (34 : Int32)
  · exact lv_tableIn (tgt := 1301) X.1.x X.1.b dL_law_40 (by rw [c_34]; decide) (by rw [c_34]; decide) (by rw [c_34]; rfl) (by decide) (lc_34 X hi hn I kk)
  by_cases c_35 : v = (35 : Int32)
  · exact lv_tableIn (tgt := 1314) X.1.x X.1.b dL_law_40 (by rw [c_35]; decide) (by rw [c_35]; decide) (by rw [c_35]; rfl) (by decide) (lc_35 X hi hn I kk)
  by_cases c_36 : v = (36 : Int32)
  · exact lv_tableIn (tgt := 1351) X.1.x X.1.b dL_law_40 (by rw [c_36]; decide) (by rw [c_36]; decide) (by rw [c_36]; rfl) (by decide) (lc_36 X hi hn I kk)
  by_cases c_37 : v = (37 : Int32)
  · exact lv_tableIn (tgt := 1364) X.1.x X.1.b dL_law_40 (by rw [c_37]; decide) (by rw [c_37]; decide) (by rw [c_37]; rfl) (by decide) (lc_37 X hi hn I kk)
  by_cases c_38 : v = (38 : Int32)
  · exact lv_tableIn (tgt := 1377) X.1.x X.1.b dL_law_40 (by rw [c_38]; decide) (by rw [c_38]; decide) (by rw [c_38]; rfl) (by decide) (lc_38 X hi hn I kk)
  by_cases c_39 : v = (39 : Int32)
  · exact lv_tableIn (tgt := 1426) X.1.x X.1.b dL_law_40 (by rw [c_39]; decide) (by rw [c_39]; decide) (by rw [c_39]; rfl) (by decide) (lc_39 X hi hn I kk)
  by_cases c_40 : v = (40 : Int32)
  · exact lv_tableIn (tgt := 1451) X.1.x X.1.b dL_law_40 (by rw [c_40]; decide) (by rw [c_40]; decide) (by rw [c_40]; rfl) (by decide) (lc_40 X hi hn I kk)
  by_cases c_41 : v = (41 : Int32)
  · exact lv_tableIn (tgt := 1464) X.1.x X.1.b dL_law_40 (by rw [c_41]; decide) (by rw [c_41]; decide) (by rw [c_41]; rfl) (by decide) (lc_41 X hi hn I kk)
  by_cases c_42 : v = (42 : Int32)
  · exact lv_tableIn (tgt := 1489) X.1.x X.1.b dL_law_40 (by rw [c_42]; decide) (by rw [c_42]; decide) (by rw [c_42]; rfl) (by decide) (lc_42 X hi hn I kk)
  by_cases c_43 : v = (43 : Int32)
  · exact lv_tableIn (tgt := 1526) X.1.x X.1.b dL_law_40 (by rw [c_43]; decide) (by rw [c_43]; decide) (by rw [c_43]; rfl) (by decide) (lc_43 X hi hn I kk)
  by_cases c_44 : v = (44 : Int32)
  · exact lv_tableIn (tgt := 1551) X.1.x X.1.b dL_law_40 (by rw [c_44]; decide) (by rw [c_44]; decide) (by rw [c_44]; rfl) (by decide) (lc_44 X hi hn I kk)
  by_cases c_45 : v = (45 : Int32)
  · exact lv_tableIn (tgt := 1576) X.1.x X.1.b dL_law_40 (by rw [c_45]; decide) (by rw [c_45]; decide) (by rw [c_45]; rfl) (by decide) (lc_45 X hi hn I kk)
  by_cases c_46 : v = (46 : Int32)
  · exact lv_tableIn (tgt := 1601) X.1.x X.1.b dL_law_40 (by rw [c_46]; decide) (by rw [c_46]; decide) (by rw [c_46]; rfl) (by decide) (lc_46 xk hl0 X hi hn I kk)
  refine lv_tableOut (tgt := 1656) X.1.x X.1.b dL_law_40 (tb_out 47 (by decide) (fun j hj => match j, hj with | 0, _ => fun q => c_0 (q.trans (by decide)) | 1, _ => fun q => c_1 (q.trans (by decide)) | 2, _ => fun q => c_2 (q.trans (by decide)) | 3, _ => fun q => c_3 (q.trans (by decide)) | 4, _ => fun q => c_4 (q.trans (by decide)) | 5, _ => fun q => c_5 (q.trans (by decide)) | 6, _ => fun q => c_6 (q.trans (by decide)) | 7, _ => fun q => c_7 (q.trans (by decide)) | 8, _ => fun q => c_8 (q.trans (by decide)) | 9, _ => fun q => c_9 (q.trans (by decide)) | 10, _ => fun q => c_10 (q.trans (by decide)) | 11, _ => fun q => c_11 (q.trans (by decide)) | 12, _ => fun q => c_12 (q.trans (by decide)) | 13, _ => fun q => c_13 (q.trans (by decide)) | 14, _ => fun q => c_14 (q.trans (by decide)) | 15, _ => fun q => c_15 (q.trans (by decide)) | 16, _ => fun q => c_16 (q.trans (by decide)) | 17, _ => fun q => c_17 (q.trans (by decide)) | 18, _ => fun q => c_18 (q.trans (by decide)) | 19, _ => fun q => c_19 (q.trans (by decide)) | 20, _ => fun q => c_20 (q.trans (by decide)) | 21, _ => fun q => c_21 (q.trans (by decide)) | 22, _ => fun q => c_22 (q.trans (by decide)) | 23, _ => fun q => c_23 (q.trans (by decide)) | 24, _ => fun q => c_24 (q.trans (by decide)) | 25, _ => fun q => c_25 (q.trans (by decide)) | 26, _ => fun q => c_26 (q.trans (by decide)) | 27, _ => fun q => c_27 (q.trans (by decide)) | 28, _ => fun q => c_28 (q.trans (by decide)) | 29, _ => fun q => c_29 (q.trans (by decide)) | 30, _ => fun q => c_30 (q.trans (by decide)) | 31, _ => fun q => c_31 (q.trans (by decide)) | 32, _ => fun q => c_32 (q.trans (by decide)) | 33, _ => fun q => c_33 (q.trans (by decide)) | 34, _ => fun q => c_34 (q.trans (by decide)) | 35, _ => fun q => c_35 (q.trans (by decide)) | 36, _ => fun q => c_36 (q.trans (by decide)) | 37, _ => fun q => c_37 (q.trans (by decide)) | 38, _ => fun q => c_38 (q.trans (by decide)) | 39, _ => fun q => c_39 (q.trans (by decide)) | 40, _ => fun q => c_40 (q.trans (by decide)) | 41, _ => fun q => c_41 (q.trans (by decide)) | 42, _ => fun q => c_42 (q.trans (by decide)) | 43, _ => fun q => c_43 (q.trans (by decide)) | 44, _ => fun q => c_44 (q.trans (by decide)) | 45, _ => fun q => c_45 (q.trans (by decide)) | 46, _ => fun q => c_46 (q.trans (by decide)) | n + 47, hn => absurd hn (by omega))) (by decide) ?_
  refine W.widen (k := Kc + (n + 1)) (n := Ks + 6 * (n + 1)) (by omega) (by omega) ?_
  exact kk _ _ _ _ _ ⟨I.1.up hn, I.2⟩
theorem lw_loop {G : Gt} {p : Program} {l : Launch} {e : Env} {s : State} {m : MethodId} {args : Array Value} {below : List Frame} {meth : Method} {c : Code} {Q : State → Prop} {b L : Nat} {xs : Nat → Int32} (xk : XK G) (hl0 : l.stackTraces = false) (X : LwC G p s m meth c args b L xs)
    (ke : ∀ (H : Heap) (locs : List Loc) (ls : Array Slot), va_S (AA G.2.2) s.heap H locs → W p l e room_1 s m args below meth c H locs 601024 7293034 Q (F0 m 1662 ls [])) : ∀ (d n : Nat) (H : Heap) (locs : List Loc) (ls : Array Slot) (h : Hp) (A : Ast), L ≤ 6 * n + d → 6 * n ≤ L → LwI G s b (6 * n) n h A H locs ls → W p l e room_1 s m args below meth c H locs (Kc + n) (Ks + 6 * n) Q (F0 m 23 ls []) := by
  intro d
  induction d using Nat.strongRecOn with
  | _ d ih =>
    intro n H locs ls h A hd hn I
    have hI := I
    have hC := X
    obtain ⟨C, hr, hlk, hX, hbl, hbA, hL⟩ := X
    obtain ⟨B, t3, hR, hS, hl⟩ := I
    have hK := Kc_e
    have hK2 := Ks_e
    refine lv_iload C.x C.b dL_law_23 (lv_at hl 0 rfl) ?_
    refine lv_aload_n C.x C.b dL_law_25 rfl (lv_at hl 4 rfl) ?_
    refine va_slen C.x C.b hX hbl hbA hS dL_law_26 ?_
    refine lv_bipush (v := (6 : Int32)) C.x C.b dL_law_27 (by decide) ?_
    refine lv_isub C.x C.b dL_law_29 ?_
    refine lv_icmp_gt (tgt := 1662) C.x C.b dL_law_30 (by decide) (fun _ => ?_) (fun hq => ?_)
    · exact W.widen (k := 601024) (n := 7293034) (by omega) (by omega) (ke _ _ _ hS)
    · have hi : 6 * n + 6 ≤ L := lw_more hL hn hq
      refine lv_aload_n C.x C.b dL_law_33 rfl (lv_at hl 4 rfl) ?_
      refine lv_iload C.x C.b dL_law_34 (lv_at hl 0 rfl) ?_
      refine va_sld C.x C.b hX hbl hbA hS (inL_0 hi hL) dL_law_36 ?_
      refine lv_bipush (v := (63 : Int32)) C.x C.b dL_law_37 (by decide) ?_
      refine lv_iand C.x C.b dL_law_39 ?_
      refine lw_switch xk hl0 _ hC hi (by omega) hI (fun H locs ls h A J => ?_)
      obtain ⟨B, t3, hR, hS, hl⟩ := J
      refine lv_iinc (k := 0) (v := nI (6 * (n + 1))) (lv' := [(4, .int (nI (6 * (n + 1)))), (3, .ref (G.2.2 + 230)), (2, .ref (G.2.2 + 202)), (1, .ref (G.2.2 + 1)), (0, .ref b)]) C.x C.b dL_law_1656 hl rfl ?_ (by decide) rfl (fun ls hl => ?_)
      · rw [show Int32.ofInt 6 = nI 6 by decide, nI_add]; congr 1
      · refine lv_goto (tgt := 23) C.x C.b dL_law_1659 (by decide) ?_
        exact ih (d - 6) (by omega) (n + 1) _ _ _ _ _ (by omega) (by omega) ⟨B, t3, hR, hS, hl⟩
