theorem mk_J0_length_8abf5 : MK yJ0_length_8abf5 cJ0_length_8abf5 1 (some .int) 0 := ⟨gtq (lq_6 (List.mem_of_getElem? (i := 107) rfl)) rfl, gtq (lq_1 (List.mem_of_getElem? (i := 13) rfl)) rfl, by decide +kernel, by decide +kernel, by decide +kernel⟩
theorem mk_J0_coder_7d493 : MK yJ0_coder_7d493 cJ0_coder_7d493 1 (some .byte) 0 := ⟨gtq (lq_6 (List.mem_of_getElem? (i := 111) rfl)) rfl, gtq (lq_1 (List.mem_of_getElem? (i := 13) rfl)) rfl, by decide +kernel, by decide +kernel, by decide +kernel⟩
theorem mk_J0_charAt_5068e : MK yJ0_charAt_5068e cJ0_charAt_5068e 2 (some .char) 1 := ⟨gtq (lq_6 (List.mem_of_getElem? (i := 117) rfl)) rfl, gtq (lq_1 (List.mem_of_getElem? (i := 13) rfl)) rfl, by decide +kernel, by decide +kernel, by decide +kernel⟩
theorem mk_J0_isLatin1_aae02 : MK yJ0_isLatin1_aae02 cJ0_isLatin1_aae02 1 (some .boolean) 0 := ⟨gtq (lq_6 (List.mem_of_getElem? (i := 121) rfl)) rfl, gtq (lq_1 (List.mem_of_getElem? (i := 13) rfl)) rfl, by decide +kernel, by decide +kernel, by decide +kernel⟩
theorem mk_J1_charAt_3b067 : MK yJ1_charAt_3b067 cJ1_charAt_3b067 2 (some .char) 2 := ⟨gtq (lq_6 (List.mem_of_getElem? (i := 124) rfl)) rfl, gtq (lq_1 (List.mem_of_getElem? (i := 14) rfl)) rfl, by decide +kernel, by decide +kernel, by decide +kernel⟩
theorem mk_J0_checkIndex_df160 : MK yJ0_checkIndex_df160 cJ0_checkIndex_df160 2 (none) 2 := ⟨gtq (lq_6 (List.mem_of_getElem? (i := 127) rfl)) rfl, gtq (lq_1 (List.mem_of_getElem? (i := 13) rfl)) rfl, by decide +kernel, by decide +kernel, by decide +kernel⟩
theorem mk_J3_checkIndex_8e157 : MK yJ3_checkIndex_8e157 cJ3_checkIndex_8e157 3 (some .int) 3 := ⟨gtq (lq_6 (List.mem_of_getElem? (i := 132) rfl)) rfl, gtq (lq_1 (List.mem_of_getElem? (i := 15) rfl)) rfl, by decide +kernel, by decide +kernel, by decide +kernel⟩
theorem lk_S_38 : Cond.fieldLink "java/lang/String" 38 "java/lang/String" "COMPACT_STRINGS" "Z" ∈ gt := gtq (lq_6 (List.mem_of_getElem? (i := 112) rfl)) rfl
theorem lk_S_9 : Cond.fieldLink "java/lang/String" 9 "java/lang/String" "value" "[B" ∈ gt := gtq (lq_8 (List.mem_of_getElem? (i := 77) rfl)) rfl
theorem lk_S_15 : Cond.fieldLink "java/lang/String" 15 "java/lang/String" "coder" "B" ∈ gt := gtq (lq_8 (List.mem_of_getElem? (i := 78) rfl)) rfl
theorem lk_S_1053 : Cond.fieldLink "java/lang/String" 1053 "jdk/internal/util/Preconditions" "SIOOBE_FORMATTER" "Ljava/util/function/BiFunction;" ∈ gt := gtq (lq_6 (List.mem_of_getElem? (i := 128) rfl)) rfl
theorem cl_S_335 : CV "java/lang/String" 335 yJ0_coder_7d493 := ⟨gtq (lq_6 (List.mem_of_getElem? (i := 108) rfl)) rfl, gtq (lq_6 (List.mem_of_getElem? (i := 109) rfl)) rfl, gtq (lq_6 (List.mem_of_getElem? (i := 110) rfl)) rfl⟩
theorem cl_S_492 : CV "java/lang/String" 492 yJ0_isLatin1_aae02 := ⟨gtq (lq_6 (List.mem_of_getElem? (i := 118) rfl)) rfl, gtq (lq_6 (List.mem_of_getElem? (i := 119) rfl)) rfl, gtq (lq_6 (List.mem_of_getElem? (i := 120) rfl)) rfl⟩
theorem cl_S_495 : CS "java/lang/String" 495 yJ1_charAt_3b067 := ⟨gtq (lq_6 (List.mem_of_getElem? (i := 122) rfl)) rfl, gtq (lq_6 (List.mem_of_getElem? (i := 123) rfl)) rfl⟩
theorem cl_L1_9 : CS "java/lang/StringLatin1" 9 yJ0_checkIndex_df160 := ⟨gtq (lq_6 (List.mem_of_getElem? (i := 125) rfl)) rfl, gtq (lq_6 (List.mem_of_getElem? (i := 126) rfl)) rfl⟩
theorem cl_S_1059 : CS "java/lang/String" 1059 yJ3_checkIndex_8e157 := ⟨gtq (lq_6 (List.mem_of_getElem? (i := 130) rfl)) rfl, gtq (lq_6 (List.mem_of_getElem? (i := 131) rfl)) rfl⟩
theorem cl_X10_171 : CV RX10 171 yJ0_length_8abf5 := ⟨gtq (lq_6 (List.mem_of_getElem? (i := 104) rfl)) rfl, gtq (lq_6 (List.mem_of_getElem? (i := 105) rfl)) rfl, gtq (lq_6 (List.mem_of_getElem? (i := 106) rfl)) rfl⟩
theorem cl_X10_176 : CV RX10 176 yJ0_charAt_5068e := ⟨gtq (lq_6 (List.mem_of_getElem? (i := 114) rfl)) rfl, gtq (lq_6 (List.mem_of_getElem? (i := 115) rfl)) rfl, gtq (lq_6 (List.mem_of_getElem? (i := 116) rfl)) rfl⟩
def rm_str (f l : Nat) : Room := { frames := f, cells := 0, slots := 0, locals := l }
section STR
variable {p : Program} {l : Launch} {e : Env} {R : Room} {s : State} {m : MethodId} {args : Array Value} {below : List Frame} {meth : Method} {c : Code} {H : Heap} {locs : List Loc} {cells slots : Nat} {Q : State → Prop}
variable {cc bytes : ByteArray} {pc nL maxL mc ms n idx : Nat} {ls : Array Slot} {rest st0 As : List Value} {G : Gt} {h h1 : Hp} {own host : String} {y : MethodName} {ret : Option FieldType} {rm : Room} {v : Option Value} {bz : Nat} {a : Array Value}
/-- a call on one of the texts -/
theorem r_callVs (C : Cx G p m c cc nL s args own) (hR : Rel G h H) (hS : va_S (AA G.2.2) s.heap H locs) {i : Nat} (hi : i < 5) (hyc : y.cls = "java/lang/String") (hm : MK y bytes maxL ret n) (cw : CV own idx y) (hM : Mt G l y bytes maxL ret rm (.ref (adS G i) :: As) h v h1 bz mc ms) (hf : fitR rm R maxL cells slots mc ms) (hn : As.length = n) (hls : ls.size = nL) (hst : st0 = As.reverse ++ .ref (adS G i) :: rest) (hcat : (rest.map fun v => v.category).sum ≤ 8) (hd : decode cc pc = .ok (.invokevirtual idx, 3))
    (kk : ∀ (H1 : Heap) (locs1 : List Loc), Rel G h1 H1 → va_S (AA G.2.2) s.heap H1 locs1 → Ext h h1 → zc G h1 v bz → W p l e R s m args below meth c H1 locs1 (cells + mc) (slots + ms) Q (F0 m (pc + 3) ls (v.toList ++ rest))) : W p l e R s m args below meth c H locs cells slots Q (F0 m pc ls st0) :=
  r_run (va_runV (C := y.cls) C.1 hM ⟨callB_g C hm (C.ts _ cw.1) hf.2.1.1 hf.2.1.2 hf.1, C.ts _ cw.2.1, C.ts _ cw.2.2⟩ ⟨Pq.blind, by rw [hyc]; exact vk_recv C.2.1.str hi hS, fun U hU hW => Pq.at C hS hR hU hW⟩ rfl hn hls hst (lv_room hcat) hd hf.2.2) hS kk
theorem r_nret {x : Int32} {ty : FieldType} (C : Cx G p m c cc nL s args own) (hr : meth.sig.returnType = some ty) (hlk : meth.locks = false) (hR : Rel G h1 H) (hE : Ext h h1) (hS : va_S (AA G.2.2) s.heap H locs) (hn : narrow ty (.int x) = .int x) (hd : decode cc pc = .ok (.ireturn, 1)) : W p l e R s m args below meth c H locs cells slots (MQ below (Qm G h h1 (some (.int x)) 0) args s cells slots (AA G.2.2)) (F0 m pc ls [.int x]) :=
  W.zret C.x C.b hr hn (fun t ht hW => ⟨rfl, by rw [ht]; exact hR, C.kk hS ht hW, hE, trivial, hS.F ht⟩) hS.2.2 hd (hlocks := hlk)
end STR
set_option maxRecDepth 100000 in
theorem ks_coder {G : Gt} {l : Launch} {h : Hp} {i : Nat} (hi : i < 5) : Mt G l yJ0_coder_7d493 cJ0_coder_7d493 1 (some .byte) (rm_str 0 0) [.ref (adS G i)] h (some (.int 0)) h 0 0 0 := by
  refine r_met (by decide +kernel) (Nat.le_of_ble_eq_true rfl) ?_
  intro p e s m args below meth c ls C hr hlk hnm hR hS hl
  have hl : lv_has ls 1 [(0, .ref (adS G i))] := hl
  refine va_gets C.x C.b C.2.1.cs hS C.ow (C.ts _ lk_S_38) (fun _ q => q) dJ0_coder_7d493_0 ?_
  refine lv_if_eq (tgt := 13) C.x C.b dJ0_coder_7d493_3 (by decide) (fun c => absurd c (by decide)) (fun c => ?_)
  refine lv_aload_n C.x C.b dJ0_coder_7d493_6 rfl (lv_at hl 0 rfl) ?_
  refine vk_getf C.x C.b (C.2.1.str.1 i hi).2.1 hS C.ow (C.ts _ lk_S_15) (fun _ q => q) dJ0_coder_7d493_7 ?_
  refine lv_goto (tgt := 14) C.x C.b dJ0_coder_7d493_10 (by decide) ?_
  exact r_nret C hr hlk hR Ext.rf hS rfl dJ0_coder_7d493_14
set_option maxRecDepth 100000 in
theorem ks_isLatin1 {G : Gt} {l : Launch} {h : Hp} {i : Nat} (hi : i < 5) : Mt G l yJ0_isLatin1_aae02 cJ0_isLatin1_aae02 1 (some .boolean) (rm_str 0 0) [.ref (adS G i)] h (some (.int 1)) h 0 0 0 := by
  refine r_met (by decide +kernel) (Nat.le_of_ble_eq_true rfl) ?_
  intro p e s m args below meth c ls C hr hlk hnm hR hS hl
  have hl : lv_has ls 1 [(0, .ref (adS G i))] := hl
  refine va_gets C.x C.b C.2.1.cs hS C.ow (C.ts _ lk_S_38) (fun _ q => q) dJ0_isLatin1_aae02_0 ?_
  refine lv_if_eq (tgt := 17) C.x C.b dJ0_isLatin1_aae02_3 (by decide) (fun c => absurd c (by decide)) (fun c => ?_)
  refine lv_aload_n C.x C.b dJ0_isLatin1_aae02_6 rfl (lv_at hl 0 rfl) ?_
  refine vk_getf C.x C.b (C.2.1.str.1 i hi).2.1 hS C.ow (C.ts _ lk_S_15) (fun _ q => q) dJ0_isLatin1_aae02_7 ?_
  refine lv_if_ne (tgt := 17) C.x C.b dJ0_isLatin1_aae02_10 (by decide) (fun c => absurd rfl c) (fun c => ?_)
  refine lv_iconst (v := 1) C.x C.b dJ0_isLatin1_aae02_13 (by decide) ?_
  refine lv_goto (tgt := 18) C.x C.b dJ0_isLatin1_aae02_14 (by decide) ?_
  exact r_nret C hr hlk hR Ext.rf hS rfl dJ0_isLatin1_aae02_18
set_option maxRecDepth 100000 in
theorem ks_length {G : Gt} {l : Launch} {h : Hp} {i : Nat} (hi : i < 5) : Mt G l yJ0_length_8abf5 cJ0_length_8abf5 1 (some .int) (rm_str 1 30) [.ref (adS G i)] h (some (.int (nI (txL.getD i 0)))) h 0 0 0 := by
  refine r_met (by decide +kernel) (Nat.le_of_ble_eq_true rfl) ?_
  intro p e s m args below meth c ls C hr hlk hnm hR hS hl
  have hl : lv_has ls 1 [(0, .ref (adS G i))] := hl
  refine lv_aload_n C.x C.b dJ0_length_8abf5_0 rfl (lv_at hl 0 rfl) ?_
  refine vk_getf C.x C.b (C.2.1.str.1 i hi).2.2.1 hS C.ow (C.ts _ lk_S_9) (fun _ q => q) dJ0_length_8abf5_1 ?_
  refine va_tlen C.x C.b (C.2.1.str.1 i hi).2.2.2 hS rfl dJ0_length_8abf5_4 ?_
  refine lv_aload_n C.x C.b dJ0_length_8abf5_5 rfl (lv_at hl 0 rfl) ?_
  refine r_callVs (As := []) (rest := [.int (nI (txL.getD i 0))]) C hR hS hi rfl mk_J0_coder_7d493 cl_S_335 (ks_coder hi) ⟨⟨Nat.le_of_ble_eq_true rfl, Nat.le_of_ble_eq_true rfl⟩, ⟨rfl, rfl⟩, Nat.le_of_ble_eq_true rfl, Nat.le_of_ble_eq_true rfl⟩ rfl hl.1 rfl (Nat.le_of_ble_eq_true rfl) dJ0_length_8abf5_6 (fun H locs hR hS hE1 z => ?_)
  refine lv_ishr C.x C.b dJ0_length_8abf5_9 ?_
  have e0 : nI (txL.getD i 0) >>> ((0 : Int32) &&& 31) = nI (txL.getD i 0) := by
    rcases (show i = 0 ∨ i = 1 ∨ i = 2 ∨ i = 3 ∨ i = 4 by omega) with rfl | rfl | rfl | rfl | rfl <;> decide
  rw [e0]
  exact r_iret C hr hlk hR Ext.rf hS dJ0_length_8abf5_10
set_option maxRecDepth 100000 in
theorem ks_pcheck {G : Gt} {l : Launch} {h : Hp} {x0 x1 : Int32} {w : Value} (hw : w = .null ∨ ∃ t, w = .ref t) (h1 : ¬ x0 < 0) (h2 : x0 < x1) : Mt G l yJ3_checkIndex_8e157 cJ3_checkIndex_8e157 3 (some .int) (rm_str 0 0) [.int x0, .int x1, w] h (some (.int x0)) h 0 0 0 := by
  rcases hw with rfl | ⟨t, rfl⟩
  · refine r_met (by decide +kernel) (Nat.le_of_ble_eq_true rfl) ?_
    intro p e s m args below meth c ls C hr hlk hnm hR hS hl
    have hl : lv_has ls 3 [(0, .int x0), (1, .int x1), (2, .null)] := hl
    refine lv_iload_n C.x C.b dJ3_checkIndex_8e157_0 rfl (lv_at hl 0 rfl) ?_
    refine lv_if_lt (tgt := 9) C.x C.b dJ3_checkIndex_8e157_1 (by decide) (fun c => absurd c h1) (fun c => ?_)
    refine lv_iload_n C.x C.b dJ3_checkIndex_8e157_4 rfl (lv_at hl 0 rfl) ?_
    refine lv_iload_n C.x C.b dJ3_checkIndex_8e157_5 rfl (lv_at hl 1 rfl) ?_
    refine lv_icmp_lt (tgt := 16) C.x C.b dJ3_checkIndex_8e157_6 (by decide) (fun c => ?_) (fun c => absurd h2 c)
    refine lv_iload_n C.x C.b dJ3_checkIndex_8e157_16 rfl (lv_at hl 0 rfl) ?_
    exact r_iret C hr hlk hR Ext.rf hS dJ3_checkIndex_8e157_17
  · refine r_met (by decide +kernel) (Nat.le_of_ble_eq_true rfl) ?_
    intro p e s m args below meth c ls C hr hlk hnm hR hS hl
    have hl : lv_has ls 3 [(0, .int x0), (1, .int x1), (2, .ref t)] := hl
    refine lv_iload_n C.x C.b dJ3_checkIndex_8e157_0 rfl (lv_at hl 0 rfl) ?_
    refine lv_if_lt (tgt := 9) C.x C.b dJ3_checkIndex_8e157_1 (by decide) (fun c => absurd c h1) (fun c => ?_)
    refine lv_iload_n C.x C.b dJ3_checkIndex_8e157_4 rfl (lv_at hl 0 rfl) ?_
    refine lv_iload_n C.x C.b dJ3_checkIndex_8e157_5 rfl (lv_at hl 1 rfl) ?_
    refine lv_icmp_lt (tgt := 16) C.x C.b dJ3_checkIndex_8e157_6 (by decide) (fun c => ?_) (fun c => absurd h2 c)
    refine lv_iload_n C.x C.b dJ3_checkIndex_8e157_16 rfl (lv_at hl 0 rfl) ?_
    exact r_iret C hr hlk hR Ext.rf hS dJ3_checkIndex_8e157_17
set_option maxRecDepth 100000 in
theorem ks_check {G : Gt} {l : Launch} {h : Hp} {x0 x1 : Int32} (h1 : ¬ x0 < 0) (h2 : x0 < x1) : Mt G l yJ0_checkIndex_df160 cJ0_checkIndex_df160 2 none (rm_str 1 30) [.int x0, .int x1] h none h 0 0 0 := by
  refine r_met (by decide +kernel) (Nat.le_of_ble_eq_true rfl) ?_
  intro p e s m args below meth c ls C hr hlk hnm hR hS hl
  have hl : lv_has ls 2 [(0, .int x0), (1, .int x1)] := hl
  refine lv_iload_n C.x C.b dJ0_checkIndex_df160_0 rfl (lv_at hl 0 rfl) ?_
  refine lv_iload_n C.x C.b dJ0_checkIndex_df160_1 rfl (lv_at hl 1 rfl) ?_
  rcases C.2.1.pf with hZ | ⟨t, hZ⟩
  · refine va_gets C.x C.b hZ hS C.ow (C.ts _ lk_S_1053) (fun _ q => q) dJ0_checkIndex_df160_2 ?_
    refine r_callS (As := [.int x0, .int x1, .null]) (rest := []) C hR hS mk_J3_checkIndex_8e157 cl_S_1059 (ks_pcheck (Or.inl rfl) h1 h2) ⟨⟨Nat.le_of_ble_eq_true rfl, Nat.le_of_ble_eq_true rfl⟩, ⟨rfl, rfl⟩, Nat.le_of_ble_eq_true rfl, Nat.le_of_ble_eq_true rfl⟩ rfl hl.1 rfl (Nat.le_of_ble_eq_true rfl) dJ0_checkIndex_df160_5 (fun H locs hR hS hE1 z => ?_)
    refine lv_pop C.x C.b dJ0_checkIndex_df160_8 rfl ?_
    exact r_vret C hr hlk hR Ext.rf hS dJ0_checkIndex_df160_9
  · refine va_gets C.x C.b hZ hS C.ow (C.ts _ lk_S_1053) (fun _ q => q) dJ0_checkIndex_df160_2 ?_
    refine r_callS (As := [.int x0, .int x1, .ref t]) (rest := []) C hR hS mk_J3_checkIndex_8e157 cl_S_1059 (ks_pcheck (Or.inr ⟨t, rfl⟩) h1 h2) ⟨⟨Nat.le_of_ble_eq_true rfl, Nat.le_of_ble_eq_true rfl⟩, ⟨rfl, rfl⟩, Nat.le_of_ble_eq_true rfl, Nat.le_of_ble_eq_true rfl⟩ rfl hl.1 rfl (Nat.le_of_ble_eq_true rfl) dJ0_checkIndex_df160_5 (fun H locs hR hS hE1 z => ?_)
    refine lv_pop C.x C.b dJ0_checkIndex_df160_8 rfl ?_
    exact r_vret C hr hlk hR Ext.rf hS dJ0_checkIndex_df160_9
theorem tx_sign : ∀ i, i < 5 → ∀ j, j < txL.getD i 0 → (((((txB.getD i []).getD j 0) &&& 255).toUInt32 % 65536).toInt32 = (txB.getD i []).getD j 0 ∧ narrow .char (.int ((txB.getD i []).getD j 0)) = .int ((txB.getD i []).getD j 0)) := by decide +kernel
set_option maxRecDepth 100000 in
theorem ks_l1 {G : Gt} {l : Launch} {h : Hp} {i : Nat} {x : Int32} (hi : i < 5) (hx : inb x (txL.getD i 0) = true) : Mt G l yJ1_charAt_3b067 cJ1_charAt_3b067 2 (some .char) (rm_str 2 60) [.ref (adV G i), .int x] h (some (.int ((txB.getD i []).getD (ix x) 0))) h 0 0 0 := by
  have hv := inb_in hx
  have h1 : ¬ x < 0 := fun q => hv (Or.inl q)
  have hlt : x.toNatClampNeg < txL.getD i 0 := Nat.not_le.mp (fun q => hv (Or.inr q))
  have hn31 : txL.getD i 0 < 2 ^ 31 := by
    rcases (show i = 0 ∨ i = 1 ∨ i = 2 ∨ i = 3 ∨ i = 4 by omega) with rfl | rfl | rfl | rfl | rfl <;> decide
  obtain ⟨j, hj, ej⟩ := vp_in_of hv hn31
  have h2 : x < nI (txL.getD i 0) := by rw [ej]; exact nI_lt hj hn31
  refine r_met (by decide +kernel) (Nat.le_of_ble_eq_true rfl) ?_
  intro p e s m args below meth c ls C hr hlk hnm hR hS hl
  have hl : lv_has ls 2 [(0, .ref (adV G i)), (1, .int x)] := hl
  refine lv_iload_n C.x C.b dJ1_charAt_3b067_0 rfl (lv_at hl 1 rfl) ?_
  refine lv_aload_n C.x C.b dJ1_charAt_3b067_1 rfl (lv_at hl 0 rfl) ?_
  refine va_tlen C.x C.b (C.2.1.str.1 i hi).2.2.2 hS rfl dJ1_charAt_3b067_2 ?_
  refine r_callS (As := [.int x, .int (nI (txL.getD i 0))]) (rest := []) C hR hS mk_J0_checkIndex_df160 cl_L1_9 (ks_check h1 h2) ⟨⟨Nat.le_of_ble_eq_true rfl, Nat.le_of_ble_eq_true rfl⟩, ⟨rfl, rfl⟩, Nat.le_of_ble_eq_true rfl, Nat.le_of_ble_eq_true rfl⟩ rfl hl.1 rfl (Nat.le_of_ble_eq_true rfl) dJ1_charAt_3b067_3 (fun H locs hR hS hE1 z => ?_)
  refine lv_aload_n C.x C.b dJ1_charAt_3b067_6 rfl (lv_at hl 0 rfl) ?_
  refine lv_iload_n C.x C.b dJ1_charAt_3b067_7 rfl (lv_at hl 1 rfl) ?_
  refine va_tb C.x C.b (C.2.1.str.1 i hi).2.2.2 hS hv rfl dJ1_charAt_3b067_8 ?_
  refine lv_sipush (v := 255) C.x C.b dJ1_charAt_3b067_9 (by decide) ?_
  refine lv_iand C.x C.b dJ1_charAt_3b067_12 ?_
  refine lv_i2c C.x C.b dJ1_charAt_3b067_13 (tx_sign i hi (ix x) hlt).1 ?_
  exact r_nret C hr hlk hR Ext.rf hS (tx_sign i hi (ix x) hlt).2 dJ1_charAt_3b067_14
set_option maxRecDepth 100000 in
theorem ks_charAt {G : Gt} {l : Launch} {h : Hp} {i : Nat} {x : Int32} (hi : i < 5) (hx : inb x (txL.getD i 0) = true) : Mt G l yJ0_charAt_5068e cJ0_charAt_5068e 2 (some .char) (rm_str 3 90) [.ref (adS G i), .int x] h (some (.int ((txB.getD i []).getD (ix x) 0))) h 0 0 0 := by
  have hv := inb_in hx
  have hlt : x.toNatClampNeg < txL.getD i 0 := Nat.not_le.mp (fun q => hv (Or.inr q))
  refine r_met (by decide +kernel) (Nat.le_of_ble_eq_true rfl) ?_
  intro p e s m args below meth c ls C hr hlk hnm hR hS hl
  have hl : lv_has ls 2 [(0, .ref (adS G i)), (1, .int x)] := hl
  refine lv_aload_n C.x C.b dJ0_charAt_5068e_0 rfl (lv_at hl 0 rfl) ?_
  refine r_callVs (As := []) (rest := []) C hR hS hi rfl mk_J0_isLatin1_aae02 cl_S_492 (ks_isLatin1 hi) ⟨⟨Nat.le_of_ble_eq_true rfl, Nat.le_of_ble_eq_true rfl⟩, ⟨rfl, rfl⟩, Nat.le_of_ble_eq_true rfl, Nat.le_of_ble_eq_true rfl⟩ rfl hl.1 rfl (Nat.le_of_ble_eq_true rfl) dJ0_charAt_5068e_1 (fun H locs hR hS hE1 z => ?_)
  refine lv_if_eq (tgt := 16) C.x C.b dJ0_charAt_5068e_4 (by decide) (fun c => absurd c (by decide)) (fun c => ?_)
  refine lv_aload_n C.x C.b dJ0_charAt_5068e_7 rfl (lv_at hl 0 rfl) ?_
  refine vk_getf C.x C.b (C.2.1.str.1 i hi).2.2.1 hS C.ow (C.ts _ lk_S_9) (fun _ q => q) dJ0_charAt_5068e_8 ?_
  refine lv_iload_n C.x C.b dJ0_charAt_5068e_11 rfl (lv_at hl 1 rfl) ?_
  refine r_callS (As := [.ref (adV G i), .int x]) (rest := []) C hR hS mk_J1_charAt_3b067 cl_S_495 (ks_l1 hi hx) ⟨⟨Nat.le_of_ble_eq_true rfl, Nat.le_of_ble_eq_true rfl⟩, ⟨rfl, rfl⟩, Nat.le_of_ble_eq_true rfl, Nat.le_of_ble_eq_true rfl⟩ rfl hl.1 rfl (Nat.le_of_ble_eq_true rfl) dJ0_charAt_5068e_12 (fun H locs hR hS hE1 z => ?_)
  exact r_nret C hr hlk hR Ext.rf hS (tx_sign i hi (ix x) hlt).2 dJ0_charAt_5068e_15
section STR2
variable {p : Program} {l : Launch} {e : Env} {R : Room} {s : State} {m : MethodId} {args : Array Value} {below : List Frame} {meth : Method} {c : Code} {H : Heap} {locs : List Loc} {cells slots : Nat} {Q : State → Prop}
variable {cc : ByteArray} {pc nL : Nat} {ls : Array Slot} {rest : List Value} {G : Gt} {h : Hp}
theorem r_slen (C : Cx G p m c cc nL s args RX10) (hR : Rel G h H) (hS : va_S (AA G.2.2) s.heap H locs) (hls : ls.size = nL) {i : Nat} (hi : i < 5) (hf1 : 2 ≤ R.frames) (hf2 : 50 ≤ R.locals) (hcat : (rest.map fun v => v.category).sum ≤ 8) (hd : decode cc pc = .ok (.invokevirtual 171, 3))
    (hcs : cells ≤ R.cells ∧ slots ≤ R.slots)
    (kk : ∀ (H1 : Heap) (locs1 : List Loc), Rel G h H1 → va_S (AA G.2.2) s.heap H1 locs1 → W p l e R s m args below meth c H1 locs1 cells slots Q (F0 m (pc + 3) ls (.int (nI (txL.getD i 0)) :: rest))) : W p l e R s m args below meth c H locs cells slots Q (F0 m pc ls (.ref (adS G i) :: rest)) :=
  r_callVs (As := []) (rest := rest) C hR hS hi rfl mk_J0_length_8abf5 cl_X10_171 (ks_length hi) ⟨⟨hf1, by simp only [rm_str]; omega⟩, ⟨rfl, rfl⟩, hcs.1, hcs.2⟩ rfl hls rfl hcat hd (fun H1 locs1 g1 g2 _ _ => kk H1 locs1 g1 g2)
theorem r_schar (C : Cx G p m c cc nL s args RX10) (hR : Rel G h H) (hS : va_S (AA G.2.2) s.heap H locs) (hls : ls.size = nL) {i : Nat} {x : Int32} (hi : i < 5) (hx : inb x (txL.getD i 0) = true) (hf1 : 4 ≤ R.frames) (hf2 : 111 ≤ R.locals) (hcat : (rest.map fun v => v.category).sum ≤ 8) (hd : decode cc pc = .ok (.invokevirtual 176, 3))
    (hcs : cells ≤ R.cells ∧ slots ≤ R.slots)
    (kk : ∀ (H1 : Heap) (locs1 : List Loc), Rel G h H1 → va_S (AA G.2.2) s.heap H1 locs1 → W p l e R s m args below meth c H1 locs1 cells slots Q (F0 m (pc + 3) ls (.int ((txB.getD i []).getD (ix x) 0) :: rest))) : W p l e R s m args below meth c H locs cells slots Q (F0 m pc ls (.int x :: .ref (adS G i) :: rest)) :=
  r_callVs (As := [.int x]) (rest := rest) C hR hS hi rfl mk_J0_charAt_5068e cl_X10_176 (ks_charAt hi hx) ⟨⟨hf1, by simp only [rm_str]; omega⟩, ⟨rfl, rfl⟩, hcs.1, hcs.2⟩ rfl hls rfl hcat hd (fun H1 locs1 g1 g2 _ _ => kk H1 locs1 g1 g2)
theorem sr_231 (C : Cx G p m c cc nL s args RX10) : vk_R RX10 231 "saohwcrn" (adS G 0) s := C.2.1.tx.1
theorem sr_240 (C : Cx G p m c cc nL s args RX10) : vk_R RX10 240 "<>=" (adS G 1) s := C.2.1.tx.2.1
theorem sr_242 (C : Cx G p m c cc nL s args RX10) : vk_R RX10 242 "+-" (adS G 2) s := C.2.1.tx.2.2.1
theorem sr_244 (C : Cx G p m c cc nL s args RX10) : vk_R RX10 244 "*/" (adS G 3) s := C.2.1.tx.2.2.2.1
theorem sr_363 (C : Cx G p m c cc nL s args RX10) : vk_R RX10 363 "nmtsp" (adS G 4) s := C.2.1.tx.2.2.2.2
end STR2

