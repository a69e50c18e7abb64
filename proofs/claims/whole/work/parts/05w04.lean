def rm_X3_init : Room := { frames := 2, cells := 121, slots := 1035, locals := 32 }
set_option maxRecDepth 100000 in
set_option maxHeartbeats 4000000 in
theorem k_X3_init {G : Gt} {l : Launch}  {h : Hp} {r0 : Nat} {out : Hp} (t_r0 : hpT h r0 = (1, 3))  (hf : f_X3_init  h r0 = some out) : Mt G l yX3_init cX3_init 2 (none) rm_X3_init [.ref (G.2.2 + r0)] h (none) out 0 121 1035 := by
  refine r_met (by decide +kernel) (Nat.le_of_ble_eq_true rfl) ?_
  intro p e s m args below meth c ls C hr hlk hnm hR hS hl
  have hE : Ext h h := Ext.rf
  have hl : lv_has ls 2 [(0, .ref (G.2.2 + r0))] := hl
  rw [f_X3_init] at hf
  refine lv_aload_n C.x C.b dX3_init_0 rfl (lv_at hl 0 rfl) ?_
  refine r_objinit C hl.1 lk_X3_1 lk_oi_i lk_oi_c (Nat.le_of_ble_eq_true rfl) (Nat.le_of_ble_eq_true rfl) dX3_init_1 ?_
  refine lv_aload_n C.x C.b dX3_init_4 rfl (lv_at hl 0 rfl) ?_
  refine lv_bipush (v := (15 : Int32)) C.x C.b dX3_init_5 (by decide) ?_
  refine r_newqN C hR hS (15 : Int32) (by decide) (Nat.le_of_ble_eq_true rfl) lk_X3_9 (Nat.le_of_ble_eq_true rfl) (Nat.le_of_ble_eq_true rfl) dX3_init_7 (fun H a1 e_a1 hR hS hE1 t_a1 => ?_)
  have hf := lt_e hf e_a1
  obtain ⟨h2, e_h2⟩ : ∃ y, y = hpNew h (5, ix (15 : Int32)) := ⟨_, rfl⟩
  rw [← e_h2] at hR hE1 t_a1
  have hf := lt_e hf e_h2
  have hE := hE.tr hE1
  have t_r0 := hE1.at t_r0 (by decide)
  refine r_putr C hR hS true (fun _ => hnm) (ne0k hR t_a1 (by decide)) t_r0 (okT_a t_a1 rfl (by decide)) fl_X3_11 fp_X3_3_0 (by decide) dX3_init_10 (fun H locs hR hS => ?_)
  obtain ⟨h3, e_h3⟩ : ∃ y, y = upR h2 r0 0 a1 := ⟨_, rfl⟩
  rw [← e_h3] at hR
  have hf := lt_e hf e_h3
  have hE := eR e_h3 hE
  have t_r0 := tR e_h3 t_r0
  refine lv_iconst (v := (0 : Int32)) C.x C.b dX3_init_13 (by decide) ?_
  refine lv_istore_n (lv' := [(1, .int (0 : Int32)), (0, .ref (G.2.2 + r0))]) C.x C.b dX3_init_14 rfl hl (by decide) rfl (fun ls hl => ?_)
  refine lv_iload_n C.x C.b dX3_init_15 rfl (lv_at hl 0 rfl) ?_
  refine lv_bipush (v := (15 : Int32)) C.x C.b dX3_init_16 (by decide) ?_
  refine lv_icmp_ge (tgt := 40) C.x C.b dX3_init_18 (by decide) (fun c => absurd c (by decide)) (fun c => ?_)
  refine lv_aload_n C.x C.b dX3_init_21 rfl (lv_at hl 1 rfl) ?_
  obtain ⟨g4, hf⟩ := gd_e hf
  refine r_getr C hR t_r0 fl_X3_11 (by decide) (nz_e g4) dX3_init_22 (fun tq5 => ?_)
  have tg4 := okA tq5 rfl
  refine lv_iload_n C.x C.b dX3_init_25 rfl (lv_at hl 0 rfl) ?_
  refine r_newN C hR hS nl_X3_9 (Nat.le_of_ble_eq_true rfl) (Nat.le_of_ble_eq_true rfl) dX3_init_26 (fun H a6 e_a6 hR hS hE1 t_a6 => ?_)
  have hf := lt_e hf e_a6
  obtain ⟨h7, e_h7⟩ : ∃ y, y = hpNew h3 (1, 0) := ⟨_, rfl⟩
  rw [← e_h7] at hR hE1 t_a6
  have hf := lt_e hf e_h7
  have hE := hE.tr hE1
  have tg4 := hE1.k tg4 (by decide)
  have t_r0 := hE1.at t_r0 (by decide)
  refine lv_dup C.x C.b dX3_init_29 rfl ?_
  obtain ⟨q8, h_q8, hf⟩ := bd_e hf
  refine r_callIN (As := []) (rest := [.ref (G.2.2 + a6), .int (0 : Int32), .ref (G.2.2 + (hpR h3 r0 0))]) C hR hS mk_X0_init cn_X3_15 (k_X0_init t_a6 h_q8) ⟨⟨Nat.le_of_ble_eq_true rfl, Nat.le_of_ble_eq_true rfl⟩, ⟨rfl, rfl⟩, Nat.le_of_ble_eq_true rfl, Nat.le_of_ble_eq_true rfl⟩ rfl hl.1 rfl (Nat.le_of_ble_eq_true rfl) dX3_init_30 (fun H locs hR hS hE1 z_q8 => ?_)
  have hE := hE.tr hE1
  have tg4 := hE1.k tg4 (by decide)
  have t_a6 := hE1.at t_a6 (by decide)
  have t_r0 := hE1.at t_r0 (by decide)
  obtain ⟨g9, hf⟩ := gd_e hf
  refine r_aast C hR hS tg4 g9 (ne0 hR t_a6) t_a6 dX3_init_33 (fun H locs hR hS => ?_)
  obtain ⟨h10, e_h10⟩ : ∃ y, y = upR q8 (hpR h3 r0 0) (ix (0 : Int32)) a6 := ⟨_, rfl⟩
  rw [← e_h10] at hR
  have hf := lt_e hf e_h10
  have hE := eR e_h10 hE
  have t_r0 := tR e_h10 t_r0
  refine lv_iinc (v := (1 : Int32)) (lv' := [(1, .int (1 : Int32)), (0, .ref (G.2.2 + r0))]) C.x C.b dX3_init_34 hl (k := 0) rfl (by decide) (by decide) rfl (fun ls hl => ?_)
  refine lv_goto (tgt := 15) C.x C.b dX3_init_37 (by decide) ?_
  refine lv_iload_n C.x C.b dX3_init_15 rfl (lv_at hl 0 rfl) ?_
  refine lv_bipush (v := (15 : Int32)) C.x C.b dX3_init_16 (by decide) ?_
  refine lv_icmp_ge (tgt := 40) C.x C.b dX3_init_18 (by decide) (fun c => absurd c (by decide)) (fun c => ?_)
  refine lv_aload_n C.x C.b dX3_init_21 rfl (lv_at hl 1 rfl) ?_
  obtain ⟨g11, hf⟩ := gd_e hf
  refine r_getr C hR t_r0 fl_X3_11 (by decide) (nz_e g11) dX3_init_22 (fun tq12 => ?_)
  have tg11 := okA tq12 rfl
  refine lv_iload_n C.x C.b dX3_init_25 rfl (lv_at hl 0 rfl) ?_
  refine r_newN C hR hS nl_X3_9 (Nat.le_of_ble_eq_true rfl) (Nat.le_of_ble_eq_true rfl) dX3_init_26 (fun H a13 e_a13 hR hS hE1 t_a13 => ?_)
  have hf := lt_e hf e_a13
  obtain ⟨h14, e_h14⟩ : ∃ y, y = hpNew h10 (1, 0) := ⟨_, rfl⟩
  rw [← e_h14] at hR hE1 t_a13
  have hf := lt_e hf e_h14
  have hE := hE.tr hE1
  have tg11 := hE1.k tg11 (by decide)
  have t_r0 := hE1.at t_r0 (by decide)
  refine lv_dup C.x C.b dX3_init_29 rfl ?_
  obtain ⟨q15, h_q15, hf⟩ := bd_e hf
  refine r_callIN (As := []) (rest := [.ref (G.2.2 + a13), .int (1 : Int32), .ref (G.2.2 + (hpR h10 r0 0))]) C hR hS mk_X0_init cn_X3_15 (k_X0_init t_a13 h_q15) ⟨⟨Nat.le_of_ble_eq_true rfl, Nat.le_of_ble_eq_true rfl⟩, ⟨rfl, rfl⟩, Nat.le_of_ble_eq_true rfl, Nat.le_of_ble_eq_true rfl⟩ rfl hl.1 rfl (Nat.le_of_ble_eq_true rfl) dX3_init_30 (fun H locs hR hS hE1 z_q15 => ?_)
  have hE := hE.tr hE1
  have tg11 := hE1.k tg11 (by decide)
  have t_a13 := hE1.at t_a13 (by decide)
  have t_r0 := hE1.at t_r0 (by decide)
  obtain ⟨g16, hf⟩ := gd_e hf
  refine r_aast C hR hS tg11 g16 (ne0 hR t_a13) t_a13 dX3_init_33 (fun H locs hR hS => ?_)
  obtain ⟨h17, e_h17⟩ : ∃ y, y = upR q15 (hpR h10 r0 0) (ix (1 : Int32)) a13 := ⟨_, rfl⟩
  rw [← e_h17] at hR
  have hf := lt_e hf e_h17
  have hE := eR e_h17 hE
  have t_r0 := tR e_h17 t_r0
  refine lv_iinc (v := (2 : Int32)) (lv' := [(1, .int (2 : Int32)), (0, .ref (G.2.2 + r0))]) C.x C.b dX3_init_34 hl (k := 0) rfl (by decide) (by decide) rfl (fun ls hl => ?_)
  refine lv_goto (tgt := 15) C.x C.b dX3_init_37 (by decide) ?_
  refine lv_iload_n C.x C.b dX3_init_15 rfl (lv_at hl 0 rfl) ?_
  refine lv_bipush (v := (15 : Int32)) C.x C.b dX3_init_16 (by decide) ?_
  refine lv_icmp_ge (tgt := 40) C.x C.b dX3_init_18 (by decide) (fun c => absurd c (by decide)) (fun c => ?_)
  refine lv_aload_n C.x C.b dX3_init_21 rfl (lv_at hl 1 rfl) ?_
  obtain ⟨g18, hf⟩ := gd_e hf
  refine r_getr C hR t_r0 fl_X3_11 (by decide) (nz_e g18) dX3_init_22 (fun tq19 => ?_)
  have tg18 := okA tq19 rfl
  refine lv_iload_n C.x C.b dX3_init_25 rfl (lv_at hl 0 rfl) ?_
  refine r_newN C hR hS nl_X3_9 (Nat.le_of_ble_eq_true rfl) (Nat.le_of_ble_eq_true rfl) dX3_init_26 (fun H a20 e_a20 hR hS hE1 t_a20 => ?_)
  have hf := lt_e hf e_a20
  obtain ⟨h21, e_h21⟩ : ∃ y, y = hpNew h17 (1, 0) := ⟨_, rfl⟩
  rw [← e_h21] at hR hE1 t_a20
  have hf := lt_e hf e_h21
  have hE := hE.tr hE1
  have tg18 := hE1.k tg18 (by decide)
  have t_r0 := hE1.at t_r0 (by decide)
  refine lv_dup C.x C.b dX3_init_29 rfl ?_
  obtain ⟨q22, h_q22, hf⟩ := bd_e hf
  refine r_callIN (As := []) (rest := [.ref (G.2.2 + a20), .int (2 : Int32), .ref (G.2.2 + (hpR h17 r0 0))]) C hR hS mk_X0_init cn_X3_15 (k_X0_init t_a20 h_q22) ⟨⟨Nat.le_of_ble_eq_true rfl, Nat.le_of_ble_eq_true rfl⟩, ⟨rfl, rfl⟩, Nat.le_of_ble_eq_true rfl, Nat.le_of_ble_eq_true rfl⟩ rfl hl.1 rfl (Nat.le_of_ble_eq_true rfl) dX3_init_30 (fun H locs hR hS hE1 z_q22 => ?_)
  have hE := hE.tr hE1
  have tg18 := hE1.k tg18 (by decide)
  have t_a20 := hE1.at t_a20 (by decide)
  have t_r0 := hE1.at t_r0 (by decide)
  obtain ⟨g23, hf⟩ := gd_e hf
  refine r_aast C hR hS tg18 g23 (ne0 hR t_a20) t_a20 dX3_init_33 (fun H locs hR hS => ?_)
  obtain ⟨h24, e_h24⟩ : ∃ y, y = upR q22 (hpR h17 r0 0) (ix (2 : Int32)) a20 := ⟨_, rfl⟩
  rw [← e_h24] at hR
  have hf := lt_e hf e_h24
  have hE := eR e_h24 hE
  have t_r0 := tR e_h24 t_r0
  refine lv_iinc (v := (3 : Int32)) (lv' := [(1, .int (3 : Int32)), (0, .ref (G.2.2 + r0))]) C.x C.b dX3_init_34 hl (k := 0) rfl (by decide) (by decide) rfl (fun ls hl => ?_)
  refine lv_goto (tgt := 15) C.x C.b dX3_init_37 (by decide) ?_
  refine lv_iload_n C.x C.b dX3_init_15 rfl (lv_at hl 0 rfl) ?_
  refine lv_bipush (v := (15 : Int32)) C.x C.b dX3_init_16 (by decide) ?_
  refine lv_icmp_ge (tgt := 40) C.x C.b dX3_init_18 (by decide) (fun c => absurd c (by decide)) (fun c => ?_)
  refine lv_aload_n C.x C.b dX3_init_21 rfl (lv_at hl 1 rfl) ?_
  obtain ⟨g25, hf⟩ := gd_e hf
  refine r_getr C hR t_r0 fl_X3_11 (by decide) (nz_e g25) dX3_init_22 (fun tq26 => ?_)
  have tg25 := okA tq26 rfl
  refine lv_iload_n C.x C.b dX3_init_25 rfl (lv_at hl 0 rfl) ?_
  refine r_newN C hR hS nl_X3_9 (Nat.le_of_ble_eq_true rfl) (Nat.le_of_ble_eq_true rfl) dX3_init_26 (fun H a27 e_a27 hR hS hE1 t_a27 => ?_)
  have hf := lt_e hf e_a27
  obtain ⟨h28, e_h28⟩ : ∃ y, y = hpNew h24 (1, 0) := ⟨_, rfl⟩
  rw [← e_h28] at hR hE1 t_a27
  have hf := lt_e hf e_h28
  have hE := hE.tr hE1
  have tg25 := hE1.k tg25 (by decide)
  have t_r0 := hE1.at t_r0 (by decide)
  refine lv_dup C.x C.b dX3_init_29 rfl ?_
  obtain ⟨q29, h_q29, hf⟩ := bd_e hf
  refine r_callIN (As := []) (rest := [.ref (G.2.2 + a27), .int (3 : Int32), .ref (G.2.2 + (hpR h24 r0 0))]) C hR hS mk_X0_init cn_X3_15 (k_X0_init t_a27 h_q29) ⟨⟨Nat.le_of_ble_eq_true rfl, Nat.le_of_ble_eq_true rfl⟩, ⟨rfl, rfl⟩, Nat.le_of_ble_eq_true rfl, Nat.le_of_ble_eq_true rfl⟩ rfl hl.1 rfl (Nat.le_of_ble_eq_true rfl) dX3_init_30 (fun H locs hR hS hE1 z_q29 => ?_)
  have hE := hE.tr hE1
  have tg25 := hE1.k tg25 (by decide)
  have t_a27 := hE1.at t_a27 (by decide)
  have t_r0 := hE1.at t_r0 (by decide)
  obtain ⟨g30, hf⟩ := gd_e hf
  refine r_aast C hR hS tg25 g30 (ne0 hR t_a27) t_a27 dX3_init_33 (fun H locs hR hS => ?_)
  obtain ⟨h31, e_h31⟩ : ∃ y, y = upR q29 (hpR h24 r0 0) (ix (3 : Int32)) a27 := ⟨_, rfl⟩
  rw [← e_h31] at hR
  have hf := lt_e hf e_h31
  have hE := eR e_h31 hE
  have t_r0 := tR e_h31 t_r0
  refine lv_iinc (v := (4 : Int32)) (lv' := [(1, .int (4 : Int32)), (0, .ref (G.2.2 + r0))]) C.x C.b dX3_init_34 hl (k := 0) rfl (by decide) (by decide) rfl (fun ls hl => ?_)
  refine lv_goto (tgt := 15) C.x C.b dX3_init_37 (by decide) ?_
  refine lv_iload_n C.x C.b dX3_init_15 rfl (lv_at hl 0 rfl) ?_
  refine lv_bipush (v := (15 : Int32)) C.x C.b dX3_init_16 (by decide) ?_
  refine lv_icmp_ge (tgt := 40) C.x C.b dX3_init_18 (by decide) (fun c => absurd c (by decide)) (fun c => ?_)
  refine lv_aload_n C.x C.b dX3_init_21 rfl (lv_at hl 1 rfl) ?_
  obtain ⟨g32, hf⟩ := gd_e hf
  refine r_getr C hR t_r0 fl_X3_11 (by decide) (nz_e g32) dX3_init_22 (fun tq33 => ?_)
  have tg32 := okA tq33 rfl
  refine lv_iload_n C.x C.b dX3_init_25 rfl (lv_at hl 0 rfl) ?_
  refine r_newN C hR hS nl_X3_9 (Nat.le_of_ble_eq_true rfl) (Nat.le_of_ble_eq_true rfl) dX3_init_26 (fun H a34 e_a34 hR hS hE1 t_a34 => ?_)
  have hf := lt_e hf e_a34
  obtain ⟨h35, e_h35⟩ : ∃ y, y = hpNew h31 (1, 0) := ⟨_, rfl⟩
  rw [← e_h35] at hR hE1 t_a34
  have hf := lt_e hf e_h35
  have hE := hE.tr hE1
  have tg32 := hE1.k tg32 (by decide)
  have t_r0 := hE1.at t_r0 (by decide)
  refine lv_dup C.x C.b dX3_init_29 rfl ?_
  obtain ⟨q36, h_q36, hf⟩ := bd_e hf
  refine r_callIN (As := []) (rest := [.ref (G.2.2 + a34), .int (4 : Int32), .ref (G.2.2 + (hpR h31 r0 0))]) C hR hS mk_X0_init cn_X3_15 (k_X0_init t_a34 h_q36) ⟨⟨Nat.le_of_ble_eq_true rfl, Nat.le_of_ble_eq_true rfl⟩, ⟨rfl, rfl⟩, Nat.le_of_ble_eq_true rfl, Nat.le_of_ble_eq_true rfl⟩ rfl hl.1 rfl (Nat.le_of_ble_eq_true rfl) dX3_init_30 (fun H locs hR hS hE1 z_q36 => ?_)
  have hE := hE.tr hE1
  have tg32 := hE1.k tg32 (by decide)
  have t_a34 := hE1.at t_a34 (by decide)
  have t_r0 := hE1.at t_r0 (by decide)
  obtain ⟨g37, hf⟩ := gd_e hf
  refine r_aast C hR hS tg32 g37 (ne0 hR t_a34) t_a34 dX3_init_33 (fun H locs hR hS => ?_)
  obtain ⟨h38, e_h38⟩ : ∃ y, y = upR q36 (hpR h31 r0 0) (ix (4 : Int32)) a34 := ⟨_, rfl⟩
  rw [← e_h38] at hR
  have hf := lt_e hf e_h38
  have hE := eR e_h38 hE
  have t_r0 := tR e_h38 t_r0
  refine lv_iinc (v := (5 : Int32)) (lv' := [(1, .int (5 : Int32)), (0, .ref (G.2.2 + r0))]) C.x C.b dX3_init_34 hl (k := 0) rfl (by decide) (by decide) rfl (fun ls hl => ?_)
  refine lv_goto (tgt := 15) C.x C.b dX3_init_37 (by decide) ?_
  refine lv_iload_n C.x C.b dX3_init_15 rfl (lv_at hl 0 rfl) ?_
  refine lv_bipush (v := (15 : Int32)) C.x C.b dX3_init_16 (by decide) ?_
  refine lv_icmp_ge (tgt := 40) C.x C.b dX3_init_18 (by decide) (fun c => absurd c (by decide)) (fun c => ?_)
  refine lv_aload_n C.x C.b dX3_init_21 rfl (lv_at hl 1 rfl) ?_
  obtain ⟨g39, hf⟩ := gd_e hf
  refine r_getr C hR t_r0 fl_X3_11 (by decide) (nz_e g39) dX3_init_22 (fun tq40 => ?_)
  have tg39 := okA tq40 rfl
  refine lv_iload_n C.x C.b dX3_init_25 rfl (lv_at hl 0 rfl) ?_
  refine r_newN C hR hS nl_X3_9 (Nat.le_of_ble_eq_true rfl) (Nat.le_of_ble_eq_true rfl) dX3_init_26 (fun H a41 e_a41 hR hS hE1 t_a41 => ?_)
  have hf := lt_e hf e_a41
  obtain ⟨h42, e_h42⟩ : ∃ y, y = hpNew h38 (1, 0) := ⟨_, rfl⟩
  rw [← e_h42] at hR hE1 t_a41
  have hf := lt_e hf e_h42
  have hE := hE.tr hE1
  have tg39 := hE1.k tg39 (by decide)
  have t_r0 := hE1.at t_r0 (by decide)
  refine lv_dup C.x C.b dX3_init_29 rfl ?_
  obtain ⟨q43, h_q43, hf⟩ := bd_e hf
  refine r_callIN (As := []) (rest := [.ref (G.2.2 + a41), .int (5 : Int32), .ref (G.2.2 + (hpR h38 r0 0))]) C hR hS mk_X0_init cn_X3_15 (k_X0_init t_a41 h_q43) ⟨⟨Nat.le_of_ble_eq_true rfl, Nat.le_of_ble_eq_true rfl⟩, ⟨rfl, rfl⟩, Nat.le_of_ble_eq_true rfl, Nat.le_of_ble_eq_true rfl⟩ rfl hl.1 rfl (Nat.le_of_ble_eq_true rfl) dX3_init_30 (fun H locs hR hS hE1 z_q43 => ?_)
  have hE := hE.tr hE1
  have tg39 := hE1.k tg39 (by decide)
  have t_a41 := hE1.at t_a41 (by decide)
  have t_r0 := hE1.at t_r0 (by decide)
  obtain ⟨g44, hf⟩ := gd_e hf
  refine r_aast C hR hS tg39 g44 (ne0 hR t_a41) t_a41 dX3_init_33 (fun H locs hR hS => ?_)
  obtain ⟨h45, e_h45⟩ : ∃ y, y = upR q43 (hpR h38 r0 0) (ix (5 : Int32)) a41 := ⟨_, rfl⟩
  rw [← e_h45] at hR
  have hf := lt_e hf e_h45
  have hE := eR e_h45 hE
  have t_r0 := tR e_h45 t_r0
  refine lv_iinc (v := (6 : Int32)) (lv' := [(1, .int (6 : Int32)), (0, .ref (G.2.2 + r0))]) C.x C.b dX3_init_34 hl (k := 0) rfl (by decide) (by decide) rfl (fun ls hl => ?_)
  refine lv_goto (tgt := 15) C.x C.b dX3_init_37 (by decide) ?_
  refine lv_iload_n C.x C.b dX3_init_15 rfl (lv_at hl 0 rfl) ?_
  refine lv_bipush (v := (15 : Int32)) C.x C.b dX3_init_16 (by decide) ?_
  refine lv_icmp_ge (tgt := 40) C.x C.b dX3_init_18 (by decide) (fun c => absurd c (by decide)) (fun c => ?_)
  refine lv_aload_n C.x C.b dX3_init_21 rfl (lv_at hl 1 rfl) ?_
  obtain ⟨g46, hf⟩ := gd_e hf
  refine r_getr C hR t_r0 fl_X3_11 (by decide) (nz_e g46) dX3_init_22 (fun tq47 => ?_)
  have tg46 := okA tq47 rfl
  refine lv_iload_n C.x C.b dX3_init_25 rfl (lv_at hl 0 rfl) ?_
  refine r_newN C hR hS nl_X3_9 (Nat.le_of_ble_eq_true rfl) (Nat.le_of_ble_eq_true rfl) dX3_init_26 (fun H a48 e_a48 hR hS hE1 t_a48 => ?_)
  have hf := lt_e hf e_a48
  obtain ⟨h49, e_h49⟩ : ∃ y, y = hpNew h45 (1, 0) := ⟨_, rfl⟩
  rw [← e_h49] at hR hE1 t_a48
  have hf := lt_e hf e_h49
  have hE := hE.tr hE1
  have tg46 := hE1.k tg46 (by decide)
  have t_r0 := hE1.at t_r0 (by decide)
  refine lv_dup C.x C.b dX3_init_29 rfl ?_
  obtain ⟨q50, h_q50, hf⟩ := bd_e hf
  refine r_callIN (As := []) (rest := [.ref (G.2.2 + a48), .int (6 : Int32), .ref (G.2.2 + (hpR h45 r0 0))]) C hR hS mk_X0_init cn_X3_15 (k_X0_init t_a48 h_q50) ⟨⟨Nat.le_of_ble_eq_true rfl, Nat.le_of_ble_eq_true rfl⟩, ⟨rfl, rfl⟩, Nat.le_of_ble_eq_true rfl, Nat.le_of_ble_eq_true rfl⟩ rfl hl.1 rfl (Nat.le_of_ble_eq_true rfl) dX3_init_30 (fun H locs hR hS hE1 z_q50 => ?_)
  have hE := hE.tr hE1
  have tg46 := hE1.k tg46 (by decide)
  have t_a48 := hE1.at t_a48 (by decide)
  have t_r0 := hE1.at t_r0 (by decide)
  obtain ⟨g51, hf⟩ := gd_e hf
  refine r_aast C hR hS tg46 g51 (ne0 hR t_a48) t_a48 dX3_init_33 (fun H locs hR hS => ?_)
  obtain ⟨h52, e_h52⟩ : ∃ y, y = upR q50 (hpR h45 r0 0) (ix (6 : Int32)) a48 := ⟨_, rfl⟩
  rw [← e_h52] at hR
  have hf := lt_e hf e_h52
  have hE := eR e_h52 hE
  have t_r0 := tR e_h52 t_r0
  refine lv_iinc (v := (7 : Int32)) (lv' := [(1, .int (7 : Int32)), (0, .ref (G.2.2 + r0))]) C.x C.b dX3_init_34 hl (k := 0) rfl (by decide) (by decide) rfl (fun ls hl => ?_)
  refine lv_goto (tgt := 15) C.x C.b dX3_init_37 (by decide) ?_
  refine lv_iload_n C.x C.b dX3_init_15 rfl (lv_at hl 0 rfl) ?_
  refine lv_bipush (v := (15 : Int32)) C.x C.b dX3_init_16 (by decide) ?_
  refine lv_icmp_ge (tgt := 40) C.x C.b dX3_init_18 (by decide) (fun c => absurd c (by decide)) (fun c => ?_)
  refine lv_aload_n C.x C.b dX3_init_21 rfl (lv_at hl 1 rfl) ?_
  obtain ⟨g53, hf⟩ := gd_e hf
  refine r_getr C hR t_r0 fl_X3_11 (by decide) (nz_e g53) dX3_init_22 (fun tq54 => ?_)
  have tg53 := okA tq54 rfl
  refine lv_iload_n C.x C.b dX3_init_25 rfl (lv_at hl 0 rfl) ?_
  refine r_newN C hR hS nl_X3_9 (Nat.le_of_ble_eq_true rfl) (Nat.le_of_ble_eq_true rfl) dX3_init_26 (fun H a55 e_a55 hR hS hE1 t_a55 => ?_)
  have hf := lt_e hf e_a55
  obtain ⟨h56, e_h56⟩ : ∃ y, y = hpNew h52 (1, 0) := ⟨_, rfl⟩
  rw [← e_h56] at hR hE1 t_a55
  have hf := lt_e hf e_h56
  have hE := hE.tr hE1
  have tg53 := hE1.k tg53 (by decide)
  have t_r0 := hE1.at t_r0 (by decide)
  refine lv_dup C.x C.b dX3_init_29 rfl ?_
  obtain ⟨q57, h_q57, hf⟩ := bd_e hf
  refine r_callIN (As := []) (rest := [.ref (G.2.2 + a55), .int (7 : Int32), .ref (G.2.2 + (hpR h52 r0 0))]) C hR hS mk_X0_init cn_X3_15 (k_X0_init t_a55 h_q57) ⟨⟨Nat.le_of_ble_eq_true rfl, Nat.le_of_ble_eq_true rfl⟩, ⟨rfl, rfl⟩, Nat.le_of_ble_eq_true rfl, Nat.le_of_ble_eq_true rfl⟩ rfl hl.1 rfl (Nat.le_of_ble_eq_true rfl) dX3_init_30 (fun H locs hR hS hE1 z_q57 => ?_)
  have hE := hE.tr hE1
  have tg53 := hE1.k tg53 (by decide)
  have t_a55 := hE1.at t_a55 (by decide)
  have t_r0 := hE1.at t_r0 (by decide)
  obtain ⟨g58, hf⟩ := gd_e hf
  refine r_aast C hR hS tg53 g58 (ne0 hR t_a55) t_a55 dX3_init_33 (fun H locs hR hS => ?_)
  obtain ⟨h59, e_h59⟩ : ∃ y, y = upR q57 (hpR h52 r0 0) (ix (7 : Int32)) a55 := ⟨_, rfl⟩
  rw [← e_h59] at hR
  have hf := lt_e hf e_h59
  have hE := eR e_h59 hE
  have t_r0 := tR e_h59 t_r0
  refine lv_iinc (v := (8 : Int32)) (lv' := [(1, .int (8 : Int32)), (0, .ref (G.2.2 + r0))]) C.x C.b dX3_init_34 hl (k := 0) rfl (by decide) (by decide) rfl (fun ls hl => ?_)
  refine lv_goto (tgt := 15) C.x C.b dX3_init_37 (by decide) ?_
  refine lv_iload_n C.x C.b dX3_init_15 rfl (lv_at hl 0 rfl) ?_
  refine lv_bipush (v := (15 : Int32)) C.x C.b dX3_init_16 (by decide) ?_
  refine lv_icmp_ge (tgt := 40) C.x C.b dX3_init_18 (by decide) (fun c => absurd c (by decide)) (fun c => ?_)
  refine lv_aload_n C.x C.b dX3_init_21 rfl (lv_at hl 1 rfl) ?_
  obtain ⟨g60, hf⟩ := gd_e hf
  refine r_getr C hR t_r0 fl_X3_11 (by decide) (nz_e g60) dX3_init_22 (fun tq61 => ?_)
  have tg60 := okA tq61 rfl
  refine lv_iload_n C.x C.b dX3_init_25 rfl (lv_at hl 0 rfl) ?_
  refine r_newN C hR hS nl_X3_9 (Nat.le_of_ble_eq_true rfl) (Nat.le_of_ble_eq_true rfl) dX3_init_26 (fun H a62 e_a62 hR hS hE1 t_a62 => ?_)
  have hf := lt_e hf e_a62
  obtain ⟨h63, e_h63⟩ : ∃ y, y = hpNew h59 (1, 0) := ⟨_, rfl⟩
  rw [← e_h63] at hR hE1 t_a62
  have hf := lt_e hf e_h63
  have hE := hE.tr hE1
  have tg60 := hE1.k tg60 (by decide)
  have t_r0 := hE1.at t_r0 (by decide)
  refine lv_dup C.x C.b dX3_init_29 rfl ?_
  obtain ⟨q64, h_q64, hf⟩ := bd_e hf
  refine r_callIN (As := []) (rest := [.ref (G.2.2 + a62), .int (8 : Int32), .ref (G.2.2 + (hpR h59 r0 0))]) C hR hS mk_X0_init cn_X3_15 (k_X0_init t_a62 h_q64) ⟨⟨Nat.le_of_ble_eq_true rfl, Nat.le_of_ble_eq_true rfl⟩, ⟨rfl, rfl⟩, Nat.le_of_ble_eq_true rfl, Nat.le_of_ble_eq_true rfl⟩ rfl hl.1 rfl (Nat.le_of_ble_eq_true rfl) dX3_init_30 (fun H locs hR hS hE1 z_q64 => ?_)
  have hE := hE.tr hE1
  have tg60 := hE1.k tg60 (by decide)
  have t_a62 := hE1.at t_a62 (by decide)
  have t_r0 := hE1.at t_r0 (by decide)
  obtain ⟨g65, hf⟩ := gd_e hf
  refine r_aast C hR hS tg60 g65 (ne0 hR t_a62) t_a62 dX3_init_33 (fun H locs hR hS => ?_)
  obtain ⟨h66, e_h66⟩ : ∃ y, y = upR q64 (hpR h59 r0 0) (ix (8 : Int32)) a62 := ⟨_, rfl⟩
  rw [← e_h66] at hR
  have hf := lt_e hf e_h66
  have hE := eR e_h66 hE
  have t_r0 := tR e_h66 t_r0
  refine lv_iinc (v := (9 : Int32)) (lv' := [(1, .int (9 : Int32)), (0, .ref (G.2.2 + r0))]) C.x C.b dX3_init_34 hl (k := 0) rfl (by decide) (by decide) rfl (fun ls hl => ?_)
  refine lv_goto (tgt := 15) C.x C.b dX3_init_37 (by decide) ?_
  refine lv_iload_n C.x C.b dX3_init_15 rfl (lv_at hl 0 rfl) ?_
  refine lv_bipush (v := (15 : Int32)) C.x C.b dX3_init_16 (by decide) ?_
  refine lv_icmp_ge (tgt := 40) C.x C.b dX3_init_18 (by decide) (fun c => absurd c (by decide)) (fun c => ?_)
  refine lv_aload_n C.x C.b dX3_init_21 rfl (lv_at hl 1 rfl) ?_
  obtain ⟨g67, hf⟩ := gd_e hf
  refine r_getr C hR t_r0 fl_X3_11 (by decide) (nz_e g67) dX3_init_22 (fun tq68 => ?_)
  have tg67 := okA tq68 rfl
  refine lv_iload_n C.x C.b dX3_init_25 rfl (lv_at hl 0 rfl) ?_
  refine r_newN C hR hS nl_X3_9 (Nat.le_of_ble_eq_true rfl) (Nat.le_of_ble_eq_true rfl) dX3_init_26 (fun H a69 e_a69 hR hS hE1 t_a69 => ?_)
  have hf := lt_e hf e_a69
  obtain ⟨h70, e_h70⟩ : ∃ y, y = hpNew h66 (1, 0) := ⟨_, rfl⟩
  rw [← e_h70] at hR hE1 t_a69
  have hf := lt_e hf e_h70
  have hE := hE.tr hE1
  have tg67 := hE1.k tg67 (by decide)
  have t_r0 := hE1.at t_r0 (by decide)
  refine lv_dup C.x C.b dX3_init_29 rfl ?_
  obtain ⟨q71, h_q71, hf⟩ := bd_e hf
  refine r_callIN (As := []) (rest := [.ref (G.2.2 + a69), .int (9 : Int32), .ref (G.2.2 + (hpR h66 r0 0))]) C hR hS mk_X0_init cn_X3_15 (k_X0_init t_a69 h_q71) ⟨⟨Nat.le_of_ble_eq_true rfl, Nat.le_of_ble_eq_true rfl⟩, ⟨rfl, rfl⟩, Nat.le_of_ble_eq_true rfl, Nat.le_of_ble_eq_true rfl⟩ rfl hl.1 rfl (Nat.le_of_ble_eq_true rfl) dX3_init_30 (fun H locs hR hS hE1 z_q71 => ?_)
  have hE := hE.tr hE1
  have tg67 := hE1.k tg67 (by decide)
  have t_a69 := hE1.at t_a69 (by decide)
  have t_r0 := hE1.at t_r0 (by decide)
  obtain ⟨g72, hf⟩ := gd_e hf
  refine r_aast C hR hS tg67 g72 (ne0 hR t_a69) t_a69 dX3_init_33 (fun H locs hR hS => ?_)
  obtain ⟨h73, e_h73⟩ : ∃ y, y = upR q71 (hpR h66 r0 0) (ix (9 : Int32)) a69 := ⟨_, rfl⟩
  rw [← e_h73] at hR
  have hf := lt_e hf e_h73
  have hE := eR e_h73 hE
  have t_r0 := tR e_h73 t_r0
  refine lv_iinc (v := (10 : Int32)) (lv' := [(1, .int (10 : Int32)), (0, .ref (G.2.2 + r0))]) C.x C.b dX3_init_34 hl (k := 0) rfl (by decide) (by decide) rfl (fun ls hl => ?_)
  refine lv_goto (tgt := 15) C.x C.b dX3_init_37 (by decide) ?_
  refine lv_iload_n C.x C.b dX3_init_15 rfl (lv_at hl 0 rfl) ?_
  refine lv_bipush (v := (15 : Int32)) C.x C.b dX3_init_16 (by decide) ?_
  refine lv_icmp_ge (tgt := 40) C.x C.b dX3_init_18 (by decide) (fun c => absurd c (by decide)) (fun c => ?_)
  refine lv_aload_n C.x C.b dX3_init_21 rfl (lv_at hl 1 rfl) ?_
  obtain ⟨g74, hf⟩ := gd_e hf
  refine r_getr C hR t_r0 fl_X3_11 (by decide) (nz_e g74) dX3_init_22 (fun tq75 => ?_)
  have tg74 := okA tq75 rfl
  refine lv_iload_n C.x C.b dX3_init_25 rfl (lv_at hl 0 rfl) ?_
  refine r_newN C hR hS nl_X3_9 (Nat.le_of_ble_eq_true rfl) (Nat.le_of_ble_eq_true rfl) dX3_init_26 (fun H a76 e_a76 hR hS hE1 t_a76 => ?_)
  have hf := lt_e hf e_a76
  obtain ⟨h77, e_h77⟩ : ∃ y, y = hpNew h73 (1, 0) := ⟨_, rfl⟩
  rw [← e_h77] at hR hE1 t_a76
  have hf := lt_e hf e_h77
  have hE := hE.tr hE1
  have tg74 := hE1.k tg74 (by decide)
  have t_r0 := hE1.at t_r0 (by decide)
  refine lv_dup C.x C.b dX3_init_29 rfl ?_
  obtain ⟨q78, h_q78, hf⟩ := bd_e hf
  refine r_callIN (As := []) (rest := [.ref (G.2.2 + a76), .int (10 : Int32), .ref (G.2.2 + (hpR h73 r0 0))]) C hR hS mk_X0_init cn_X3_15 (k_X0_init t_a76 h_q78) ⟨⟨Nat.le_of_ble_eq_true rfl, Nat.le_of_ble_eq_true rfl⟩, ⟨rfl, rfl⟩, Nat.le_of_ble_eq_true rfl, Nat.le_of_ble_eq_true rfl⟩ rfl hl.1 rfl (Nat.le_of_ble_eq_true rfl) dX3_init_30 (fun H locs hR hS hE1 z_q78 => ?_)
  have hE := hE.tr hE1
  have tg74 := hE1.k tg74 (by decide)
  have t_a76 := hE1.at t_a76 (by decide)
  have t_r0 := hE1.at t_r0 (by decide)
  obtain ⟨g79, hf⟩ := gd_e hf
  refine r_aast C hR hS tg74 g79 (ne0 hR t_a76) t_a76 dX3_init_33 (fun H locs hR hS => ?_)
  obtain ⟨h80, e_h80⟩ : ∃ y, y = upR q78 (hpR h73 r0 0) (ix (10 : Int32)) a76 := ⟨_, rfl⟩
  rw [← e_h80] at hR
  have hf := lt_e hf e_h80
  have hE := eR e_h80 hE
  have t_r0 := tR e_h80 t_r0
  refine lv_iinc (v := (11 : Int32)) (lv' := [(1, .int (11 : Int32)), (0, .ref (G.2.2 + r0))]) C.x C.b dX3_init_34 hl (k := 0) rfl (by decide) (by decide) rfl (fun ls hl => ?_)
  refine lv_goto (tgt := 15) C.x C.b dX3_init_37 (by decide) ?_
  refine lv_iload_n C.x C.b dX3_init_15 rfl (lv_at hl 0 rfl) ?_
  refine lv_bipush (v := (15 : Int32)) C.x C.b dX3_init_16 (by decide) ?_
  refine lv_icmp_ge (tgt := 40) C.x C.b dX3_init_18 (by decide) (fun c => absurd c (by decide)) (fun c => ?_)
  refine lv_aload_n C.x C.b dX3_init_21 rfl (lv_at hl 1 rfl) ?_
  obtain ⟨g81, hf⟩ := gd_e hf
  refine r_getr C hR t_r0 fl_X3_11 (by decide) (nz_e g81) dX3_init_22 (fun tq82 => ?_)
  have tg81 := okA tq82 rfl
  refine lv_iload_n C.x C.b dX3_init_25 rfl (lv_at hl 0 rfl) ?_
  refine r_newN C hR hS nl_X3_9 (Nat.le_of_ble_eq_true rfl) (Nat.le_of_ble_eq_true rfl) dX3_init_26 (fun H a83 e_a83 hR hS hE1 t_a83 => ?_)
  have hf := lt_e hf e_a83
  obtain ⟨h84, e_h84⟩ : ∃ y, y = hpNew h80 (1, 0) := ⟨_, rfl⟩
  rw [← e_h84] at hR hE1 t_a83
  have hf := lt_e hf e_h84
  have hE := hE.tr hE1
  have tg81 := hE1.k tg81 (by decide)
  have t_r0 := hE1.at t_r0 (by decide)
  refine lv_dup C.x C.b dX3_init_29 rfl ?_
  obtain ⟨q85, h_q85, hf⟩ := bd_e hf
  refine r_callIN (As := []) (rest := [.ref (G.2.2 + a83), .int (11 : Int32), .ref (G.2.2 + (hpR h80 r0 0))]) C hR hS mk_X0_init cn_X3_15 (k_X0_init t_a83 h_q85) ⟨⟨Nat.le_of_ble_eq_true rfl, Nat.le_of_ble_eq_true rfl⟩, ⟨rfl, rfl⟩, Nat.le_of_ble_eq_true rfl, Nat.le_of_ble_eq_true rfl⟩ rfl hl.1 rfl (Nat.le_of_ble_eq_true rfl) dX3_init_30 (fun H locs hR hS hE1 z_q85 => ?_)
  have hE := hE.tr hE1
  have tg81 := hE1.k tg81 (by decide)
  have t_a83 := hE1.at t_a83 (by decide)
  have t_r0 := hE1.at t_r0 (by decide)
  obtain ⟨g86, hf⟩ := gd_e hf
  refine r_aast C hR hS tg81 g86 (ne0 hR t_a83) t_a83 dX3_init_33 (fun H locs hR hS => ?_)
  obtain ⟨h87, e_h87⟩ : ∃ y, y = upR q85 (hpR h80 r0 0) (ix (11 : Int32)) a83 := ⟨_, rfl⟩
  rw [← e_h87] at hR
  have hf := lt_e hf e_h87
  have hE := eR e_h87 hE
  have t_r0 := tR e_h87 t_r0
  refine lv_iinc (v := (12 : Int32)) (lv' := [(1, .int (12 : Int32)), (0, .ref (G.2.2 + r0))]) C.x C.b dX3_init_34 hl (k := 0) rfl (by decide) (by decide) rfl (fun ls hl => ?_)
  refine lv_goto (tgt := 15) C.x C.b dX3_init_37 (by decide) ?_
  refine lv_iload_n C.x C.b dX3_init_15 rfl (lv_at hl 0 rfl) ?_
  refine lv_bipush (v := (15 : Int32)) C.x C.b dX3_init_16 (by decide) ?_
  refine lv_icmp_ge (tgt := 40) C.x C.b dX3_init_18 (by decide) (fun c => absurd c (by decide)) (fun c => ?_)
  refine lv_aload_n C.x C.b dX3_init_21 rfl (lv_at hl 1 rfl) ?_
  obtain ⟨g88, hf⟩ := gd_e hf
  refine r_getr C hR t_r0 fl_X3_11 (by decide) (nz_e g88) dX3_init_22 (fun tq89 => ?_)
  have tg88 := okA tq89 rfl
  refine lv_iload_n C.x C.b dX3_init_25 rfl (lv_at hl 0 rfl) ?_
  refine r_newN C hR hS nl_X3_9 (Nat.le_of_ble_eq_true rfl) (Nat.le_of_ble_eq_true rfl) dX3_init_26 (fun H a90 e_a90 hR hS hE1 t_a90 => ?_)
  have hf := lt_e hf e_a90
  obtain ⟨h91, e_h91⟩ : ∃ y, y = hpNew h87 (1, 0) := ⟨_, rfl⟩
  rw [← e_h91] at hR hE1 t_a90
  have hf := lt_e hf e_h91
  have hE := hE.tr hE1
  have tg88 := hE1.k tg88 (by decide)
  have t_r0 := hE1.at t_r0 (by decide)
  refine lv_dup C.x C.b dX3_init_29 rfl ?_
  obtain ⟨q92, h_q92, hf⟩ := bd_e hf
  refine r_callIN (As := []) (rest := [.ref (G.2.2 + a90), .int (12 : Int32), .ref (G.2.2 + (hpR h87 r0 0))]) C hR hS mk_X0_init cn_X3_15 (k_X0_init t_a90 h_q92) ⟨⟨Nat.le_of_ble_eq_true rfl, Nat.le_of_ble_eq_true rfl⟩, ⟨rfl, rfl⟩, Nat.le_of_ble_eq_true rfl, Nat.le_of_ble_eq_true rfl⟩ rfl hl.1 rfl (Nat.le_of_ble_eq_true rfl) dX3_init_30 (fun H locs hR hS hE1 z_q92 => ?_)
  have hE := hE.tr hE1
  have tg88 := hE1.k tg88 (by decide)
  have t_a90 := hE1.at t_a90 (by decide)
  have t_r0 := hE1.at t_r0 (by decide)
  obtain ⟨g93, hf⟩ := gd_e hf
  refine r_aast C hR hS tg88 g93 (ne0 hR t_a90) t_a90 dX3_init_33 (fun H locs hR hS => ?_)
  obtain ⟨h94, e_h94⟩ : ∃ y, y = upR q92 (hpR h87 r0 0) (ix (12 : Int32)) a90 := ⟨_, rfl⟩
  rw [← e_h94] at hR
  have hf := lt_e hf e_h94
  have hE := eR e_h94 hE
  have t_r0 := tR e_h94 t_r0
  refine lv_iinc (v := (13 : Int32)) (lv' := [(1, .int (13 : Int32)), (0, .ref (G.2.2 + r0))]) C.x C.b dX3_init_34 hl (k := 0) rfl (by decide) (by decide) rfl (fun ls hl => ?_)
  refine lv_goto (tgt := 15) C.x C.b dX3_init_37 (by decide) ?_
  refine lv_iload_n C.x C.b dX3_init_15 rfl (lv_at hl 0 rfl) ?_
  refine lv_bipush (v := (15 : Int32)) C.x C.b dX3_init_16 (by decide) ?_
  refine lv_icmp_ge (tgt := 40) C.x C.b dX3_init_18 (by decide) (fun c => absurd c (by decide)) (fun c => ?_)
  refine lv_aload_n C.x C.b dX3_init_21 rfl (lv_at hl 1 rfl) ?_
  obtain ⟨g95, hf⟩ := gd_e hf
  refine r_getr C hR t_r0 fl_X3_11 (by decide) (nz_e g95) dX3_init_22 (fun tq96 => ?_)
  have tg95 := okA tq96 rfl
  refine lv_iload_n C.x C.b dX3_init_25 rfl (lv_at hl 0 rfl) ?_
  refine r_newN C hR hS nl_X3_9 (Nat.le_of_ble_eq_true rfl) (Nat.le_of_ble_eq_true rfl) dX3_init_26 (fun H a97 e_a97 hR hS hE1 t_a97 => ?_)
  have hf := lt_e hf e_a97
  obtain ⟨h98, e_h98⟩ : ∃ y, y = hpNew h94 (1, 0) := ⟨_, rfl⟩
  rw [← e_h98] at hR hE1 t_a97
  have hf := lt_e hf e_h98
  have hE := hE.tr hE1
  have tg95 := hE1.k tg95 (by decide)
  have t_r0 := hE1.at t_r0 (by decide)
  refine lv_dup C.x C.b dX3_init_29 rfl ?_
  obtain ⟨q99, h_q99, hf⟩ := bd_e hf
  refine r_callIN (As := []) (rest := [.ref (G.2.2 + a97), .int (13 : Int32), .ref (G.2.2 + (hpR h94 r0 0))]) C hR hS mk_X0_init cn_X3_15 (k_X0_init t_a97 h_q99) ⟨⟨Nat.le_of_ble_eq_true rfl, Nat.le_of_ble_eq_true rfl⟩, ⟨rfl, rfl⟩, Nat.le_of_ble_eq_true rfl, Nat.le_of_ble_eq_true rfl⟩ rfl hl.1 rfl (Nat.le_of_ble_eq_true rfl) dX3_init_30 (fun H locs hR hS hE1 z_q99 => ?_)
  have hE := hE.tr hE1
  have tg95 := hE1.k tg95 (by decide)
  have t_a97 := hE1.at t_a97 (by decide)
  have t_r0 := hE1.at t_r0 (by decide)
  obtain ⟨g100, hf⟩ := gd_e hf
  refine r_aast C hR hS tg95 g100 (ne0 hR t_a97) t_a97 dX3_init_33 (fun H locs hR hS => ?_)
  obtain ⟨h101, e_h101⟩ : ∃ y, y = upR q99 (hpR h94 r0 0) (ix (13 : Int32)) a97 := ⟨_, rfl⟩
  rw [← e_h101] at hR
  have hf := lt_e hf e_h101
  have hE := eR e_h101 hE
  have t_r0 := tR e_h101 t_r0
  refine lv_iinc (v := (14 : Int32)) (lv' := [(1, .int (14 : Int32)), (0, .ref (G.2.2 + r0))]) C.x C.b dX3_init_34 hl (k := 0) rfl (by decide) (by decide) rfl (fun ls hl => ?_)
  refine lv_goto (tgt := 15) C.x C.b dX3_init_37 (by decide) ?_
  refine lv_iload_n C.x C.b dX3_init_15 rfl (lv_at hl 0 rfl) ?_
  refine lv_bipush (v := (15 : Int32)) C.x C.b dX3_init_16 (by decide) ?_
  refine lv_icmp_ge (tgt := 40) C.x C.b dX3_init_18 (by decide) (fun c => absurd c (by decide)) (fun c => ?_)
  refine lv_aload_n C.x C.b dX3_init_21 rfl (lv_at hl 1 rfl) ?_
  obtain ⟨g102, hf⟩ := gd_e hf
  refine r_getr C hR t_r0 fl_X3_11 (by decide) (nz_e g102) dX3_init_22 (fun tq103 => ?_)
  have tg102 := okA tq103 rfl
  refine lv_iload_n C.x C.b dX3_init_25 rfl (lv_at hl 0 rfl) ?_
  refine r_newN C hR hS nl_X3_9 (Nat.le_of_ble_eq_true rfl) (Nat.le_of_ble_eq_true rfl) dX3_init_26 (fun H a104 e_a104 hR hS hE1 t_a104 => ?_)
  have hf := lt_e hf e_a104
  obtain ⟨h105, e_h105⟩ : ∃ y, y = hpNew h101 (1, 0) := ⟨_, rfl⟩
  rw [← e_h105] at hR hE1 t_a104
  have hf := lt_e hf e_h105
  have hE := hE.tr hE1
  have tg102 := hE1.k tg102 (by decide)
  have t_r0 := hE1.at t_r0 (by decide)
  refine lv_dup C.x C.b dX3_init_29 rfl ?_
  obtain ⟨q106, h_q106, hf⟩ := bd_e hf
  refine r_callIN (As := []) (rest := [.ref (G.2.2 + a104), .int (14 : Int32), .ref (G.2.2 + (hpR h101 r0 0))]) C hR hS mk_X0_init cn_X3_15 (k_X0_init t_a104 h_q106) ⟨⟨Nat.le_of_ble_eq_true rfl, Nat.le_of_ble_eq_true rfl⟩, ⟨rfl, rfl⟩, Nat.le_of_ble_eq_true rfl, Nat.le_of_ble_eq_true rfl⟩ rfl hl.1 rfl (Nat.le_of_ble_eq_true rfl) dX3_init_30 (fun H locs hR hS hE1 z_q106 => ?_)
  have hE := hE.tr hE1
  have tg102 := hE1.k tg102 (by decide)
  have t_a104 := hE1.at t_a104 (by decide)
  have t_r0 := hE1.at t_r0 (by decide)
  obtain ⟨g107, hf⟩ := gd_e hf
  refine r_aast C hR hS tg102 g107 (ne0 hR t_a104) t_a104 dX3_init_33 (fun H locs hR hS => ?_)
  obtain ⟨h108, e_h108⟩ : ∃ y, y = upR q106 (hpR h101 r0 0) (ix (14 : Int32)) a104 := ⟨_, rfl⟩
  rw [← e_h108] at hR
  have hf := lt_e hf e_h108
  have hE := eR e_h108 hE
  have t_r0 := tR e_h108 t_r0
  refine lv_iinc (v := (15 : Int32)) (lv' := [(1, .int (15 : Int32)), (0, .ref (G.2.2 + r0))]) C.x C.b dX3_init_34 hl (k := 0) rfl (by decide) (by decide) rfl (fun ls hl => ?_)
  refine lv_goto (tgt := 15) C.x C.b dX3_init_37 (by decide) ?_
  refine lv_iload_n C.x C.b dX3_init_15 rfl (lv_at hl 0 rfl) ?_
  refine lv_bipush (v := (15 : Int32)) C.x C.b dX3_init_16 (by decide) ?_
  refine lv_icmp_ge (tgt := 40) C.x C.b dX3_init_18 (by decide) (fun c => ?_) (fun c => absurd (by decide) c)
  have hf := so_e hf
  subst hf
  refine W.widen (k := 121) (n := 1035) (Nat.le_of_ble_eq_true rfl) (Nat.le_of_ble_eq_true rfl) ?_
  exact r_vret C hr hlk hR hE hS dX3_init_40

def rm_X3_wipe : Room := { frames := 0, cells := 0, slots := 0, locals := 0 }
set_option maxRecDepth 100000 in
set_option maxHeartbeats 4000000 in
theorem k_X3_wipe {G : Gt} {l : Launch}  {h : Hp} {r0 : Nat} {out : Hp} (t_r0 : hpT h r0 = (1, 3))  (hf : f_X3_wipe  h r0 = some out) : Mt G l yX3_wipe cX3_wipe 1 (none) rm_X3_wipe [.ref (G.2.2 + r0)] h (none) out 0 0 0 := by
  refine r_met (by decide +kernel) (Nat.le_of_ble_eq_true rfl) ?_
  intro p e s m args below meth c ls C hr hlk hnm hR hS hl
  have hE : Ext h h := Ext.rf
  have hl : lv_has ls 1 [(0, .ref (G.2.2 + r0))] := hl
  rw [f_X3_wipe] at hf
  refine lv_aload_n C.x C.b dX3_wipe_0 rfl (lv_at hl 0 rfl) ?_
  refine lv_iconst (v := (0 : Int32)) C.x C.b dX3_wipe_1 (by decide) ?_
  refine r_puti C hR hS t_r0 fl_X3_16 fp_X3_3_1 rfl dX3_wipe_2 (fun H locs hR hS => ?_)
  obtain ⟨h1, e_h1⟩ : ∃ y, y = upI h r0 1 (0 : Int32) := ⟨_, rfl⟩
  rw [← e_h1] at hR
  have hf := lt_e hf e_h1
  have hE := eI e_h1 hE
  have t_r0 := tI e_h1 t_r0
  refine lv_aload_n C.x C.b dX3_wipe_5 rfl (lv_at hl 0 rfl) ?_
  refine lv_iconst (v := (0 : Int32)) C.x C.b dX3_wipe_6 (by decide) ?_
  refine r_puti C hR hS t_r0 fl_X3_20 fp_X3_3_2 rfl dX3_wipe_7 (fun H locs hR hS => ?_)
  obtain ⟨h2, e_h2⟩ : ∃ y, y = upI h1 r0 2 (0 : Int32) := ⟨_, rfl⟩
  rw [← e_h2] at hR
  have hf := lt_e hf e_h2
  have hE := eI e_h2 hE
  have t_r0 := tI e_h2 t_r0
  have hf := so_e hf
  subst hf
  exact r_vret C hr hlk hR hE hS dX3_wipe_10

def rm_X3_push : Room := { frames := 2, cells := 0, slots := 0, locals := 39 }
def P_X3_push_32 (G : Gt) (l : Launch) (p : Program) (e : Env) (s : State) (m : MethodId) (args : Array Value) (below : List Frame) (meth : Method) (c : Code) (h0 : Hp) (out : Hp) (r0 : Nat) (r1 : Nat) (k : Hp → Option Hp) : Prop := ∀ (H : Heap) (locs : List Loc) (ls : Array Slot) (h : Hp), k h = some out → Ext h0 h → Rel G h H → va_S (AA G.2.2) s.heap H locs → hpT h r0 = (1, 3) → hpT h r1 = (1, 0) → lv_has ls 2 [(0, .ref (G.2.2 + r0)), (1, .ref (G.2.2 + r1))] → W p l e rm_X3_push s m args below meth c H locs 0 0 (MQ below (Qm G h0 out (none) 0) args s 0 0 (AA G.2.2)) (F0 m 32 ls [])
set_option maxRecDepth 100000 in
set_option maxHeartbeats 4000000 in
theorem w_X3_push_32 {G : Gt} {l : Launch} {p : Program} {e : Env} {s : State} {m : MethodId} {args : Array Value} {below : List Frame} {meth : Method} {c : Code}  {h0 : Hp} {out : Hp} {r0 : Nat} {r1 : Nat}  (C : Cx G p m c cX3_push 2 s args RX3) (hr : meth.sig.returnType = none) (hlk : meth.locks = false)   : P_X3_push_32 G l p e s m args below meth c h0 out r0 r1 (f_X3_push_32 r0 r1) := by
  intro H locs ls h hf hE hR hS t_r0 t_r1 hl
  rw [f_X3_push_32] at hf
  refine lv_aload_n C.x C.b dX3_push_32 rfl (lv_at hl 0 rfl) ?_
  obtain ⟨g5, hf⟩ := gd_e hf
  refine r_getr C hR t_r0 fl_X3_11 (by decide) (nz_e g5) dX3_push_33 (fun tq6 => ?_)
  have tg5 := okA tq6 rfl
  refine lv_aload_n C.x C.b dX3_push_36 rfl (lv_at hl 0 rfl) ?_
  refine r_geti C hR t_r0 fl_X3_16 rfl dX3_push_37 ?_
  refine lv_aload_n C.x C.b dX3_push_40 rfl (lv_at hl 0 rfl) ?_
  refine r_geti C hR t_r0 fl_X3_20 rfl dX3_push_41 ?_
  refine lv_iadd C.x C.b dX3_push_44 ?_
  refine lv_bipush (v := (15 : Int32)) C.x C.b dX3_push_45 (by decide) ?_
  refine lv_irem C.x C.b dX3_push_47 (by decide) ?_
  refine lv_topi (fun v7 e_v7 => ?_)
  have hf := lt_e hf e_v7
  obtain ⟨g8, hf⟩ := gd_e hf
  obtain ⟨g9, hf⟩ := gd_e hf
  refine r_aald C hR tg5 g8 (nz_e g9) dX3_push_48 (fun tg9 => ?_)
  refine lv_aload_n C.x C.b dX3_push_49 rfl (lv_at hl 1 rfl) ?_
  obtain ⟨q10, h_q10, hf⟩ := bd_e hf
  refine r_callV (As := [.ref (G.2.2 + r1)]) (rest := []) C hR hS tg9 rfl mk_X0_copy cl_X3_23 (k_X0_copy tg9 t_r1 h_q10) ⟨⟨Nat.le_of_ble_eq_true rfl, Nat.le_of_ble_eq_true rfl⟩, ⟨rfl, rfl⟩, Nat.le_of_ble_eq_true rfl, Nat.le_of_ble_eq_true rfl⟩ rfl hl.1 rfl (Nat.le_of_ble_eq_true rfl) dX3_push_50 (fun H locs hR hS hE1 z_q10 => ?_)
  have hE := hE.tr hE1
  have t_r0 := hE1.at t_r0 (by decide)
  have t_r1 := hE1.at t_r1 (by decide)
  refine lv_aload_n C.x C.b dX3_push_53 rfl (lv_at hl 0 rfl) ?_
  refine lv_dup C.x C.b dX3_push_54 rfl ?_
  refine r_geti C hR t_r0 fl_X3_20 rfl dX3_push_55 ?_
  refine lv_iconst (v := (1 : Int32)) C.x C.b dX3_push_58 (by decide) ?_
  refine lv_iadd C.x C.b dX3_push_59 ?_
  refine r_puti C hR hS t_r0 fl_X3_20 fp_X3_3_2 rfl dX3_push_60 (fun H locs hR hS => ?_)
  obtain ⟨h11, e_h11⟩ : ∃ y, y = upI q10 r0 2 ((hpI q10 r0 2) + (1 : Int32)) := ⟨_, rfl⟩
  rw [← e_h11] at hR
  have hf := lt_e hf e_h11
  have hE := eI e_h11 hE
  have t_r0 := tI e_h11 t_r0
  have t_r1 := tI e_h11 t_r1
  have hf := so_e hf
  subst hf
  exact r_vret C hr hlk hR hE hS dX3_push_63
set_option maxRecDepth 100000 in
set_option maxHeartbeats 4000000 in
theorem k_X3_push {G : Gt} {l : Launch}  {h : Hp} {r0 : Nat} {r1 : Nat} {out : Hp} (t_r0 : hpT h r0 = (1, 3)) (t_r1 : hpT h r1 = (1, 0))  (hf : f_X3_push  h r0 r1 = some out) : Mt G l yX3_push cX3_push 2 (none) rm_X3_push [.ref (G.2.2 + r0), .ref (G.2.2 + r1)] h (none) out 0 0 0 := by
  refine r_met (by decide +kernel) (Nat.le_of_ble_eq_true rfl) ?_
  intro p e s m args below meth c ls C hr hlk hnm hR hS hl
  have hE : Ext h h := Ext.rf
  have hl : lv_has ls 2 [(0, .ref (G.2.2 + r0)), (1, .ref (G.2.2 + r1))] := hl
  rw [f_X3_push] at hf
  refine lv_aload_n C.x C.b dX3_push_0 rfl (lv_at hl 0 rfl) ?_
  refine r_geti C hR t_r0 fl_X3_20 rfl dX3_push_1 ?_
  refine lv_bipush (v := (15 : Int32)) C.x C.b dX3_push_4 (by decide) ?_
  refine lv_icmp_ne (tgt := 32) C.x C.b dX3_push_6 (by decide) (fun c1 => ?_) (fun c1 => ?_)
  · have hf := it_f hf c1
    exact w_X3_push_32 C hr hlk _ _ _ _ hf hE hR hS t_r0 t_r1 (lv_sub hl [0, 1] rfl)
  · have hf := it_t hf c1
    refine lv_aload_n C.x C.b dX3_push_9 rfl (lv_at hl 0 rfl) ?_
    refine lv_aload_n C.x C.b dX3_push_10 rfl (lv_at hl 0 rfl) ?_
    refine r_geti C hR t_r0 fl_X3_16 rfl dX3_push_11 ?_
    refine lv_iconst (v := (1 : Int32)) C.x C.b dX3_push_14 (by decide) ?_
    refine lv_iadd C.x C.b dX3_push_15 ?_
    refine lv_bipush (v := (15 : Int32)) C.x C.b dX3_push_16 (by decide) ?_
    refine lv_irem C.x C.b dX3_push_18 (by decide) ?_
    refine lv_topi (fun v2 e_v2 => ?_)
    have hf := lt_e hf e_v2
    refine r_puti C hR hS t_r0 fl_X3_16 fp_X3_3_1 rfl dX3_push_19 (fun H locs hR hS => ?_)
    obtain ⟨h3, e_h3⟩ : ∃ y, y = upI h r0 1 v2 := ⟨_, rfl⟩
    rw [← e_h3] at hR
    have hf := lt_e hf e_h3
    have hE := eI e_h3 hE
    have t_r0 := tI e_h3 t_r0
    have t_r1 := tI e_h3 t_r1
    refine lv_aload_n C.x C.b dX3_push_22 rfl (lv_at hl 0 rfl) ?_
    refine lv_dup C.x C.b dX3_push_23 rfl ?_
    refine r_geti C hR t_r0 fl_X3_20 rfl dX3_push_24 ?_
    refine lv_iconst (v := (1 : Int32)) C.x C.b dX3_push_27 (by decide) ?_
    refine lv_isub C.x C.b dX3_push_28 ?_
    refine r_puti C hR hS t_r0 fl_X3_20 fp_X3_3_2 rfl dX3_push_29 (fun H locs hR hS => ?_)
    obtain ⟨h4, e_h4⟩ : ∃ y, y = upI h3 r0 2 ((hpI h3 r0 2) - (1 : Int32)) := ⟨_, rfl⟩
    rw [← e_h4] at hR
    have hf := lt_e hf e_h4
    have hE := eI e_h4 hE
    have t_r0 := tI e_h4 t_r0
    have t_r1 := tI e_h4 t_r1
    exact w_X3_push_32 C hr hlk _ _ _ _ hf hE hR hS t_r0 t_r1 (lv_sub hl [0, 1] rfl)

def rm_X3_pop : Room := { frames := 2, cells := 0, slots := 0, locals := 39 }
set_option maxRecDepth 100000 in
set_option maxHeartbeats 4000000 in
theorem k_X3_pop {G : Gt} {l : Launch}  {h : Hp} {r0 : Nat} {r1 : Nat} {out : Hp} (t_r0 : hpT h r0 = (1, 3)) (t_r1 : hpT h r1 = (1, 0))  (hf : f_X3_pop  h r0 r1 = some out) : Mt G l yX3_pop cX3_pop 2 (none) rm_X3_pop [.ref (G.2.2 + r0), .ref (G.2.2 + r1)] h (none) out 0 0 0 := by
  refine r_met (by decide +kernel) (Nat.le_of_ble_eq_true rfl) ?_
  intro p e s m args below meth c ls C hr hlk hnm hR hS hl
  have hE : Ext h h := Ext.rf
  have hl : lv_has ls 2 [(0, .ref (G.2.2 + r0)), (1, .ref (G.2.2 + r1))] := hl
  rw [f_X3_pop] at hf
  refine lv_aload_n C.x C.b dX3_pop_0 rfl (lv_at hl 0 rfl) ?_
  refine r_geti C hR t_r0 fl_X3_20 rfl dX3_pop_1 ?_
  refine lv_if_le (tgt := 38) C.x C.b dX3_pop_4 (by decide) (fun c1 => ?_) (fun c1 => ?_)
  · have hf := it_t hf c1
    have hf := so_e hf
    subst hf
    exact r_vret C hr hlk hR hE hS dX3_pop_38
  · have hf := it_f hf c1
    refine lv_aload_n C.x C.b dX3_pop_7 rfl (lv_at hl 0 rfl) ?_
    refine lv_dup C.x C.b dX3_pop_8 rfl ?_
    refine r_geti C hR t_r0 fl_X3_20 rfl dX3_pop_9 ?_
    refine lv_iconst (v := (1 : Int32)) C.x C.b dX3_pop_12 (by decide) ?_
    refine lv_isub C.x C.b dX3_pop_13 ?_
    refine r_puti C hR hS t_r0 fl_X3_20 fp_X3_3_2 rfl dX3_pop_14 (fun H locs hR hS => ?_)
    obtain ⟨h2, e_h2⟩ : ∃ y, y = upI h r0 2 ((hpI h r0 2) - (1 : Int32)) := ⟨_, rfl⟩
    rw [← e_h2] at hR
    have hf := lt_e hf e_h2
    have hE := eI e_h2 hE
    have t_r0 := tI e_h2 t_r0
    have t_r1 := tI e_h2 t_r1
    refine lv_aload_n C.x C.b dX3_pop_17 rfl (lv_at hl 1 rfl) ?_
    refine lv_aload_n C.x C.b dX3_pop_18 rfl (lv_at hl 0 rfl) ?_
    obtain ⟨g3, hf⟩ := gd_e hf
    refine r_getr C hR t_r0 fl_X3_11 (by decide) (nz_e g3) dX3_pop_19 (fun tq4 => ?_)
    have tg3 := okA tq4 rfl
    refine lv_aload_n C.x C.b dX3_pop_22 rfl (lv_at hl 0 rfl) ?_
    refine r_geti C hR t_r0 fl_X3_16 rfl dX3_pop_23 ?_
    refine lv_aload_n C.x C.b dX3_pop_26 rfl (lv_at hl 0 rfl) ?_
    refine r_geti C hR t_r0 fl_X3_20 rfl dX3_pop_27 ?_
    refine lv_iadd C.x C.b dX3_pop_30 ?_
    refine lv_bipush (v := (15 : Int32)) C.x C.b dX3_pop_31 (by decide) ?_
    refine lv_irem C.x C.b dX3_pop_33 (by decide) ?_
    refine lv_topi (fun v5 e_v5 => ?_)
    have hf := lt_e hf e_v5
    obtain ⟨g6, hf⟩ := gd_e hf
    obtain ⟨g7, hf⟩ := gd_e hf
    refine r_aald C hR tg3 g6 (nz_e g7) dX3_pop_34 (fun tg7 => ?_)
    obtain ⟨q8, h_q8, hf⟩ := bd_e hf
    refine r_callV (As := [.ref (G.2.2 + (hpR h2 (hpR h2 r0 0) (ix v5)))]) (rest := []) C hR hS t_r1 rfl mk_X0_copy cl_X3_23 (k_X0_copy t_r1 tg7 h_q8) ⟨⟨Nat.le_of_ble_eq_true rfl, Nat.le_of_ble_eq_true rfl⟩, ⟨rfl, rfl⟩, Nat.le_of_ble_eq_true rfl, Nat.le_of_ble_eq_true rfl⟩ rfl hl.1 rfl (Nat.le_of_ble_eq_true rfl) dX3_pop_35 (fun H locs hR hS hE1 z_q8 => ?_)
    have hE := hE.tr hE1
    have t_r0 := hE1.at t_r0 (by decide)
    have t_r1 := hE1.at t_r1 (by decide)
    have hf := so_e hf
    subst hf
    exact r_vret C hr hlk hR hE hS dX3_pop_38

def rm_X4_init : Room := { frames := 1, cells := 3, slots := 88, locals := 12 }
set_option maxRecDepth 100000 in
set_option maxHeartbeats 4000000 in
theorem k_X4_init {G : Gt} {l : Launch}  {h : Hp} {r0 : Nat} {out : Hp} (t_r0 : hpT h r0 = (1, 4))  (hf : f_X4_init  h r0 = some out) : Mt G l yX4_init cX4_init 1 (none) rm_X4_init [.ref (G.2.2 + r0)] h (none) out 0 3 88 := by
  refine r_met (by decide +kernel) (Nat.le_of_ble_eq_true rfl) ?_
  intro p e s m args below meth c ls C hr hlk hnm hR hS hl
  have hE : Ext h h := Ext.rf
  have hl : lv_has ls 1 [(0, .ref (G.2.2 + r0))] := hl
  rw [f_X4_init] at hf
  refine lv_aload_n C.x C.b dX4_init_0 rfl (lv_at hl 0 rfl) ?_
  refine r_objinit C hl.1 lk_X4_3 lk_oi_i lk_oi_c (Nat.le_of_ble_eq_true rfl) (Nat.le_of_ble_eq_true rfl) dX4_init_1 ?_
  refine lv_aload_n C.x C.b dX4_init_4 rfl (lv_at hl 0 rfl) ?_
  refine lv_bipush (v := (40 : Int32)) C.x C.b dX4_init_5 (by decide) ?_
  refine r_newiN C hR hS (40 : Int32) (by decide) (Nat.le_of_ble_eq_true rfl) lk_arr_int (Nat.le_of_ble_eq_true rfl) (Nat.le_of_ble_eq_true rfl) dX4_init_7 (fun H a1 e_a1 hR hS hE1 t_a1 => ?_)
  have hf := lt_e hf e_a1
  obtain ⟨h2, e_h2⟩ : ∃ y, y = hpNew h (2, ix (40 : Int32)) := ⟨_, rfl⟩
  rw [← e_h2] at hR hE1 t_a1
  have hf := lt_e hf e_h2
  have hE := hE.tr hE1
  have t_r0 := hE1.at t_r0 (by decide)
  refine r_putr C hR hS true (fun _ => hnm) (ne0k hR t_a1 (by decide)) t_r0 (okT_a t_a1 rfl (by decide)) fl_X4_9 fp_X4_4_0 (by decide) dX4_init_9 (fun H locs hR hS => ?_)
  obtain ⟨h3, e_h3⟩ : ∃ y, y = upR h2 r0 0 a1 := ⟨_, rfl⟩
  rw [← e_h3] at hR
  have hf := lt_e hf e_h3
  have hE := eR e_h3 hE
  have t_r0 := tR e_h3 t_r0
  refine lv_aload_n C.x C.b dX4_init_12 rfl (lv_at hl 0 rfl) ?_
  refine lv_bipush (v := (40 : Int32)) C.x C.b dX4_init_13 (by decide) ?_
  refine r_newiN C hR hS (40 : Int32) (by decide) (Nat.le_of_ble_eq_true rfl) lk_arr_int (Nat.le_of_ble_eq_true rfl) (Nat.le_of_ble_eq_true rfl) dX4_init_15 (fun H a4 e_a4 hR hS hE1 t_a4 => ?_)
  have hf := lt_e hf e_a4
  obtain ⟨h5, e_h5⟩ : ∃ y, y = hpNew h3 (2, ix (40 : Int32)) := ⟨_, rfl⟩
  rw [← e_h5] at hR hE1 t_a4
  have hf := lt_e hf e_h5
  have hE := hE.tr hE1
  have t_r0 := hE1.at t_r0 (by decide)
  refine r_putr C hR hS true (fun _ => hnm) (ne0k hR t_a4 (by decide)) t_r0 (okT_a t_a4 rfl (by decide)) fl_X4_15 fp_X4_4_1 (by decide) dX4_init_17 (fun H locs hR hS => ?_)
  obtain ⟨h6, e_h6⟩ : ∃ y, y = upR h5 r0 1 a4 := ⟨_, rfl⟩
  rw [← e_h6] at hR
  have hf := lt_e hf e_h6
  have hE := eR e_h6 hE
  have t_r0 := tR e_h6 t_r0
  refine lv_aload_n C.x C.b dX4_init_20 rfl (lv_at hl 0 rfl) ?_
  refine lv_bipush (v := (8 : Int32)) C.x C.b dX4_init_21 (by decide) ?_
  refine r_newiN C hR hS (8 : Int32) (by decide) (Nat.le_of_ble_eq_true rfl) lk_arr_int (Nat.le_of_ble_eq_true rfl) (Nat.le_of_ble_eq_true rfl) dX4_init_23 (fun H a7 e_a7 hR hS hE1 t_a7 => ?_)
  have hf := lt_e hf e_a7
  obtain ⟨h8, e_h8⟩ : ∃ y, y = hpNew h6 (2, ix (8 : Int32)) := ⟨_, rfl⟩
  rw [← e_h8] at hR hE1 t_a7
  have hf := lt_e hf e_h8
  have hE := hE.tr hE1
  have t_r0 := hE1.at t_r0 (by decide)
  refine r_putr C hR hS true (fun _ => hnm) (ne0k hR t_a7 (by decide)) t_r0 (okT_a t_a7 rfl (by decide)) fl_X4_18 fp_X4_4_2 (by decide) dX4_init_25 (fun H locs hR hS => ?_)
  obtain ⟨h9, e_h9⟩ : ∃ y, y = upR h8 r0 2 a7 := ⟨_, rfl⟩
  rw [← e_h9] at hR
  have hf := lt_e hf e_h9
  have hE := eR e_h9 hE
  have t_r0 := tR e_h9 t_r0
  have hf := so_e hf
  subst hf
  refine W.widen (k := 3) (n := 88) (Nat.le_of_ble_eq_true rfl) (Nat.le_of_ble_eq_true rfl) ?_
  exact r_vret C hr hlk hR hE hS dX4_init_28

def rm_X4_start : Room := { frames := 0, cells := 0, slots := 0, locals := 0 }
set_option maxRecDepth 100000 in
set_option maxHeartbeats 4000000 in
theorem k_X4_start {G : Gt} {l : Launch}  {h : Hp} {r0 : Nat} {out : Hp} (t_r0 : hpT h r0 = (1, 4))  (hf : f_X4_start  h r0 = some out) : Mt G l yX4_start cX4_start 1 (none) rm_X4_start [.ref (G.2.2 + r0)] h (none) out 0 0 0 := by
  refine r_met (by decide +kernel) (Nat.le_of_ble_eq_true rfl) ?_
  intro p e s m args below meth c ls C hr hlk hnm hR hS hl
  have hE : Ext h h := Ext.rf
  have hl : lv_has ls 1 [(0, .ref (G.2.2 + r0))] := hl
  rw [f_X4_start] at hf
  refine lv_aload_n C.x C.b dX4_start_0 rfl (lv_at hl 0 rfl) ?_
  refine lv_iconst (v := (0 : Int32)) C.x C.b dX4_start_1 (by decide) ?_
  refine r_puti C hR hS t_r0 fl_X4_21 fp_X4_4_3 rfl dX4_start_2 (fun H locs hR hS => ?_)
  obtain ⟨h1, e_h1⟩ : ∃ y, y = upI h r0 3 (0 : Int32) := ⟨_, rfl⟩
  rw [← e_h1] at hR
  have hf := lt_e hf e_h1
  have hE := eI e_h1 hE
  have t_r0 := tI e_h1 t_r0
  have hf := so_e hf
  subst hf
  exact r_vret C hr hlk hR hE hS dX4_start_5

def rm_X4_addNumber : Room := { frames := 0, cells := 0, slots := 0, locals := 0 }
set_option maxRecDepth 100000 in
set_option maxHeartbeats 4000000 in
theorem k_X4_addNumber {G : Gt} {l : Launch}  {h : Hp} {r0 : Nat} {x1 : Int32} {out : Hp} (t_r0 : hpT h r0 = (1, 4))  (hf : f_X4_addNumber  h r0 x1 = some out) : Mt G l yX4_addNumber cX4_addNumber 2 (none) rm_X4_addNumber [.ref (G.2.2 + r0), .int x1] h (none) out 0 0 0 := by
  refine r_met (by decide +kernel) (Nat.le_of_ble_eq_true rfl) ?_
  intro p e s m args below meth c ls C hr hlk hnm hR hS hl
  have hE : Ext h h := Ext.rf
  have hl : lv_has ls 2 [(0, .ref (G.2.2 + r0)), (1, .int x1)] := hl
  rw [f_X4_addNumber] at hf
  refine lv_aload_n C.x C.b dX4_addNumber_0 rfl (lv_at hl 0 rfl) ?_
  refine r_geti C hR t_r0 fl_X4_21 rfl dX4_addNumber_1 ?_
  refine lv_aload_n C.x C.b dX4_addNumber_4 rfl (lv_at hl 0 rfl) ?_
  obtain ⟨g1, hf⟩ := gd_e hf
  refine r_getr C hR t_r0 fl_X4_9 (by decide) (nz_e g1) dX4_addNumber_5 (fun tq2 => ?_)
  have tg1 := okA tq2 rfl
  refine r_alen C hR (Or.inl tg1) dX4_addNumber_8 ?_
  refine lv_icmp_ge (tgt := 32) C.x C.b dX4_addNumber_9 (by decide) (fun c3 => ?_) (fun c3 => ?_)
  · have hf := it_t hf c3
    have hf := so_e hf
    subst hf
    exact r_vret C hr hlk hR hE hS dX4_addNumber_32
  · have hf := it_f hf c3
    refine lv_aload_n C.x C.b dX4_addNumber_12 rfl (lv_at hl 0 rfl) ?_
    refine r_getr C hR t_r0 fl_X4_9 (by decide) (nz_e g1) dX4_addNumber_13 (fun tq4 => ?_)
    refine lv_aload_n C.x C.b dX4_addNumber_16 rfl (lv_at hl 0 rfl) ?_
    refine r_geti C hR t_r0 fl_X4_21 rfl dX4_addNumber_17 ?_
    refine lv_iload_n C.x C.b dX4_addNumber_20 rfl (lv_at hl 1 rfl) ?_
    obtain ⟨g5, hf⟩ := gd_e hf
    refine r_iast C hR hS tg1 g5 dX4_addNumber_21 (fun H locs hR hS => ?_)
    obtain ⟨h6, e_h6⟩ : ∃ y, y = upI h (hpR h r0 0) (ix (hpI h r0 3)) x1 := ⟨_, rfl⟩
    rw [← e_h6] at hR
    have hf := lt_e hf e_h6
    have hE := eI e_h6 hE
    have t_r0 := tI e_h6 t_r0
    refine lv_aload_n C.x C.b dX4_addNumber_22 rfl (lv_at hl 0 rfl) ?_
    refine lv_dup C.x C.b dX4_addNumber_23 rfl ?_
    refine r_geti C hR t_r0 fl_X4_21 rfl dX4_addNumber_24 ?_
    refine lv_iconst (v := (1 : Int32)) C.x C.b dX4_addNumber_27 (by decide) ?_
    refine lv_iadd C.x C.b dX4_addNumber_28 ?_
    refine r_puti C hR hS t_r0 fl_X4_21 fp_X4_4_3 rfl dX4_addNumber_29 (fun H locs hR hS => ?_)
    obtain ⟨h7, e_h7⟩ : ∃ y, y = upI h6 r0 3 ((hpI h6 r0 3) + (1 : Int32)) := ⟨_, rfl⟩
    rw [← e_h7] at hR
    have hf := lt_e hf e_h7
    have hE := eI e_h7 hE
    have t_r0 := tI e_h7 t_r0
    have hf := so_e hf
    subst hf
    exact r_vret C hr hlk hR hE hS dX4_addNumber_32

def rm_X4_addSign : Room := { frames := 1, cells := 0, slots := 0, locals := 21 }
set_option maxRecDepth 100000 in
set_option maxHeartbeats 4000000 in
theorem k_X4_addSign {G : Gt} {l : Launch}  {h : Hp} {r0 : Nat} {x1 : Int32} {out : Hp} (t_r0 : hpT h r0 = (1, 4))  (hf : f_X4_addSign  h r0 x1 = some out) : Mt G l yX4_addSign cX4_addSign 2 (none) rm_X4_addSign [.ref (G.2.2 + r0), .int x1] h (none) out 0 0 0 := by
  refine r_met (by decide +kernel) (Nat.le_of_ble_eq_true rfl) ?_
  intro p e s m args below meth c ls C hr hlk hnm hR hS hl
  have hE : Ext h h := Ext.rf
  have hl : lv_has ls 2 [(0, .ref (G.2.2 + r0)), (1, .int x1)] := hl
  rw [f_X4_addSign] at hf
  refine lv_aload_n C.x C.b dX4_addSign_0 rfl (lv_at hl 0 rfl) ?_
  refine lv_iload_n C.x C.b dX4_addSign_1 rfl (lv_at hl 1 rfl) ?_
  refine lv_ineg C.x C.b dX4_addSign_2 ?_
  obtain ⟨q1, h_q1, hf⟩ := bd_e hf
  refine r_callV (As := [.int (-x1)]) (rest := []) C hR hS t_r0 rfl mk_X4_addNumber cl_X4_25 (k_X4_addNumber t_r0 h_q1) ⟨⟨Nat.le_of_ble_eq_true rfl, Nat.le_of_ble_eq_true rfl⟩, ⟨rfl, rfl⟩, Nat.le_of_ble_eq_true rfl, Nat.le_of_ble_eq_true rfl⟩ rfl hl.1 rfl (Nat.le_of_ble_eq_true rfl) dX4_addSign_3 (fun H locs hR hS hE1 z_q1 => ?_)
  have hE := hE.tr hE1
  have t_r0 := hE1.at t_r0 (by decide)
  have hf := so_e hf
  subst hf
  exact r_vret C hr hlk hR hE hS dX4_addSign_6

def rm_X4_copy : Room := { frames := 1, cells := 0, slots := 0, locals := 18 }
set_option maxRecDepth 100000 in
set_option maxHeartbeats 4000000 in
theorem k_X4_copy {G : Gt} {l : Launch}  {h : Hp} {r0 : Nat} {r1 : Nat} {out : Hp} (t_r0 : hpT h r0 = (1, 4)) (t_r1 : hpT h r1 = (1, 4))  (hf : f_X4_copy  h r0 r1 = some out) : Mt G l yX4_copy cX4_copy 2 (none) rm_X4_copy [.ref (G.2.2 + r0), .ref (G.2.2 + r1)] h (none) out 0 0 0 := by
  refine r_met (by decide +kernel) (Nat.le_of_ble_eq_true rfl) ?_
  intro p e s m args below meth c ls C hr hlk hnm hR hS hl
  have hE : Ext h h := Ext.rf
  have hl : lv_has ls 2 [(0, .ref (G.2.2 + r0)), (1, .ref (G.2.2 + r1))] := hl
  rw [f_X4_copy] at hf
  refine lv_aload_n C.x C.b dX4_copy_0 rfl (lv_at hl 0 rfl) ?_
  refine lv_aload_n C.x C.b dX4_copy_1 rfl (lv_at hl 1 rfl) ?_
  refine r_geti C hR t_r1 fl_X4_21 rfl dX4_copy_2 ?_
  refine r_puti C hR hS t_r0 fl_X4_21 fp_X4_4_3 rfl dX4_copy_5 (fun H locs hR hS => ?_)
  obtain ⟨h1, e_h1⟩ : ∃ y, y = upI h r0 3 (hpI h r1 3) := ⟨_, rfl⟩
  rw [← e_h1] at hR
  have hf := lt_e hf e_h1
  have hE := eI e_h1 hE
  have t_r0 := tI e_h1 t_r0
  have t_r1 := tI e_h1 t_r1
  refine lv_aload_n C.x C.b dX4_copy_8 rfl (lv_at hl 1 rfl) ?_
  obtain ⟨g2, hf⟩ := gd_e hf
  refine r_getr C hR t_r1 fl_X4_9 (by decide) (nz_e g2) dX4_copy_9 (fun tq3 => ?_)
  have tg2 := okA tq3 rfl
  refine lv_iconst (v := (0 : Int32)) C.x C.b dX4_copy_12 (by decide) ?_
  refine lv_aload_n C.x C.b dX4_copy_13 rfl (lv_at hl 0 rfl) ?_
  obtain ⟨g4, hf⟩ := gd_e hf
  refine r_getr C hR t_r0 fl_X4_9 (by decide) (nz_e g4) dX4_copy_14 (fun tq5 => ?_)
  have tg4 := okA tq5 rfl
  refine lv_iconst (v := (0 : Int32)) C.x C.b dX4_copy_17 (by decide) ?_
  refine lv_bipush (v := (40 : Int32)) C.x C.b dX4_copy_18 (by decide) ?_
  obtain ⟨g6, hf⟩ := gd_e hf
  refine r_copy C hR hS hl.1 tg2 tg4 g6 lk_X4_29 lk_System (Nat.le_of_ble_eq_true rfl) (Nat.le_of_ble_eq_true rfl) dX4_copy_20 (fun H locs hR hS => ?_)
  obtain ⟨h7, e_h7⟩ : ∃ y, y = cpI h1 (hpR h1 r1 0) (ix (0 : Int32)) (hpR h1 r0 0) (ix (0 : Int32)) (ix (40 : Int32)) := ⟨_, rfl⟩
  rw [← e_h7] at hR
  have hf := lt_e hf e_h7
  have hE := eC e_h7 hE
  have t_r0 := tC e_h7 t_r0
  have t_r1 := tC e_h7 t_r1
  have hf := so_e hf
  subst hf
  exact r_vret C hr hlk hR hE hS dX4_copy_23

def rm_X4_putNone : Room := { frames := 2, cells := 0, slots := 0, locals := 42 }
set_option maxRecDepth 100000 in
set_option maxHeartbeats 4000000 in
theorem k_X4_putNone {G : Gt} {l : Launch}  {h : Hp} {r0 : Nat} {out : Hp} (t_r0 : hpT h r0 = (1, 4))  (hf : f_X4_putNone  h r0 = some out) : Mt G l yX4_putNone cX4_putNone 1 (none) rm_X4_putNone [.ref (G.2.2 + r0)] h (none) out 0 0 0 := by
  refine r_met (by decide +kernel) (Nat.le_of_ble_eq_true rfl) ?_
  intro p e s m args below meth c ls C hr hlk hnm hR hS hl
  have hE : Ext h h := Ext.rf
  have hl : lv_has ls 1 [(0, .ref (G.2.2 + r0))] := hl
  rw [f_X4_putNone] at hf
  refine lv_aload_n C.x C.b dX4_putNone_0 rfl (lv_at hl 0 rfl) ?_
  obtain ⟨q1, h_q1, hf⟩ := bd_e hf
  refine r_callV (As := []) (rest := []) C hR hS t_r0 rfl mk_X4_start cl_X4_35 (k_X4_start t_r0 h_q1) ⟨⟨Nat.le_of_ble_eq_true rfl, Nat.le_of_ble_eq_true rfl⟩, ⟨rfl, rfl⟩, Nat.le_of_ble_eq_true rfl, Nat.le_of_ble_eq_true rfl⟩ rfl hl.1 rfl (Nat.le_of_ble_eq_true rfl) dX4_putNone_1 (fun H locs hR hS hE1 z_q1 => ?_)
  have hE := hE.tr hE1
  have t_r0 := hE1.at t_r0 (by decide)
  refine lv_aload_n C.x C.b dX4_putNone_4 rfl (lv_at hl 0 rfl) ?_
  refine lv_iconst (v := (1 : Int32)) C.x C.b dX4_putNone_5 (by decide) ?_
  obtain ⟨q2, h_q2, hf⟩ := bd_e hf
  refine r_callV (As := [.int (1 : Int32)]) (rest := []) C hR hS t_r0 rfl mk_X4_addNumber cl_X4_25 (k_X4_addNumber t_r0 h_q2) ⟨⟨Nat.le_of_ble_eq_true rfl, Nat.le_of_ble_eq_true rfl⟩, ⟨rfl, rfl⟩, Nat.le_of_ble_eq_true rfl, Nat.le_of_ble_eq_true rfl⟩ rfl hl.1 rfl (Nat.le_of_ble_eq_true rfl) dX4_putNone_6 (fun H locs hR hS hE1 z_q2 => ?_)
  have hE := hE.tr hE1
  have t_r0 := hE1.at t_r0 (by decide)
  refine lv_aload_n C.x C.b dX4_putNone_9 rfl (lv_at hl 0 rfl) ?_
  refine lv_bipush (v := (111 : Int32)) C.x C.b dX4_putNone_10 (by decide) ?_
  obtain ⟨q3, h_q3, hf⟩ := bd_e hf
  refine r_callV (As := [.int (111 : Int32)]) (rest := []) C hR hS t_r0 rfl mk_X4_addSign cl_X4_38 (k_X4_addSign t_r0 h_q3) ⟨⟨Nat.le_of_ble_eq_true rfl, Nat.le_of_ble_eq_true rfl⟩, ⟨rfl, rfl⟩, Nat.le_of_ble_eq_true rfl, Nat.le_of_ble_eq_true rfl⟩ rfl hl.1 rfl (Nat.le_of_ble_eq_true rfl) dX4_putNone_12 (fun H locs hR hS hE1 z_q3 => ?_)
  have hE := hE.tr hE1
  have t_r0 := hE1.at t_r0 (by decide)
  refine lv_aload_n C.x C.b dX4_putNone_15 rfl (lv_at hl 0 rfl) ?_
  refine lv_iconst (v := (1 : Int32)) C.x C.b dX4_putNone_16 (by decide) ?_
  obtain ⟨q4, h_q4, hf⟩ := bd_e hf
  refine r_callV (As := [.int (1 : Int32)]) (rest := []) C hR hS t_r0 rfl mk_X4_addNumber cl_X4_25 (k_X4_addNumber t_r0 h_q4) ⟨⟨Nat.le_of_ble_eq_true rfl, Nat.le_of_ble_eq_true rfl⟩, ⟨rfl, rfl⟩, Nat.le_of_ble_eq_true rfl, Nat.le_of_ble_eq_true rfl⟩ rfl hl.1 rfl (Nat.le_of_ble_eq_true rfl) dX4_putNone_17 (fun H locs hR hS hE1 z_q4 => ?_)
  have hE := hE.tr hE1
  have t_r0 := hE1.at t_r0 (by decide)
  refine lv_aload_n C.x C.b dX4_putNone_20 rfl (lv_at hl 0 rfl) ?_
  refine lv_bipush (v := (62 : Int32)) C.x C.b dX4_putNone_21 (by decide) ?_
  obtain ⟨q5, h_q5, hf⟩ := bd_e hf
  refine r_callV (As := [.int (62 : Int32)]) (rest := []) C hR hS t_r0 rfl mk_X4_addSign cl_X4_38 (k_X4_addSign t_r0 h_q5) ⟨⟨Nat.le_of_ble_eq_true rfl, Nat.le_of_ble_eq_true rfl⟩, ⟨rfl, rfl⟩, Nat.le_of_ble_eq_true rfl, Nat.le_of_ble_eq_true rfl⟩ rfl hl.1 rfl (Nat.le_of_ble_eq_true rfl) dX4_putNone_23 (fun H locs hR hS hE1 z_q5 => ?_)
  have hE := hE.tr hE1
  have t_r0 := hE1.at t_r0 (by decide)
  refine lv_aload_n C.x C.b dX4_putNone_26 rfl (lv_at hl 0 rfl) ?_
  refine lv_bipush (v := (43 : Int32)) C.x C.b dX4_putNone_27 (by decide) ?_
  obtain ⟨q6, h_q6, hf⟩ := bd_e hf
  refine r_callV (As := [.int (43 : Int32)]) (rest := []) C hR hS t_r0 rfl mk_X4_addSign cl_X4_38 (k_X4_addSign t_r0 h_q6) ⟨⟨Nat.le_of_ble_eq_true rfl, Nat.le_of_ble_eq_true rfl⟩, ⟨rfl, rfl⟩, Nat.le_of_ble_eq_true rfl, Nat.le_of_ble_eq_true rfl⟩ rfl hl.1 rfl (Nat.le_of_ble_eq_true rfl) dX4_putNone_29 (fun H locs hR hS hE1 z_q6 => ?_)
  have hE := hE.tr hE1
  have t_r0 := hE1.at t_r0 (by decide)
  have hf := so_e hf
  subst hf
  exact r_vret C hr hlk hR hE hS dX4_putNone_32

def rm_X4_putLaw : Room := { frames := 2, cells := 0, slots := 0, locals := 42 }
set_option maxRecDepth 100000 in
set_option maxHeartbeats 4000000 in
theorem k_X4_putLaw {G : Gt} {l : Launch}  {h : Hp} {r0 : Nat} {x1 : Int32} {x2 : Int32} {out : Hp} (t_r0 : hpT h r0 = (1, 4))  (hf : f_X4_putLaw  h r0 x1 x2 = some out) : Mt G l yX4_putLaw cX4_putLaw 3 (none) rm_X4_putLaw [.ref (G.2.2 + r0), .int x1, .int x2] h (none) out 0 0 0 := by
  refine r_met (by decide +kernel) (Nat.le_of_ble_eq_true rfl) ?_
  intro p e s m args below meth c ls C hr hlk hnm hR hS hl
  have hE : Ext h h := Ext.rf
  have hl : lv_has ls 3 [(0, .ref (G.2.2 + r0)), (1, .int x1), (2, .int x2)] := hl
  rw [f_X4_putLaw] at hf
  refine lv_aload_n C.x C.b dX4_putLaw_0 rfl (lv_at hl 0 rfl) ?_
  obtain ⟨q1, h_q1, hf⟩ := bd_e hf
  refine r_callV (As := []) (rest := []) C hR hS t_r0 rfl mk_X4_start cl_X4_35 (k_X4_start t_r0 h_q1) ⟨⟨Nat.le_of_ble_eq_true rfl, Nat.le_of_ble_eq_true rfl⟩, ⟨rfl, rfl⟩, Nat.le_of_ble_eq_true rfl, Nat.le_of_ble_eq_true rfl⟩ rfl hl.1 rfl (Nat.le_of_ble_eq_true rfl) dX4_putLaw_1 (fun H locs hR hS hE1 z_q1 => ?_)
  have hE := hE.tr hE1
  have t_r0 := hE1.at t_r0 (by decide)
  refine lv_aload_n C.x C.b dX4_putLaw_4 rfl (lv_at hl 0 rfl) ?_
  refine lv_iload_n C.x C.b dX4_putLaw_5 rfl (lv_at hl 1 rfl) ?_
  obtain ⟨q2, h_q2, hf⟩ := bd_e hf
  refine r_callV (As := [.int x1]) (rest := []) C hR hS t_r0 rfl mk_X4_addNumber cl_X4_25 (k_X4_addNumber t_r0 h_q2) ⟨⟨Nat.le_of_ble_eq_true rfl, Nat.le_of_ble_eq_true rfl⟩, ⟨rfl, rfl⟩, Nat.le_of_ble_eq_true rfl, Nat.le_of_ble_eq_true rfl⟩ rfl hl.1 rfl (Nat.le_of_ble_eq_true rfl) dX4_putLaw_6 (fun H locs hR hS hE1 z_q2 => ?_)
  have hE := hE.tr hE1
  have t_r0 := hE1.at t_r0 (by decide)
  refine lv_aload_n C.x C.b dX4_putLaw_9 rfl (lv_at hl 0 rfl) ?_
  refine lv_iload_n C.x C.b dX4_putLaw_10 rfl (lv_at hl 2 rfl) ?_
  obtain ⟨q3, h_q3, hf⟩ := bd_e hf
  refine r_callV (As := [.int x2]) (rest := []) C hR hS t_r0 rfl mk_X4_addNumber cl_X4_25 (k_X4_addNumber t_r0 h_q3) ⟨⟨Nat.le_of_ble_eq_true rfl, Nat.le_of_ble_eq_true rfl⟩, ⟨rfl, rfl⟩, Nat.le_of_ble_eq_true rfl, Nat.le_of_ble_eq_true rfl⟩ rfl hl.1 rfl (Nat.le_of_ble_eq_true rfl) dX4_putLaw_11 (fun H locs hR hS hE1 z_q3 => ?_)
  have hE := hE.tr hE1
  have t_r0 := hE1.at t_r0 (by decide)
  refine lv_aload_n C.x C.b dX4_putLaw_14 rfl (lv_at hl 0 rfl) ?_
  refine lv_bipush (v := (111 : Int32)) C.x C.b dX4_putLaw_15 (by decide) ?_
  obtain ⟨q4, h_q4, hf⟩ := bd_e hf
  refine r_callV (As := [.int (111 : Int32)]) (rest := []) C hR hS t_r0 rfl mk_X4_addSign cl_X4_38 (k_X4_addSign t_r0 h_q4) ⟨⟨Nat.le_of_ble_eq_true rfl, Nat.le_of_ble_eq_true rfl⟩, ⟨rfl, rfl⟩, Nat.le_of_ble_eq_true rfl, Nat.le_of_ble_eq_true rfl⟩ rfl hl.1 rfl (Nat.le_of_ble_eq_true rfl) dX4_putLaw_17 (fun H locs hR hS hE1 z_q4 => ?_)
  have hE := hE.tr hE1
  have t_r0 := hE1.at t_r0 (by decide)
  refine lv_aload_n C.x C.b dX4_putLaw_20 rfl (lv_at hl 0 rfl) ?_
  refine lv_bipush (v := (42 : Int32)) C.x C.b dX4_putLaw_21 (by decide) ?_
  obtain ⟨q5, h_q5, hf⟩ := bd_e hf
  refine r_callV (As := [.int (42 : Int32)]) (rest := []) C hR hS t_r0 rfl mk_X4_addSign cl_X4_38 (k_X4_addSign t_r0 h_q5) ⟨⟨Nat.le_of_ble_eq_true rfl, Nat.le_of_ble_eq_true rfl⟩, ⟨rfl, rfl⟩, Nat.le_of_ble_eq_true rfl, Nat.le_of_ble_eq_true rfl⟩ rfl hl.1 rfl (Nat.le_of_ble_eq_true rfl) dX4_putLaw_23 (fun H locs hR hS hE1 z_q5 => ?_)
  have hE := hE.tr hE1
  have t_r0 := hE1.at t_r0 (by decide)
  refine lv_aload_n C.x C.b dX4_putLaw_26 rfl (lv_at hl 0 rfl) ?_
  refine lv_bipush (v := (43 : Int32)) C.x C.b dX4_putLaw_27 (by decide) ?_
  obtain ⟨q6, h_q6, hf⟩ := bd_e hf
  refine r_callV (As := [.int (43 : Int32)]) (rest := []) C hR hS t_r0 rfl mk_X4_addSign cl_X4_38 (k_X4_addSign t_r0 h_q6) ⟨⟨Nat.le_of_ble_eq_true rfl, Nat.le_of_ble_eq_true rfl⟩, ⟨rfl, rfl⟩, Nat.le_of_ble_eq_true rfl, Nat.le_of_ble_eq_true rfl⟩ rfl hl.1 rfl (Nat.le_of_ble_eq_true rfl) dX4_putLaw_29 (fun H locs hR hS hE1 z_q6 => ?_)
  have hE := hE.tr hE1
  have t_r0 := hE1.at t_r0 (by decide)
  have hf := so_e hf
  subst hf
  exact r_vret C hr hlk hR hE hS dX4_putLaw_32

def rm_X4_isComparison : Room := { frames := 0, cells := 0, slots := 0, locals := 0 }
def P_X4_isComparison_18 (G : Gt) (l : Launch) (p : Program) (e : Env) (s : State) (m : MethodId) (args : Array Value) (below : List Frame) (meth : Method) (c : Code) (h : Hp) (out : Int32) (x0 : Int32) (k : Option Int32) : Prop := ∀ (H : Heap) (locs : List Loc) (ls : Array Slot), k = some out → Rel G h H → va_S (AA G.2.2) s.heap H locs → lv_has ls 1 [(0, .int x0)] → W p l e rm_X4_isComparison s m args below meth c H locs 0 0 (MQ below (Qm G h h (some (.int out)) 1) args s 0 0 (AA G.2.2)) (F0 m 18 ls [])
set_option maxRecDepth 100000 in
set_option maxHeartbeats 4000000 in
theorem w_X4_isComparison_18 {G : Gt} {l : Launch} {p : Program} {e : Env} {s : State} {m : MethodId} {args : Array Value} {below : List Frame} {meth : Method} {c : Code}  {h : Hp} {out : Int32} {x0 : Int32}  (C : Cx G p m c cX4_isComparison 1 s args RX4) (hr : meth.sig.returnType = some .boolean) (hlk : meth.locks = false)   : P_X4_isComparison_18 G l p e s m args below meth c h out x0 (f_X4_isComparison_18 h x0) := by
  intro H locs ls  hf hR hS  hl
  rw [f_X4_isComparison_18] at hf
  refine lv_iconst (v := (1 : Int32)) C.x C.b dX4_isComparison_18 (by decide) ?_
  refine lv_goto (tgt := 23) C.x C.b dX4_isComparison_19 (by decide) ?_
  have hf := so_e hf
  subst hf
  exact r_zret C hr hlk hR Ext.rf hS z_1 dX4_isComparison_23
set_option maxRecDepth 100000 in
set_option maxHeartbeats 4000000 in
theorem k_X4_isComparison {G : Gt} {l : Launch}  {h : Hp} {x0 : Int32} {out : Int32}   (hf : f_X4_isComparison  h x0 = some out) : Mt G l yX4_isComparison cX4_isComparison 1 (some .boolean) rm_X4_isComparison [.int x0] h (some (.int out)) h 1 0 0 := by
  refine r_met (by decide +kernel) (Nat.le_of_ble_eq_true rfl) ?_
  intro p e s m args below meth c ls C hr hlk hnm hR hS hl
  have hl : lv_has ls 1 [(0, .int x0)] := hl
  rw [f_X4_isComparison] at hf
  refine lv_iload_n C.x C.b dX4_isComparison_0 rfl (lv_at hl 0 rfl) ?_
  refine lv_bipush (v := (60 : Int32)) C.x C.b dX4_isComparison_1 (by decide) ?_
  refine lv_icmp_eq (tgt := 18) C.x C.b dX4_isComparison_3 (by decide) (fun c1 => ?_) (fun c1 => ?_)
  · have hf := it_t hf c1
    exact w_X4_isComparison_18 C hr hlk _ _ _ hf hR hS (lv_sub hl [0] rfl)
  · have hf := it_f hf c1
    refine lv_iload_n C.x C.b dX4_isComparison_6 rfl (lv_at hl 0 rfl) ?_
    refine lv_bipush (v := (62 : Int32)) C.x C.b dX4_isComparison_7 (by decide) ?_
    refine lv_icmp_eq (tgt := 18) C.x C.b dX4_isComparison_9 (by decide) (fun c2 => ?_) (fun c2 => ?_)
    · have hf := it_t hf c2
      exact w_X4_isComparison_18 C hr hlk _ _ _ hf hR hS (lv_sub hl [0] rfl)
    · have hf := it_f hf c2
      refine lv_iload_n C.x C.b dX4_isComparison_12 rfl (lv_at hl 0 rfl) ?_
      refine lv_bipush (v := (61 : Int32)) C.x C.b dX4_isComparison_13 (by decide) ?_
      refine lv_icmp_ne (tgt := 22) C.x C.b dX4_isComparison_15 (by decide) (fun c3 => ?_) (fun c3 => ?_)
      · have hf := it_f hf c3
        refine lv_iconst (v := (0 : Int32)) C.x C.b dX4_isComparison_22 (by decide) ?_
        have hf := so_e hf
        subst hf
        exact r_zret C hr hlk hR Ext.rf hS z_0 dX4_isComparison_23
      · have hf := it_t hf c3
        exact w_X4_isComparison_18 C hr hlk _ _ _ hf hR hS (lv_sub hl [0] rfl)

def rm_X5_init : Room := { frames := 1, cells := 0, slots := 0, locals := 12 }
set_option maxRecDepth 100000 in
set_option maxHeartbeats 4000000 in
theorem k_X5_init {G : Gt} {l : Launch}  {h : Hp} {r0 : Nat} {out : Hp} (t_r0 : hpT h r0 = (1, 5))  (hf : f_X5_init  h r0 = some out) : Mt G l yX5_init cX5_init 1 (none) rm_X5_init [.ref (G.2.2 + r0)] h (none) out 0 0 0 := by
  refine r_met (by decide +kernel) (Nat.le_of_ble_eq_true rfl) ?_
  intro p e s m args below meth c ls C hr hlk hnm hR hS hl
  have hE : Ext h h := Ext.rf
  have hl : lv_has ls 1 [(0, .ref (G.2.2 + r0))] := hl
  rw [f_X5_init] at hf
  refine lv_aload_n C.x C.b dX5_init_0 rfl (lv_at hl 0 rfl) ?_
  refine r_objinit C hl.1 lk_X5_3 lk_oi_i lk_oi_c (Nat.le_of_ble_eq_true rfl) (Nat.le_of_ble_eq_true rfl) dX5_init_1 ?_
  have hf := so_e hf
  subst hf
  exact r_vret C hr hlk hR hE hS dX5_init_4

def rm_X5_next : Room := { frames := 1, cells := 0, slots := 0, locals := 21 }
set_option maxRecDepth 100000 in
set_option maxHeartbeats 4000000 in
theorem k_X5_next {G : Gt} {l : Launch}  {h : Hp} {r0 : Nat} {out : Int32} (t_r0 : hpT h r0 = (1, 5))  (hf : f_X5_next  h r0 = some out) : Mt G l yX5_next cX5_next 1 (some .int) rm_X5_next [.ref (G.2.2 + r0)] h (some (.int out)) h 0 0 0 := by
  refine r_met (by decide +kernel) (Nat.le_of_ble_eq_true rfl) ?_
  intro p e s m args below meth c ls C hr hlk hnm hR hS hl
  have hl : lv_has ls 1 [(0, .ref (G.2.2 + r0))] := hl
  rw [f_X5_next] at hf
  refine lv_aload_n C.x C.b dX5_next_0 rfl (lv_at hl 0 rfl) ?_
  refine r_geti C hR t_r0 fl_X5_19 rfl dX5_next_1 ?_
  refine lv_aload_n C.x C.b dX5_next_4 rfl (lv_at hl 0 rfl) ?_
  refine r_geti C hR t_r0 fl_X5_34 rfl dX5_next_5 ?_
  refine lv_icmp_ge (tgt := 32) C.x C.b dX5_next_8 (by decide) (fun c1 => ?_) (fun c1 => ?_)
  · have hf := it_t hf c1
    refine lv_iconst (v := (-1 : Int32)) C.x C.b dX5_next_32 (by decide) ?_
    have hf := so_e hf
    subst hf
    exact r_iret C hr hlk hR Ext.rf hS dX5_next_33
  · have hf := it_f hf c1
    refine lv_aload_n C.x C.b dX5_next_11 rfl (lv_at hl 0 rfl) ?_
    by_cases c2 : hpR h r0 0 = 0
    · refine r_getn C hR t_r0 fl_X5_9 (by decide) c2 dX5_next_12 ?_
      refine lv_ifnullN (tgt := 32) C.x C.b dX5_next_15 (by decide) ?_
      have hf := it_t hf c2
      refine lv_iconst (v := (-1 : Int32)) C.x C.b dX5_next_32 (by decide) ?_
      have hf := so_e hf
      subst hf
      exact r_iret C hr hlk hR Ext.rf hS dX5_next_33
    · refine r_getr C hR t_r0 fl_X5_9 (by decide) c2 dX5_next_12 (fun tc2 => ?_)
      refine lv_ifnull C.x C.b dX5_next_15 ?_
      have hf := it_f hf c2
      refine lv_aload_n C.x C.b dX5_next_18 rfl (lv_at hl 0 rfl) ?_
      obtain ⟨g3, hf⟩ := gd_e hf
      refine r_getr C hR t_r0 fl_X5_9 (by decide) (nz_e g3) dX5_next_19 (fun tq4 => ?_)
      have tg3 := okO tq4 rfl
      refine lv_aload_n C.x C.b dX5_next_22 rfl (lv_at hl 0 rfl) ?_
      refine r_geti C hR t_r0 fl_X5_19 rfl dX5_next_23 ?_
      obtain ⟨q5, h_q5, hf⟩ := bd_e hf
      refine r_callV (As := [.int (hpI h r0 2)]) (rest := []) C hR hS tg3 rfl mk_X6_get cl_X5_49 (k_X6_get tg3 h_q5) ⟨⟨Nat.le_of_ble_eq_true rfl, Nat.le_of_ble_eq_true rfl⟩, ⟨rfl, rfl⟩, Nat.le_of_ble_eq_true rfl, Nat.le_of_ble_eq_true rfl⟩ rfl hl.1 rfl (Nat.le_of_ble_eq_true rfl) dX5_next_26 (fun H locs hR hS hE1 z_q5 => ?_)
      refine lv_goto (tgt := 33) C.x C.b dX5_next_29 (by decide) ?_
      have hf := so_e hf
      subst hf
      exact r_iret C hr hlk hR Ext.rf hS dX5_next_33

def rm_X5_number : Room := { frames := 2, cells := 0, slots := 0, locals := 41 }
def P_X5_number_56 (G : Gt) (l : Launch) (p : Program) (e : Env) (s : State) (m : MethodId) (args : Array Value) (below : List Frame) (meth : Method) (c : Code) (h0 : Hp) (out : Hp) (r0 : Nat) (k : Hp → Int32 → Option Hp) : Prop := ∀ (H : Heap) (locs : List Loc) (ls : Array Slot) (h : Hp) (x1 : Int32), k h x1 = some out → Ext h0 h → Rel G h H → va_S (AA G.2.2) s.heap H locs → hpT h r0 = (1, 5) → lv_has ls 3 [(0, .ref (G.2.2 + r0)), (1, .int x1)] → W p l e rm_X5_number s m args below meth c H locs 0 0 (MQ below (Qm G h0 out (none) 0) args s 0 0 (AA G.2.2)) (F0 m 56 ls [])
def P_X5_number_4 (G : Gt) (l : Launch) (p : Program) (e : Env) (s : State) (m : MethodId) (args : Array Value) (below : List Frame) (meth : Method) (c : Code) (h0 : Hp) (out : Hp) (r0 : Nat) (k : Hp → Int32 → Int32 → Option Hp) : Prop := ∀ (H : Heap) (locs : List Loc) (ls : Array Slot) (h : Hp) (x1 : Int32) (x2 : Int32), k h x1 x2 = some out → Ext h0 h → Rel G h H → va_S (AA G.2.2) s.heap H locs → hpT h r0 = (1, 5) → lv_has ls 3 [(0, .ref (G.2.2 + r0)), (1, .int x1), (2, .int x2)] → W p l e rm_X5_number s m args below meth c H locs 0 0 (MQ below (Qm G h0 out (none) 0) args s 0 0 (AA G.2.2)) (F0 m 4 ls [])
set_option maxRecDepth 100000 in
set_option maxHeartbeats 4000000 in
theorem w_X5_number_56 {G : Gt} {l : Launch} {p : Program} {e : Env} {s : State} {m : MethodId} {args : Array Value} {below : List Frame} {meth : Method} {c : Code}  {h0 : Hp} {out : Hp} {r0 : Nat}  (C : Cx G p m c cX5_number 3 s args RX5) (hr : meth.sig.returnType = none) (hlk : meth.locks = false)   : P_X5_number_56 G l p e s m args below meth c h0 out r0 (f_X5_number_56 r0) := by
  intro H locs ls h x1 hf hE hR hS t_r0 hl
  rw [f_X5_number_56] at hf
  refine lv_aload_n C.x C.b dX5_number_56 rfl (lv_at hl 0 rfl) ?_
  by_cases c10 : hpR h r0 1 = 0
  · refine r_getn C hR t_r0 fl_X5_15 (by decide) c10 dX5_number_57 ?_
    refine lv_ifnullN (tgt := 71) C.x C.b dX5_number_60 (by decide) ?_
    have hf := it_t hf c10
    have hf := so_e hf
    subst hf
    exact r_vret C hr hlk hR hE hS dX5_number_71
  · refine r_getr C hR t_r0 fl_X5_15 (by decide) c10 dX5_number_57 (fun tc10 => ?_)
    refine lv_ifnull C.x C.b dX5_number_60 ?_
    have hf := it_f hf c10
    refine lv_aload_n C.x C.b dX5_number_63 rfl (lv_at hl 0 rfl) ?_
    obtain ⟨g11, hf⟩ := gd_e hf
    refine r_getr C hR t_r0 fl_X5_15 (by decide) (nz_e g11) dX5_number_64 (fun tq12 => ?_)
    have tg11 := okO tq12 rfl
    refine lv_iload_n C.x C.b dX5_number_67 rfl (lv_at hl 1 rfl) ?_
    obtain ⟨q13, h_q13, hf⟩ := bd_e hf
    refine r_callV (As := [.int x1]) (rest := []) C hR hS tg11 rfl mk_X4_addNumber cl_X5_85 (k_X4_addNumber tg11 h_q13) ⟨⟨Nat.le_of_ble_eq_true rfl, Nat.le_of_ble_eq_true rfl⟩, ⟨rfl, rfl⟩, Nat.le_of_ble_eq_true rfl, Nat.le_of_ble_eq_true rfl⟩ rfl hl.1 rfl (Nat.le_of_ble_eq_true rfl) dX5_number_68 (fun H locs hR hS hE1 z_q13 => ?_)
    have hE := hE.tr hE1
    have t_r0 := hE1.at t_r0 (by decide)
    have hf := so_e hf
    subst hf
    exact r_vret C hr hlk hR hE hS dX5_number_71
set_option maxRecDepth 100000 in
set_option maxHeartbeats 4000000 in
theorem w_X5_number_4 {G : Gt} {l : Launch} {p : Program} {e : Env} {s : State} {m : MethodId} {args : Array Value} {below : List Frame} {meth : Method} {c : Code}  {h0 : Hp} {out : Hp} {r0 : Nat}  (C : Cx G p m c cX5_number 3 s args RX5) (hr : meth.sig.returnType = none) (hlk : meth.locks = false)   (n : Nat) : P_X5_number_4 G l p e s m args below meth c h0 out r0 (f_X5_number_4 r0 n) := by
  induction n with
  | zero => intro H locs ls h x1 x2 hf hE hR hS t_r0 hl; cases hf
  | succ n hk4 =>
    intro H locs ls h x1 x2 hf hE hR hS t_r0 hl
    rw [f_X5_number_4] at hf
    obtain ⟨k4, e_k4⟩ : ∃ y, y = f_X5_number_4 r0 n := ⟨_, rfl⟩
    have hf := lt_e hf e_k4
    rw [← e_k4] at hk4
    refine lv_iload_n C.x C.b dX5_number_4 rfl (lv_at hl 2 rfl) ?_
    refine lv_iconst (v := (3 : Int32)) C.x C.b dX5_number_5 (by decide) ?_
    refine lv_icmp_ge (tgt := 56) C.x C.b dX5_number_6 (by decide) (fun c1 => ?_) (fun c1 => ?_)
    · have hf := it_t hf c1
      exact w_X5_number_56 C hr hlk _ _ _ _ _ hf hE hR hS t_r0 (lv_sub hl [0, 1] rfl)
    · have hf := it_f hf c1
      refine lv_aload_n C.x C.b dX5_number_9 rfl (lv_at hl 0 rfl) ?_
      obtain ⟨q2, h_q2, hf⟩ := bd_e hf
      refine r_callV (As := []) (rest := []) C hR hS t_r0 rfl mk_X5_next cl_X5_60 (k_X5_next t_r0 h_q2) ⟨⟨Nat.le_of_ble_eq_true rfl, Nat.le_of_ble_eq_true rfl⟩, ⟨rfl, rfl⟩, Nat.le_of_ble_eq_true rfl, Nat.le_of_ble_eq_true rfl⟩ rfl hl.1 rfl (Nat.le_of_ble_eq_true rfl) dX5_number_10 (fun H locs hR hS hE1 z_q2 => ?_)
      refine lv_bipush (v := (48 : Int32)) C.x C.b dX5_number_13 (by decide) ?_
      refine lv_icmp_lt (tgt := 56) C.x C.b dX5_number_15 (by decide) (fun c3 => ?_) (fun c3 => ?_)
      · have hf := it_t hf c3
        exact w_X5_number_56 C hr hlk _ _ _ _ _ hf hE hR hS t_r0 (lv_sub hl [0, 1] rfl)
      · have hf := it_f hf c3
        refine lv_aload_n C.x C.b dX5_number_18 rfl (lv_at hl 0 rfl) ?_
        obtain ⟨q4, h_q4, hf⟩ := bd_e hf
        refine r_callV (As := []) (rest := []) C hR hS t_r0 rfl mk_X5_next cl_X5_60 (k_X5_next t_r0 h_q4) ⟨⟨Nat.le_of_ble_eq_true rfl, Nat.le_of_ble_eq_true rfl⟩, ⟨rfl, rfl⟩, Nat.le_of_ble_eq_true rfl, Nat.le_of_ble_eq_true rfl⟩ rfl hl.1 rfl (Nat.le_of_ble_eq_true rfl) dX5_number_19 (fun H locs hR hS hE1 z_q4 => ?_)
        refine lv_bipush (v := (57 : Int32)) C.x C.b dX5_number_22 (by decide) ?_
        refine lv_icmp_gt (tgt := 56) C.x C.b dX5_number_24 (by decide) (fun c5 => ?_) (fun c5 => ?_)
        · have hf := it_t hf c5
          exact w_X5_number_56 C hr hlk _ _ _ _ _ hf hE hR hS t_r0 (lv_sub hl [0, 1] rfl)
        · have hf := it_f hf c5
          refine lv_iload_n C.x C.b dX5_number_27 rfl (lv_at hl 1 rfl) ?_
          refine lv_bipush (v := (10 : Int32)) C.x C.b dX5_number_28 (by decide) ?_
          refine lv_imul C.x C.b dX5_number_30 ?_
          refine lv_aload_n C.x C.b dX5_number_31 rfl (lv_at hl 0 rfl) ?_
          obtain ⟨q6, h_q6, hf⟩ := bd_e hf
          refine r_callV (As := []) (rest := [.int (x1 * (10 : Int32))]) C hR hS t_r0 rfl mk_X5_next cl_X5_60 (k_X5_next t_r0 h_q6) ⟨⟨Nat.le_of_ble_eq_true rfl, Nat.le_of_ble_eq_true rfl⟩, ⟨rfl, rfl⟩, Nat.le_of_ble_eq_true rfl, Nat.le_of_ble_eq_true rfl⟩ rfl hl.1 rfl (Nat.le_of_ble_eq_true rfl) dX5_number_32 (fun H locs hR hS hE1 z_q6 => ?_)
          refine lv_iadd C.x C.b dX5_number_35 ?_
          refine lv_bipush (v := (48 : Int32)) C.x C.b dX5_number_36 (by decide) ?_
          refine lv_isub C.x C.b dX5_number_38 ?_
          refine lv_topi (fun v7 e_v7 => ?_)
          have hf := lt_e hf e_v7
          refine lv_istore_n (lv' := [(1, .int v7), (0, .ref (G.2.2 + r0)), (2, .int x2)]) C.x C.b dX5_number_39 rfl hl (by decide) rfl (fun ls hl => ?_)
          refine lv_aload_n C.x C.b dX5_number_40 rfl (lv_at hl 1 rfl) ?_
          refine lv_dup C.x C.b dX5_number_41 rfl ?_
          refine r_geti C hR t_r0 fl_X5_19 rfl dX5_number_42 ?_
          refine lv_iconst (v := (1 : Int32)) C.x C.b dX5_number_45 (by decide) ?_
          refine lv_iadd C.x C.b dX5_number_46 ?_
          refine r_puti C hR hS t_r0 fl_X5_19 fp_X5_5_2 rfl dX5_number_47 (fun H locs hR hS => ?_)
          obtain ⟨h8, e_h8⟩ : ∃ y, y = upI h r0 2 ((hpI h r0 2) + (1 : Int32)) := ⟨_, rfl⟩
          rw [← e_h8] at hR
          have hf := lt_e hf e_h8
          have hE := eI e_h8 hE
          have t_r0 := tI e_h8 t_r0
          obtain ⟨v9, e_v9⟩ : ∃ y : Int32, y = x2 + (1 : Int32) := ⟨_, rfl⟩
          have hf := lt_e hf e_v9
          refine lv_iinc (v := v9) (lv' := [(2, .int v9), (1, .int v7), (0, .ref (G.2.2 + r0))]) C.x C.b dX5_number_50 hl (k := 2) rfl (by rw [e_v9]; rfl) (by decide) rfl (fun ls hl => ?_)
          refine lv_goto (tgt := 4) C.x C.b dX5_number_53 (by decide) ?_
          exact hk4 _ _ _ _ _ _ hf hE hR hS t_r0 (lv_sub hl [2, 1, 0] rfl)
set_option maxRecDepth 100000 in
set_option maxHeartbeats 4000000 in
theorem k_X5_number {G : Gt} {l : Launch}  {h : Hp} {r0 : Nat} {out : Hp} (t_r0 : hpT h r0 = (1, 5))  (hf : f_X5_number  h r0 = some out) : Mt G l yX5_number cX5_number 3 (none) rm_X5_number [.ref (G.2.2 + r0)] h (none) out 0 0 0 := by
  refine r_met (by decide +kernel) (Nat.le_of_ble_eq_true rfl) ?_
  intro p e s m args below meth c ls C hr hlk hnm hR hS hl
  have hE : Ext h h := Ext.rf
  have hl : lv_has ls 3 [(0, .ref (G.2.2 + r0))] := hl
  rw [f_X5_number] at hf
  refine lv_iconst (v := (0 : Int32)) C.x C.b dX5_number_0 (by decide) ?_
  refine lv_istore_n (lv' := [(1, .int (0 : Int32)), (0, .ref (G.2.2 + r0))]) C.x C.b dX5_number_1 rfl hl (by decide) rfl (fun ls hl => ?_)
  refine lv_iconst (v := (0 : Int32)) C.x C.b dX5_number_2 (by decide) ?_
  refine lv_istore_n (lv' := [(2, .int (0 : Int32)), (1, .int (0 : Int32)), (0, .ref (G.2.2 + r0))]) C.x C.b dX5_number_3 rfl hl (by decide) rfl (fun ls hl => ?_)
  exact w_X5_number_4 C hr hlk FU _ _ _ _ _ _ hf hE hR hS t_r0 (lv_sub hl [2, 1, 0] rfl)

def rm_X5_isLetter : Room := { frames := 0, cells := 0, slots := 0, locals := 0 }
set_option maxRecDepth 100000 in
set_option maxHeartbeats 4000000 in
theorem k_X5_isLetter {G : Gt} {l : Launch}  {h : Hp} {x0 : Int32} {out : Int32}   (hf : f_X5_isLetter  h x0 = some out) : Mt G l yX5_isLetter cX5_isLetter 1 (some .boolean) rm_X5_isLetter [.int x0] h (some (.int out)) h 1 0 0 := by
  refine r_met (by decide +kernel) (Nat.le_of_ble_eq_true rfl) ?_
  intro p e s m args below meth c ls C hr hlk hnm hR hS hl
  have hl : lv_has ls 1 [(0, .int x0)] := hl
  rw [f_X5_isLetter] at hf
  refine lv_iload_n C.x C.b dX5_isLetter_0 rfl (lv_at hl 0 rfl) ?_
  by_cases c1_0 : x0 = (97 : Int32)
  · have hf := it_t hf c1_0
    refine lv_tableIn (tgt := 108) C.x C.b dX5_isLetter_1 (by rw [c1_0]; decide) (by rw [c1_0]; decide) (by rw [c1_0]; rfl) (by decide) ?_
    refine lv_iconst (v := (1 : Int32)) C.x C.b dX5_isLetter_108 (by decide) ?_
    have hf := so_e hf
    subst hf
    exact r_zret C hr hlk hR Ext.rf hS z_1 dX5_isLetter_109
  have hf := it_f hf c1_0
  by_cases c1_1 : x0 = (98 : Int32)
  · have hf := it_t hf c1_1
    refine lv_tableIn (tgt := 110) C.x C.b dX5_isLetter_1 (by rw [c1_1]; decide) (by rw [c1_1]; decide) (by rw [c1_1]; rfl) (by decide) ?_
    refine lv_iconst (v := (0 : Int32)) C.x C.b dX5_isLetter_110 (by decide) ?_
    have hf := so_e hf
    subst hf
    exact r_zret C hr hlk hR Ext.rf hS z_0 dX5_isLetter_111
  have hf := it_f hf c1_1
  by_cases c1_2 : x0 = (99 : Int32)
  · have hf := it_t hf c1_2
    refine lv_tableIn (tgt := 108) C.x C.b dX5_isLetter_1 (by rw [c1_2]; decide) (by rw [c1_2]; decide) (by rw [c1_2]; rfl) (by decide) ?_
    refine lv_iconst (v := (1 : Int32)) C.x C.b dX5_isLetter_108 (by decide) ?_
    have hf := so_e hf
    subst hf
    exact r_zret C hr hlk hR Ext.rf hS z_1 dX5_isLetter_109
  have hf := it_f hf c1_2
  by_cases c1_3 : x0 = (100 : Int32)
  · have hf := it_t hf c1_3
    refine lv_tableIn (tgt := 110) C.x C.b dX5_isLetter_1 (by rw [c1_3]; decide) (by rw [c1_3]; decide) (by rw [c1_3]; rfl) (by decide) ?_
    refine lv_iconst (v := (0 : Int32)) C.x C.b dX5_isLetter_110 (by decide) ?_
    have hf := so_e hf
    subst hf
    exact r_zret C hr hlk hR Ext.rf hS z_0 dX5_isLetter_111
  have hf := it_f hf c1_3
  by_cases c1_4 : x0 = (101 : Int32)
  · have hf := it_t hf c1_4
    refine lv_tableIn (tgt := 110) C.x C.b dX5_isLetter_1 (by rw [c1_4]; decide) (by rw [c1_4]; decide) (by rw [c1_4]; rfl) (by decide) ?_
    refine lv_iconst (v := (0 : Int32)) C.x C.b dX5_isLetter_110 (by decide) ?_
    have hf := so_e hf
    subst hf
    exact r_zret C hr hlk hR Ext.rf hS z_0 dX5_isLetter_111
  have hf := it_f hf c1_4
  by_cases c1_5 : x0 = (102 : Int32)
  · have hf := it_t hf c1_5
    refine lv_tableIn (tgt := 110) C.x C.b dX5_isLetter_1 (by rw [c1_5]; decide) (by rw [c1_5]; decide) (by rw [c1_5]; rfl) (by decide) ?_
    refine lv_iconst (v := (0 : Int32)) C.x C.b dX5_isLetter_110 (by decide) ?_
    have hf := so_e hf
    subst hf
    exact r_zret C hr hlk hR Ext.rf hS z_0 dX5_isLetter_111
  have hf := it_f hf c1_5
  by_cases c1_6 : x0 = (103 : Int32)
  · have hf := it_t hf c1_6
    refine lv_tableIn (tgt := 110) C.x C.b dX5_isLetter_1 (by rw [c1_6]; decide) (by rw [c1_6]; decide) (by rw [c1_6]; rfl) (by decide) ?_
    refine lv_iconst (v := (0 : Int32)) C.x C.b dX5_isLetter_110 (by decide) ?_
    have hf := so_e hf
    subst hf
    exact r_zret C hr hlk hR Ext.rf hS z_0 dX5_isLetter_111
  have hf := it_f hf c1_6
  by_cases c1_7 : x0 = (104 : Int32)
  · have hf := it_t hf c1_7
    refine lv_tableIn (tgt := 108) C.x C.b dX5_isLetter_1 (by rw [c1_7]; decide) (by rw [c1_7]; decide) (by rw [c1_7]; rfl) (by decide) ?_
    refine lv_iconst (v := (1 : Int32)) C.x C.b dX5_isLetter_108 (by decide) ?_
    have hf := so_e hf
    subst hf
    exact r_zret C hr hlk hR Ext.rf hS z_1 dX5_isLetter_109
  have hf := it_f hf c1_7
  by_cases c1_8 : x0 = (105 : Int32)
  · have hf := it_t hf c1_8
    refine lv_tableIn (tgt := 110) C.x C.b dX5_isLetter_1 (by rw [c1_8]; decide) (by rw [c1_8]; decide) (by rw [c1_8]; rfl) (by decide) ?_
    refine lv_iconst (v := (0 : Int32)) C.x C.b dX5_isLetter_110 (by decide) ?_
    have hf := so_e hf
    subst hf
    exact r_zret C hr hlk hR Ext.rf hS z_0 dX5_isLetter_111
  have hf := it_f hf c1_8
  by_cases c1_9 : x0 = (106 : Int32)
  · have hf := it_t hf c1_9
    refine lv_tableIn (tgt := 110) C.x C.b dX5_isLetter_1 (by rw [c1_9]; decide) (by rw [c1_9]; decide) (by rw [c1_9]; rfl) (by decide) ?_
    refine lv_iconst (v := (0 : Int32)) C.x C.b dX5_isLetter_110 (by decide) ?_
    have hf := so_e hf
    subst hf
    exact r_zret C hr hlk hR Ext.rf hS z_0 dX5_isLetter_111
  have hf := it_f hf c1_9
  by_cases c1_10 : x0 = (107 : Int32)
  · have hf := it_t hf c1_10
    refine lv_tableIn (tgt := 110) C.x C.b dX5_isLetter_1 (by rw [c1_10]; decide) (by rw [c1_10]; decide) (by rw [c1_10]; rfl) (by decide) ?_
    refine lv_iconst (v := (0 : Int32)) C.x C.b dX5_isLetter_110 (by decide) ?_
    have hf := so_e hf
    subst hf
    exact r_zret C hr hlk hR Ext.rf hS z_0 dX5_isLetter_111
  have hf := it_f hf c1_10
  by_cases c1_11 : x0 = (108 : Int32)
  · have hf := it_t hf c1_11
    refine lv_tableIn (tgt := 110) C.x C.b dX5_isLetter_1 (by rw [c1_11]; decide) (by rw [c1_11]; decide) (by rw [c1_11]; rfl) (by decide) ?_
    refine lv_iconst (v := (0 : Int32)) C.x C.b dX5_isLetter_110 (by decide) ?_
    have hf := so_e hf
    subst hf
    exact r_zret C hr hlk hR Ext.rf hS z_0 dX5_isLetter_111
  have hf := it_f hf c1_11
  by_cases c1_12 : x0 = (109 : Int32)
  · have hf := it_t hf c1_12
    refine lv_tableIn (tgt := 110) C.x C.b dX5_isLetter_1 (by rw [c1_12]; decide) (by rw [c1_12]; decide) (by rw [c1_12]; rfl) (by decide) ?_
    refine lv_iconst (v := (0 : Int32)) C.x C.b dX5_isLetter_110 (by decide) ?_
    have hf := so_e hf
    subst hf
    exact r_zret C hr hlk hR Ext.rf hS z_0 dX5_isLetter_111
  have hf := it_f hf c1_12
  by_cases c1_13 : x0 = (110 : Int32)
  · have hf := it_t hf c1_13
    refine lv_tableIn (tgt := 108) C.x C.b dX5_isLetter_1 (by rw [c1_13]; decide) (by rw [c1_13]; decide) (by rw [c1_13]; rfl) (by decide) ?_
    refine lv_iconst (v := (1 : Int32)) C.x C.b dX5_isLetter_108 (by decide) ?_
    have hf := so_e hf
    subst hf
    exact r_zret C hr hlk hR Ext.rf hS z_1 dX5_isLetter_109
  have hf := it_f hf c1_13
  by_cases c1_14 : x0 = (111 : Int32)
  · have hf := it_t hf c1_14
    refine lv_tableIn (tgt := 108) C.x C.b dX5_isLetter_1 (by rw [c1_14]; decide) (by rw [c1_14]; decide) (by rw [c1_14]; rfl) (by decide) ?_
    refine lv_iconst (v := (1 : Int32)) C.x C.b dX5_isLetter_108 (by decide) ?_
    have hf := so_e hf
    subst hf
    exact r_zret C hr hlk hR Ext.rf hS z_1 dX5_isLetter_109
  have hf := it_f hf c1_14
  by_cases c1_15 : x0 = (112 : Int32)
  · have hf := it_t hf c1_15
    refine lv_tableIn (tgt := 110) C.x C.b dX5_isLetter_1 (by rw [c1_15]; decide) (by rw [c1_15]; decide) (by rw [c1_15]; rfl) (by decide) ?_
    refine lv_iconst (v := (0 : Int32)) C.x C.b dX5_isLetter_110 (by decide) ?_
    have hf := so_e hf
    subst hf
    exact r_zret C hr hlk hR Ext.rf hS z_0 dX5_isLetter_111
  have hf := it_f hf c1_15
  by_cases c1_16 : x0 = (113 : Int32)
  · have hf := it_t hf c1_16
    refine lv_tableIn (tgt := 110) C.x C.b dX5_isLetter_1 (by rw [c1_16]; decide) (by rw [c1_16]; decide) (by rw [c1_16]; rfl) (by decide) ?_
    refine lv_iconst (v := (0 : Int32)) C.x C.b dX5_isLetter_110 (by decide) ?_
    have hf := so_e hf
    subst hf
    exact r_zret C hr hlk hR Ext.rf hS z_0 dX5_isLetter_111
  have hf := it_f hf c1_16
  by_cases c1_17 : x0 = (114 : Int32)
  · have hf := it_t hf c1_17
    refine lv_tableIn (tgt := 108) C.x C.b dX5_isLetter_1 (by rw [c1_17]; decide) (by rw [c1_17]; decide) (by rw [c1_17]; rfl) (by decide) ?_
    refine lv_iconst (v := (1 : Int32)) C.x C.b dX5_isLetter_108 (by decide) ?_
    have hf := so_e hf
    subst hf
    exact r_zret C hr hlk hR Ext.rf hS z_1 dX5_isLetter_109
  have hf := it_f hf c1_17
  by_cases c1_18 : x0 = (115 : Int32)
  · have hf := it_t hf c1_18
    refine lv_tableIn (tgt := 108) C.x C.b dX5_isLetter_1 (by rw [c1_18]; decide) (by rw [c1_18]; decide) (by rw [c1_18]; rfl) (by decide) ?_
    refine lv_iconst (v := (1 : Int32)) C.x C.b dX5_isLetter_108 (by decide) ?_
    have hf := so_e hf
    subst hf
    exact r_zret C hr hlk hR Ext.rf hS z_1 dX5_isLetter_109
  have hf := it_f hf c1_18
  by_cases c1_19 : x0 = (116 : Int32)
  · have hf := it_t hf c1_19
    refine lv_tableIn (tgt := 110) C.x C.b dX5_isLetter_1 (by rw [c1_19]; decide) (by rw [c1_19]; decide) (by rw [c1_19]; rfl) (by decide) ?_
    refine lv_iconst (v := (0 : Int32)) C.x C.b dX5_isLetter_110 (by decide) ?_
    have hf := so_e hf
    subst hf
    exact r_zret C hr hlk hR Ext.rf hS z_0 dX5_isLetter_111
  have hf := it_f hf c1_19
  by_cases c1_20 : x0 = (117 : Int32)
  · have hf := it_t hf c1_20
    refine lv_tableIn (tgt := 110) C.x C.b dX5_isLetter_1 (by rw [c1_20]; decide) (by rw [c1_20]; decide) (by rw [c1_20]; rfl) (by decide) ?_
    refine lv_iconst (v := (0 : Int32)) C.x C.b dX5_isLetter_110 (by decide) ?_
    have hf := so_e hf
    subst hf
    exact r_zret C hr hlk hR Ext.rf hS z_0 dX5_isLetter_111
  have hf := it_f hf c1_20
  by_cases c1_21 : x0 = (118 : Int32)
  · have hf := it_t hf c1_21
    refine lv_tableIn (tgt := 110) C.x C.b dX5_isLetter_1 (by rw [c1_21]; decide) (by rw [c1_21]; decide) (by rw [c1_21]; rfl) (by decide) ?_
    refine lv_iconst (v := (0 : Int32)) C.x C.b dX5_isLetter_110 (by decide) ?_
    have hf := so_e hf
    subst hf
    exact r_zret C hr hlk hR Ext.rf hS z_0 dX5_isLetter_111
  have hf := it_f hf c1_21
  by_cases c1_22 : x0 = (119 : Int32)
  · have hf := it_t hf c1_22
    refine lv_tableIn (tgt := 108) C.x C.b dX5_isLetter_1 (by rw [c1_22]; decide) (by rw [c1_22]; decide) (by rw [c1_22]; rfl) (by decide) ?_
    refine lv_iconst (v := (1 : Int32)) C.x C.b dX5_isLetter_108 (by decide) ?_
    have hf := so_e hf
    subst hf
    exact r_zret C hr hlk hR Ext.rf hS z_1 dX5_isLetter_109
  have hf := it_f hf c1_22
  refine lv_tableOut (tgt := 110) C.x C.b dX5_isLetter_1 (tb_out 23 (by decide) (fun j hj => match j, hj with | 0, _ => fun q => c1_0 (q.trans (by decide)) | 1, _ => fun q => c1_1 (q.trans (by decide)) | 2, _ => fun q => c1_2 (q.trans (by decide)) | 3, _ => fun q => c1_3 (q.trans (by decide)) | 4, _ => fun q => c1_4 (q.trans (by decide)) | 5, _ => fun q => c1_5 (q.trans (by decide)) | 6, _ => fun q => c1_6 (q.trans (by decide)) | 7, _ => fun q => c1_7 (q.trans (by decide)) | 8, _ => fun q => c1_8 (q.trans (by decide)) | 9, _ => fun q => c1_9 (q.trans (by decide)) | 10, _ => fun q => c1_10 (q.trans (by decide)) | 11, _ => fun q => c1_11 (q.trans (by decide)) | 12, _ => fun q => c1_12 (q.trans (by decide)) | 13, _ => fun q => c1_13 (q.trans (by decide)) | 14, _ => fun q => c1_14 (q.trans (by decide)) | 15, _ => fun q => c1_15 (q.trans (by decide)) | 16, _ => fun q => c1_16 (q.trans (by decide)) | 17, _ => fun q => c1_17 (q.trans (by decide)) | 18, _ => fun q => c1_18 (q.trans (by decide)) | 19, _ => fun q => c1_19 (q.trans (by decide)) | 20, _ => fun q => c1_20 (q.trans (by decide)) | 21, _ => fun q => c1_21 (q.trans (by decide)) | 22, _ => fun q => c1_22 (q.trans (by decide)) | n + 23, hn => absurd hn (by omega))) (by decide) ?_
  refine lv_iconst (v := (0 : Int32)) C.x C.b dX5_isLetter_110 (by decide) ?_
  have hf := so_e hf
  subst hf
  exact r_zret C hr hlk hR Ext.rf hS z_0 dX5_isLetter_111

def rm_X5_write : Room := { frames := 2, cells := 0, slots := 0, locals := 42 }
set_option maxRecDepth 100000 in
set_option maxHeartbeats 4000000 in
theorem k_X5_write {G : Gt} {l : Launch}  {h : Hp} {r0 : Nat} {x1 : Int32} {out : Hp} (t_r0 : hpT h r0 = (1, 5))  (hf : f_X5_write  h r0 x1 = some out) : Mt G l yX5_write cX5_write 2 (none) rm_X5_write [.ref (G.2.2 + r0), .int x1] h (none) out 0 0 0 := by
  refine r_met (by decide +kernel) (Nat.le_of_ble_eq_true rfl) ?_
  intro p e s m args below meth c ls C hr hlk hnm hR hS hl
  have hE : Ext h h := Ext.rf
  have hl : lv_has ls 2 [(0, .ref (G.2.2 + r0)), (1, .int x1)] := hl
  rw [f_X5_write] at hf
  refine lv_aload_n C.x C.b dX5_write_0 rfl (lv_at hl 0 rfl) ?_
  by_cases c1 : hpR h r0 1 = 0
  · refine r_getn C hR t_r0 fl_X5_15 (by decide) c1 dX5_write_1 ?_
    refine lv_ifnullN (tgt := 15) C.x C.b dX5_write_4 (by decide) ?_
    have hf := it_t hf c1
    have hf := so_e hf
    subst hf
    exact r_vret C hr hlk hR hE hS dX5_write_15
  · refine r_getr C hR t_r0 fl_X5_15 (by decide) c1 dX5_write_1 (fun tc1 => ?_)
    refine lv_ifnull C.x C.b dX5_write_4 ?_
    have hf := it_f hf c1
    refine lv_aload_n C.x C.b dX5_write_7 rfl (lv_at hl 0 rfl) ?_
    obtain ⟨g2, hf⟩ := gd_e hf
    refine r_getr C hR t_r0 fl_X5_15 (by decide) (nz_e g2) dX5_write_8 (fun tq3 => ?_)
    have tg2 := okO tq3 rfl
    refine lv_iload_n C.x C.b dX5_write_11 rfl (lv_at hl 1 rfl) ?_
    obtain ⟨q4, h_q4, hf⟩ := bd_e hf
    refine r_callV (As := [.int x1]) (rest := []) C hR hS tg2 rfl mk_X4_addSign cl_X5_53 (k_X4_addSign tg2 h_q4) ⟨⟨Nat.le_of_ble_eq_true rfl, Nat.le_of_ble_eq_true rfl⟩, ⟨rfl, rfl⟩, Nat.le_of_ble_eq_true rfl, Nat.le_of_ble_eq_true rfl⟩ rfl hl.1 rfl (Nat.le_of_ble_eq_true rfl) dX5_write_12 (fun H locs hR hS hE1 z_q4 => ?_)
    have hE := hE.tr hE1
    have t_r0 := hE1.at t_r0 (by decide)
    have hf := so_e hf
    subst hf
    exact r_vret C hr hlk hR hE hS dX5_write_15

