def rm_X0_init : Room := { frames := 1, cells := 7, slots := 56, locals := 12 }
set_option maxRecDepth 100000 in
set_option maxHeartbeats 4000000 in
theorem k_X0_init {G : Gt} {l : Launch}  {h : Hp} {r0 : Nat} {out : Hp} (t_r0 : hpT h r0 = (1, 0))  (hf : f_X0_init  h r0 = some out) : Mt G l yX0_init cX0_init 1 (none) rm_X0_init [.ref (G.2.2 + r0)] h (none) out 0 7 56 := by
  refine r_met (by decide +kernel) (Nat.le_of_ble_eq_true rfl) ?_
  intro p e s m args below meth c ls C hr hlk hnm hR hS hl
  have hE : Ext h h := Ext.rf
  have hl : lv_has ls 1 [(0, .ref (G.2.2 + r0))] := hl
  rw [f_X0_init] at hf
  refine lv_aload_n C.x C.b dX0_init_0 rfl (lv_at hl 0 rfl) ?_
  refine r_objinit C hl.1 lk_X0_3 lk_oi_i lk_oi_c (Nat.le_of_ble_eq_true rfl) (Nat.le_of_ble_eq_true rfl) dX0_init_1 ?_
  refine lv_aload_n C.x C.b dX0_init_4 rfl (lv_at hl 0 rfl) ?_
  refine lv_iconst (v := (4 : Int32)) C.x C.b dX0_init_5 (by decide) ?_
  refine r_puti C hR hS t_r0 fl_X0_9 fp_X0_0_0 rfl dX0_init_6 (fun H locs hR hS => ?_)
  obtain ⟨h1, e_h1⟩ : ∃ y, y = upI h r0 0 (4 : Int32) := ⟨_, rfl⟩
  rw [← e_h1] at hR
  have hf := lt_e hf e_h1
  have hE := eI e_h1 hE
  have t_r0 := tI e_h1 t_r0
  refine lv_aload_n C.x C.b dX0_init_9 rfl (lv_at hl 0 rfl) ?_
  refine lv_iconst (v := (4 : Int32)) C.x C.b dX0_init_10 (by decide) ?_
  refine r_puti C hR hS t_r0 fl_X0_15 fp_X0_0_1 rfl dX0_init_11 (fun H locs hR hS => ?_)
  obtain ⟨h2, e_h2⟩ : ∃ y, y = upI h1 r0 1 (4 : Int32) := ⟨_, rfl⟩
  rw [← e_h2] at hR
  have hf := lt_e hf e_h2
  have hE := eI e_h2 hE
  have t_r0 := tI e_h2 t_r0
  refine lv_aload_n C.x C.b dX0_init_14 rfl (lv_at hl 0 rfl) ?_
  refine lv_bipush (v := (8 : Int32)) C.x C.b dX0_init_15 (by decide) ?_
  refine r_newiN C hR hS (8 : Int32) (by decide) (Nat.le_of_ble_eq_true rfl) lk_arr_int (Nat.le_of_ble_eq_true rfl) (Nat.le_of_ble_eq_true rfl) dX0_init_17 (fun H a3 e_a3 hR hS hE1 t_a3 => ?_)
  have hf := lt_e hf e_a3
  obtain ⟨h4, e_h4⟩ : ∃ y, y = hpNew h2 (2, ix (8 : Int32)) := ⟨_, rfl⟩
  rw [← e_h4] at hR hE1 t_a3
  have hf := lt_e hf e_h4
  have hE := hE.tr hE1
  have t_r0 := hE1.at t_r0 (by decide)
  refine r_putr C hR hS true (fun _ => hnm) (ne0k hR t_a3 (by decide)) t_r0 (okT_a t_a3 rfl (by decide)) fl_X0_18 fp_X0_0_5 (by decide) dX0_init_19 (fun H locs hR hS => ?_)
  obtain ⟨h5, e_h5⟩ : ∃ y, y = upR h4 r0 5 a3 := ⟨_, rfl⟩
  rw [← e_h5] at hR
  have hf := lt_e hf e_h5
  have hE := eR e_h5 hE
  have t_r0 := tR e_h5 t_r0
  refine lv_aload_n C.x C.b dX0_init_22 rfl (lv_at hl 0 rfl) ?_
  refine lv_bipush (v := (8 : Int32)) C.x C.b dX0_init_23 (by decide) ?_
  refine r_newiN C hR hS (8 : Int32) (by decide) (Nat.le_of_ble_eq_true rfl) lk_arr_int (Nat.le_of_ble_eq_true rfl) (Nat.le_of_ble_eq_true rfl) dX0_init_25 (fun H a6 e_a6 hR hS hE1 t_a6 => ?_)
  have hf := lt_e hf e_a6
  obtain ⟨h7, e_h7⟩ : ∃ y, y = hpNew h5 (2, ix (8 : Int32)) := ⟨_, rfl⟩
  rw [← e_h7] at hR hE1 t_a6
  have hf := lt_e hf e_h7
  have hE := hE.tr hE1
  have t_r0 := hE1.at t_r0 (by decide)
  refine r_putr C hR hS true (fun _ => hnm) (ne0k hR t_a6 (by decide)) t_r0 (okT_a t_a6 rfl (by decide)) fl_X0_22 fp_X0_0_6 (by decide) dX0_init_27 (fun H locs hR hS => ?_)
  obtain ⟨h8, e_h8⟩ : ∃ y, y = upR h7 r0 6 a6 := ⟨_, rfl⟩
  rw [← e_h8] at hR
  have hf := lt_e hf e_h8
  have hE := eR e_h8 hE
  have t_r0 := tR e_h8 t_r0
  refine lv_aload_n C.x C.b dX0_init_30 rfl (lv_at hl 0 rfl) ?_
  refine lv_bipush (v := (8 : Int32)) C.x C.b dX0_init_31 (by decide) ?_
  refine r_newiN C hR hS (8 : Int32) (by decide) (Nat.le_of_ble_eq_true rfl) lk_arr_int (Nat.le_of_ble_eq_true rfl) (Nat.le_of_ble_eq_true rfl) dX0_init_33 (fun H a9 e_a9 hR hS hE1 t_a9 => ?_)
  have hf := lt_e hf e_a9
  obtain ⟨h10, e_h10⟩ : ∃ y, y = hpNew h8 (2, ix (8 : Int32)) := ⟨_, rfl⟩
  rw [← e_h10] at hR hE1 t_a9
  have hf := lt_e hf e_h10
  have hE := hE.tr hE1
  have t_r0 := hE1.at t_r0 (by decide)
  refine r_putr C hR hS true (fun _ => hnm) (ne0k hR t_a9 (by decide)) t_r0 (okT_a t_a9 rfl (by decide)) fl_X0_25 fp_X0_0_7 (by decide) dX0_init_35 (fun H locs hR hS => ?_)
  obtain ⟨h11, e_h11⟩ : ∃ y, y = upR h10 r0 7 a9 := ⟨_, rfl⟩
  rw [← e_h11] at hR
  have hf := lt_e hf e_h11
  have hE := eR e_h11 hE
  have t_r0 := tR e_h11 t_r0
  refine lv_aload_n C.x C.b dX0_init_38 rfl (lv_at hl 0 rfl) ?_
  refine lv_bipush (v := (8 : Int32)) C.x C.b dX0_init_39 (by decide) ?_
  refine r_newiN C hR hS (8 : Int32) (by decide) (Nat.le_of_ble_eq_true rfl) lk_arr_int (Nat.le_of_ble_eq_true rfl) (Nat.le_of_ble_eq_true rfl) dX0_init_41 (fun H a12 e_a12 hR hS hE1 t_a12 => ?_)
  have hf := lt_e hf e_a12
  obtain ⟨h13, e_h13⟩ : ∃ y, y = hpNew h11 (2, ix (8 : Int32)) := ⟨_, rfl⟩
  rw [← e_h13] at hR hE1 t_a12
  have hf := lt_e hf e_h13
  have hE := hE.tr hE1
  have t_r0 := hE1.at t_r0 (by decide)
  refine r_putr C hR hS true (fun _ => hnm) (ne0k hR t_a12 (by decide)) t_r0 (okT_a t_a12 rfl (by decide)) fl_X0_28 fp_X0_0_8 (by decide) dX0_init_43 (fun H locs hR hS => ?_)
  obtain ⟨h14, e_h14⟩ : ∃ y, y = upR h13 r0 8 a12 := ⟨_, rfl⟩
  rw [← e_h14] at hR
  have hf := lt_e hf e_h14
  have hE := eR e_h14 hE
  have t_r0 := tR e_h14 t_r0
  refine lv_aload_n C.x C.b dX0_init_46 rfl (lv_at hl 0 rfl) ?_
  refine lv_bipush (v := (8 : Int32)) C.x C.b dX0_init_47 (by decide) ?_
  refine r_newiN C hR hS (8 : Int32) (by decide) (Nat.le_of_ble_eq_true rfl) lk_arr_int (Nat.le_of_ble_eq_true rfl) (Nat.le_of_ble_eq_true rfl) dX0_init_49 (fun H a15 e_a15 hR hS hE1 t_a15 => ?_)
  have hf := lt_e hf e_a15
  obtain ⟨h16, e_h16⟩ : ∃ y, y = hpNew h14 (2, ix (8 : Int32)) := ⟨_, rfl⟩
  rw [← e_h16] at hR hE1 t_a15
  have hf := lt_e hf e_h16
  have hE := hE.tr hE1
  have t_r0 := hE1.at t_r0 (by decide)
  refine r_putr C hR hS true (fun _ => hnm) (ne0k hR t_a15 (by decide)) t_r0 (okT_a t_a15 rfl (by decide)) fl_X0_31 fp_X0_0_9 (by decide) dX0_init_51 (fun H locs hR hS => ?_)
  obtain ⟨h17, e_h17⟩ : ∃ y, y = upR h16 r0 9 a15 := ⟨_, rfl⟩
  rw [← e_h17] at hR
  have hf := lt_e hf e_h17
  have hE := eR e_h17 hE
  have t_r0 := tR e_h17 t_r0
  refine lv_aload_n C.x C.b dX0_init_54 rfl (lv_at hl 0 rfl) ?_
  refine lv_bipush (v := (8 : Int32)) C.x C.b dX0_init_55 (by decide) ?_
  refine r_newiN C hR hS (8 : Int32) (by decide) (Nat.le_of_ble_eq_true rfl) lk_arr_int (Nat.le_of_ble_eq_true rfl) (Nat.le_of_ble_eq_true rfl) dX0_init_57 (fun H a18 e_a18 hR hS hE1 t_a18 => ?_)
  have hf := lt_e hf e_a18
  obtain ⟨h19, e_h19⟩ : ∃ y, y = hpNew h17 (2, ix (8 : Int32)) := ⟨_, rfl⟩
  rw [← e_h19] at hR hE1 t_a18
  have hf := lt_e hf e_h19
  have hE := hE.tr hE1
  have t_r0 := hE1.at t_r0 (by decide)
  refine r_putr C hR hS true (fun _ => hnm) (ne0k hR t_a18 (by decide)) t_r0 (okT_a t_a18 rfl (by decide)) fl_X0_34 fp_X0_0_10 (by decide) dX0_init_59 (fun H locs hR hS => ?_)
  obtain ⟨h20, e_h20⟩ : ∃ y, y = upR h19 r0 10 a18 := ⟨_, rfl⟩
  rw [← e_h20] at hR
  have hf := lt_e hf e_h20
  have hE := eR e_h20 hE
  have t_r0 := tR e_h20 t_r0
  refine lv_aload_n C.x C.b dX0_init_62 rfl (lv_at hl 0 rfl) ?_
  refine lv_bipush (v := (8 : Int32)) C.x C.b dX0_init_63 (by decide) ?_
  refine r_newiN C hR hS (8 : Int32) (by decide) (Nat.le_of_ble_eq_true rfl) lk_arr_int (Nat.le_of_ble_eq_true rfl) (Nat.le_of_ble_eq_true rfl) dX0_init_65 (fun H a21 e_a21 hR hS hE1 t_a21 => ?_)
  have hf := lt_e hf e_a21
  obtain ⟨h22, e_h22⟩ : ∃ y, y = hpNew h20 (2, ix (8 : Int32)) := ⟨_, rfl⟩
  rw [← e_h22] at hR hE1 t_a21
  have hf := lt_e hf e_h22
  have hE := hE.tr hE1
  have t_r0 := hE1.at t_r0 (by decide)
  refine r_putr C hR hS true (fun _ => hnm) (ne0k hR t_a21 (by decide)) t_r0 (okT_a t_a21 rfl (by decide)) fl_X0_37 fp_X0_0_11 (by decide) dX0_init_67 (fun H locs hR hS => ?_)
  obtain ⟨h23, e_h23⟩ : ∃ y, y = upR h22 r0 11 a21 := ⟨_, rfl⟩
  rw [← e_h23] at hR
  have hf := lt_e hf e_h23
  have hE := eR e_h23 hE
  have t_r0 := tR e_h23 t_r0
  have hf := so_e hf
  subst hf
  refine W.widen (k := 7) (n := 56) (Nat.le_of_ble_eq_true rfl) (Nat.le_of_ble_eq_true rfl) ?_
  exact r_vret C hr hlk hR hE hS dX0_init_70

def rm_X0_copy : Room := { frames := 1, cells := 0, slots := 0, locals := 18 }
set_option maxRecDepth 100000 in
set_option maxHeartbeats 4000000 in
theorem k_X0_copy {G : Gt} {l : Launch}  {h : Hp} {r0 : Nat} {r1 : Nat} {out : Hp} (t_r0 : hpT h r0 = (1, 0)) (t_r1 : hpT h r1 = (1, 0))  (hf : f_X0_copy  h r0 r1 = some out) : Mt G l yX0_copy cX0_copy 2 (none) rm_X0_copy [.ref (G.2.2 + r0), .ref (G.2.2 + r1)] h (none) out 0 0 0 := by
  refine r_met (by decide +kernel) (Nat.le_of_ble_eq_true rfl) ?_
  intro p e s m args below meth c ls C hr hlk hnm hR hS hl
  have hE : Ext h h := Ext.rf
  have hl : lv_has ls 2 [(0, .ref (G.2.2 + r0)), (1, .ref (G.2.2 + r1))] := hl
  rw [f_X0_copy] at hf
  refine lv_aload_n C.x C.b dX0_copy_0 rfl (lv_at hl 0 rfl) ?_
  refine lv_aload_n C.x C.b dX0_copy_1 rfl (lv_at hl 1 rfl) ?_
  refine r_geti C hR t_r1 fl_X0_9 rfl dX0_copy_2 ?_
  refine r_puti C hR hS t_r0 fl_X0_9 fp_X0_0_0 rfl dX0_copy_5 (fun H locs hR hS => ?_)
  obtain ⟨h1, e_h1⟩ : ∃ y, y = upI h r0 0 (hpI h r1 0) := ⟨_, rfl⟩
  rw [← e_h1] at hR
  have hf := lt_e hf e_h1
  have hE := eI e_h1 hE
  have t_r0 := tI e_h1 t_r0
  have t_r1 := tI e_h1 t_r1
  refine lv_aload_n C.x C.b dX0_copy_8 rfl (lv_at hl 0 rfl) ?_
  refine lv_aload_n C.x C.b dX0_copy_9 rfl (lv_at hl 1 rfl) ?_
  refine r_geti C hR t_r1 fl_X0_15 rfl dX0_copy_10 ?_
  refine r_puti C hR hS t_r0 fl_X0_15 fp_X0_0_1 rfl dX0_copy_13 (fun H locs hR hS => ?_)
  obtain ⟨h2, e_h2⟩ : ∃ y, y = upI h1 r0 1 (hpI h1 r1 1) := ⟨_, rfl⟩
  rw [← e_h2] at hR
  have hf := lt_e hf e_h2
  have hE := eI e_h2 hE
  have t_r0 := tI e_h2 t_r0
  have t_r1 := tI e_h2 t_r1
  refine lv_aload_n C.x C.b dX0_copy_16 rfl (lv_at hl 0 rfl) ?_
  refine lv_aload_n C.x C.b dX0_copy_17 rfl (lv_at hl 1 rfl) ?_
  refine r_geti C hR t_r1 fl_X0_40 rfl dX0_copy_18 ?_
  refine r_puti C hR hS t_r0 fl_X0_40 fp_X0_0_2 rfl dX0_copy_21 (fun H locs hR hS => ?_)
  obtain ⟨h3, e_h3⟩ : ∃ y, y = upI h2 r0 2 (hpI h2 r1 2) := ⟨_, rfl⟩
  rw [← e_h3] at hR
  have hf := lt_e hf e_h3
  have hE := eI e_h3 hE
  have t_r0 := tI e_h3 t_r0
  have t_r1 := tI e_h3 t_r1
  refine lv_aload_n C.x C.b dX0_copy_24 rfl (lv_at hl 0 rfl) ?_
  refine lv_aload_n C.x C.b dX0_copy_25 rfl (lv_at hl 1 rfl) ?_
  refine r_geti C hR t_r1 fl_X0_43 rfl dX0_copy_26 ?_
  refine r_puti C hR hS t_r0 fl_X0_43 fp_X0_0_3 rfl dX0_copy_29 (fun H locs hR hS => ?_)
  obtain ⟨h4, e_h4⟩ : ∃ y, y = upI h3 r0 3 (hpI h3 r1 3) := ⟨_, rfl⟩
  rw [← e_h4] at hR
  have hf := lt_e hf e_h4
  have hE := eI e_h4 hE
  have t_r0 := tI e_h4 t_r0
  have t_r1 := tI e_h4 t_r1
  refine lv_aload_n C.x C.b dX0_copy_32 rfl (lv_at hl 0 rfl) ?_
  refine lv_aload_n C.x C.b dX0_copy_33 rfl (lv_at hl 1 rfl) ?_
  refine r_geti C hR t_r1 fl_X0_46 rfl dX0_copy_34 ?_
  refine r_puti C hR hS t_r0 fl_X0_46 fp_X0_0_4 rfl dX0_copy_37 (fun H locs hR hS => ?_)
  obtain ⟨h5, e_h5⟩ : ∃ y, y = upI h4 r0 4 (hpI h4 r1 4) := ⟨_, rfl⟩
  rw [← e_h5] at hR
  have hf := lt_e hf e_h5
  have hE := eI e_h5 hE
  have t_r0 := tI e_h5 t_r0
  have t_r1 := tI e_h5 t_r1
  refine lv_aload_n C.x C.b dX0_copy_40 rfl (lv_at hl 1 rfl) ?_
  obtain ⟨g6, hf⟩ := gd_e hf
  refine r_getr C hR t_r1 fl_X0_18 (by decide) (nz_e g6) dX0_copy_41 (fun tq7 => ?_)
  have tg6 := okA tq7 rfl
  refine lv_iconst (v := (0 : Int32)) C.x C.b dX0_copy_44 (by decide) ?_
  refine lv_aload_n C.x C.b dX0_copy_45 rfl (lv_at hl 0 rfl) ?_
  obtain ⟨g8, hf⟩ := gd_e hf
  refine r_getr C hR t_r0 fl_X0_18 (by decide) (nz_e g8) dX0_copy_46 (fun tq9 => ?_)
  have tg8 := okA tq9 rfl
  refine lv_iconst (v := (0 : Int32)) C.x C.b dX0_copy_49 (by decide) ?_
  refine lv_bipush (v := (8 : Int32)) C.x C.b dX0_copy_50 (by decide) ?_
  obtain ⟨g10, hf⟩ := gd_e hf
  refine r_copy C hR hS hl.1 tg6 tg8 g10 lk_X0_49 lk_System (Nat.le_of_ble_eq_true rfl) (Nat.le_of_ble_eq_true rfl) dX0_copy_52 (fun H locs hR hS => ?_)
  obtain ⟨h11, e_h11⟩ : ∃ y, y = cpI h5 (hpR h5 r1 5) (ix (0 : Int32)) (hpR h5 r0 5) (ix (0 : Int32)) (ix (8 : Int32)) := ⟨_, rfl⟩
  rw [← e_h11] at hR
  have hf := lt_e hf e_h11
  have hE := eC e_h11 hE
  have t_r0 := tC e_h11 t_r0
  have t_r1 := tC e_h11 t_r1
  refine lv_aload_n C.x C.b dX0_copy_55 rfl (lv_at hl 1 rfl) ?_
  obtain ⟨g12, hf⟩ := gd_e hf
  refine r_getr C hR t_r1 fl_X0_22 (by decide) (nz_e g12) dX0_copy_56 (fun tq13 => ?_)
  have tg12 := okA tq13 rfl
  refine lv_iconst (v := (0 : Int32)) C.x C.b dX0_copy_59 (by decide) ?_
  refine lv_aload_n C.x C.b dX0_copy_60 rfl (lv_at hl 0 rfl) ?_
  obtain ⟨g14, hf⟩ := gd_e hf
  refine r_getr C hR t_r0 fl_X0_22 (by decide) (nz_e g14) dX0_copy_61 (fun tq15 => ?_)
  have tg14 := okA tq15 rfl
  refine lv_iconst (v := (0 : Int32)) C.x C.b dX0_copy_64 (by decide) ?_
  refine lv_bipush (v := (8 : Int32)) C.x C.b dX0_copy_65 (by decide) ?_
  obtain ⟨g16, hf⟩ := gd_e hf
  refine r_copy C hR hS hl.1 tg12 tg14 g16 lk_X0_49 lk_System (Nat.le_of_ble_eq_true rfl) (Nat.le_of_ble_eq_true rfl) dX0_copy_67 (fun H locs hR hS => ?_)
  obtain ⟨h17, e_h17⟩ : ∃ y, y = cpI h11 (hpR h11 r1 6) (ix (0 : Int32)) (hpR h11 r0 6) (ix (0 : Int32)) (ix (8 : Int32)) := ⟨_, rfl⟩
  rw [← e_h17] at hR
  have hf := lt_e hf e_h17
  have hE := eC e_h17 hE
  have t_r0 := tC e_h17 t_r0
  have t_r1 := tC e_h17 t_r1
  refine lv_aload_n C.x C.b dX0_copy_70 rfl (lv_at hl 1 rfl) ?_
  obtain ⟨g18, hf⟩ := gd_e hf
  refine r_getr C hR t_r1 fl_X0_25 (by decide) (nz_e g18) dX0_copy_71 (fun tq19 => ?_)
  have tg18 := okA tq19 rfl
  refine lv_iconst (v := (0 : Int32)) C.x C.b dX0_copy_74 (by decide) ?_
  refine lv_aload_n C.x C.b dX0_copy_75 rfl (lv_at hl 0 rfl) ?_
  obtain ⟨g20, hf⟩ := gd_e hf
  refine r_getr C hR t_r0 fl_X0_25 (by decide) (nz_e g20) dX0_copy_76 (fun tq21 => ?_)
  have tg20 := okA tq21 rfl
  refine lv_iconst (v := (0 : Int32)) C.x C.b dX0_copy_79 (by decide) ?_
  refine lv_bipush (v := (8 : Int32)) C.x C.b dX0_copy_80 (by decide) ?_
  obtain ⟨g22, hf⟩ := gd_e hf
  refine r_copy C hR hS hl.1 tg18 tg20 g22 lk_X0_49 lk_System (Nat.le_of_ble_eq_true rfl) (Nat.le_of_ble_eq_true rfl) dX0_copy_82 (fun H locs hR hS => ?_)
  obtain ⟨h23, e_h23⟩ : ∃ y, y = cpI h17 (hpR h17 r1 7) (ix (0 : Int32)) (hpR h17 r0 7) (ix (0 : Int32)) (ix (8 : Int32)) := ⟨_, rfl⟩
  rw [← e_h23] at hR
  have hf := lt_e hf e_h23
  have hE := eC e_h23 hE
  have t_r0 := tC e_h23 t_r0
  have t_r1 := tC e_h23 t_r1
  refine lv_aload_n C.x C.b dX0_copy_85 rfl (lv_at hl 1 rfl) ?_
  obtain ⟨g24, hf⟩ := gd_e hf
  refine r_getr C hR t_r1 fl_X0_28 (by decide) (nz_e g24) dX0_copy_86 (fun tq25 => ?_)
  have tg24 := okA tq25 rfl
  refine lv_iconst (v := (0 : Int32)) C.x C.b dX0_copy_89 (by decide) ?_
  refine lv_aload_n C.x C.b dX0_copy_90 rfl (lv_at hl 0 rfl) ?_
  obtain ⟨g26, hf⟩ := gd_e hf
  refine r_getr C hR t_r0 fl_X0_28 (by decide) (nz_e g26) dX0_copy_91 (fun tq27 => ?_)
  have tg26 := okA tq27 rfl
  refine lv_iconst (v := (0 : Int32)) C.x C.b dX0_copy_94 (by decide) ?_
  refine lv_bipush (v := (8 : Int32)) C.x C.b dX0_copy_95 (by decide) ?_
  obtain ⟨g28, hf⟩ := gd_e hf
  refine r_copy C hR hS hl.1 tg24 tg26 g28 lk_X0_49 lk_System (Nat.le_of_ble_eq_true rfl) (Nat.le_of_ble_eq_true rfl) dX0_copy_97 (fun H locs hR hS => ?_)
  obtain ⟨h29, e_h29⟩ : ∃ y, y = cpI h23 (hpR h23 r1 8) (ix (0 : Int32)) (hpR h23 r0 8) (ix (0 : Int32)) (ix (8 : Int32)) := ⟨_, rfl⟩
  rw [← e_h29] at hR
  have hf := lt_e hf e_h29
  have hE := eC e_h29 hE
  have t_r0 := tC e_h29 t_r0
  have t_r1 := tC e_h29 t_r1
  refine lv_aload_n C.x C.b dX0_copy_100 rfl (lv_at hl 1 rfl) ?_
  obtain ⟨g30, hf⟩ := gd_e hf
  refine r_getr C hR t_r1 fl_X0_31 (by decide) (nz_e g30) dX0_copy_101 (fun tq31 => ?_)
  have tg30 := okA tq31 rfl
  refine lv_iconst (v := (0 : Int32)) C.x C.b dX0_copy_104 (by decide) ?_
  refine lv_aload_n C.x C.b dX0_copy_105 rfl (lv_at hl 0 rfl) ?_
  obtain ⟨g32, hf⟩ := gd_e hf
  refine r_getr C hR t_r0 fl_X0_31 (by decide) (nz_e g32) dX0_copy_106 (fun tq33 => ?_)
  have tg32 := okA tq33 rfl
  refine lv_iconst (v := (0 : Int32)) C.x C.b dX0_copy_109 (by decide) ?_
  refine lv_bipush (v := (8 : Int32)) C.x C.b dX0_copy_110 (by decide) ?_
  obtain ⟨g34, hf⟩ := gd_e hf
  refine r_copy C hR hS hl.1 tg30 tg32 g34 lk_X0_49 lk_System (Nat.le_of_ble_eq_true rfl) (Nat.le_of_ble_eq_true rfl) dX0_copy_112 (fun H locs hR hS => ?_)
  obtain ⟨h35, e_h35⟩ : ∃ y, y = cpI h29 (hpR h29 r1 9) (ix (0 : Int32)) (hpR h29 r0 9) (ix (0 : Int32)) (ix (8 : Int32)) := ⟨_, rfl⟩
  rw [← e_h35] at hR
  have hf := lt_e hf e_h35
  have hE := eC e_h35 hE
  have t_r0 := tC e_h35 t_r0
  have t_r1 := tC e_h35 t_r1
  refine lv_aload_n C.x C.b dX0_copy_115 rfl (lv_at hl 1 rfl) ?_
  obtain ⟨g36, hf⟩ := gd_e hf
  refine r_getr C hR t_r1 fl_X0_34 (by decide) (nz_e g36) dX0_copy_116 (fun tq37 => ?_)
  have tg36 := okA tq37 rfl
  refine lv_iconst (v := (0 : Int32)) C.x C.b dX0_copy_119 (by decide) ?_
  refine lv_aload_n C.x C.b dX0_copy_120 rfl (lv_at hl 0 rfl) ?_
  obtain ⟨g38, hf⟩ := gd_e hf
  refine r_getr C hR t_r0 fl_X0_34 (by decide) (nz_e g38) dX0_copy_121 (fun tq39 => ?_)
  have tg38 := okA tq39 rfl
  refine lv_iconst (v := (0 : Int32)) C.x C.b dX0_copy_124 (by decide) ?_
  refine lv_bipush (v := (8 : Int32)) C.x C.b dX0_copy_125 (by decide) ?_
  obtain ⟨g40, hf⟩ := gd_e hf
  refine r_copy C hR hS hl.1 tg36 tg38 g40 lk_X0_49 lk_System (Nat.le_of_ble_eq_true rfl) (Nat.le_of_ble_eq_true rfl) dX0_copy_127 (fun H locs hR hS => ?_)
  obtain ⟨h41, e_h41⟩ : ∃ y, y = cpI h35 (hpR h35 r1 10) (ix (0 : Int32)) (hpR h35 r0 10) (ix (0 : Int32)) (ix (8 : Int32)) := ⟨_, rfl⟩
  rw [← e_h41] at hR
  have hf := lt_e hf e_h41
  have hE := eC e_h41 hE
  have t_r0 := tC e_h41 t_r0
  have t_r1 := tC e_h41 t_r1
  refine lv_aload_n C.x C.b dX0_copy_130 rfl (lv_at hl 1 rfl) ?_
  obtain ⟨g42, hf⟩ := gd_e hf
  refine r_getr C hR t_r1 fl_X0_37 (by decide) (nz_e g42) dX0_copy_131 (fun tq43 => ?_)
  have tg42 := okA tq43 rfl
  refine lv_iconst (v := (0 : Int32)) C.x C.b dX0_copy_134 (by decide) ?_
  refine lv_aload_n C.x C.b dX0_copy_135 rfl (lv_at hl 0 rfl) ?_
  obtain ⟨g44, hf⟩ := gd_e hf
  refine r_getr C hR t_r0 fl_X0_37 (by decide) (nz_e g44) dX0_copy_136 (fun tq45 => ?_)
  have tg44 := okA tq45 rfl
  refine lv_iconst (v := (0 : Int32)) C.x C.b dX0_copy_139 (by decide) ?_
  refine lv_bipush (v := (8 : Int32)) C.x C.b dX0_copy_140 (by decide) ?_
  obtain ⟨g46, hf⟩ := gd_e hf
  refine r_copy C hR hS hl.1 tg42 tg44 g46 lk_X0_49 lk_System (Nat.le_of_ble_eq_true rfl) (Nat.le_of_ble_eq_true rfl) dX0_copy_142 (fun H locs hR hS => ?_)
  obtain ⟨h47, e_h47⟩ : ∃ y, y = cpI h41 (hpR h41 r1 11) (ix (0 : Int32)) (hpR h41 r0 11) (ix (0 : Int32)) (ix (8 : Int32)) := ⟨_, rfl⟩
  rw [← e_h47] at hR
  have hf := lt_e hf e_h47
  have hE := eC e_h47 hE
  have t_r0 := tC e_h47 t_r0
  have t_r1 := tC e_h47 t_r1
  have hf := so_e hf
  subst hf
  exact r_vret C hr hlk hR hE hS dX0_copy_145

def rm_X0_layOut : Room := { frames := 0, cells := 0, slots := 0, locals := 0 }
set_option maxRecDepth 100000 in
set_option maxHeartbeats 4000000 in
theorem k_X0_layOut {G : Gt} {l : Launch}  {h : Hp} {r0 : Nat} {x1 : Int32} {x2 : Int32} {out : Hp} (t_r0 : hpT h r0 = (1, 0))  (hf : f_X0_layOut  h r0 x1 x2 = some out) : Mt G l yX0_layOut cX0_layOut 3 (none) rm_X0_layOut [.ref (G.2.2 + r0), .int x1, .int x2] h (none) out 0 0 0 := by
  refine r_met (by decide +kernel) (Nat.le_of_ble_eq_true rfl) ?_
  intro p e s m args below meth c ls C hr hlk hnm hR hS hl
  have hE : Ext h h := Ext.rf
  have hl : lv_has ls 3 [(0, .ref (G.2.2 + r0)), (1, .int x1), (2, .int x2)] := hl
  rw [f_X0_layOut] at hf
  refine lv_aload_n C.x C.b dX0_layOut_0 rfl (lv_at hl 0 rfl) ?_
  refine lv_iload_n C.x C.b dX0_layOut_1 rfl (lv_at hl 1 rfl) ?_
  refine r_puti C hR hS t_r0 fl_X0_9 fp_X0_0_0 rfl dX0_layOut_2 (fun H locs hR hS => ?_)
  obtain ⟨h1, e_h1⟩ : ∃ y, y = upI h r0 0 x1 := ⟨_, rfl⟩
  rw [← e_h1] at hR
  have hf := lt_e hf e_h1
  have hE := eI e_h1 hE
  have t_r0 := tI e_h1 t_r0
  refine lv_aload_n C.x C.b dX0_layOut_5 rfl (lv_at hl 0 rfl) ?_
  refine lv_iload_n C.x C.b dX0_layOut_6 rfl (lv_at hl 2 rfl) ?_
  refine r_puti C hR hS t_r0 fl_X0_15 fp_X0_0_1 rfl dX0_layOut_7 (fun H locs hR hS => ?_)
  obtain ⟨h2, e_h2⟩ : ∃ y, y = upI h1 r0 1 x2 := ⟨_, rfl⟩
  rw [← e_h2] at hR
  have hf := lt_e hf e_h2
  have hE := eI e_h2 hE
  have t_r0 := tI e_h2 t_r0
  refine lv_aload_n C.x C.b dX0_layOut_10 rfl (lv_at hl 0 rfl) ?_
  refine lv_iconst (v := (0 : Int32)) C.x C.b dX0_layOut_11 (by decide) ?_
  refine r_puti C hR hS t_r0 fl_X0_40 fp_X0_0_2 rfl dX0_layOut_12 (fun H locs hR hS => ?_)
  obtain ⟨h3, e_h3⟩ : ∃ y, y = upI h2 r0 2 (0 : Int32) := ⟨_, rfl⟩
  rw [← e_h3] at hR
  have hf := lt_e hf e_h3
  have hE := eI e_h3 hE
  have t_r0 := tI e_h3 t_r0
  refine lv_aload_n C.x C.b dX0_layOut_15 rfl (lv_at hl 0 rfl) ?_
  refine lv_iconst (v := (0 : Int32)) C.x C.b dX0_layOut_16 (by decide) ?_
  refine r_puti C hR hS t_r0 fl_X0_43 fp_X0_0_3 rfl dX0_layOut_17 (fun H locs hR hS => ?_)
  obtain ⟨h4, e_h4⟩ : ∃ y, y = upI h3 r0 3 (0 : Int32) := ⟨_, rfl⟩
  rw [← e_h4] at hR
  have hf := lt_e hf e_h4
  have hE := eI e_h4 hE
  have t_r0 := tI e_h4 t_r0
  refine lv_aload_n C.x C.b dX0_layOut_20 rfl (lv_at hl 0 rfl) ?_
  refine lv_iconst (v := (0 : Int32)) C.x C.b dX0_layOut_21 (by decide) ?_
  refine r_puti C hR hS t_r0 fl_X0_46 fp_X0_0_4 rfl dX0_layOut_22 (fun H locs hR hS => ?_)
  obtain ⟨h5, e_h5⟩ : ∃ y, y = upI h4 r0 4 (0 : Int32) := ⟨_, rfl⟩
  rw [← e_h5] at hR
  have hf := lt_e hf e_h5
  have hE := eI e_h5 hE
  have t_r0 := tI e_h5 t_r0
  have hf := so_e hf
  subst hf
  exact r_vret C hr hlk hR hE hS dX0_layOut_25

def rm_X0_cells : Room := { frames := 0, cells := 0, slots := 0, locals := 0 }
set_option maxRecDepth 100000 in
set_option maxHeartbeats 4000000 in
theorem k_X0_cells {G : Gt} {l : Launch}  {h : Hp} {r0 : Nat} {out : Int32} (t_r0 : hpT h r0 = (1, 0))  (hf : f_X0_cells  h r0 = some out) : Mt G l yX0_cells cX0_cells 1 (some .int) rm_X0_cells [.ref (G.2.2 + r0)] h (some (.int out)) h 0 0 0 := by
  refine r_met (by decide +kernel) (Nat.le_of_ble_eq_true rfl) ?_
  intro p e s m args below meth c ls C hr hlk hnm hR hS hl
  have hl : lv_has ls 1 [(0, .ref (G.2.2 + r0))] := hl
  rw [f_X0_cells] at hf
  refine lv_aload_n C.x C.b dX0_cells_0 rfl (lv_at hl 0 rfl) ?_
  refine r_geti C hR t_r0 fl_X0_9 rfl dX0_cells_1 ?_
  refine lv_aload_n C.x C.b dX0_cells_4 rfl (lv_at hl 0 rfl) ?_
  refine r_geti C hR t_r0 fl_X0_15 rfl dX0_cells_5 ?_
  refine lv_imul C.x C.b dX0_cells_8 ?_
  have hf := so_e hf
  subst hf
  exact r_iret C hr hlk hR Ext.rf hS dX0_cells_9

def rm_X0_hasCell : Room := { frames := 1, cells := 0, slots := 0, locals := 20 }
set_option maxRecDepth 100000 in
set_option maxHeartbeats 4000000 in
theorem k_X0_hasCell {G : Gt} {l : Launch}  {h : Hp} {r0 : Nat} {x1 : Int32} {out : Int32} (t_r0 : hpT h r0 = (1, 0))  (hf : f_X0_hasCell  h r0 x1 = some out) : Mt G l yX0_hasCell cX0_hasCell 2 (some .boolean) rm_X0_hasCell [.ref (G.2.2 + r0), .int x1] h (some (.int out)) h 1 0 0 := by
  refine r_met (by decide +kernel) (Nat.le_of_ble_eq_true rfl) ?_
  intro p e s m args below meth c ls C hr hlk hnm hR hS hl
  have hl : lv_has ls 2 [(0, .ref (G.2.2 + r0)), (1, .int x1)] := hl
  rw [f_X0_hasCell] at hf
  refine lv_iload_n C.x C.b dX0_hasCell_0 rfl (lv_at hl 1 rfl) ?_
  refine lv_if_lt (tgt := 16) C.x C.b dX0_hasCell_1 (by decide) (fun c1 => ?_) (fun c1 => ?_)
  · have hf := it_t hf c1
    refine lv_iconst (v := (0 : Int32)) C.x C.b dX0_hasCell_16 (by decide) ?_
    have hf := so_e hf
    subst hf
    exact r_zret C hr hlk hR Ext.rf hS z_0 dX0_hasCell_17
  · have hf := it_f hf c1
    refine lv_iload_n C.x C.b dX0_hasCell_4 rfl (lv_at hl 1 rfl) ?_
    refine lv_aload_n C.x C.b dX0_hasCell_5 rfl (lv_at hl 0 rfl) ?_
    obtain ⟨q2, h_q2, hf⟩ := bd_e hf
    refine r_callV (As := []) (rest := [.int x1]) C hR hS t_r0 rfl mk_X0_cells cl_X0_55 (k_X0_cells t_r0 h_q2) ⟨⟨Nat.le_of_ble_eq_true rfl, Nat.le_of_ble_eq_true rfl⟩, ⟨rfl, rfl⟩, Nat.le_of_ble_eq_true rfl, Nat.le_of_ble_eq_true rfl⟩ rfl hl.1 rfl (Nat.le_of_ble_eq_true rfl) dX0_hasCell_6 (fun H locs hR hS hE1 z_q2 => ?_)
    refine lv_icmp_ge (tgt := 16) C.x C.b dX0_hasCell_9 (by decide) (fun c3 => ?_) (fun c3 => ?_)
    · have hf := it_t hf c3
      refine lv_iconst (v := (0 : Int32)) C.x C.b dX0_hasCell_16 (by decide) ?_
      have hf := so_e hf
      subst hf
      exact r_zret C hr hlk hR Ext.rf hS z_0 dX0_hasCell_17
    · have hf := it_f hf c3
      refine lv_iconst (v := (1 : Int32)) C.x C.b dX0_hasCell_12 (by decide) ?_
      refine lv_goto (tgt := 17) C.x C.b dX0_hasCell_13 (by decide) ?_
      have hf := so_e hf
      subst hf
      exact r_zret C hr hlk hR Ext.rf hS z_1 dX0_hasCell_17

def rm_X0_cellAt : Room := { frames := 0, cells := 0, slots := 0, locals := 0 }
def P_X0_cellAt_29 (G : Gt) (l : Launch) (p : Program) (e : Env) (s : State) (m : MethodId) (args : Array Value) (below : List Frame) (meth : Method) (c : Code) (h : Hp) (out : Int32) (r0 : Nat) (x1 : Int32) (x2 : Int32) (k : Int32 → Option Int32) : Prop := ∀ (H : Heap) (locs : List Loc) (ls : Array Slot) (s0 : Int32), k s0 = some out → Rel G h H → va_S (AA G.2.2) s.heap H locs → hpT h r0 = (1, 0) → narrow .boolean (.int s0) = .int s0 → lv_has ls 4 [(0, .ref (G.2.2 + r0)), (1, .int x1), (2, .int x2)] → W p l e rm_X0_cellAt s m args below meth c H locs 0 0 (MQ below (Qm G h h (some (.int out)) 0) args s 0 0 (AA G.2.2)) (F0 m 29 ls [.int s0])
def P_X0_cellAt_28 (G : Gt) (l : Launch) (p : Program) (e : Env) (s : State) (m : MethodId) (args : Array Value) (below : List Frame) (meth : Method) (c : Code) (h : Hp) (out : Int32) (r0 : Nat) (x1 : Int32) (x2 : Int32) (k : Option Int32) : Prop := ∀ (H : Heap) (locs : List Loc) (ls : Array Slot), k = some out → Rel G h H → va_S (AA G.2.2) s.heap H locs → hpT h r0 = (1, 0) → lv_has ls 4 [(0, .ref (G.2.2 + r0)), (1, .int x1), (2, .int x2)] → W p l e rm_X0_cellAt s m args below meth c H locs 0 0 (MQ below (Qm G h h (some (.int out)) 0) args s 0 0 (AA G.2.2)) (F0 m 28 ls [])
set_option maxRecDepth 100000 in
set_option maxHeartbeats 4000000 in
theorem w_X0_cellAt_29 {G : Gt} {l : Launch} {p : Program} {e : Env} {s : State} {m : MethodId} {args : Array Value} {below : List Frame} {meth : Method} {c : Code}  {h : Hp} {out : Int32} {r0 : Nat} {x1 : Int32} {x2 : Int32}  (C : Cx G p m c cX0_cellAt 4 s args RX0) (hr : meth.sig.returnType = some .int) (hlk : meth.locks = false)   : P_X0_cellAt_29 G l p e s m args below meth c h out r0 x1 x2 (f_X0_cellAt_29 h r0 x1 x2) := by
  intro H locs ls s0 hf hR hS t_r0 z_s0 hl
  rw [f_X0_cellAt_29] at hf
  refine lv_istore_n (lv' := [(3, .int s0), (0, .ref (G.2.2 + r0)), (1, .int x1), (2, .int x2)]) C.x C.b dX0_cellAt_29 rfl hl (by decide) rfl (fun ls hl => ?_)
  refine lv_iload_n C.x C.b dX0_cellAt_30 rfl (lv_at hl 0 rfl) ?_
  refine lv_if_eq (tgt := 45) C.x C.b dX0_cellAt_31 (by decide) (fun c5 => ?_) (fun c5 => ?_)
  · have hf := it_t hf c5
    refine lv_iconst (v := (-1 : Int32)) C.x C.b dX0_cellAt_45 (by decide) ?_
    have hf := so_e hf
    subst hf
    exact r_iret C hr hlk hR Ext.rf hS dX0_cellAt_46
  · have hf := it_f hf c5
    refine lv_iload_n C.x C.b dX0_cellAt_34 rfl (lv_at hl 2 rfl) ?_
    refine lv_aload_n C.x C.b dX0_cellAt_35 rfl (lv_at hl 1 rfl) ?_
    refine r_geti C hR t_r0 fl_X0_15 rfl dX0_cellAt_36 ?_
    refine lv_imul C.x C.b dX0_cellAt_39 ?_
    refine lv_iload_n C.x C.b dX0_cellAt_40 rfl (lv_at hl 3 rfl) ?_
    refine lv_iadd C.x C.b dX0_cellAt_41 ?_
    refine lv_goto (tgt := 46) C.x C.b dX0_cellAt_42 (by decide) ?_
    have hf := so_e hf
    subst hf
    exact r_iret C hr hlk hR Ext.rf hS dX0_cellAt_46
set_option maxRecDepth 100000 in
set_option maxHeartbeats 4000000 in
theorem w_X0_cellAt_28 {G : Gt} {l : Launch} {p : Program} {e : Env} {s : State} {m : MethodId} {args : Array Value} {below : List Frame} {meth : Method} {c : Code}  {h : Hp} {out : Int32} {r0 : Nat} {x1 : Int32} {x2 : Int32}  (C : Cx G p m c cX0_cellAt 4 s args RX0) (hr : meth.sig.returnType = some .int) (hlk : meth.locks = false)   : P_X0_cellAt_28 G l p e s m args below meth c h out r0 x1 x2 (f_X0_cellAt_28 h r0 x1 x2) := by
  intro H locs ls  hf hR hS t_r0 hl
  rw [f_X0_cellAt_28] at hf
  refine lv_iconst (v := (0 : Int32)) C.x C.b dX0_cellAt_28 (by decide) ?_
  exact w_X0_cellAt_29 C hr hlk _ _ _ _ hf hR hS t_r0 z_0 (lv_sub hl [0, 1, 2] rfl)
set_option maxRecDepth 100000 in
set_option maxHeartbeats 4000000 in
theorem k_X0_cellAt {G : Gt} {l : Launch}  {h : Hp} {r0 : Nat} {x1 : Int32} {x2 : Int32} {out : Int32} (t_r0 : hpT h r0 = (1, 0))  (hf : f_X0_cellAt  h r0 x1 x2 = some out) : Mt G l yX0_cellAt cX0_cellAt 4 (some .int) rm_X0_cellAt [.ref (G.2.2 + r0), .int x1, .int x2] h (some (.int out)) h 0 0 0 := by
  refine r_met (by decide +kernel) (Nat.le_of_ble_eq_true rfl) ?_
  intro p e s m args below meth c ls C hr hlk hnm hR hS hl
  have hl : lv_has ls 4 [(0, .ref (G.2.2 + r0)), (1, .int x1), (2, .int x2)] := hl
  rw [f_X0_cellAt] at hf
  refine lv_iload_n C.x C.b dX0_cellAt_0 rfl (lv_at hl 1 rfl) ?_
  refine lv_if_lt (tgt := 28) C.x C.b dX0_cellAt_1 (by decide) (fun c1 => ?_) (fun c1 => ?_)
  · have hf := it_t hf c1
    exact w_X0_cellAt_28 C hr hlk _ _ _ hf hR hS t_r0 (lv_sub hl [0, 1, 2] rfl)
  · have hf := it_f hf c1
    refine lv_iload_n C.x C.b dX0_cellAt_4 rfl (lv_at hl 1 rfl) ?_
    refine lv_aload_n C.x C.b dX0_cellAt_5 rfl (lv_at hl 0 rfl) ?_
    refine r_geti C hR t_r0 fl_X0_9 rfl dX0_cellAt_6 ?_
    refine lv_icmp_ge (tgt := 28) C.x C.b dX0_cellAt_9 (by decide) (fun c2 => ?_) (fun c2 => ?_)
    · have hf := it_t hf c2
      exact w_X0_cellAt_28 C hr hlk _ _ _ hf hR hS t_r0 (lv_sub hl [0, 1, 2] rfl)
    · have hf := it_f hf c2
      refine lv_iload_n C.x C.b dX0_cellAt_12 rfl (lv_at hl 2 rfl) ?_
      refine lv_if_lt (tgt := 28) C.x C.b dX0_cellAt_13 (by decide) (fun c3 => ?_) (fun c3 => ?_)
      · have hf := it_t hf c3
        exact w_X0_cellAt_28 C hr hlk _ _ _ hf hR hS t_r0 (lv_sub hl [0, 1, 2] rfl)
      · have hf := it_f hf c3
        refine lv_iload_n C.x C.b dX0_cellAt_16 rfl (lv_at hl 2 rfl) ?_
        refine lv_aload_n C.x C.b dX0_cellAt_17 rfl (lv_at hl 0 rfl) ?_
        refine r_geti C hR t_r0 fl_X0_15 rfl dX0_cellAt_18 ?_
        refine lv_icmp_ge (tgt := 28) C.x C.b dX0_cellAt_21 (by decide) (fun c4 => ?_) (fun c4 => ?_)
        · have hf := it_t hf c4
          exact w_X0_cellAt_28 C hr hlk _ _ _ hf hR hS t_r0 (lv_sub hl [0, 1, 2] rfl)
        · have hf := it_f hf c4
          refine lv_iconst (v := (1 : Int32)) C.x C.b dX0_cellAt_24 (by decide) ?_
          refine lv_goto (tgt := 29) C.x C.b dX0_cellAt_25 (by decide) ?_
          exact w_X0_cellAt_29 C hr hlk _ _ _ _ hf hR hS t_r0 z_1 (lv_sub hl [0, 1, 2] rfl)

def rm_X0_rowOf : Room := { frames := 0, cells := 0, slots := 0, locals := 0 }
set_option maxRecDepth 100000 in
set_option maxHeartbeats 4000000 in
theorem k_X0_rowOf {G : Gt} {l : Launch}  {h : Hp} {r0 : Nat} {x1 : Int32} {out : Int32} (t_r0 : hpT h r0 = (1, 0))  (hf : f_X0_rowOf  h r0 x1 = some out) : Mt G l yX0_rowOf cX0_rowOf 2 (some .int) rm_X0_rowOf [.ref (G.2.2 + r0), .int x1] h (some (.int out)) h 0 0 0 := by
  refine r_met (by decide +kernel) (Nat.le_of_ble_eq_true rfl) ?_
  intro p e s m args below meth c ls C hr hlk hnm hR hS hl
  have hl : lv_has ls 2 [(0, .ref (G.2.2 + r0)), (1, .int x1)] := hl
  rw [f_X0_rowOf] at hf
  refine lv_aload_n C.x C.b dX0_rowOf_0 rfl (lv_at hl 0 rfl) ?_
  refine r_geti C hR t_r0 fl_X0_15 rfl dX0_rowOf_1 ?_
  refine lv_if_le (tgt := 16) C.x C.b dX0_rowOf_4 (by decide) (fun c1 => ?_) (fun c1 => ?_)
  · have hf := it_t hf c1
    refine lv_iconst (v := (0 : Int32)) C.x C.b dX0_rowOf_16 (by decide) ?_
    have hf := so_e hf
    subst hf
    exact r_iret C hr hlk hR Ext.rf hS dX0_rowOf_17
  · have hf := it_f hf c1
    refine lv_iload_n C.x C.b dX0_rowOf_7 rfl (lv_at hl 1 rfl) ?_
    refine lv_aload_n C.x C.b dX0_rowOf_8 rfl (lv_at hl 0 rfl) ?_
    refine r_geti C hR t_r0 fl_X0_15 rfl dX0_rowOf_9 ?_
    obtain ⟨g2, hf⟩ := gd_e hf
    refine lv_idiv C.x C.b dX0_rowOf_12 (nz32_e g2) ?_
    refine lv_goto (tgt := 17) C.x C.b dX0_rowOf_13 (by decide) ?_
    have hf := so_e hf
    subst hf
    exact r_iret C hr hlk hR Ext.rf hS dX0_rowOf_17

def rm_X0_columnOf : Room := { frames := 0, cells := 0, slots := 0, locals := 0 }
set_option maxRecDepth 100000 in
set_option maxHeartbeats 4000000 in
theorem k_X0_columnOf {G : Gt} {l : Launch}  {h : Hp} {r0 : Nat} {x1 : Int32} {out : Int32} (t_r0 : hpT h r0 = (1, 0))  (hf : f_X0_columnOf  h r0 x1 = some out) : Mt G l yX0_columnOf cX0_columnOf 2 (some .int) rm_X0_columnOf [.ref (G.2.2 + r0), .int x1] h (some (.int out)) h 0 0 0 := by
  refine r_met (by decide +kernel) (Nat.le_of_ble_eq_true rfl) ?_
  intro p e s m args below meth c ls C hr hlk hnm hR hS hl
  have hl : lv_has ls 2 [(0, .ref (G.2.2 + r0)), (1, .int x1)] := hl
  rw [f_X0_columnOf] at hf
  refine lv_aload_n C.x C.b dX0_columnOf_0 rfl (lv_at hl 0 rfl) ?_
  refine r_geti C hR t_r0 fl_X0_15 rfl dX0_columnOf_1 ?_
  refine lv_if_le (tgt := 16) C.x C.b dX0_columnOf_4 (by decide) (fun c1 => ?_) (fun c1 => ?_)
  · have hf := it_t hf c1
    refine lv_iconst (v := (0 : Int32)) C.x C.b dX0_columnOf_16 (by decide) ?_
    have hf := so_e hf
    subst hf
    exact r_iret C hr hlk hR Ext.rf hS dX0_columnOf_17
  · have hf := it_f hf c1
    refine lv_iload_n C.x C.b dX0_columnOf_7 rfl (lv_at hl 1 rfl) ?_
    refine lv_aload_n C.x C.b dX0_columnOf_8 rfl (lv_at hl 0 rfl) ?_
    refine r_geti C hR t_r0 fl_X0_15 rfl dX0_columnOf_9 ?_
    obtain ⟨g2, hf⟩ := gd_e hf
    refine lv_irem C.x C.b dX0_columnOf_12 (nz32_e g2) ?_
    refine lv_topi (fun v3 e_v3 => ?_)
    have hf := lt_e hf e_v3
    refine lv_goto (tgt := 17) C.x C.b dX0_columnOf_13 (by decide) ?_
    have hf := so_e hf
    subst hf
    exact r_iret C hr hlk hR Ext.rf hS dX0_columnOf_17

def rm_X0_beside : Room := { frames := 1, cells := 0, slots := 0, locals := 23 }
set_option maxRecDepth 100000 in
set_option maxHeartbeats 4000000 in
theorem k_X0_beside {G : Gt} {l : Launch}  {h : Hp} {r0 : Nat} {x1 : Int32} {x2 : Int32} {out : Int32} (t_r0 : hpT h r0 = (1, 0))  (hf : f_X0_beside  h r0 x1 x2 = some out) : Mt G l yX0_beside cX0_beside 5 (some .int) rm_X0_beside [.ref (G.2.2 + r0), .int x1, .int x2] h (some (.int out)) h 0 0 0 := by
  refine r_met (by decide +kernel) (Nat.le_of_ble_eq_true rfl) ?_
  intro p e s m args below meth c ls C hr hlk hnm hR hS hl
  have hl : lv_has ls 5 [(0, .ref (G.2.2 + r0)), (1, .int x1), (2, .int x2)] := hl
  rw [f_X0_beside] at hf
  refine lv_aload_n C.x C.b dX0_beside_0 rfl (lv_at hl 0 rfl) ?_
  refine lv_iload_n C.x C.b dX0_beside_1 rfl (lv_at hl 1 rfl) ?_
  obtain ⟨q1, h_q1, hf⟩ := bd_e hf
  refine r_callV (As := [.int x1]) (rest := []) C hR hS t_r0 rfl mk_X0_rowOf cl_X0_59 (k_X0_rowOf t_r0 h_q1) ⟨⟨Nat.le_of_ble_eq_true rfl, Nat.le_of_ble_eq_true rfl⟩, ⟨rfl, rfl⟩, Nat.le_of_ble_eq_true rfl, Nat.le_of_ble_eq_true rfl⟩ rfl hl.1 rfl (Nat.le_of_ble_eq_true rfl) dX0_beside_2 (fun H locs hR hS hE1 z_q1 => ?_)
  refine lv_istore_n (lv' := [(3, .int q1), (0, .ref (G.2.2 + r0)), (1, .int x1), (2, .int x2)]) C.x C.b dX0_beside_5 rfl hl (by decide) rfl (fun ls hl => ?_)
  refine lv_aload_n C.x C.b dX0_beside_6 rfl (lv_at hl 1 rfl) ?_
  refine lv_iload_n C.x C.b dX0_beside_7 rfl (lv_at hl 2 rfl) ?_
  obtain ⟨q2, h_q2, hf⟩ := bd_e hf
  refine r_callV (As := [.int x1]) (rest := []) C hR hS t_r0 rfl mk_X0_columnOf cl_X0_63 (k_X0_columnOf t_r0 h_q2) ⟨⟨Nat.le_of_ble_eq_true rfl, Nat.le_of_ble_eq_true rfl⟩, ⟨rfl, rfl⟩, Nat.le_of_ble_eq_true rfl, Nat.le_of_ble_eq_true rfl⟩ rfl hl.1 rfl (Nat.le_of_ble_eq_true rfl) dX0_beside_8 (fun H locs hR hS hE1 z_q2 => ?_)
  refine lv_istore (lv' := [(4, .int q2), (3, .int q1), (0, .ref (G.2.2 + r0)), (1, .int x1), (2, .int x2)]) C.x C.b dX0_beside_11 hl (by decide) rfl (fun ls hl => ?_)
  refine lv_iload_n C.x C.b dX0_beside_13 rfl (lv_at hl 4 rfl) ?_
  by_cases c7_0 : x2 = (0 : Int32)
  · have hf := it_t hf c7_0
    refine lv_tableIn (tgt := 40) C.x C.b dX0_beside_14 (by rw [c7_0]; decide) (by rw [c7_0]; decide) (by rw [c7_0]; rfl) (by decide) ?_
    refine lv_aload_n C.x C.b dX0_beside_40 rfl (lv_at hl 2 rfl) ?_
    refine lv_iload_n C.x C.b dX0_beside_41 rfl (lv_at hl 1 rfl) ?_
    refine lv_iconst (v := (1 : Int32)) C.x C.b dX0_beside_42 (by decide) ?_
    refine lv_isub C.x C.b dX0_beside_43 ?_
    refine lv_iload C.x C.b dX0_beside_44 (lv_at hl 0 rfl) ?_
    obtain ⟨q3, h_q3, hf⟩ := bd_e hf
    refine r_callV (As := [.int (q1 - (1 : Int32)), .int q2]) (rest := []) C hR hS t_r0 rfl mk_X0_cellAt cl_X0_66 (k_X0_cellAt t_r0 h_q3) ⟨⟨Nat.le_of_ble_eq_true rfl, Nat.le_of_ble_eq_true rfl⟩, ⟨rfl, rfl⟩, Nat.le_of_ble_eq_true rfl, Nat.le_of_ble_eq_true rfl⟩ rfl hl.1 rfl (Nat.le_of_ble_eq_true rfl) dX0_beside_46 (fun H locs hR hS hE1 z_q3 => ?_)
    have hf := so_e hf
    subst hf
    exact r_iret C hr hlk hR Ext.rf hS dX0_beside_49
  have hf := it_f hf c7_0
  by_cases c7_1 : x2 = (1 : Int32)
  · have hf := it_t hf c7_1
    refine lv_tableIn (tgt := 50) C.x C.b dX0_beside_14 (by rw [c7_1]; decide) (by rw [c7_1]; decide) (by rw [c7_1]; rfl) (by decide) ?_
    refine lv_aload_n C.x C.b dX0_beside_50 rfl (lv_at hl 2 rfl) ?_
    refine lv_iload_n C.x C.b dX0_beside_51 rfl (lv_at hl 1 rfl) ?_
    refine lv_iload C.x C.b dX0_beside_52 (lv_at hl 0 rfl) ?_
    refine lv_iconst (v := (1 : Int32)) C.x C.b dX0_beside_54 (by decide) ?_
    refine lv_isub C.x C.b dX0_beside_55 ?_
    obtain ⟨q4, h_q4, hf⟩ := bd_e hf
    refine r_callV (As := [.int q1, .int (q2 - (1 : Int32))]) (rest := []) C hR hS t_r0 rfl mk_X0_cellAt cl_X0_66 (k_X0_cellAt t_r0 h_q4) ⟨⟨Nat.le_of_ble_eq_true rfl, Nat.le_of_ble_eq_true rfl⟩, ⟨rfl, rfl⟩, Nat.le_of_ble_eq_true rfl, Nat.le_of_ble_eq_true rfl⟩ rfl hl.1 rfl (Nat.le_of_ble_eq_true rfl) dX0_beside_56 (fun H locs hR hS hE1 z_q4 => ?_)
    have hf := so_e hf
    subst hf
    exact r_iret C hr hlk hR Ext.rf hS dX0_beside_59
  have hf := it_f hf c7_1
  by_cases c7_2 : x2 = (2 : Int32)
  · have hf := it_t hf c7_2
    refine lv_tableIn (tgt := 60) C.x C.b dX0_beside_14 (by rw [c7_2]; decide) (by rw [c7_2]; decide) (by rw [c7_2]; rfl) (by decide) ?_
    refine lv_aload_n C.x C.b dX0_beside_60 rfl (lv_at hl 2 rfl) ?_
    refine lv_iload_n C.x C.b dX0_beside_61 rfl (lv_at hl 1 rfl) ?_
    refine lv_iload C.x C.b dX0_beside_62 (lv_at hl 0 rfl) ?_
    refine lv_iconst (v := (1 : Int32)) C.x C.b dX0_beside_64 (by decide) ?_
    refine lv_iadd C.x C.b dX0_beside_65 ?_
    obtain ⟨q5, h_q5, hf⟩ := bd_e hf
    refine r_callV (As := [.int q1, .int (q2 + (1 : Int32))]) (rest := []) C hR hS t_r0 rfl mk_X0_cellAt cl_X0_66 (k_X0_cellAt t_r0 h_q5) ⟨⟨Nat.le_of_ble_eq_true rfl, Nat.le_of_ble_eq_true rfl⟩, ⟨rfl, rfl⟩, Nat.le_of_ble_eq_true rfl, Nat.le_of_ble_eq_true rfl⟩ rfl hl.1 rfl (Nat.le_of_ble_eq_true rfl) dX0_beside_66 (fun H locs hR hS hE1 z_q5 => ?_)
    have hf := so_e hf
    subst hf
    exact r_iret C hr hlk hR Ext.rf hS dX0_beside_69
  have hf := it_f hf c7_2
  refine lv_tableOut (tgt := 70) C.x C.b dX0_beside_14 (tb_out 3 (by decide) (fun j hj => match j, hj with | 0, _ => fun q => c7_0 (q.trans (by decide)) | 1, _ => fun q => c7_1 (q.trans (by decide)) | 2, _ => fun q => c7_2 (q.trans (by decide)) | n + 3, hn => absurd hn (by omega))) (by decide) ?_
  refine lv_aload_n C.x C.b dX0_beside_70 rfl (lv_at hl 2 rfl) ?_
  refine lv_iload_n C.x C.b dX0_beside_71 rfl (lv_at hl 1 rfl) ?_
  refine lv_iconst (v := (1 : Int32)) C.x C.b dX0_beside_72 (by decide) ?_
  refine lv_iadd C.x C.b dX0_beside_73 ?_
  refine lv_iload C.x C.b dX0_beside_74 (lv_at hl 0 rfl) ?_
  obtain ⟨q6, h_q6, hf⟩ := bd_e hf
  refine r_callV (As := [.int (q1 + (1 : Int32)), .int q2]) (rest := []) C hR hS t_r0 rfl mk_X0_cellAt cl_X0_66 (k_X0_cellAt t_r0 h_q6) ⟨⟨Nat.le_of_ble_eq_true rfl, Nat.le_of_ble_eq_true rfl⟩, ⟨rfl, rfl⟩, Nat.le_of_ble_eq_true rfl, Nat.le_of_ble_eq_true rfl⟩ rfl hl.1 rfl (Nat.le_of_ble_eq_true rfl) dX0_beside_76 (fun H locs hR hS hE1 z_q6 => ?_)
  have hf := so_e hf
  subst hf
  exact r_iret C hr hlk hR Ext.rf hS dX0_beside_79

def rm_X0_has : Room := { frames := 0, cells := 0, slots := 0, locals := 0 }
set_option maxRecDepth 100000 in
set_option maxHeartbeats 4000000 in
theorem k_X0_has {G : Gt} {l : Launch}  {h : Hp} {r0 : Nat} {x1 : Int32} {out : Int32} (t_r0 : hpT h r0 = (1, 0))  (hf : f_X0_has  h r0 x1 = some out) : Mt G l yX0_has cX0_has 2 (some .boolean) rm_X0_has [.ref (G.2.2 + r0), .int x1] h (some (.int out)) h 1 0 0 := by
  refine r_met (by decide +kernel) (Nat.le_of_ble_eq_true rfl) ?_
  intro p e s m args below meth c ls C hr hlk hnm hR hS hl
  have hl : lv_has ls 2 [(0, .ref (G.2.2 + r0)), (1, .int x1)] := hl
  rw [f_X0_has] at hf
  refine lv_iload_n C.x C.b dX0_has_0 rfl (lv_at hl 1 rfl) ?_
  refine lv_if_lt (tgt := 16) C.x C.b dX0_has_1 (by decide) (fun c1 => ?_) (fun c1 => ?_)
  · have hf := it_t hf c1
    refine lv_iconst (v := (0 : Int32)) C.x C.b dX0_has_16 (by decide) ?_
    have hf := so_e hf
    subst hf
    exact r_zret C hr hlk hR Ext.rf hS z_0 dX0_has_17
  · have hf := it_f hf c1
    refine lv_iload_n C.x C.b dX0_has_4 rfl (lv_at hl 1 rfl) ?_
    refine lv_aload_n C.x C.b dX0_has_5 rfl (lv_at hl 0 rfl) ?_
    refine r_geti C hR t_r0 fl_X0_40 rfl dX0_has_6 ?_
    refine lv_icmp_ge (tgt := 16) C.x C.b dX0_has_9 (by decide) (fun c2 => ?_) (fun c2 => ?_)
    · have hf := it_t hf c2
      refine lv_iconst (v := (0 : Int32)) C.x C.b dX0_has_16 (by decide) ?_
      have hf := so_e hf
      subst hf
      exact r_zret C hr hlk hR Ext.rf hS z_0 dX0_has_17
    · have hf := it_f hf c2
      refine lv_iconst (v := (1 : Int32)) C.x C.b dX0_has_12 (by decide) ?_
      refine lv_goto (tgt := 17) C.x C.b dX0_has_13 (by decide) ?_
      have hf := so_e hf
      subst hf
      exact r_zret C hr hlk hR Ext.rf hS z_1 dX0_has_17

def rm_X0_isOn : Room := { frames := 1, cells := 0, slots := 0, locals := 21 }
set_option maxRecDepth 100000 in
set_option maxHeartbeats 4000000 in
theorem k_X0_isOn {G : Gt} {l : Launch}  {h : Hp} {r0 : Nat} {x1 : Int32} {out : Int32} (t_r0 : hpT h r0 = (1, 0))  (hf : f_X0_isOn  h r0 x1 = some out) : Mt G l yX0_isOn cX0_isOn 2 (some .boolean) rm_X0_isOn [.ref (G.2.2 + r0), .int x1] h (some (.int out)) h 1 0 0 := by
  refine r_met (by decide +kernel) (Nat.le_of_ble_eq_true rfl) ?_
  intro p e s m args below meth c ls C hr hlk hnm hR hS hl
  have hl : lv_has ls 2 [(0, .ref (G.2.2 + r0)), (1, .int x1)] := hl
  rw [f_X0_isOn] at hf
  refine lv_aload_n C.x C.b dX0_isOn_0 rfl (lv_at hl 0 rfl) ?_
  refine lv_iload_n C.x C.b dX0_isOn_1 rfl (lv_at hl 1 rfl) ?_
  obtain ⟨q1, h_q1, hf⟩ := bd_e hf
  refine r_callV (As := [.int x1]) (rest := []) C hR hS t_r0 rfl mk_X0_has cl_X0_70 (k_X0_has t_r0 h_q1) ⟨⟨Nat.le_of_ble_eq_true rfl, Nat.le_of_ble_eq_true rfl⟩, ⟨rfl, rfl⟩, Nat.le_of_ble_eq_true rfl, Nat.le_of_ble_eq_true rfl⟩ rfl hl.1 rfl (Nat.le_of_ble_eq_true rfl) dX0_isOn_2 (fun H locs hR hS hE1 z_q1 => ?_)
  have z_q1 := z_q1 _ rfl
  refine lv_if_eq (tgt := 21) C.x C.b dX0_isOn_5 (by decide) (fun c2 => ?_) (fun c2 => ?_)
  · have hf := it_t hf c2
    refine lv_iconst (v := (0 : Int32)) C.x C.b dX0_isOn_21 (by decide) ?_
    have hf := so_e hf
    subst hf
    exact r_zret C hr hlk hR Ext.rf hS z_0 dX0_isOn_22
  · have hf := it_f hf c2
    refine lv_aload_n C.x C.b dX0_isOn_8 rfl (lv_at hl 0 rfl) ?_
    obtain ⟨g3, hf⟩ := gd_e hf
    refine r_getr C hR t_r0 fl_X0_31 (by decide) (nz_e g3) dX0_isOn_9 (fun tq4 => ?_)
    have tg3 := okA tq4 rfl
    refine lv_iload_n C.x C.b dX0_isOn_12 rfl (lv_at hl 1 rfl) ?_
    obtain ⟨g5, hf⟩ := gd_e hf
    refine r_iald C hR tg3 g5 dX0_isOn_13 ?_
    refine lv_if_le (tgt := 21) C.x C.b dX0_isOn_14 (by decide) (fun c6 => ?_) (fun c6 => ?_)
    · have hf := it_t hf c6
      refine lv_iconst (v := (0 : Int32)) C.x C.b dX0_isOn_21 (by decide) ?_
      have hf := so_e hf
      subst hf
      exact r_zret C hr hlk hR Ext.rf hS z_0 dX0_isOn_22
    · have hf := it_f hf c6
      refine lv_iconst (v := (1 : Int32)) C.x C.b dX0_isOn_17 (by decide) ?_
      refine lv_goto (tgt := 22) C.x C.b dX0_isOn_18 (by decide) ?_
      have hf := so_e hf
      subst hf
      exact r_zret C hr hlk hR Ext.rf hS z_1 dX0_isOn_22

def rm_X0_firstCell : Room := { frames := 1, cells := 0, slots := 0, locals := 23 }
set_option maxRecDepth 100000 in
set_option maxHeartbeats 4000000 in
theorem k_X0_firstCell {G : Gt} {l : Launch}  {h : Hp} {r0 : Nat} {x1 : Int32} {out : Int32} (t_r0 : hpT h r0 = (1, 0))  (hf : f_X0_firstCell  h r0 x1 = some out) : Mt G l yX0_firstCell cX0_firstCell 2 (some .int) rm_X0_firstCell [.ref (G.2.2 + r0), .int x1] h (some (.int out)) h 0 0 0 := by
  refine r_met (by decide +kernel) (Nat.le_of_ble_eq_true rfl) ?_
  intro p e s m args below meth c ls C hr hlk hnm hR hS hl
  have hl : lv_has ls 2 [(0, .ref (G.2.2 + r0)), (1, .int x1)] := hl
  rw [f_X0_firstCell] at hf
  refine lv_aload_n C.x C.b dX0_firstCell_0 rfl (lv_at hl 0 rfl) ?_
  refine lv_iload_n C.x C.b dX0_firstCell_1 rfl (lv_at hl 1 rfl) ?_
  obtain ⟨q1, h_q1, hf⟩ := bd_e hf
  refine r_callV (As := [.int x1]) (rest := []) C hR hS t_r0 rfl mk_X0_has cl_X0_70 (k_X0_has t_r0 h_q1) ⟨⟨Nat.le_of_ble_eq_true rfl, Nat.le_of_ble_eq_true rfl⟩, ⟨rfl, rfl⟩, Nat.le_of_ble_eq_true rfl, Nat.le_of_ble_eq_true rfl⟩ rfl hl.1 rfl (Nat.le_of_ble_eq_true rfl) dX0_firstCell_2 (fun H locs hR hS hE1 z_q1 => ?_)
  have z_q1 := z_q1 _ rfl
  refine lv_if_eq (tgt := 27) C.x C.b dX0_firstCell_5 (by decide) (fun c2 => ?_) (fun c2 => ?_)
  · have hf := it_t hf c2
    refine lv_iconst (v := (-1 : Int32)) C.x C.b dX0_firstCell_27 (by decide) ?_
    have hf := so_e hf
    subst hf
    exact r_iret C hr hlk hR Ext.rf hS dX0_firstCell_28
  · have hf := it_f hf c2
    refine lv_aload_n C.x C.b dX0_firstCell_8 rfl (lv_at hl 0 rfl) ?_
    refine lv_aload_n C.x C.b dX0_firstCell_9 rfl (lv_at hl 0 rfl) ?_
    obtain ⟨g3, hf⟩ := gd_e hf
    refine r_getr C hR t_r0 fl_X0_18 (by decide) (nz_e g3) dX0_firstCell_10 (fun tq4 => ?_)
    have tg3 := okA tq4 rfl
    refine lv_iload_n C.x C.b dX0_firstCell_13 rfl (lv_at hl 1 rfl) ?_
    obtain ⟨g5, hf⟩ := gd_e hf
    refine r_iald C hR tg3 g5 dX0_firstCell_14 ?_
    refine lv_aload_n C.x C.b dX0_firstCell_15 rfl (lv_at hl 0 rfl) ?_
    obtain ⟨g6, hf⟩ := gd_e hf
    refine r_getr C hR t_r0 fl_X0_22 (by decide) (nz_e g6) dX0_firstCell_16 (fun tq7 => ?_)
    have tg6 := okA tq7 rfl
    refine lv_iload_n C.x C.b dX0_firstCell_19 rfl (lv_at hl 1 rfl) ?_
    obtain ⟨g8, hf⟩ := gd_e hf
    refine r_iald C hR tg6 g8 dX0_firstCell_20 ?_
    obtain ⟨q9, h_q9, hf⟩ := bd_e hf
    refine r_callV (As := [.int (hpI h (hpR h r0 5) (ix x1)), .int (hpI h (hpR h r0 6) (ix x1))]) (rest := []) C hR hS t_r0 rfl mk_X0_cellAt cl_X0_66 (k_X0_cellAt t_r0 h_q9) ⟨⟨Nat.le_of_ble_eq_true rfl, Nat.le_of_ble_eq_true rfl⟩, ⟨rfl, rfl⟩, Nat.le_of_ble_eq_true rfl, Nat.le_of_ble_eq_true rfl⟩ rfl hl.1 rfl (Nat.le_of_ble_eq_true rfl) dX0_firstCell_21 (fun H locs hR hS hE1 z_q9 => ?_)
    refine lv_goto (tgt := 28) C.x C.b dX0_firstCell_24 (by decide) ?_
    have hf := so_e hf
    subst hf
    exact r_iret C hr hlk hR Ext.rf hS dX0_firstCell_28

def rm_X0_isOverRow : Room := { frames := 1, cells := 0, slots := 0, locals := 21 }
set_option maxRecDepth 100000 in
set_option maxHeartbeats 4000000 in
theorem k_X0_isOverRow {G : Gt} {l : Launch}  {h : Hp} {r0 : Nat} {x1 : Int32} {x2 : Int32} {out : Int32} (t_r0 : hpT h r0 = (1, 0))  (hf : f_X0_isOverRow  h r0 x1 x2 = some out) : Mt G l yX0_isOverRow cX0_isOverRow 3 (some .boolean) rm_X0_isOverRow [.ref (G.2.2 + r0), .int x1, .int x2] h (some (.int out)) h 1 0 0 := by
  refine r_met (by decide +kernel) (Nat.le_of_ble_eq_true rfl) ?_
  intro p e s m args below meth c ls C hr hlk hnm hR hS hl
  have hl : lv_has ls 3 [(0, .ref (G.2.2 + r0)), (1, .int x1), (2, .int x2)] := hl
  rw [f_X0_isOverRow] at hf
  refine lv_aload_n C.x C.b dX0_isOverRow_0 rfl (lv_at hl 0 rfl) ?_
  refine lv_iload_n C.x C.b dX0_isOverRow_1 rfl (lv_at hl 1 rfl) ?_
  obtain ⟨q1, h_q1, hf⟩ := bd_e hf
  refine r_callV (As := [.int x1]) (rest := []) C hR hS t_r0 rfl mk_X0_has cl_X0_70 (k_X0_has t_r0 h_q1) ⟨⟨Nat.le_of_ble_eq_true rfl, Nat.le_of_ble_eq_true rfl⟩, ⟨rfl, rfl⟩, Nat.le_of_ble_eq_true rfl, Nat.le_of_ble_eq_true rfl⟩ rfl hl.1 rfl (Nat.le_of_ble_eq_true rfl) dX0_isOverRow_2 (fun H locs hR hS hE1 z_q1 => ?_)
  have z_q1 := z_q1 _ rfl
  refine lv_if_eq (tgt := 39) C.x C.b dX0_isOverRow_5 (by decide) (fun c2 => ?_) (fun c2 => ?_)
  · have hf := it_t hf c2
    refine lv_iconst (v := (0 : Int32)) C.x C.b dX0_isOverRow_39 (by decide) ?_
    have hf := so_e hf
    subst hf
    exact r_zret C hr hlk hR Ext.rf hS z_0 dX0_isOverRow_40
  · have hf := it_f hf c2
    refine lv_aload_n C.x C.b dX0_isOverRow_8 rfl (lv_at hl 0 rfl) ?_
    obtain ⟨g3, hf⟩ := gd_e hf
    refine r_getr C hR t_r0 fl_X0_18 (by decide) (nz_e g3) dX0_isOverRow_9 (fun tq4 => ?_)
    have tg3 := okA tq4 rfl
    refine lv_iload_n C.x C.b dX0_isOverRow_12 rfl (lv_at hl 1 rfl) ?_
    obtain ⟨g5, hf⟩ := gd_e hf
    refine r_iald C hR tg3 g5 dX0_isOverRow_13 ?_
    refine lv_iload_n C.x C.b dX0_isOverRow_14 rfl (lv_at hl 2 rfl) ?_
    refine lv_icmp_gt (tgt := 39) C.x C.b dX0_isOverRow_15 (by decide) (fun c6 => ?_) (fun c6 => ?_)
    · have hf := it_t hf c6
      refine lv_iconst (v := (0 : Int32)) C.x C.b dX0_isOverRow_39 (by decide) ?_
      have hf := so_e hf
      subst hf
      exact r_zret C hr hlk hR Ext.rf hS z_0 dX0_isOverRow_40
    · have hf := it_f hf c6
      refine lv_iload_n C.x C.b dX0_isOverRow_18 rfl (lv_at hl 2 rfl) ?_
      refine lv_aload_n C.x C.b dX0_isOverRow_19 rfl (lv_at hl 0 rfl) ?_
      refine r_getr C hR t_r0 fl_X0_18 (by decide) (nz_e g3) dX0_isOverRow_20 (fun tq7 => ?_)
      refine lv_iload_n C.x C.b dX0_isOverRow_23 rfl (lv_at hl 1 rfl) ?_
      obtain ⟨g8, hf⟩ := gd_e hf
      refine r_iald C hR tg3 g8 dX0_isOverRow_24 ?_
      refine lv_aload_n C.x C.b dX0_isOverRow_25 rfl (lv_at hl 0 rfl) ?_
      obtain ⟨g9, hf⟩ := gd_e hf
      refine r_getr C hR t_r0 fl_X0_25 (by decide) (nz_e g9) dX0_isOverRow_26 (fun tq10 => ?_)
      have tg9 := okA tq10 rfl
      refine lv_iload_n C.x C.b dX0_isOverRow_29 rfl (lv_at hl 1 rfl) ?_
      obtain ⟨g11, hf⟩ := gd_e hf
      refine r_iald C hR tg9 g11 dX0_isOverRow_30 ?_
      refine lv_iadd C.x C.b dX0_isOverRow_31 ?_
      refine lv_icmp_ge (tgt := 39) C.x C.b dX0_isOverRow_32 (by decide) (fun c12 => ?_) (fun c12 => ?_)
      · have hf := it_t hf c12
        refine lv_iconst (v := (0 : Int32)) C.x C.b dX0_isOverRow_39 (by decide) ?_
        have hf := so_e hf
        subst hf
        exact r_zret C hr hlk hR Ext.rf hS z_0 dX0_isOverRow_40
      · have hf := it_f hf c12
        refine lv_iconst (v := (1 : Int32)) C.x C.b dX0_isOverRow_35 (by decide) ?_
        refine lv_goto (tgt := 40) C.x C.b dX0_isOverRow_36 (by decide) ?_
        have hf := so_e hf
        subst hf
        exact r_zret C hr hlk hR Ext.rf hS z_1 dX0_isOverRow_40

def rm_X0_isOverColumn : Room := { frames := 1, cells := 0, slots := 0, locals := 21 }
set_option maxRecDepth 100000 in
set_option maxHeartbeats 4000000 in
theorem k_X0_isOverColumn {G : Gt} {l : Launch}  {h : Hp} {r0 : Nat} {x1 : Int32} {x2 : Int32} {out : Int32} (t_r0 : hpT h r0 = (1, 0))  (hf : f_X0_isOverColumn  h r0 x1 x2 = some out) : Mt G l yX0_isOverColumn cX0_isOverColumn 3 (some .boolean) rm_X0_isOverColumn [.ref (G.2.2 + r0), .int x1, .int x2] h (some (.int out)) h 1 0 0 := by
  refine r_met (by decide +kernel) (Nat.le_of_ble_eq_true rfl) ?_
  intro p e s m args below meth c ls C hr hlk hnm hR hS hl
  have hl : lv_has ls 3 [(0, .ref (G.2.2 + r0)), (1, .int x1), (2, .int x2)] := hl
  rw [f_X0_isOverColumn] at hf
  refine lv_aload_n C.x C.b dX0_isOverColumn_0 rfl (lv_at hl 0 rfl) ?_
  refine lv_iload_n C.x C.b dX0_isOverColumn_1 rfl (lv_at hl 1 rfl) ?_
  obtain ⟨q1, h_q1, hf⟩ := bd_e hf
  refine r_callV (As := [.int x1]) (rest := []) C hR hS t_r0 rfl mk_X0_has cl_X0_70 (k_X0_has t_r0 h_q1) ⟨⟨Nat.le_of_ble_eq_true rfl, Nat.le_of_ble_eq_true rfl⟩, ⟨rfl, rfl⟩, Nat.le_of_ble_eq_true rfl, Nat.le_of_ble_eq_true rfl⟩ rfl hl.1 rfl (Nat.le_of_ble_eq_true rfl) dX0_isOverColumn_2 (fun H locs hR hS hE1 z_q1 => ?_)
  have z_q1 := z_q1 _ rfl
  refine lv_if_eq (tgt := 39) C.x C.b dX0_isOverColumn_5 (by decide) (fun c2 => ?_) (fun c2 => ?_)
  · have hf := it_t hf c2
    refine lv_iconst (v := (0 : Int32)) C.x C.b dX0_isOverColumn_39 (by decide) ?_
    have hf := so_e hf
    subst hf
    exact r_zret C hr hlk hR Ext.rf hS z_0 dX0_isOverColumn_40
  · have hf := it_f hf c2
    refine lv_aload_n C.x C.b dX0_isOverColumn_8 rfl (lv_at hl 0 rfl) ?_
    obtain ⟨g3, hf⟩ := gd_e hf
    refine r_getr C hR t_r0 fl_X0_22 (by decide) (nz_e g3) dX0_isOverColumn_9 (fun tq4 => ?_)
    have tg3 := okA tq4 rfl
    refine lv_iload_n C.x C.b dX0_isOverColumn_12 rfl (lv_at hl 1 rfl) ?_
    obtain ⟨g5, hf⟩ := gd_e hf
    refine r_iald C hR tg3 g5 dX0_isOverColumn_13 ?_
    refine lv_iload_n C.x C.b dX0_isOverColumn_14 rfl (lv_at hl 2 rfl) ?_
    refine lv_icmp_gt (tgt := 39) C.x C.b dX0_isOverColumn_15 (by decide) (fun c6 => ?_) (fun c6 => ?_)
    · have hf := it_t hf c6
      refine lv_iconst (v := (0 : Int32)) C.x C.b dX0_isOverColumn_39 (by decide) ?_
      have hf := so_e hf
      subst hf
      exact r_zret C hr hlk hR Ext.rf hS z_0 dX0_isOverColumn_40
    · have hf := it_f hf c6
      refine lv_iload_n C.x C.b dX0_isOverColumn_18 rfl (lv_at hl 2 rfl) ?_
      refine lv_aload_n C.x C.b dX0_isOverColumn_19 rfl (lv_at hl 0 rfl) ?_
      refine r_getr C hR t_r0 fl_X0_22 (by decide) (nz_e g3) dX0_isOverColumn_20 (fun tq7 => ?_)
      refine lv_iload_n C.x C.b dX0_isOverColumn_23 rfl (lv_at hl 1 rfl) ?_
      obtain ⟨g8, hf⟩ := gd_e hf
      refine r_iald C hR tg3 g8 dX0_isOverColumn_24 ?_
      refine lv_aload_n C.x C.b dX0_isOverColumn_25 rfl (lv_at hl 0 rfl) ?_
      obtain ⟨g9, hf⟩ := gd_e hf
      refine r_getr C hR t_r0 fl_X0_28 (by decide) (nz_e g9) dX0_isOverColumn_26 (fun tq10 => ?_)
      have tg9 := okA tq10 rfl
      refine lv_iload_n C.x C.b dX0_isOverColumn_29 rfl (lv_at hl 1 rfl) ?_
      obtain ⟨g11, hf⟩ := gd_e hf
      refine r_iald C hR tg9 g11 dX0_isOverColumn_30 ?_
      refine lv_iadd C.x C.b dX0_isOverColumn_31 ?_
      refine lv_icmp_ge (tgt := 39) C.x C.b dX0_isOverColumn_32 (by decide) (fun c12 => ?_) (fun c12 => ?_)
      · have hf := it_t hf c12
        refine lv_iconst (v := (0 : Int32)) C.x C.b dX0_isOverColumn_39 (by decide) ?_
        have hf := so_e hf
        subst hf
        exact r_zret C hr hlk hR Ext.rf hS z_0 dX0_isOverColumn_40
      · have hf := it_f hf c12
        refine lv_iconst (v := (1 : Int32)) C.x C.b dX0_isOverColumn_35 (by decide) ?_
        refine lv_goto (tgt := 40) C.x C.b dX0_isOverColumn_36 (by decide) ?_
        have hf := so_e hf
        subst hf
        exact r_zret C hr hlk hR Ext.rf hS z_1 dX0_isOverColumn_40

def rm_X0_cellsOf : Room := { frames := 2, cells := 0, slots := 0, locals := 43 }
def P_X0_cellsOf_49 (G : Gt) (l : Launch) (p : Program) (e : Env) (s : State) (m : MethodId) (args : Array Value) (below : List Frame) (meth : Method) (c : Code) (h : Hp) (out : Int64) (r0 : Nat) (x1 : Int32) (k : Int64 → Int32 → Option Int64) : Prop := ∀ (H : Heap) (locs : List Loc) (ls : Array Slot) (y2 : Int64) (x4 : Int32), k y2 x4 = some out → Rel G h H → va_S (AA G.2.2) s.heap H locs → hpT h r0 = (1, 0) → lv_has ls 5 [(0, .ref (G.2.2 + r0)), (1, .int x1), (2, .long y2), (4, .int x4)] → W p l e rm_X0_cellsOf s m args below meth c H locs 0 0 (MQ below (Qm G h h (some (.long out)) 0) args s 0 0 (AA G.2.2)) (F0 m 49 ls [])
def P_X0_cellsOf_5 (G : Gt) (l : Launch) (p : Program) (e : Env) (s : State) (m : MethodId) (args : Array Value) (below : List Frame) (meth : Method) (c : Code) (h : Hp) (out : Int64) (r0 : Nat) (x1 : Int32) (k : Int64 → Int32 → Option Int64) : Prop := ∀ (H : Heap) (locs : List Loc) (ls : Array Slot) (y2 : Int64) (x4 : Int32), k y2 x4 = some out → Rel G h H → va_S (AA G.2.2) s.heap H locs → hpT h r0 = (1, 0) → lv_has ls 5 [(0, .ref (G.2.2 + r0)), (1, .int x1), (2, .long y2), (4, .int x4)] → W p l e rm_X0_cellsOf s m args below meth c H locs 0 0 (MQ below (Qm G h h (some (.long out)) 0) args s 0 0 (AA G.2.2)) (F0 m 5 ls [])
set_option maxRecDepth 100000 in
set_option maxHeartbeats 4000000 in
theorem w_X0_cellsOf_49 {G : Gt} {l : Launch} {p : Program} {e : Env} {s : State} {m : MethodId} {args : Array Value} {below : List Frame} {meth : Method} {c : Code}  {h : Hp} {out : Int64} {r0 : Nat} {x1 : Int32} {k5 : Int64 → Int32 → Option Int64} (C : Cx G p m c cX0_cellsOf 5 s args RX0) (hr : meth.sig.returnType = some .long) (hlk : meth.locks = false)  (hk5 : P_X0_cellsOf_5 G l p e s m args below meth c h out r0 x1 k5) : P_X0_cellsOf_49 G l p e s m args below meth c h out r0 x1 (f_X0_cellsOf_49 h r0 x1 k5) := by
  intro H locs ls y2 x4 hf hR hS t_r0 hl
  rw [f_X0_cellsOf_49] at hf
  obtain ⟨v11, e_v11⟩ : ∃ y : Int32, y = x4 + (1 : Int32) := ⟨_, rfl⟩
  have hf := lt_e hf e_v11
  refine lv_iinc (v := v11) (lv' := [(4, .int v11), (0, .ref (G.2.2 + r0)), (1, .int x1), (2, .long y2)]) C.x C.b dX0_cellsOf_49 hl (k := 3) rfl (by rw [e_v11]; rfl) (by decide) rfl (fun ls hl => ?_)
  refine lv_goto (tgt := 5) C.x C.b dX0_cellsOf_52 (by decide) ?_
  exact hk5 _ _ _ _ _ hf hR hS t_r0 (lv_sub hl [1, 2, 3, 0] rfl)
set_option maxRecDepth 100000 in
set_option maxHeartbeats 4000000 in
theorem w_X0_cellsOf_5 {G : Gt} {l : Launch} {p : Program} {e : Env} {s : State} {m : MethodId} {args : Array Value} {below : List Frame} {meth : Method} {c : Code}  {h : Hp} {out : Int64} {r0 : Nat} {x1 : Int32}  (C : Cx G p m c cX0_cellsOf 5 s args RX0) (hr : meth.sig.returnType = some .long) (hlk : meth.locks = false)   (n : Nat) : P_X0_cellsOf_5 G l p e s m args below meth c h out r0 x1 (f_X0_cellsOf_5 h r0 x1 n) := by
  induction n with
  | zero => intro H locs ls y2 x4 hf hR hS t_r0 hl; cases hf
  | succ n hk5 =>
    intro H locs ls y2 x4 hf hR hS t_r0 hl
    rw [f_X0_cellsOf_5] at hf
    obtain ⟨k5, e_k5⟩ : ∃ y, y = f_X0_cellsOf_5 h r0 x1 n := ⟨_, rfl⟩
    have hf := lt_e hf e_k5
    rw [← e_k5] at hk5
    refine lv_iload C.x C.b dX0_cellsOf_5 (lv_at hl 3 rfl) ?_
    refine lv_aload_n C.x C.b dX0_cellsOf_7 rfl (lv_at hl 0 rfl) ?_
    obtain ⟨q1, h_q1, hf⟩ := bd_e hf
    refine r_callV (As := []) (rest := [.int x4]) C hR hS t_r0 rfl mk_X0_cells cl_X0_55 (k_X0_cells t_r0 h_q1) ⟨⟨Nat.le_of_ble_eq_true rfl, Nat.le_of_ble_eq_true rfl⟩, ⟨rfl, rfl⟩, Nat.le_of_ble_eq_true rfl, Nat.le_of_ble_eq_true rfl⟩ rfl hl.1 rfl (Nat.le_of_ble_eq_true rfl) dX0_cellsOf_8 (fun H locs hR hS hE1 z_q1 => ?_)
    refine lv_icmp_ge (tgt := 55) C.x C.b dX0_cellsOf_11 (by decide) (fun c2 => ?_) (fun c2 => ?_)
    · have hf := it_t hf c2
      refine lv_lload_n C.x C.b dX0_cellsOf_55 rfl (lv_at hl 2 rfl) ?_
      have hf := so_e hf
      subst hf
      exact r_lret C hr hlk hR Ext.rf hS dX0_cellsOf_56
    · have hf := it_f hf c2
      refine lv_aload_n C.x C.b dX0_cellsOf_14 rfl (lv_at hl 0 rfl) ?_
      refine lv_iload_n C.x C.b dX0_cellsOf_15 rfl (lv_at hl 1 rfl) ?_
      refine lv_aload_n C.x C.b dX0_cellsOf_16 rfl (lv_at hl 0 rfl) ?_
      refine lv_iload C.x C.b dX0_cellsOf_17 (lv_at hl 3 rfl) ?_
      obtain ⟨q3, h_q3, hf⟩ := bd_e hf
      refine r_callV (As := [.int x4]) (rest := [.int x1, .ref (G.2.2 + r0)]) C hR hS t_r0 rfl mk_X0_rowOf cl_X0_59 (k_X0_rowOf t_r0 h_q3) ⟨⟨Nat.le_of_ble_eq_true rfl, Nat.le_of_ble_eq_true rfl⟩, ⟨rfl, rfl⟩, Nat.le_of_ble_eq_true rfl, Nat.le_of_ble_eq_true rfl⟩ rfl hl.1 rfl (Nat.le_of_ble_eq_true rfl) dX0_cellsOf_19 (fun H locs hR hS hE1 z_q3 => ?_)
      obtain ⟨q4, h_q4, hf⟩ := bd_e hf
      refine r_callV (As := [.int x1, .int q3]) (rest := []) C hR hS t_r0 rfl mk_X0_isOverRow cl_X0_74 (k_X0_isOverRow t_r0 h_q4) ⟨⟨Nat.le_of_ble_eq_true rfl, Nat.le_of_ble_eq_true rfl⟩, ⟨rfl, rfl⟩, Nat.le_of_ble_eq_true rfl, Nat.le_of_ble_eq_true rfl⟩ rfl hl.1 rfl (Nat.le_of_ble_eq_true rfl) dX0_cellsOf_22 (fun H locs hR hS hE1 z_q4 => ?_)
      have z_q4 := z_q4 _ rfl
      refine lv_if_eq (tgt := 49) C.x C.b dX0_cellsOf_25 (by decide) (fun c5 => ?_) (fun c5 => ?_)
      · have hf := it_t hf c5
        exact w_X0_cellsOf_49 C hr hlk hk5 _ _ _ _ _ hf hR hS t_r0 (lv_sub hl [0, 1, 2, 3] rfl)
      · have hf := it_f hf c5
        refine lv_aload_n C.x C.b dX0_cellsOf_28 rfl (lv_at hl 0 rfl) ?_
        refine lv_iload_n C.x C.b dX0_cellsOf_29 rfl (lv_at hl 1 rfl) ?_
        refine lv_aload_n C.x C.b dX0_cellsOf_30 rfl (lv_at hl 0 rfl) ?_
        refine lv_iload C.x C.b dX0_cellsOf_31 (lv_at hl 3 rfl) ?_
        obtain ⟨q6, h_q6, hf⟩ := bd_e hf
        refine r_callV (As := [.int x4]) (rest := [.int x1, .ref (G.2.2 + r0)]) C hR hS t_r0 rfl mk_X0_columnOf cl_X0_63 (k_X0_columnOf t_r0 h_q6) ⟨⟨Nat.le_of_ble_eq_true rfl, Nat.le_of_ble_eq_true rfl⟩, ⟨rfl, rfl⟩, Nat.le_of_ble_eq_true rfl, Nat.le_of_ble_eq_true rfl⟩ rfl hl.1 rfl (Nat.le_of_ble_eq_true rfl) dX0_cellsOf_33 (fun H locs hR hS hE1 z_q6 => ?_)
        obtain ⟨q7, h_q7, hf⟩ := bd_e hf
        refine r_callV (As := [.int x1, .int q6]) (rest := []) C hR hS t_r0 rfl mk_X0_isOverColumn cl_X0_78 (k_X0_isOverColumn t_r0 h_q7) ⟨⟨Nat.le_of_ble_eq_true rfl, Nat.le_of_ble_eq_true rfl⟩, ⟨rfl, rfl⟩, Nat.le_of_ble_eq_true rfl, Nat.le_of_ble_eq_true rfl⟩ rfl hl.1 rfl (Nat.le_of_ble_eq_true rfl) dX0_cellsOf_36 (fun H locs hR hS hE1 z_q7 => ?_)
        have z_q7 := z_q7 _ rfl
        refine lv_if_eq (tgt := 49) C.x C.b dX0_cellsOf_39 (by decide) (fun c8 => ?_) (fun c8 => ?_)
        · have hf := it_t hf c8
          exact w_X0_cellsOf_49 C hr hlk hk5 _ _ _ _ _ hf hR hS t_r0 (lv_sub hl [0, 1, 2, 3] rfl)
        · have hf := it_f hf c8
          refine lv_lload_n C.x C.b dX0_cellsOf_42 rfl (lv_at hl 2 rfl) ?_
          refine lv_lconst (v := (1 : Int64)) C.x C.b dX0_cellsOf_43 (by decide) ?_
          refine lv_iload C.x C.b dX0_cellsOf_44 (lv_at hl 3 rfl) ?_
          refine lv_lshl C.x C.b dX0_cellsOf_46 rfl ?_
          refine lv_topl (fun v9 e_v9 => ?_)
          have hf := lt_e hf e_v9
          refine lv_lor C.x C.b dX0_cellsOf_47 ?_
          refine lv_topl (fun v10 e_v10 => ?_)
          have hf := lt_e hf e_v10
          refine lv_lstore_n (lv' := [(2, .long v10), (0, .ref (G.2.2 + r0)), (1, .int x1), (4, .int x4)]) C.x C.b dX0_cellsOf_48 rfl hl (by decide) rfl (fun ls hl => ?_)
          exact w_X0_cellsOf_49 C hr hlk hk5 _ _ _ _ _ hf hR hS t_r0 (lv_sub hl [1, 2, 0, 3] rfl)
set_option maxRecDepth 100000 in
set_option maxHeartbeats 4000000 in
theorem k_X0_cellsOf {G : Gt} {l : Launch}  {h : Hp} {r0 : Nat} {x1 : Int32} {out : Int64} (t_r0 : hpT h r0 = (1, 0))  (hf : f_X0_cellsOf  h r0 x1 = some out) : Mt G l yX0_cellsOf cX0_cellsOf 5 (some .long) rm_X0_cellsOf [.ref (G.2.2 + r0), .int x1] h (some (.long out)) h 0 0 0 := by
  refine r_met (by decide +kernel) (Nat.le_of_ble_eq_true rfl) ?_
  intro p e s m args below meth c ls C hr hlk hnm hR hS hl
  have hl : lv_has ls 5 [(0, .ref (G.2.2 + r0)), (1, .int x1)] := hl
  rw [f_X0_cellsOf] at hf
  refine lv_lconst (v := (0 : Int64)) C.x C.b dX0_cellsOf_0 (by decide) ?_
  refine lv_lstore_n (lv' := [(2, .long (0 : Int64)), (0, .ref (G.2.2 + r0)), (1, .int x1)]) C.x C.b dX0_cellsOf_1 rfl hl (by decide) rfl (fun ls hl => ?_)
  refine lv_iconst (v := (0 : Int32)) C.x C.b dX0_cellsOf_2 (by decide) ?_
  refine lv_istore (lv' := [(4, .int (0 : Int32)), (2, .long (0 : Int64)), (0, .ref (G.2.2 + r0)), (1, .int x1)]) C.x C.b dX0_cellsOf_3 hl (by decide) rfl (fun ls hl => ?_)
  exact w_X0_cellsOf_5 C hr hlk FU _ _ _ _ _ hf hR hS t_r0 (lv_sub hl [2, 3, 1, 0] rfl)

def rm_X0_cross : Room := { frames := 0, cells := 0, slots := 0, locals := 0 }
set_option maxRecDepth 100000 in
set_option maxHeartbeats 4000000 in
theorem k_X0_cross {G : Gt} {l : Launch}  {h : Hp} {r0 : Nat} {x1 : Int32} {x2 : Int32} {out : Int32} (t_r0 : hpT h r0 = (1, 0))  (hf : f_X0_cross  h r0 x1 x2 = some out) : Mt G l yX0_cross cX0_cross 3 (some .boolean) rm_X0_cross [.ref (G.2.2 + r0), .int x1, .int x2] h (some (.int out)) h 1 0 0 := by
  refine r_met (by decide +kernel) (Nat.le_of_ble_eq_true rfl) ?_
  intro p e s m args below meth c ls C hr hlk hnm hR hS hl
  have hl : lv_has ls 3 [(0, .ref (G.2.2 + r0)), (1, .int x1), (2, .int x2)] := hl
  rw [f_X0_cross] at hf
  refine lv_aload_n C.x C.b dX0_cross_0 rfl (lv_at hl 0 rfl) ?_
  obtain ⟨g1, hf⟩ := gd_e hf
  refine r_getr C hR t_r0 fl_X0_31 (by decide) (nz_e g1) dX0_cross_1 (fun tq2 => ?_)
  have tg1 := okA tq2 rfl
  refine lv_iload_n C.x C.b dX0_cross_4 rfl (lv_at hl 1 rfl) ?_
  obtain ⟨g3, hf⟩ := gd_e hf
  refine r_iald C hR tg1 g3 dX0_cross_5 ?_
  refine lv_if_le (tgt := 110) C.x C.b dX0_cross_6 (by decide) (fun c4 => ?_) (fun c4 => ?_)
  · have hf := it_t hf c4
    refine lv_iconst (v := (0 : Int32)) C.x C.b dX0_cross_110 (by decide) ?_
    have hf := so_e hf
    subst hf
    exact r_zret C hr hlk hR Ext.rf hS z_0 dX0_cross_111
  · have hf := it_f hf c4
    refine lv_aload_n C.x C.b dX0_cross_9 rfl (lv_at hl 0 rfl) ?_
    refine r_getr C hR t_r0 fl_X0_31 (by decide) (nz_e g1) dX0_cross_10 (fun tq5 => ?_)
    refine lv_iload_n C.x C.b dX0_cross_13 rfl (lv_at hl 2 rfl) ?_
    obtain ⟨g6, hf⟩ := gd_e hf
    refine r_iald C hR tg1 g6 dX0_cross_14 ?_
    refine lv_if_le (tgt := 110) C.x C.b dX0_cross_15 (by decide) (fun c7 => ?_) (fun c7 => ?_)
    · have hf := it_t hf c7
      refine lv_iconst (v := (0 : Int32)) C.x C.b dX0_cross_110 (by decide) ?_
      have hf := so_e hf
      subst hf
      exact r_zret C hr hlk hR Ext.rf hS z_0 dX0_cross_111
    · have hf := it_f hf c7
      refine lv_aload_n C.x C.b dX0_cross_18 rfl (lv_at hl 0 rfl) ?_
      obtain ⟨g8, hf⟩ := gd_e hf
      refine r_getr C hR t_r0 fl_X0_18 (by decide) (nz_e g8) dX0_cross_19 (fun tq9 => ?_)
      have tg8 := okA tq9 rfl
      refine lv_iload_n C.x C.b dX0_cross_22 rfl (lv_at hl 1 rfl) ?_
      obtain ⟨g10, hf⟩ := gd_e hf
      refine r_iald C hR tg8 g10 dX0_cross_23 ?_
      refine lv_aload_n C.x C.b dX0_cross_24 rfl (lv_at hl 0 rfl) ?_
      refine r_getr C hR t_r0 fl_X0_18 (by decide) (nz_e g8) dX0_cross_25 (fun tq11 => ?_)
      refine lv_iload_n C.x C.b dX0_cross_28 rfl (lv_at hl 2 rfl) ?_
      obtain ⟨g12, hf⟩ := gd_e hf
      refine r_iald C hR tg8 g12 dX0_cross_29 ?_
      refine lv_aload_n C.x C.b dX0_cross_30 rfl (lv_at hl 0 rfl) ?_
      obtain ⟨g13, hf⟩ := gd_e hf
      refine r_getr C hR t_r0 fl_X0_25 (by decide) (nz_e g13) dX0_cross_31 (fun tq14 => ?_)
      have tg13 := okA tq14 rfl
      refine lv_iload_n C.x C.b dX0_cross_34 rfl (lv_at hl 2 rfl) ?_
      obtain ⟨g15, hf⟩ := gd_e hf
      refine r_iald C hR tg13 g15 dX0_cross_35 ?_
      refine lv_iadd C.x C.b dX0_cross_36 ?_
      refine lv_icmp_ge (tgt := 110) C.x C.b dX0_cross_37 (by decide) (fun c16 => ?_) (fun c16 => ?_)
      · have hf := it_t hf c16
        refine lv_iconst (v := (0 : Int32)) C.x C.b dX0_cross_110 (by decide) ?_
        have hf := so_e hf
        subst hf
        exact r_zret C hr hlk hR Ext.rf hS z_0 dX0_cross_111
      · have hf := it_f hf c16
        refine lv_aload_n C.x C.b dX0_cross_40 rfl (lv_at hl 0 rfl) ?_
        refine r_getr C hR t_r0 fl_X0_18 (by decide) (nz_e g8) dX0_cross_41 (fun tq17 => ?_)
        refine lv_iload_n C.x C.b dX0_cross_44 rfl (lv_at hl 2 rfl) ?_
        obtain ⟨g18, hf⟩ := gd_e hf
        refine r_iald C hR tg8 g18 dX0_cross_45 ?_
        refine lv_aload_n C.x C.b dX0_cross_46 rfl (lv_at hl 0 rfl) ?_
        refine r_getr C hR t_r0 fl_X0_18 (by decide) (nz_e g8) dX0_cross_47 (fun tq19 => ?_)
        refine lv_iload_n C.x C.b dX0_cross_50 rfl (lv_at hl 1 rfl) ?_
        obtain ⟨g20, hf⟩ := gd_e hf
        refine r_iald C hR tg8 g20 dX0_cross_51 ?_
        refine lv_aload_n C.x C.b dX0_cross_52 rfl (lv_at hl 0 rfl) ?_
        refine r_getr C hR t_r0 fl_X0_25 (by decide) (nz_e g13) dX0_cross_53 (fun tq21 => ?_)
        refine lv_iload_n C.x C.b dX0_cross_56 rfl (lv_at hl 1 rfl) ?_
        obtain ⟨g22, hf⟩ := gd_e hf
        refine r_iald C hR tg13 g22 dX0_cross_57 ?_
        refine lv_iadd C.x C.b dX0_cross_58 ?_
        refine lv_icmp_ge (tgt := 110) C.x C.b dX0_cross_59 (by decide) (fun c23 => ?_) (fun c23 => ?_)
        · have hf := it_t hf c23
          refine lv_iconst (v := (0 : Int32)) C.x C.b dX0_cross_110 (by decide) ?_
          have hf := so_e hf
          subst hf
          exact r_zret C hr hlk hR Ext.rf hS z_0 dX0_cross_111
        · have hf := it_f hf c23
          refine lv_aload_n C.x C.b dX0_cross_62 rfl (lv_at hl 0 rfl) ?_
          obtain ⟨g24, hf⟩ := gd_e hf
          refine r_getr C hR t_r0 fl_X0_22 (by decide) (nz_e g24) dX0_cross_63 (fun tq25 => ?_)
          have tg24 := okA tq25 rfl
          refine lv_iload_n C.x C.b dX0_cross_66 rfl (lv_at hl 1 rfl) ?_
          obtain ⟨g26, hf⟩ := gd_e hf
          refine r_iald C hR tg24 g26 dX0_cross_67 ?_
          refine lv_aload_n C.x C.b dX0_cross_68 rfl (lv_at hl 0 rfl) ?_
          refine r_getr C hR t_r0 fl_X0_22 (by decide) (nz_e g24) dX0_cross_69 (fun tq27 => ?_)
          refine lv_iload_n C.x C.b dX0_cross_72 rfl (lv_at hl 2 rfl) ?_
          obtain ⟨g28, hf⟩ := gd_e hf
          refine r_iald C hR tg24 g28 dX0_cross_73 ?_
          refine lv_aload_n C.x C.b dX0_cross_74 rfl (lv_at hl 0 rfl) ?_
          obtain ⟨g29, hf⟩ := gd_e hf
          refine r_getr C hR t_r0 fl_X0_28 (by decide) (nz_e g29) dX0_cross_75 (fun tq30 => ?_)
          have tg29 := okA tq30 rfl
          refine lv_iload_n C.x C.b dX0_cross_78 rfl (lv_at hl 2 rfl) ?_
          obtain ⟨g31, hf⟩ := gd_e hf
          refine r_iald C hR tg29 g31 dX0_cross_79 ?_
          refine lv_iadd C.x C.b dX0_cross_80 ?_
          refine lv_icmp_ge (tgt := 110) C.x C.b dX0_cross_81 (by decide) (fun c32 => ?_) (fun c32 => ?_)
          · have hf := it_t hf c32
            refine lv_iconst (v := (0 : Int32)) C.x C.b dX0_cross_110 (by decide) ?_
            have hf := so_e hf
            subst hf
            exact r_zret C hr hlk hR Ext.rf hS z_0 dX0_cross_111
          · have hf := it_f hf c32
            refine lv_aload_n C.x C.b dX0_cross_84 rfl (lv_at hl 0 rfl) ?_
            refine r_getr C hR t_r0 fl_X0_22 (by decide) (nz_e g24) dX0_cross_85 (fun tq33 => ?_)
            refine lv_iload_n C.x C.b dX0_cross_88 rfl (lv_at hl 2 rfl) ?_
            obtain ⟨g34, hf⟩ := gd_e hf
            refine r_iald C hR tg24 g34 dX0_cross_89 ?_
            refine lv_aload_n C.x C.b dX0_cross_90 rfl (lv_at hl 0 rfl) ?_
            refine r_getr C hR t_r0 fl_X0_22 (by decide) (nz_e g24) dX0_cross_91 (fun tq35 => ?_)
            refine lv_iload_n C.x C.b dX0_cross_94 rfl (lv_at hl 1 rfl) ?_
            obtain ⟨g36, hf⟩ := gd_e hf
            refine r_iald C hR tg24 g36 dX0_cross_95 ?_
            refine lv_aload_n C.x C.b dX0_cross_96 rfl (lv_at hl 0 rfl) ?_
            refine r_getr C hR t_r0 fl_X0_28 (by decide) (nz_e g29) dX0_cross_97 (fun tq37 => ?_)
            refine lv_iload_n C.x C.b dX0_cross_100 rfl (lv_at hl 1 rfl) ?_
            obtain ⟨g38, hf⟩ := gd_e hf
            refine r_iald C hR tg29 g38 dX0_cross_101 ?_
            refine lv_iadd C.x C.b dX0_cross_102 ?_
            refine lv_icmp_ge (tgt := 110) C.x C.b dX0_cross_103 (by decide) (fun c39 => ?_) (fun c39 => ?_)
            · have hf := it_t hf c39
              refine lv_iconst (v := (0 : Int32)) C.x C.b dX0_cross_110 (by decide) ?_
              have hf := so_e hf
              subst hf
              exact r_zret C hr hlk hR Ext.rf hS z_0 dX0_cross_111
            · have hf := it_f hf c39
              refine lv_iconst (v := (1 : Int32)) C.x C.b dX0_cross_106 (by decide) ?_
              refine lv_goto (tgt := 111) C.x C.b dX0_cross_107 (by decide) ?_
              have hf := so_e hf
              subst hf
              exact r_zret C hr hlk hR Ext.rf hS z_1 dX0_cross_111

def rm_X0_crossedBy : Room := { frames := 1, cells := 0, slots := 0, locals := 22 }
def P_X0_crossedBy_42 (G : Gt) (l : Launch) (p : Program) (e : Env) (s : State) (m : MethodId) (args : Array Value) (below : List Frame) (meth : Method) (c : Code) (h : Hp) (out : Int32) (r0 : Nat) (x1 : Int32) (k : Int32 → Int32 → Option Int32) : Prop := ∀ (H : Heap) (locs : List Loc) (ls : Array Slot) (x2 : Int32) (x3 : Int32), k x2 x3 = some out → Rel G h H → va_S (AA G.2.2) s.heap H locs → hpT h r0 = (1, 0) → lv_has ls 4 [(0, .ref (G.2.2 + r0)), (1, .int x1), (2, .int x2), (3, .int x3)] → W p l e rm_X0_crossedBy s m args below meth c H locs 0 0 (MQ below (Qm G h h (some (.int out)) 0) args s 0 0 (AA G.2.2)) (F0 m 42 ls [])
def P_X0_crossedBy_14 (G : Gt) (l : Launch) (p : Program) (e : Env) (s : State) (m : MethodId) (args : Array Value) (below : List Frame) (meth : Method) (c : Code) (h : Hp) (out : Int32) (r0 : Nat) (x1 : Int32) (k : Int32 → Int32 → Option Int32) : Prop := ∀ (H : Heap) (locs : List Loc) (ls : Array Slot) (x2 : Int32) (x3 : Int32), k x2 x3 = some out → Rel G h H → va_S (AA G.2.2) s.heap H locs → hpT h r0 = (1, 0) → lv_has ls 4 [(0, .ref (G.2.2 + r0)), (1, .int x1), (2, .int x2), (3, .int x3)] → W p l e rm_X0_crossedBy s m args below meth c H locs 0 0 (MQ below (Qm G h h (some (.int out)) 0) args s 0 0 (AA G.2.2)) (F0 m 14 ls [])
set_option maxRecDepth 100000 in
set_option maxHeartbeats 4000000 in
theorem w_X0_crossedBy_42 {G : Gt} {l : Launch} {p : Program} {e : Env} {s : State} {m : MethodId} {args : Array Value} {below : List Frame} {meth : Method} {c : Code}  {h : Hp} {out : Int32} {r0 : Nat} {x1 : Int32} {k14 : Int32 → Int32 → Option Int32} (C : Cx G p m c cX0_crossedBy 4 s args RX0) (hr : meth.sig.returnType = some .int) (hlk : meth.locks = false)  (hk14 : P_X0_crossedBy_14 G l p e s m args below meth c h out r0 x1 k14) : P_X0_crossedBy_42 G l p e s m args below meth c h out r0 x1 (f_X0_crossedBy_42 h r0 x1 k14) := by
  intro H locs ls x2 x3 hf hR hS t_r0 hl
  rw [f_X0_crossedBy_42] at hf
  obtain ⟨v9, e_v9⟩ : ∃ y : Int32, y = x3 + (1 : Int32) := ⟨_, rfl⟩
  have hf := lt_e hf e_v9
  refine lv_iinc (v := v9) (lv' := [(3, .int v9), (0, .ref (G.2.2 + r0)), (1, .int x1), (2, .int x2)]) C.x C.b dX0_crossedBy_42 hl (k := 3) rfl (by rw [e_v9]; rfl) (by decide) rfl (fun ls hl => ?_)
  refine lv_goto (tgt := 14) C.x C.b dX0_crossedBy_45 (by decide) ?_
  exact hk14 _ _ _ _ _ hf hR hS t_r0 (lv_sub hl [1, 2, 3, 0] rfl)
set_option maxRecDepth 100000 in
set_option maxHeartbeats 4000000 in
theorem w_X0_crossedBy_14 {G : Gt} {l : Launch} {p : Program} {e : Env} {s : State} {m : MethodId} {args : Array Value} {below : List Frame} {meth : Method} {c : Code}  {h : Hp} {out : Int32} {r0 : Nat} {x1 : Int32}  (C : Cx G p m c cX0_crossedBy 4 s args RX0) (hr : meth.sig.returnType = some .int) (hlk : meth.locks = false)   (n : Nat) : P_X0_crossedBy_14 G l p e s m args below meth c h out r0 x1 (f_X0_crossedBy_14 h r0 x1 n) := by
  induction n with
  | zero => intro H locs ls x2 x3 hf hR hS t_r0 hl; cases hf
  | succ n hk14 =>
    intro H locs ls x2 x3 hf hR hS t_r0 hl
    rw [f_X0_crossedBy_14] at hf
    obtain ⟨k14, e_k14⟩ : ∃ y, y = f_X0_crossedBy_14 h r0 x1 n := ⟨_, rfl⟩
    have hf := lt_e hf e_k14
    rw [← e_k14] at hk14
    refine lv_iload_n C.x C.b dX0_crossedBy_14 rfl (lv_at hl 3 rfl) ?_
    refine lv_aload_n C.x C.b dX0_crossedBy_15 rfl (lv_at hl 0 rfl) ?_
    refine r_geti C hR t_r0 fl_X0_40 rfl dX0_crossedBy_16 ?_
    refine lv_icmp_ge (tgt := 48) C.x C.b dX0_crossedBy_19 (by decide) (fun c3 => ?_) (fun c3 => ?_)
    · have hf := it_t hf c3
      refine lv_iload_n C.x C.b dX0_crossedBy_48 rfl (lv_at hl 2 rfl) ?_
      have hf := so_e hf
      subst hf
      exact r_iret C hr hlk hR Ext.rf hS dX0_crossedBy_49
    · have hf := it_f hf c3
      refine lv_iload_n C.x C.b dX0_crossedBy_22 rfl (lv_at hl 3 rfl) ?_
      refine lv_iload_n C.x C.b dX0_crossedBy_23 rfl (lv_at hl 1 rfl) ?_
      refine lv_icmp_eq (tgt := 42) C.x C.b dX0_crossedBy_24 (by decide) (fun c4 => ?_) (fun c4 => ?_)
      · have hf := it_t hf c4
        exact w_X0_crossedBy_42 C hr hlk hk14 _ _ _ _ _ hf hR hS t_r0 (lv_sub hl [0, 1, 2, 3] rfl)
      · have hf := it_f hf c4
        refine lv_aload_n C.x C.b dX0_crossedBy_27 rfl (lv_at hl 0 rfl) ?_
        refine lv_iload_n C.x C.b dX0_crossedBy_28 rfl (lv_at hl 1 rfl) ?_
        refine lv_iload_n C.x C.b dX0_crossedBy_29 rfl (lv_at hl 3 rfl) ?_
        obtain ⟨q5, h_q5, hf⟩ := bd_e hf
        refine r_callV (As := [.int x1, .int x3]) (rest := []) C hR hS t_r0 rfl mk_X0_cross cl_X0_81 (k_X0_cross t_r0 h_q5) ⟨⟨Nat.le_of_ble_eq_true rfl, Nat.le_of_ble_eq_true rfl⟩, ⟨rfl, rfl⟩, Nat.le_of_ble_eq_true rfl, Nat.le_of_ble_eq_true rfl⟩ rfl hl.1 rfl (Nat.le_of_ble_eq_true rfl) dX0_crossedBy_30 (fun H locs hR hS hE1 z_q5 => ?_)
        have z_q5 := z_q5 _ rfl
        refine lv_if_eq (tgt := 42) C.x C.b dX0_crossedBy_33 (by decide) (fun c6 => ?_) (fun c6 => ?_)
        · have hf := it_t hf c6
          exact w_X0_crossedBy_42 C hr hlk hk14 _ _ _ _ _ hf hR hS t_r0 (lv_sub hl [0, 1, 2, 3] rfl)
        · have hf := it_f hf c6
          refine lv_iload_n C.x C.b dX0_crossedBy_36 rfl (lv_at hl 2 rfl) ?_
          refine lv_iconst (v := (1 : Int32)) C.x C.b dX0_crossedBy_37 (by decide) ?_
          refine lv_iload_n C.x C.b dX0_crossedBy_38 rfl (lv_at hl 3 rfl) ?_
          refine lv_ishl C.x C.b dX0_crossedBy_39 ?_
          refine lv_topi (fun v7 e_v7 => ?_)
          have hf := lt_e hf e_v7
          refine lv_ior C.x C.b dX0_crossedBy_40 ?_
          refine lv_topi (fun v8 e_v8 => ?_)
          have hf := lt_e hf e_v8
          refine lv_istore_n (lv' := [(2, .int v8), (0, .ref (G.2.2 + r0)), (1, .int x1), (3, .int x3)]) C.x C.b dX0_crossedBy_41 rfl hl (by decide) rfl (fun ls hl => ?_)
          exact w_X0_crossedBy_42 C hr hlk hk14 _ _ _ _ _ hf hR hS t_r0 (lv_sub hl [1, 2, 0, 3] rfl)
set_option maxRecDepth 100000 in
set_option maxHeartbeats 4000000 in
theorem k_X0_crossedBy {G : Gt} {l : Launch}  {h : Hp} {r0 : Nat} {x1 : Int32} {out : Int32} (t_r0 : hpT h r0 = (1, 0))  (hf : f_X0_crossedBy  h r0 x1 = some out) : Mt G l yX0_crossedBy cX0_crossedBy 4 (some .int) rm_X0_crossedBy [.ref (G.2.2 + r0), .int x1] h (some (.int out)) h 0 0 0 := by
  refine r_met (by decide +kernel) (Nat.le_of_ble_eq_true rfl) ?_
  intro p e s m args below meth c ls C hr hlk hnm hR hS hl
  have hl : lv_has ls 4 [(0, .ref (G.2.2 + r0)), (1, .int x1)] := hl
  rw [f_X0_crossedBy] at hf
  refine lv_aload_n C.x C.b dX0_crossedBy_0 rfl (lv_at hl 0 rfl) ?_
  refine lv_iload_n C.x C.b dX0_crossedBy_1 rfl (lv_at hl 1 rfl) ?_
  obtain ⟨q1, h_q1, hf⟩ := bd_e hf
  refine r_callV (As := [.int x1]) (rest := []) C hR hS t_r0 rfl mk_X0_has cl_X0_70 (k_X0_has t_r0 h_q1) ⟨⟨Nat.le_of_ble_eq_true rfl, Nat.le_of_ble_eq_true rfl⟩, ⟨rfl, rfl⟩, Nat.le_of_ble_eq_true rfl, Nat.le_of_ble_eq_true rfl⟩ rfl hl.1 rfl (Nat.le_of_ble_eq_true rfl) dX0_crossedBy_2 (fun H locs hR hS hE1 z_q1 => ?_)
  have z_q1 := z_q1 _ rfl
  refine lv_if_ne (tgt := 10) C.x C.b dX0_crossedBy_5 (by decide) (fun c2 => ?_) (fun c2 => ?_)
  · have hf := it_f hf c2
    refine lv_iconst (v := (0 : Int32)) C.x C.b dX0_crossedBy_10 (by decide) ?_
    refine lv_istore_n (lv' := [(2, .int (0 : Int32)), (0, .ref (G.2.2 + r0)), (1, .int x1)]) C.x C.b dX0_crossedBy_11 rfl hl (by decide) rfl (fun ls hl => ?_)
    refine lv_iconst (v := (0 : Int32)) C.x C.b dX0_crossedBy_12 (by decide) ?_
    refine lv_istore_n (lv' := [(3, .int (0 : Int32)), (2, .int (0 : Int32)), (0, .ref (G.2.2 + r0)), (1, .int x1)]) C.x C.b dX0_crossedBy_13 rfl hl (by decide) rfl (fun ls hl => ?_)
    exact w_X0_crossedBy_14 C hr hlk FU _ _ _ _ _ hf hR hS t_r0 (lv_sub hl [2, 3, 1, 0] rfl)
  · have hf := it_t hf c2
    refine lv_iconst (v := (0 : Int32)) C.x C.b dX0_crossedBy_8 (by decide) ?_
    have hf := so_e hf
    subst hf
    exact r_iret C hr hlk hR Ext.rf hS dX0_crossedBy_9

def rm_X9_isIn : Room := { frames := 0, cells := 0, slots := 0, locals := 0 }
set_option maxRecDepth 100000 in
set_option maxHeartbeats 4000000 in
theorem k_X9_isIn {G : Gt} {l : Launch}  {h : Hp} {x0 : Int32} {x1 : Int32} {out : Int32}   (hf : f_X9_isIn  h x0 x1 = some out) : Mt G l yX9_isIn cX9_isIn 2 (some .boolean) rm_X9_isIn [.int x0, .int x1] h (some (.int out)) h 1 0 0 := by
  refine r_met (by decide +kernel) (Nat.le_of_ble_eq_true rfl) ?_
  intro p e s m args below meth c ls C hr hlk hnm hR hS hl
  have hl : lv_has ls 2 [(0, .int x0), (1, .int x1)] := hl
  rw [f_X9_isIn] at hf
  refine lv_iload_n C.x C.b dX9_isIn_0 rfl (lv_at hl 0 rfl) ?_
  refine lv_iload_n C.x C.b dX9_isIn_1 rfl (lv_at hl 1 rfl) ?_
  refine lv_ishr C.x C.b dX9_isIn_2 ?_
  refine lv_topi (fun v1 e_v1 => ?_)
  have hf := lt_e hf e_v1
  refine lv_iconst (v := (1 : Int32)) C.x C.b dX9_isIn_3 (by decide) ?_
  refine lv_iand C.x C.b dX9_isIn_4 ?_
  refine lv_if_eq (tgt := 12) C.x C.b dX9_isIn_5 (by decide) (fun c2 => ?_) (fun c2 => ?_)
  · have hf := it_t hf c2
    refine lv_iconst (v := (0 : Int32)) C.x C.b dX9_isIn_12 (by decide) ?_
    have hf := so_e hf
    subst hf
    exact r_zret C hr hlk hR Ext.rf hS z_0 dX9_isIn_13
  · have hf := it_f hf c2
    refine lv_iconst (v := (1 : Int32)) C.x C.b dX9_isIn_8 (by decide) ?_
    refine lv_goto (tgt := 13) C.x C.b dX9_isIn_9 (by decide) ?_
    have hf := so_e hf
    subst hf
    exact r_zret C hr hlk hR Ext.rf hS z_1 dX9_isIn_13

def rm_X0_hangTogether : Room := { frames := 2, cells := 0, slots := 0, locals := 45 }
def P_X0_hangTogether_44 (G : Gt) (l : Launch) (p : Program) (e : Env) (s : State) (m : MethodId) (args : Array Value) (below : List Frame) (meth : Method) (c : Code) (h : Hp) (out : Int32) (r0 : Nat) (x1 : Int32) (k : Int32 → Int32 → Int32 → Option Int32) : Prop := ∀ (H : Heap) (locs : List Loc) (ls : Array Slot) (x2 : Int32) (x3 : Int32) (x4 : Int32), k x2 x3 x4 = some out → Rel G h H → va_S (AA G.2.2) s.heap H locs → hpT h r0 = (1, 0) → lv_has ls 5 [(0, .ref (G.2.2 + r0)), (1, .int x1), (2, .int x2), (3, .int x3), (4, .int x4)] → W p l e rm_X0_hangTogether s m args below meth c H locs 0 0 (MQ below (Qm G h h (some (.int out)) 0) args s 0 0 (AA G.2.2)) (F0 m 44 ls [])
def P_X0_hangTogether_17 (G : Gt) (l : Launch) (p : Program) (e : Env) (s : State) (m : MethodId) (args : Array Value) (below : List Frame) (meth : Method) (c : Code) (h : Hp) (out : Int32) (r0 : Nat) (x1 : Int32) (k : Int32 → Int32 → Int32 → Option Int32) : Prop := ∀ (H : Heap) (locs : List Loc) (ls : Array Slot) (x2 : Int32) (x3 : Int32) (x4 : Int32), k x2 x3 x4 = some out → Rel G h H → va_S (AA G.2.2) s.heap H locs → hpT h r0 = (1, 0) → lv_has ls 5 [(0, .ref (G.2.2 + r0)), (1, .int x1), (2, .int x2), (3, .int x3), (4, .int x4)] → W p l e rm_X0_hangTogether s m args below meth c H locs 0 0 (MQ below (Qm G h h (some (.int out)) 0) args s 0 0 (AA G.2.2)) (F0 m 17 ls [])
def P_X0_hangTogether_6 (G : Gt) (l : Launch) (p : Program) (e : Env) (s : State) (m : MethodId) (args : Array Value) (below : List Frame) (meth : Method) (c : Code) (h : Hp) (out : Int32) (r0 : Nat) (x1 : Int32) (k : Int32 → Int32 → Option Int32) : Prop := ∀ (H : Heap) (locs : List Loc) (ls : Array Slot) (x2 : Int32) (x3 : Int32), k x2 x3 = some out → Rel G h H → va_S (AA G.2.2) s.heap H locs → hpT h r0 = (1, 0) → lv_has ls 5 [(0, .ref (G.2.2 + r0)), (1, .int x1), (2, .int x2), (3, .int x3)] → W p l e rm_X0_hangTogether s m args below meth c H locs 0 0 (MQ below (Qm G h h (some (.int out)) 0) args s 0 0 (AA G.2.2)) (F0 m 6 ls [])
set_option maxRecDepth 100000 in
set_option maxHeartbeats 4000000 in
theorem w_X0_hangTogether_44 {G : Gt} {l : Launch} {p : Program} {e : Env} {s : State} {m : MethodId} {args : Array Value} {below : List Frame} {meth : Method} {c : Code}  {h : Hp} {out : Int32} {r0 : Nat} {x1 : Int32} {k6 : Int32 → Int32 → Option Int32} {k17 : Int32 → Int32 → Int32 → Option Int32} (C : Cx G p m c cX0_hangTogether 5 s args RX0) (hr : meth.sig.returnType = some .int) (hlk : meth.locks = false)  (hk6 : P_X0_hangTogether_6 G l p e s m args below meth c h out r0 x1 k6) (hk17 : P_X0_hangTogether_17 G l p e s m args below meth c h out r0 x1 k17) : P_X0_hangTogether_44 G l p e s m args below meth c h out r0 x1 (f_X0_hangTogether_44 h r0 x1 k6 k17) := by
  intro H locs ls x2 x3 x4 hf hR hS t_r0 hl
  rw [f_X0_hangTogether_44] at hf
  obtain ⟨v9, e_v9⟩ : ∃ y : Int32, y = x4 + (1 : Int32) := ⟨_, rfl⟩
  have hf := lt_e hf e_v9
  refine lv_iinc (v := v9) (lv' := [(4, .int v9), (0, .ref (G.2.2 + r0)), (1, .int x1), (2, .int x2), (3, .int x3)]) C.x C.b dX0_hangTogether_44 hl (k := 4) rfl (by rw [e_v9]; rfl) (by decide) rfl (fun ls hl => ?_)
  refine lv_goto (tgt := 17) C.x C.b dX0_hangTogether_47 (by decide) ?_
  exact hk17 _ _ _ _ _ _ hf hR hS t_r0 (lv_sub hl [1, 2, 3, 4, 0] rfl)
set_option maxRecDepth 100000 in
set_option maxHeartbeats 4000000 in
theorem w_X0_hangTogether_17 {G : Gt} {l : Launch} {p : Program} {e : Env} {s : State} {m : MethodId} {args : Array Value} {below : List Frame} {meth : Method} {c : Code}  {h : Hp} {out : Int32} {r0 : Nat} {x1 : Int32} {k6 : Int32 → Int32 → Option Int32} (C : Cx G p m c cX0_hangTogether 5 s args RX0) (hr : meth.sig.returnType = some .int) (hlk : meth.locks = false)  (hk6 : P_X0_hangTogether_6 G l p e s m args below meth c h out r0 x1 k6) (n : Nat) : P_X0_hangTogether_17 G l p e s m args below meth c h out r0 x1 (f_X0_hangTogether_17 h r0 x1 k6 n) := by
  induction n with
  | zero => intro H locs ls x2 x3 x4 hf hR hS t_r0 hl; cases hf
  | succ n hk17 =>
    intro H locs ls x2 x3 x4 hf hR hS t_r0 hl
    rw [f_X0_hangTogether_17] at hf
    obtain ⟨k17, e_k17⟩ : ∃ y, y = f_X0_hangTogether_17 h r0 x1 k6 n := ⟨_, rfl⟩
    have hf := lt_e hf e_k17
    rw [← e_k17] at hk17
    refine lv_iload C.x C.b dX0_hangTogether_17 (lv_at hl 4 rfl) ?_
    refine lv_aload_n C.x C.b dX0_hangTogether_19 rfl (lv_at hl 0 rfl) ?_
    refine r_geti C hR t_r0 fl_X0_40 rfl dX0_hangTogether_20 ?_
    refine lv_icmp_ge (tgt := 50) C.x C.b dX0_hangTogether_23 (by decide) (fun c3 => ?_) (fun c3 => ?_)
    · have hf := it_t hf c3
      obtain ⟨v4, e_v4⟩ : ∃ y : Int32, y = x3 + (1 : Int32) := ⟨_, rfl⟩
      have hf := lt_e hf e_v4
      refine lv_iinc (v := v4) (lv' := [(3, .int v4), (0, .ref (G.2.2 + r0)), (1, .int x1), (2, .int x2), (4, .int x4)]) C.x C.b dX0_hangTogether_50 hl (k := 3) rfl (by rw [e_v4]; rfl) (by decide) rfl (fun ls hl => ?_)
      refine lv_goto (tgt := 6) C.x C.b dX0_hangTogether_53 (by decide) ?_
      exact hk6 _ _ _ _ _ hf hR hS t_r0 (lv_sub hl [1, 2, 3, 0] rfl)
    · have hf := it_f hf c3
      refine lv_iload_n C.x C.b dX0_hangTogether_26 rfl (lv_at hl 2 rfl) ?_
      refine lv_iload C.x C.b dX0_hangTogether_27 (lv_at hl 4 rfl) ?_
      obtain ⟨q5, h_q5, hf⟩ := bd_e hf
      refine r_callSN (As := [.int x2, .int x4]) (rest := []) C hR hS mk_X9_isIn cn_X0_84 (k_X9_isIn h_q5) ⟨⟨Nat.le_of_ble_eq_true rfl, Nat.le_of_ble_eq_true rfl⟩, ⟨rfl, rfl⟩, Nat.le_of_ble_eq_true rfl, Nat.le_of_ble_eq_true rfl⟩ rfl hl.1 rfl (Nat.le_of_ble_eq_true rfl) dX0_hangTogether_29 (fun H locs hR hS hE1 z_q5 => ?_)
      have z_q5 := z_q5 _ rfl
      refine lv_if_eq (tgt := 44) C.x C.b dX0_hangTogether_32 (by decide) (fun c6 => ?_) (fun c6 => ?_)
      · have hf := it_t hf c6
        exact w_X0_hangTogether_44 C hr hlk hk6 hk17 _ _ _ _ _ _ hf hR hS t_r0 (lv_sub hl [0, 1, 2, 3, 4] rfl)
      · have hf := it_f hf c6
        refine lv_iload_n C.x C.b dX0_hangTogether_35 rfl (lv_at hl 2 rfl) ?_
        refine lv_aload_n C.x C.b dX0_hangTogether_36 rfl (lv_at hl 0 rfl) ?_
        refine lv_iload C.x C.b dX0_hangTogether_37 (lv_at hl 4 rfl) ?_
        obtain ⟨q7, h_q7, hf⟩ := bd_e hf
        refine r_callV (As := [.int x4]) (rest := [.int x2]) C hR hS t_r0 rfl mk_X0_crossedBy cl_X0_87 (k_X0_crossedBy t_r0 h_q7) ⟨⟨Nat.le_of_ble_eq_true rfl, Nat.le_of_ble_eq_true rfl⟩, ⟨rfl, rfl⟩, Nat.le_of_ble_eq_true rfl, Nat.le_of_ble_eq_true rfl⟩ rfl hl.1 rfl (Nat.le_of_ble_eq_true rfl) dX0_hangTogether_39 (fun H locs hR hS hE1 z_q7 => ?_)
        refine lv_ior C.x C.b dX0_hangTogether_42 ?_
        refine lv_topi (fun v8 e_v8 => ?_)
        have hf := lt_e hf e_v8
        refine lv_istore_n (lv' := [(2, .int v8), (0, .ref (G.2.2 + r0)), (1, .int x1), (3, .int x3), (4, .int x4)]) C.x C.b dX0_hangTogether_43 rfl hl (by decide) rfl (fun ls hl => ?_)
        exact w_X0_hangTogether_44 C hr hlk hk6 hk17 _ _ _ _ _ _ hf hR hS t_r0 (lv_sub hl [1, 2, 0, 3, 4] rfl)
set_option maxRecDepth 100000 in
set_option maxHeartbeats 4000000 in
theorem w_X0_hangTogether_6 {G : Gt} {l : Launch} {p : Program} {e : Env} {s : State} {m : MethodId} {args : Array Value} {below : List Frame} {meth : Method} {c : Code}  {h : Hp} {out : Int32} {r0 : Nat} {x1 : Int32}  (C : Cx G p m c cX0_hangTogether 5 s args RX0) (hr : meth.sig.returnType = some .int) (hlk : meth.locks = false)   (n : Nat) : P_X0_hangTogether_6 G l p e s m args below meth c h out r0 x1 (f_X0_hangTogether_6 h r0 x1 n) := by
  induction n with
  | zero => intro H locs ls x2 x3 hf hR hS t_r0 hl; cases hf
  | succ n hk6 =>
    intro H locs ls x2 x3 hf hR hS t_r0 hl
    rw [f_X0_hangTogether_6] at hf
    obtain ⟨k6, e_k6⟩ : ∃ y, y = f_X0_hangTogether_6 h r0 x1 n := ⟨_, rfl⟩
    have hf := lt_e hf e_k6
    rw [← e_k6] at hk6
    refine lv_iload_n C.x C.b dX0_hangTogether_6 rfl (lv_at hl 3 rfl) ?_
    refine lv_aload_n C.x C.b dX0_hangTogether_7 rfl (lv_at hl 0 rfl) ?_
    refine r_geti C hR t_r0 fl_X0_40 rfl dX0_hangTogether_8 ?_
    refine lv_icmp_ge (tgt := 56) C.x C.b dX0_hangTogether_11 (by decide) (fun c2 => ?_) (fun c2 => ?_)
    · have hf := it_t hf c2
      refine lv_iload_n C.x C.b dX0_hangTogether_56 rfl (lv_at hl 2 rfl) ?_
      have hf := so_e hf
      subst hf
      exact r_iret C hr hlk hR Ext.rf hS dX0_hangTogether_57
    · have hf := it_f hf c2
      refine lv_iconst (v := (0 : Int32)) C.x C.b dX0_hangTogether_14 (by decide) ?_
      refine lv_istore (lv' := [(4, .int (0 : Int32)), (0, .ref (G.2.2 + r0)), (1, .int x1), (2, .int x2), (3, .int x3)]) C.x C.b dX0_hangTogether_15 hl (by decide) rfl (fun ls hl => ?_)
      exact w_X0_hangTogether_17 C hr hlk hk6 FU _ _ _ _ _ _ hf hR hS t_r0 (lv_sub hl [1, 2, 3, 4, 0] rfl)
set_option maxRecDepth 100000 in
set_option maxHeartbeats 4000000 in
theorem k_X0_hangTogether {G : Gt} {l : Launch}  {h : Hp} {r0 : Nat} {x1 : Int32} {out : Int32} (t_r0 : hpT h r0 = (1, 0))  (hf : f_X0_hangTogether  h r0 x1 = some out) : Mt G l yX0_hangTogether cX0_hangTogether 5 (some .int) rm_X0_hangTogether [.ref (G.2.2 + r0), .int x1] h (some (.int out)) h 0 0 0 := by
  refine r_met (by decide +kernel) (Nat.le_of_ble_eq_true rfl) ?_
  intro p e s m args below meth c ls C hr hlk hnm hR hS hl
  have hl : lv_has ls 5 [(0, .ref (G.2.2 + r0)), (1, .int x1)] := hl
  rw [f_X0_hangTogether] at hf
  refine lv_iconst (v := (1 : Int32)) C.x C.b dX0_hangTogether_0 (by decide) ?_
  refine lv_iload_n C.x C.b dX0_hangTogether_1 rfl (lv_at hl 1 rfl) ?_
  refine lv_ishl C.x C.b dX0_hangTogether_2 ?_
  refine lv_topi (fun v1 e_v1 => ?_)
  have hf := lt_e hf e_v1
  refine lv_istore_n (lv' := [(2, .int v1), (0, .ref (G.2.2 + r0)), (1, .int x1)]) C.x C.b dX0_hangTogether_3 rfl hl (by decide) rfl (fun ls hl => ?_)
  refine lv_iconst (v := (0 : Int32)) C.x C.b dX0_hangTogether_4 (by decide) ?_
  refine lv_istore_n (lv' := [(3, .int (0 : Int32)), (2, .int v1), (0, .ref (G.2.2 + r0)), (1, .int x1)]) C.x C.b dX0_hangTogether_5 rfl hl (by decide) rfl (fun ls hl => ?_)
  exact w_X0_hangTogether_6 C hr hlk FU _ _ _ _ _ hf hR hS t_r0 (lv_sub hl [2, 3, 1, 0] rfl)

def rm_X0_onBits : Room := { frames := 0, cells := 0, slots := 0, locals := 0 }
def P_X0_onBits_27 (G : Gt) (l : Launch) (p : Program) (e : Env) (s : State) (m : MethodId) (args : Array Value) (below : List Frame) (meth : Method) (c : Code) (h : Hp) (out : Int32) (r0 : Nat) (k : Int32 → Int32 → Option Int32) : Prop := ∀ (H : Heap) (locs : List Loc) (ls : Array Slot) (x1 : Int32) (x2 : Int32), k x1 x2 = some out → Rel G h H → va_S (AA G.2.2) s.heap H locs → hpT h r0 = (1, 0) → lv_has ls 3 [(0, .ref (G.2.2 + r0)), (1, .int x1), (2, .int x2)] → W p l e rm_X0_onBits s m args below meth c H locs 0 0 (MQ below (Qm G h h (some (.int out)) 0) args s 0 0 (AA G.2.2)) (F0 m 27 ls [])
def P_X0_onBits_4 (G : Gt) (l : Launch) (p : Program) (e : Env) (s : State) (m : MethodId) (args : Array Value) (below : List Frame) (meth : Method) (c : Code) (h : Hp) (out : Int32) (r0 : Nat) (k : Int32 → Int32 → Option Int32) : Prop := ∀ (H : Heap) (locs : List Loc) (ls : Array Slot) (x1 : Int32) (x2 : Int32), k x1 x2 = some out → Rel G h H → va_S (AA G.2.2) s.heap H locs → hpT h r0 = (1, 0) → lv_has ls 3 [(0, .ref (G.2.2 + r0)), (1, .int x1), (2, .int x2)] → W p l e rm_X0_onBits s m args below meth c H locs 0 0 (MQ below (Qm G h h (some (.int out)) 0) args s 0 0 (AA G.2.2)) (F0 m 4 ls [])
set_option maxRecDepth 100000 in
set_option maxHeartbeats 4000000 in
theorem w_X0_onBits_27 {G : Gt} {l : Launch} {p : Program} {e : Env} {s : State} {m : MethodId} {args : Array Value} {below : List Frame} {meth : Method} {c : Code}  {h : Hp} {out : Int32} {r0 : Nat} {k4 : Int32 → Int32 → Option Int32} (C : Cx G p m c cX0_onBits 3 s args RX0) (hr : meth.sig.returnType = some .int) (hlk : meth.locks = false)  (hk4 : P_X0_onBits_4 G l p e s m args below meth c h out r0 k4) : P_X0_onBits_27 G l p e s m args below meth c h out r0 (f_X0_onBits_27 h r0 k4) := by
  intro H locs ls x1 x2 hf hR hS t_r0 hl
  rw [f_X0_onBits_27] at hf
  obtain ⟨v8, e_v8⟩ : ∃ y : Int32, y = x2 + (1 : Int32) := ⟨_, rfl⟩
  have hf := lt_e hf e_v8
  refine lv_iinc (v := v8) (lv' := [(2, .int v8), (0, .ref (G.2.2 + r0)), (1, .int x1)]) C.x C.b dX0_onBits_27 hl (k := 2) rfl (by rw [e_v8]; rfl) (by decide) rfl (fun ls hl => ?_)
  refine lv_goto (tgt := 4) C.x C.b dX0_onBits_30 (by decide) ?_
  exact hk4 _ _ _ _ _ hf hR hS t_r0 (lv_sub hl [1, 2, 0] rfl)
set_option maxRecDepth 100000 in
set_option maxHeartbeats 4000000 in
theorem w_X0_onBits_4 {G : Gt} {l : Launch} {p : Program} {e : Env} {s : State} {m : MethodId} {args : Array Value} {below : List Frame} {meth : Method} {c : Code}  {h : Hp} {out : Int32} {r0 : Nat}  (C : Cx G p m c cX0_onBits 3 s args RX0) (hr : meth.sig.returnType = some .int) (hlk : meth.locks = false)   (n : Nat) : P_X0_onBits_4 G l p e s m args below meth c h out r0 (f_X0_onBits_4 h r0 n) := by
  induction n with
  | zero => intro H locs ls x1 x2 hf hR hS t_r0 hl; cases hf
  | succ n hk4 =>
    intro H locs ls x1 x2 hf hR hS t_r0 hl
    rw [f_X0_onBits_4] at hf
    obtain ⟨k4, e_k4⟩ : ∃ y, y = f_X0_onBits_4 h r0 n := ⟨_, rfl⟩
    have hf := lt_e hf e_k4
    rw [← e_k4] at hk4
    refine lv_iload_n C.x C.b dX0_onBits_4 rfl (lv_at hl 2 rfl) ?_
    refine lv_aload_n C.x C.b dX0_onBits_5 rfl (lv_at hl 0 rfl) ?_
    refine r_geti C hR t_r0 fl_X0_40 rfl dX0_onBits_6 ?_
    refine lv_icmp_ge (tgt := 33) C.x C.b dX0_onBits_9 (by decide) (fun c1 => ?_) (fun c1 => ?_)
    · have hf := it_t hf c1
      refine lv_iload_n C.x C.b dX0_onBits_33 rfl (lv_at hl 1 rfl) ?_
      have hf := so_e hf
      subst hf
      exact r_iret C hr hlk hR Ext.rf hS dX0_onBits_34
    · have hf := it_f hf c1
      refine lv_aload_n C.x C.b dX0_onBits_12 rfl (lv_at hl 0 rfl) ?_
      obtain ⟨g2, hf⟩ := gd_e hf
      refine r_getr C hR t_r0 fl_X0_31 (by decide) (nz_e g2) dX0_onBits_13 (fun tq3 => ?_)
      have tg2 := okA tq3 rfl
      refine lv_iload_n C.x C.b dX0_onBits_16 rfl (lv_at hl 2 rfl) ?_
      obtain ⟨g4, hf⟩ := gd_e hf
      refine r_iald C hR tg2 g4 dX0_onBits_17 ?_
      refine lv_if_le (tgt := 27) C.x C.b dX0_onBits_18 (by decide) (fun c5 => ?_) (fun c5 => ?_)
      · have hf := it_t hf c5
        exact w_X0_onBits_27 C hr hlk hk4 _ _ _ _ _ hf hR hS t_r0 (lv_sub hl [0, 1, 2] rfl)
      · have hf := it_f hf c5
        refine lv_iload_n C.x C.b dX0_onBits_21 rfl (lv_at hl 1 rfl) ?_
        refine lv_iconst (v := (1 : Int32)) C.x C.b dX0_onBits_22 (by decide) ?_
        refine lv_iload_n C.x C.b dX0_onBits_23 rfl (lv_at hl 2 rfl) ?_
        refine lv_ishl C.x C.b dX0_onBits_24 ?_
        refine lv_topi (fun v6 e_v6 => ?_)
        have hf := lt_e hf e_v6
        refine lv_ior C.x C.b dX0_onBits_25 ?_
        refine lv_topi (fun v7 e_v7 => ?_)
        have hf := lt_e hf e_v7
        refine lv_istore_n (lv' := [(1, .int v7), (0, .ref (G.2.2 + r0)), (2, .int x2)]) C.x C.b dX0_onBits_26 rfl hl (by decide) rfl (fun ls hl => ?_)
        exact w_X0_onBits_27 C hr hlk hk4 _ _ _ _ _ hf hR hS t_r0 (lv_sub hl [1, 0, 2] rfl)
set_option maxRecDepth 100000 in
set_option maxHeartbeats 4000000 in
theorem k_X0_onBits {G : Gt} {l : Launch}  {h : Hp} {r0 : Nat} {out : Int32} (t_r0 : hpT h r0 = (1, 0))  (hf : f_X0_onBits  h r0 = some out) : Mt G l yX0_onBits cX0_onBits 3 (some .int) rm_X0_onBits [.ref (G.2.2 + r0)] h (some (.int out)) h 0 0 0 := by
  refine r_met (by decide +kernel) (Nat.le_of_ble_eq_true rfl) ?_
  intro p e s m args below meth c ls C hr hlk hnm hR hS hl
  have hl : lv_has ls 3 [(0, .ref (G.2.2 + r0))] := hl
  rw [f_X0_onBits] at hf
  refine lv_iconst (v := (0 : Int32)) C.x C.b dX0_onBits_0 (by decide) ?_
  refine lv_istore_n (lv' := [(1, .int (0 : Int32)), (0, .ref (G.2.2 + r0))]) C.x C.b dX0_onBits_1 rfl hl (by decide) rfl (fun ls hl => ?_)
  refine lv_iconst (v := (0 : Int32)) C.x C.b dX0_onBits_2 (by decide) ?_
  refine lv_istore_n (lv' := [(2, .int (0 : Int32)), (1, .int (0 : Int32)), (0, .ref (G.2.2 + r0))]) C.x C.b dX0_onBits_3 rfl hl (by decide) rfl (fun ls hl => ?_)
  exact w_X0_onBits_4 C hr hlk FU _ _ _ _ _ hf hR hS t_r0 (lv_sub hl [2, 1, 0] rfl)

def rm_J6_bitCount_0f7a4 : Room := { frames := 0, cells := 0, slots := 0, locals := 0 }
set_option maxRecDepth 100000 in
set_option maxHeartbeats 4000000 in
theorem k_J6_bitCount_0f7a4 {G : Gt} {l : Launch}  {h : Hp} {x0 : Int32} {out : Int32}   (hf : f_J6_bitCount_0f7a4  h x0 = some out) : Mt G l yJ6_bitCount_0f7a4 cJ6_bitCount_0f7a4 1 (some .int) rm_J6_bitCount_0f7a4 [.int x0] h (some (.int out)) h 0 0 0 := by
  refine r_met (by decide +kernel) (Nat.le_of_ble_eq_true rfl) ?_
  intro p e s m args below meth c ls C hr hlk hnm hR hS hl
  have hl : lv_has ls 1 [(0, .int x0)] := hl
  rw [f_J6_bitCount_0f7a4] at hf
  refine lv_iload_n C.x C.b dJ6_bitCount_0f7a4_0 rfl (lv_at hl 0 rfl) ?_
  refine lv_iload_n C.x C.b dJ6_bitCount_0f7a4_1 rfl (lv_at hl 0 rfl) ?_
  refine lv_iconst (v := (1 : Int32)) C.x C.b dJ6_bitCount_0f7a4_2 (by decide) ?_
  refine lv_iushr C.x C.b dJ6_bitCount_0f7a4_3 rfl ?_
  refine lv_topi (fun v1 e_v1 => ?_)
  have hf := lt_e hf e_v1
  refine lv_ldcw C.x C.b C.ow (C.ts _ lk_J6_265) dJ6_bitCount_0f7a4_4 ?_
  refine lv_iand C.x C.b dJ6_bitCount_0f7a4_7 ?_
  refine lv_isub C.x C.b dJ6_bitCount_0f7a4_8 ?_
  refine lv_topi (fun v2 e_v2 => ?_)
  have hf := lt_e hf e_v2
  refine lv_istore_n (lv' := [(0, .int v2)]) C.x C.b dJ6_bitCount_0f7a4_9 rfl hl (by decide) rfl (fun ls hl => ?_)
  refine lv_iload_n C.x C.b dJ6_bitCount_0f7a4_10 rfl (lv_at hl 0 rfl) ?_
  refine lv_ldcw C.x C.b C.ow (C.ts _ lk_J6_266) dJ6_bitCount_0f7a4_11 ?_
  refine lv_iand C.x C.b dJ6_bitCount_0f7a4_14 ?_
  refine lv_iload_n C.x C.b dJ6_bitCount_0f7a4_15 rfl (lv_at hl 0 rfl) ?_
  refine lv_iconst (v := (2 : Int32)) C.x C.b dJ6_bitCount_0f7a4_16 (by decide) ?_
  refine lv_iushr C.x C.b dJ6_bitCount_0f7a4_17 rfl ?_
  refine lv_topi (fun v3 e_v3 => ?_)
  have hf := lt_e hf e_v3
  refine lv_ldcw C.x C.b C.ow (C.ts _ lk_J6_266) dJ6_bitCount_0f7a4_18 ?_
  refine lv_iand C.x C.b dJ6_bitCount_0f7a4_21 ?_
  refine lv_iadd C.x C.b dJ6_bitCount_0f7a4_22 ?_
  refine lv_topi (fun v4 e_v4 => ?_)
  have hf := lt_e hf e_v4
  refine lv_istore_n (lv' := [(0, .int v4)]) C.x C.b dJ6_bitCount_0f7a4_23 rfl hl (by decide) rfl (fun ls hl => ?_)
  refine lv_iload_n C.x C.b dJ6_bitCount_0f7a4_24 rfl (lv_at hl 0 rfl) ?_
  refine lv_iload_n C.x C.b dJ6_bitCount_0f7a4_25 rfl (lv_at hl 0 rfl) ?_
  refine lv_iconst (v := (4 : Int32)) C.x C.b dJ6_bitCount_0f7a4_26 (by decide) ?_
  refine lv_iushr C.x C.b dJ6_bitCount_0f7a4_27 rfl ?_
  refine lv_topi (fun v5 e_v5 => ?_)
  have hf := lt_e hf e_v5
  refine lv_iadd C.x C.b dJ6_bitCount_0f7a4_28 ?_
  refine lv_ldcw C.x C.b C.ow (C.ts _ lk_J6_267) dJ6_bitCount_0f7a4_29 ?_
  refine lv_iand C.x C.b dJ6_bitCount_0f7a4_32 ?_
  refine lv_topi (fun v6 e_v6 => ?_)
  have hf := lt_e hf e_v6
  refine lv_istore_n (lv' := [(0, .int v6)]) C.x C.b dJ6_bitCount_0f7a4_33 rfl hl (by decide) rfl (fun ls hl => ?_)
  refine lv_iload_n C.x C.b dJ6_bitCount_0f7a4_34 rfl (lv_at hl 0 rfl) ?_
  refine lv_iload_n C.x C.b dJ6_bitCount_0f7a4_35 rfl (lv_at hl 0 rfl) ?_
  refine lv_bipush (v := (8 : Int32)) C.x C.b dJ6_bitCount_0f7a4_36 (by decide) ?_
  refine lv_iushr C.x C.b dJ6_bitCount_0f7a4_38 rfl ?_
  refine lv_topi (fun v7 e_v7 => ?_)
  have hf := lt_e hf e_v7
  refine lv_iadd C.x C.b dJ6_bitCount_0f7a4_39 ?_
  refine lv_topi (fun v8 e_v8 => ?_)
  have hf := lt_e hf e_v8
  refine lv_istore_n (lv' := [(0, .int v8)]) C.x C.b dJ6_bitCount_0f7a4_40 rfl hl (by decide) rfl (fun ls hl => ?_)
  refine lv_iload_n C.x C.b dJ6_bitCount_0f7a4_41 rfl (lv_at hl 0 rfl) ?_
  refine lv_iload_n C.x C.b dJ6_bitCount_0f7a4_42 rfl (lv_at hl 0 rfl) ?_
  refine lv_bipush (v := (16 : Int32)) C.x C.b dJ6_bitCount_0f7a4_43 (by decide) ?_
  refine lv_iushr C.x C.b dJ6_bitCount_0f7a4_45 rfl ?_
  refine lv_topi (fun v9 e_v9 => ?_)
  have hf := lt_e hf e_v9
  refine lv_iadd C.x C.b dJ6_bitCount_0f7a4_46 ?_
  refine lv_topi (fun v10 e_v10 => ?_)
  have hf := lt_e hf e_v10
  refine lv_istore_n (lv' := [(0, .int v10)]) C.x C.b dJ6_bitCount_0f7a4_47 rfl hl (by decide) rfl (fun ls hl => ?_)
  refine lv_iload_n C.x C.b dJ6_bitCount_0f7a4_48 rfl (lv_at hl 0 rfl) ?_
  refine lv_bipush (v := (63 : Int32)) C.x C.b dJ6_bitCount_0f7a4_49 (by decide) ?_
  refine lv_iand C.x C.b dJ6_bitCount_0f7a4_51 ?_
  have hf := so_e hf
  subst hf
  exact r_iret C hr hlk hR Ext.rf hS dJ6_bitCount_0f7a4_52

def rm_X0_onCount : Room := { frames := 1, cells := 0, slots := 0, locals := 22 }
set_option maxRecDepth 100000 in
set_option maxHeartbeats 4000000 in
theorem k_X0_onCount {G : Gt} {l : Launch}  {h : Hp} {r0 : Nat} {out : Int32} (t_r0 : hpT h r0 = (1, 0))  (hf : f_X0_onCount  h r0 = some out) : Mt G l yX0_onCount cX0_onCount 1 (some .int) rm_X0_onCount [.ref (G.2.2 + r0)] h (some (.int out)) h 0 0 0 := by
  refine r_met (by decide +kernel) (Nat.le_of_ble_eq_true rfl) ?_
  intro p e s m args below meth c ls C hr hlk hnm hR hS hl
  have hl : lv_has ls 1 [(0, .ref (G.2.2 + r0))] := hl
  rw [f_X0_onCount] at hf
  refine lv_aload_n C.x C.b dX0_onCount_0 rfl (lv_at hl 0 rfl) ?_
  obtain ⟨q1, h_q1, hf⟩ := bd_e hf
  refine r_callV (As := []) (rest := []) C hR hS t_r0 rfl mk_X0_onBits cl_X0_90 (k_X0_onBits t_r0 h_q1) ⟨⟨Nat.le_of_ble_eq_true rfl, Nat.le_of_ble_eq_true rfl⟩, ⟨rfl, rfl⟩, Nat.le_of_ble_eq_true rfl, Nat.le_of_ble_eq_true rfl⟩ rfl hl.1 rfl (Nat.le_of_ble_eq_true rfl) dX0_onCount_1 (fun H locs hR hS hE1 z_q1 => ?_)
  obtain ⟨q2, h_q2, hf⟩ := bd_e hf
  refine r_callS (As := [.int q1]) (rest := []) C hR hS mk_J6_bitCount_0f7a4 cl_X0_93 (k_J6_bitCount_0f7a4 h_q2) ⟨⟨Nat.le_of_ble_eq_true rfl, Nat.le_of_ble_eq_true rfl⟩, ⟨rfl, rfl⟩, Nat.le_of_ble_eq_true rfl, Nat.le_of_ble_eq_true rfl⟩ rfl hl.1 rfl (Nat.le_of_ble_eq_true rfl) dX0_onCount_4 (fun H locs hR hS hE1 z_q2 => ?_)
  have hf := so_e hf
  subst hf
  exact r_iret C hr hlk hR Ext.rf hS dX0_onCount_7

