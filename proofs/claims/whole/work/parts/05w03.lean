def rm_X2_wipe : Room := { frames := 0, cells := 0, slots := 0, locals := 0 }
set_option maxRecDepth 100000 in
set_option maxHeartbeats 4000000 in
theorem k_X2_wipe {G : Gt} {l : Launch} {h : Hp} {r0 : Nat} {out : (Int32 × Hp)} (t_r0 : hpT h r0 = (1, 2))  (hf : f_X2_wipe h r0 = some out) : Mt G l yX2_wipe cX2_wipe 2 (some .int) rm_X2_wipe [.ref (G.2.2 + r0)] h (some (.int out.1)) out.2 false 0 0 := by
  refine r_met (by decide +kernel) (Nat.le_of_ble_eq_true rfl) ?_
  intro p e s m args below meth c ls C hr hlk hnm hR hS hl
  have hE : Ext h h := Ext.rf
  have hl : lv_has ls 2 [(0, .ref (G.2.2 + r0))] := hl
  rw [f_X2_wipe] at hf
  refine lv_aload_n C.x C.b dX2_wipe_0 rfl (lv_at hl 0 rfl) ?_
  refine r_geti C hR t_r0 fl_X2_19 rfl dX2_wipe_1 ?_
  refine lv_topi (fun v1 e_v1 => ?_)
  have hf := lt_e hf e_v1
  refine lv_istore_n (lv' := [(1, .int v1), (0, .ref (G.2.2 + r0))]) C.x C.b dX2_wipe_4 rfl hl (by decide) rfl (fun ls hl => ?_)
  refine lv_aload_n C.x C.b dX2_wipe_5 rfl (lv_at hl 1 rfl) ?_
  refine lv_iconst (v := (0 : Int32)) C.x C.b dX2_wipe_6 (by decide) ?_
  refine r_puti C hR hS t_r0 fl_X2_19 fp_X2_2_3 rfl dX2_wipe_7 (fun H locs hR hS => ?_)
  obtain ⟨h2, e_h2⟩ : ∃ y, y = upI h r0 3 (0 : Int32) := ⟨_, rfl⟩
  rw [← e_h2] at hR
  have hf := lt_e hf e_h2
  have hE := eI e_h2 hE
  have t_r0 := tI e_h2 t_r0
  refine lv_iload_n C.x C.b dX2_wipe_10 rfl (lv_at hl 0 rfl) ?_
  have hf := so_e hf
  subst hf
  exact r_iret C hr hlk hR hE hS dX2_wipe_11

def rm_X3_wipe : Room := { frames := 0, cells := 0, slots := 0, locals := 0 }
set_option maxRecDepth 100000 in
set_option maxHeartbeats 4000000 in
theorem k_X3_wipe {G : Gt} {l : Launch} {h : Hp} {r0 : Nat} {out : Hp} (t_r0 : hpT h r0 = (1, 3))  (hf : f_X3_wipe h r0 = some out) : Mt G l yX3_wipe cX3_wipe 1 (none) rm_X3_wipe [.ref (G.2.2 + r0)] h (none) out false 0 0 := by
  refine r_met (by decide +kernel) (Nat.le_of_ble_eq_true rfl) ?_
  intro p e s m args below meth c ls C hr hlk hnm hR hS hl
  have hE : Ext h h := Ext.rf
  have hl : lv_has ls 1 [(0, .ref (G.2.2 + r0))] := hl
  rw [f_X3_wipe] at hf
  refine lv_aload_n C.x C.b dX3_wipe_0 rfl (lv_at hl 0 rfl) ?_
  refine lv_iconst (v := (0 : Int32)) C.x C.b dX3_wipe_1 (by decide) ?_
  refine r_puti C hR hS t_r0 fl_X3_16 fp_X3_3_1 rfl dX3_wipe_2 (fun H locs hR hS => ?_)
  obtain ⟨h1, e_h1⟩ : ∃ y, y = upI h r0 1 (0 : Int32) := ⟨_, rfl⟩
  rw [← e_h1] at hR
  have hf := lt_e hf e_h1
  have hE := eI e_h1 hE
  have t_r0 := tI e_h1 t_r0
  refine lv_aload_n C.x C.b dX3_wipe_5 rfl (lv_at hl 0 rfl) ?_
  refine lv_iconst (v := (0 : Int32)) C.x C.b dX3_wipe_6 (by decide) ?_
  refine r_puti C hR hS t_r0 fl_X3_20 fp_X3_3_2 rfl dX3_wipe_7 (fun H locs hR hS => ?_)
  obtain ⟨h2, e_h2⟩ : ∃ y, y = upI h1 r0 2 (0 : Int32) := ⟨_, rfl⟩
  rw [← e_h2] at hR
  have hf := lt_e hf e_h2
  have hE := eI e_h2 hE
  have t_r0 := tI e_h2 t_r0
  have hf := so_e hf
  subst hf
  exact r_vret C hr hlk hR hE hS dX3_wipe_10

def rm_X4_start : Room := { frames := 0, cells := 0, slots := 0, locals := 0 }
set_option maxRecDepth 100000 in
set_option maxHeartbeats 4000000 in
theorem k_X4_start {G : Gt} {l : Launch} {h : Hp} {r0 : Nat} {out : Hp} (t_r0 : hpT h r0 = (1, 4))  (hf : f_X4_start h r0 = some out) : Mt G l yX4_start cX4_start 1 (none) rm_X4_start [.ref (G.2.2 + r0)] h (none) out false 0 0 := by
  refine r_met (by decide +kernel) (Nat.le_of_ble_eq_true rfl) ?_
  intro p e s m args below meth c ls C hr hlk hnm hR hS hl
  have hE : Ext h h := Ext.rf
  have hl : lv_has ls 1 [(0, .ref (G.2.2 + r0))] := hl
  rw [f_X4_start] at hf
  refine lv_aload_n C.x C.b dX4_start_0 rfl (lv_at hl 0 rfl) ?_
  refine lv_iconst (v := (0 : Int32)) C.x C.b dX4_start_1 (by decide) ?_
  refine r_puti C hR hS t_r0 fl_X4_21 fp_X4_4_3 rfl dX4_start_2 (fun H locs hR hS => ?_)
  obtain ⟨h1, e_h1⟩ : ∃ y, y = upI h r0 3 (0 : Int32) := ⟨_, rfl⟩
  rw [← e_h1] at hR
  have hf := lt_e hf e_h1
  have hE := eI e_h1 hE
  have t_r0 := tI e_h1 t_r0
  have hf := so_e hf
  subst hf
  exact r_vret C hr hlk hR hE hS dX4_start_5

def rm_X4_addNumber : Room := { frames := 0, cells := 0, slots := 0, locals := 0 }
set_option maxRecDepth 100000 in
set_option maxHeartbeats 4000000 in
theorem k_X4_addNumber {G : Gt} {l : Launch} {h : Hp} {r0 : Nat} {x1 : Int32} {out : Hp} (t_r0 : hpT h r0 = (1, 4))  (hf : f_X4_addNumber h r0 x1 = some out) : Mt G l yX4_addNumber cX4_addNumber 2 (none) rm_X4_addNumber [.ref (G.2.2 + r0), .int x1] h (none) out false 0 0 := by
  refine r_met (by decide +kernel) (Nat.le_of_ble_eq_true rfl) ?_
  intro p e s m args below meth c ls C hr hlk hnm hR hS hl
  have hE : Ext h h := Ext.rf
  have hl : lv_has ls 2 [(0, .ref (G.2.2 + r0)), (1, .int x1)] := hl
  rw [f_X4_addNumber] at hf
  refine lv_aload_n C.x C.b dX4_addNumber_0 rfl (lv_at hl 0 rfl) ?_
  refine r_geti C hR t_r0 fl_X4_21 rfl dX4_addNumber_1 ?_
  refine lv_aload_n C.x C.b dX4_addNumber_4 rfl (lv_at hl 0 rfl) ?_
  obtain ⟨g1, hf⟩ := gd_e hf
  refine r_getr C hR t_r0 fl_X4_9 (by decide) (nz_e g1) dX4_addNumber_5 (fun tq2 => ?_)
  have tg1 := okA tq2 rfl
  refine r_alen C hR (Or.inl tg1) dX4_addNumber_8 ?_
  refine lv_icmp_ge (tgt := 32) C.x C.b dX4_addNumber_9 (by decide) (fun c3 => ?_) (fun c3 => ?_)
  · have hf := it_t hf c3
    have hf := so_e hf
    subst hf
    exact r_vret C hr hlk hR hE hS dX4_addNumber_32
  · have hf := it_f hf c3
    refine lv_aload_n C.x C.b dX4_addNumber_12 rfl (lv_at hl 0 rfl) ?_
    refine r_getr C hR t_r0 fl_X4_9 (by decide) (nz_e g1) dX4_addNumber_13 (fun tq4 => ?_)
    refine lv_aload_n C.x C.b dX4_addNumber_16 rfl (lv_at hl 0 rfl) ?_
    refine r_geti C hR t_r0 fl_X4_21 rfl dX4_addNumber_17 ?_
    refine lv_iload_n C.x C.b dX4_addNumber_20 rfl (lv_at hl 1 rfl) ?_
    obtain ⟨g5, hf⟩ := gd_e hf
    refine r_iast C hR hS tg1 g5 dX4_addNumber_21 (fun H locs hR hS => ?_)
    obtain ⟨h6, e_h6⟩ : ∃ y, y = upI h (hpR h r0 0) (ix (hpI h r0 3)) x1 := ⟨_, rfl⟩
    rw [← e_h6] at hR
    have hf := lt_e hf e_h6
    have hE := eI e_h6 hE
    have t_r0 := tI e_h6 t_r0
    refine lv_aload_n C.x C.b dX4_addNumber_22 rfl (lv_at hl 0 rfl) ?_
    refine lv_dup C.x C.b dX4_addNumber_23 rfl ?_
    refine r_geti C hR t_r0 fl_X4_21 rfl dX4_addNumber_24 ?_
    refine lv_iconst (v := (1 : Int32)) C.x C.b dX4_addNumber_27 (by decide) ?_
    refine lv_iadd C.x C.b dX4_addNumber_28 ?_
    refine r_puti C hR hS t_r0 fl_X4_21 fp_X4_4_3 rfl dX4_addNumber_29 (fun H locs hR hS => ?_)
    obtain ⟨h7, e_h7⟩ : ∃ y, y = upI h6 r0 3 ((hpI h6 r0 3) + (1 : Int32)) := ⟨_, rfl⟩
    rw [← e_h7] at hR
    have hf := lt_e hf e_h7
    have hE := eI e_h7 hE
    have t_r0 := tI e_h7 t_r0
    have hf := so_e hf
    subst hf
    exact r_vret C hr hlk hR hE hS dX4_addNumber_32

def rm_X4_addSign : Room := { frames := 1, cells := 0, slots := 0, locals := 21 }
set_option maxRecDepth 100000 in
set_option maxHeartbeats 4000000 in
theorem k_X4_addSign {G : Gt} {l : Launch} {h : Hp} {r0 : Nat} {x1 : Int32} {out : Hp} (t_r0 : hpT h r0 = (1, 4))  (hf : f_X4_addSign h r0 x1 = some out) : Mt G l yX4_addSign cX4_addSign 2 (none) rm_X4_addSign [.ref (G.2.2 + r0), .int x1] h (none) out false 0 0 := by
  refine r_met (by decide +kernel) (Nat.le_of_ble_eq_true rfl) ?_
  intro p e s m args below meth c ls C hr hlk hnm hR hS hl
  have hE : Ext h h := Ext.rf
  have hl : lv_has ls 2 [(0, .ref (G.2.2 + r0)), (1, .int x1)] := hl
  rw [f_X4_addSign] at hf
  refine lv_aload_n C.x C.b dX4_addSign_0 rfl (lv_at hl 0 rfl) ?_
  refine lv_iload_n C.x C.b dX4_addSign_1 rfl (lv_at hl 1 rfl) ?_
  refine lv_ineg C.x C.b dX4_addSign_2 ?_
  obtain ⟨q1, h_q1, hf⟩ := bd_e hf
  refine r_callV (As := [.int (-x1)]) (rest := []) C hR hS t_r0 rfl mk_X4_addNumber cl_X4_25 (k_X4_addNumber t_r0 h_q1) ⟨⟨Nat.le_of_ble_eq_true rfl, Nat.le_of_ble_eq_true rfl⟩, ⟨rfl, rfl⟩, Nat.le_of_ble_eq_true rfl, Nat.le_of_ble_eq_true rfl⟩ rfl hl.1 rfl (Nat.le_of_ble_eq_true rfl) dX4_addSign_3 (fun H locs hR hS hE1 z_q1 => ?_)
  have hE := hE.tr hE1
  have t_r0 := hE1.at t_r0 (by decide)
  have hf := so_e hf
  subst hf
  exact r_vret C hr hlk hR hE hS dX4_addSign_6

def rm_X4_putNone : Room := { frames := 2, cells := 0, slots := 0, locals := 42 }
set_option maxRecDepth 100000 in
set_option maxHeartbeats 4000000 in
theorem k_X4_putNone {G : Gt} {l : Launch} {h : Hp} {r0 : Nat} {out : Hp} (t_r0 : hpT h r0 = (1, 4))  (hf : f_X4_putNone h r0 = some out) : Mt G l yX4_putNone cX4_putNone 1 (none) rm_X4_putNone [.ref (G.2.2 + r0)] h (none) out false 0 0 := by
  refine r_met (by decide +kernel) (Nat.le_of_ble_eq_true rfl) ?_
  intro p e s m args below meth c ls C hr hlk hnm hR hS hl
  have hE : Ext h h := Ext.rf
  have hl : lv_has ls 1 [(0, .ref (G.2.2 + r0))] := hl
  rw [f_X4_putNone] at hf
  refine lv_aload_n C.x C.b dX4_putNone_0 rfl (lv_at hl 0 rfl) ?_
  obtain ⟨q1, h_q1, hf⟩ := bd_e hf
  refine r_callV (As := []) (rest := []) C hR hS t_r0 rfl mk_X4_start cl_X4_35 (k_X4_start t_r0 h_q1) ⟨⟨Nat.le_of_ble_eq_true rfl, Nat.le_of_ble_eq_true rfl⟩, ⟨rfl, rfl⟩, Nat.le_of_ble_eq_true rfl, Nat.le_of_ble_eq_true rfl⟩ rfl hl.1 rfl (Nat.le_of_ble_eq_true rfl) dX4_putNone_1 (fun H locs hR hS hE1 z_q1 => ?_)
  have hE := hE.tr hE1
  have t_r0 := hE1.at t_r0 (by decide)
  refine lv_aload_n C.x C.b dX4_putNone_4 rfl (lv_at hl 0 rfl) ?_
  refine lv_iconst (v := (1 : Int32)) C.x C.b dX4_putNone_5 (by decide) ?_
  obtain ⟨q2, h_q2, hf⟩ := bd_e hf
  refine r_callV (As := [.int (1 : Int32)]) (rest := []) C hR hS t_r0 rfl mk_X4_addNumber cl_X4_25 (k_X4_addNumber t_r0 h_q2) ⟨⟨Nat.le_of_ble_eq_true rfl, Nat.le_of_ble_eq_true rfl⟩, ⟨rfl, rfl⟩, Nat.le_of_ble_eq_true rfl, Nat.le_of_ble_eq_true rfl⟩ rfl hl.1 rfl (Nat.le_of_ble_eq_true rfl) dX4_putNone_6 (fun H locs hR hS hE1 z_q2 => ?_)
  have hE := hE.tr hE1
  have t_r0 := hE1.at t_r0 (by decide)
  refine lv_aload_n C.x C.b dX4_putNone_9 rfl (lv_at hl 0 rfl) ?_
  refine lv_bipush (v := (111 : Int32)) C.x C.b dX4_putNone_10 (by decide) ?_
  obtain ⟨q3, h_q3, hf⟩ := bd_e hf
  refine r_callV (As := [.int (111 : Int32)]) (rest := []) C hR hS t_r0 rfl mk_X4_addSign cl_X4_38 (k_X4_addSign t_r0 h_q3) ⟨⟨Nat.le_of_ble_eq_true rfl, Nat.le_of_ble_eq_true rfl⟩, ⟨rfl, rfl⟩, Nat.le_of_ble_eq_true rfl, Nat.le_of_ble_eq_true rfl⟩ rfl hl.1 rfl (Nat.le_of_ble_eq_true rfl) dX4_putNone_12 (fun H locs hR hS hE1 z_q3 => ?_)
  have hE := hE.tr hE1
  have t_r0 := hE1.at t_r0 (by decide)
  refine lv_aload_n C.x C.b dX4_putNone_15 rfl (lv_at hl 0 rfl) ?_
  refine lv_iconst (v := (1 : Int32)) C.x C.b dX4_putNone_16 (by decide) ?_
  obtain ⟨q4, h_q4, hf⟩ := bd_e hf
  refine r_callV (As := [.int (1 : Int32)]) (rest := []) C hR hS t_r0 rfl mk_X4_addNumber cl_X4_25 (k_X4_addNumber t_r0 h_q4) ⟨⟨Nat.le_of_ble_eq_true rfl, Nat.le_of_ble_eq_true rfl⟩, ⟨rfl, rfl⟩, Nat.le_of_ble_eq_true rfl, Nat.le_of_ble_eq_true rfl⟩ rfl hl.1 rfl (Nat.le_of_ble_eq_true rfl) dX4_putNone_17 (fun H locs hR hS hE1 z_q4 => ?_)
  have hE := hE.tr hE1
  have t_r0 := hE1.at t_r0 (by decide)
  refine lv_aload_n C.x C.b dX4_putNone_20 rfl (lv_at hl 0 rfl) ?_
  refine lv_bipush (v := (62 : Int32)) C.x C.b dX4_putNone_21 (by decide) ?_
  obtain ⟨q5, h_q5, hf⟩ := bd_e hf
  refine r_callV (As := [.int (62 : Int32)]) (rest := []) C hR hS t_r0 rfl mk_X4_addSign cl_X4_38 (k_X4_addSign t_r0 h_q5) ⟨⟨Nat.le_of_ble_eq_true rfl, Nat.le_of_ble_eq_true rfl⟩, ⟨rfl, rfl⟩, Nat.le_of_ble_eq_true rfl, Nat.le_of_ble_eq_true rfl⟩ rfl hl.1 rfl (Nat.le_of_ble_eq_true rfl) dX4_putNone_23 (fun H locs hR hS hE1 z_q5 => ?_)
  have hE := hE.tr hE1
  have t_r0 := hE1.at t_r0 (by decide)
  refine lv_aload_n C.x C.b dX4_putNone_26 rfl (lv_at hl 0 rfl) ?_
  refine lv_bipush (v := (43 : Int32)) C.x C.b dX4_putNone_27 (by decide) ?_
  obtain ⟨q6, h_q6, hf⟩ := bd_e hf
  refine r_callV (As := [.int (43 : Int32)]) (rest := []) C hR hS t_r0 rfl mk_X4_addSign cl_X4_38 (k_X4_addSign t_r0 h_q6) ⟨⟨Nat.le_of_ble_eq_true rfl, Nat.le_of_ble_eq_true rfl⟩, ⟨rfl, rfl⟩, Nat.le_of_ble_eq_true rfl, Nat.le_of_ble_eq_true rfl⟩ rfl hl.1 rfl (Nat.le_of_ble_eq_true rfl) dX4_putNone_29 (fun H locs hR hS hE1 z_q6 => ?_)
  have hE := hE.tr hE1
  have t_r0 := hE1.at t_r0 (by decide)
  have hf := so_e hf
  subst hf
  exact r_vret C hr hlk hR hE hS dX4_putNone_32

def rm_X4_putLaw : Room := { frames := 2, cells := 0, slots := 0, locals := 42 }
set_option maxRecDepth 100000 in
set_option maxHeartbeats 4000000 in
theorem k_X4_putLaw {G : Gt} {l : Launch} {h : Hp} {r0 : Nat} {x1 : Int32} {x2 : Int32} {out : Hp} (t_r0 : hpT h r0 = (1, 4))  (hf : f_X4_putLaw h r0 x1 x2 = some out) : Mt G l yX4_putLaw cX4_putLaw 3 (none) rm_X4_putLaw [.ref (G.2.2 + r0), .int x1, .int x2] h (none) out false 0 0 := by
  refine r_met (by decide +kernel) (Nat.le_of_ble_eq_true rfl) ?_
  intro p e s m args below meth c ls C hr hlk hnm hR hS hl
  have hE : Ext h h := Ext.rf
  have hl : lv_has ls 3 [(0, .ref (G.2.2 + r0)), (1, .int x1), (2, .int x2)] := hl
  rw [f_X4_putLaw] at hf
  refine lv_aload_n C.x C.b dX4_putLaw_0 rfl (lv_at hl 0 rfl) ?_
  obtain ⟨q1, h_q1, hf⟩ := bd_e hf
  refine r_callV (As := []) (rest := []) C hR hS t_r0 rfl mk_X4_start cl_X4_35 (k_X4_start t_r0 h_q1) ⟨⟨Nat.le_of_ble_eq_true rfl, Nat.le_of_ble_eq_true rfl⟩, ⟨rfl, rfl⟩, Nat.le_of_ble_eq_true rfl, Nat.le_of_ble_eq_true rfl⟩ rfl hl.1 rfl (Nat.le_of_ble_eq_true rfl) dX4_putLaw_1 (fun H locs hR hS hE1 z_q1 => ?_)
  have hE := hE.tr hE1
  have t_r0 := hE1.at t_r0 (by decide)
  refine lv_aload_n C.x C.b dX4_putLaw_4 rfl (lv_at hl 0 rfl) ?_
  refine lv_iload_n C.x C.b dX4_putLaw_5 rfl (lv_at hl 1 rfl) ?_
  obtain ⟨q2, h_q2, hf⟩ := bd_e hf
  refine r_callV (As := [.int x1]) (rest := []) C hR hS t_r0 rfl mk_X4_addNumber cl_X4_25 (k_X4_addNumber t_r0 h_q2) ⟨⟨Nat.le_of_ble_eq_true rfl, Nat.le_of_ble_eq_true rfl⟩, ⟨rfl, rfl⟩, Nat.le_of_ble_eq_true rfl, Nat.le_of_ble_eq_true rfl⟩ rfl hl.1 rfl (Nat.le_of_ble_eq_true rfl) dX4_putLaw_6 (fun H locs hR hS hE1 z_q2 => ?_)
  have hE := hE.tr hE1
  have t_r0 := hE1.at t_r0 (by decide)
  refine lv_aload_n C.x C.b dX4_putLaw_9 rfl (lv_at hl 0 rfl) ?_
  refine lv_iload_n C.x C.b dX4_putLaw_10 rfl (lv_at hl 2 rfl) ?_
  obtain ⟨q3, h_q3, hf⟩ := bd_e hf
  refine r_callV (As := [.int x2]) (rest := []) C hR hS t_r0 rfl mk_X4_addNumber cl_X4_25 (k_X4_addNumber t_r0 h_q3) ⟨⟨Nat.le_of_ble_eq_true rfl, Nat.le_of_ble_eq_true rfl⟩, ⟨rfl, rfl⟩, Nat.le_of_ble_eq_true rfl, Nat.le_of_ble_eq_true rfl⟩ rfl hl.1 rfl (Nat.le_of_ble_eq_true rfl) dX4_putLaw_11 (fun H locs hR hS hE1 z_q3 => ?_)
  have hE := hE.tr hE1
  have t_r0 := hE1.at t_r0 (by decide)
  refine lv_aload_n C.x C.b dX4_putLaw_14 rfl (lv_at hl 0 rfl) ?_
  refine lv_bipush (v := (111 : Int32)) C.x C.b dX4_putLaw_15 (by decide) ?_
  obtain ⟨q4, h_q4, hf⟩ := bd_e hf
  refine r_callV (As := [.int (111 : Int32)]) (rest := []) C hR hS t_r0 rfl mk_X4_addSign cl_X4_38 (k_X4_addSign t_r0 h_q4) ⟨⟨Nat.le_of_ble_eq_true rfl, Nat.le_of_ble_eq_true rfl⟩, ⟨rfl, rfl⟩, Nat.le_of_ble_eq_true rfl, Nat.le_of_ble_eq_true rfl⟩ rfl hl.1 rfl (Nat.le_of_ble_eq_true rfl) dX4_putLaw_17 (fun H locs hR hS hE1 z_q4 => ?_)
  have hE := hE.tr hE1
  have t_r0 := hE1.at t_r0 (by decide)
  refine lv_aload_n C.x C.b dX4_putLaw_20 rfl (lv_at hl 0 rfl) ?_
  refine lv_bipush (v := (42 : Int32)) C.x C.b dX4_putLaw_21 (by decide) ?_
  obtain ⟨q5, h_q5, hf⟩ := bd_e hf
  refine r_callV (As := [.int (42 : Int32)]) (rest := []) C hR hS t_r0 rfl mk_X4_addSign cl_X4_38 (k_X4_addSign t_r0 h_q5) ⟨⟨Nat.le_of_ble_eq_true rfl, Nat.le_of_ble_eq_true rfl⟩, ⟨rfl, rfl⟩, Nat.le_of_ble_eq_true rfl, Nat.le_of_ble_eq_true rfl⟩ rfl hl.1 rfl (Nat.le_of_ble_eq_true rfl) dX4_putLaw_23 (fun H locs hR hS hE1 z_q5 => ?_)
  have hE := hE.tr hE1
  have t_r0 := hE1.at t_r0 (by decide)
  refine lv_aload_n C.x C.b dX4_putLaw_26 rfl (lv_at hl 0 rfl) ?_
  refine lv_bipush (v := (43 : Int32)) C.x C.b dX4_putLaw_27 (by decide) ?_
  obtain ⟨q6, h_q6, hf⟩ := bd_e hf
  refine r_callV (As := [.int (43 : Int32)]) (rest := []) C hR hS t_r0 rfl mk_X4_addSign cl_X4_38 (k_X4_addSign t_r0 h_q6) ⟨⟨Nat.le_of_ble_eq_true rfl, Nat.le_of_ble_eq_true rfl⟩, ⟨rfl, rfl⟩, Nat.le_of_ble_eq_true rfl, Nat.le_of_ble_eq_true rfl⟩ rfl hl.1 rfl (Nat.le_of_ble_eq_true rfl) dX4_putLaw_29 (fun H locs hR hS hE1 z_q6 => ?_)
  have hE := hE.tr hE1
  have t_r0 := hE1.at t_r0 (by decide)
  have hf := so_e hf
  subst hf
  exact r_vret C hr hlk hR hE hS dX4_putLaw_32

def rm_X4_isComparison : Room := { frames := 0, cells := 0, slots := 0, locals := 0 }
def P_X4_isComparison_18 (G : Gt) (l : Launch) (p : Program) (e : Env) (s : State) (m : MethodId) (args : Array Value) (below : List Frame) (meth : Method) (c : Code) (h : Hp) (out : Int32) (x0 : Int32) (k : Option Int32) : Prop := ∀ (H : Heap) (locs : List Loc) (ls : Array Slot), k = some out → Rel G h H → va_S (AA G.2.2) s.heap H locs → lv_has ls 1 [(0, .int x0)] → W p l e rm_X4_isComparison s m args below meth c H locs 0 0 (MQ below (Qm G h h (some (.int out)) true) args s 0 0 (AA G.2.2)) (F0 m 18 ls [])
set_option maxRecDepth 100000 in
set_option maxHeartbeats 4000000 in
theorem w_X4_isComparison_18 {G : Gt} {l : Launch} {p : Program} {e : Env} {s : State} {m : MethodId} {args : Array Value} {below : List Frame} {meth : Method} {c : Code} {h : Hp} {out : Int32} {x0 : Int32}  (C : Cx G p m c cX4_isComparison 1 s args RX4) (hr : meth.sig.returnType = some .boolean) (hlk : meth.locks = false)  : P_X4_isComparison_18 G l p e s m args below meth c h out x0 (f_X4_isComparison_18 h x0) := by
  intro H locs ls  hf hR hS  hl
  rw [f_X4_isComparison_18] at hf
  refine lv_iconst (v := (1 : Int32)) C.x C.b dX4_isComparison_18 (by decide) ?_
  refine lv_goto (tgt := 23) C.x C.b dX4_isComparison_19 (by decide) ?_
  have hf := so_e hf
  subst hf
  exact r_zret C hr hlk hR Ext.rf hS z_1 dX4_isComparison_23
set_option maxRecDepth 100000 in
set_option maxHeartbeats 4000000 in
theorem k_X4_isComparison {G : Gt} {l : Launch} {h : Hp} {x0 : Int32} {out : Int32}   (hf : f_X4_isComparison h x0 = some out) : Mt G l yX4_isComparison cX4_isComparison 1 (some .boolean) rm_X4_isComparison [.int x0] h (some (.int out)) h true 0 0 := by
  refine r_met (by decide +kernel) (Nat.le_of_ble_eq_true rfl) ?_
  intro p e s m args below meth c ls C hr hlk hnm hR hS hl
  have hl : lv_has ls 1 [(0, .int x0)] := hl
  rw [f_X4_isComparison] at hf
  refine lv_iload_n C.x C.b dX4_isComparison_0 rfl (lv_at hl 0 rfl) ?_
  refine lv_bipush (v := (60 : Int32)) C.x C.b dX4_isComparison_1 (by decide) ?_
  refine lv_icmp_eq (tgt := 18) C.x C.b dX4_isComparison_3 (by decide) (fun c1 => ?_) (fun c1 => ?_)
  · have hf := it_t hf c1
    exact w_X4_isComparison_18 C hr hlk _ _ _ hf hR hS (lv_sub hl [0] rfl)
  · have hf := it_f hf c1
    refine lv_iload_n C.x C.b dX4_isComparison_6 rfl (lv_at hl 0 rfl) ?_
    refine lv_bipush (v := (62 : Int32)) C.x C.b dX4_isComparison_7 (by decide) ?_
    refine lv_icmp_eq (tgt := 18) C.x C.b dX4_isComparison_9 (by decide) (fun c2 => ?_) (fun c2 => ?_)
    · have hf := it_t hf c2
      exact w_X4_isComparison_18 C hr hlk _ _ _ hf hR hS (lv_sub hl [0] rfl)
    · have hf := it_f hf c2
      refine lv_iload_n C.x C.b dX4_isComparison_12 rfl (lv_at hl 0 rfl) ?_
      refine lv_bipush (v := (61 : Int32)) C.x C.b dX4_isComparison_13 (by decide) ?_
      refine lv_icmp_ne (tgt := 22) C.x C.b dX4_isComparison_15 (by decide) (fun c3 => ?_) (fun c3 => ?_)
      · have hf := it_f hf c3
        refine lv_iconst (v := (0 : Int32)) C.x C.b dX4_isComparison_22 (by decide) ?_
        have hf := so_e hf
        subst hf
        exact r_zret C hr hlk hR Ext.rf hS z_0 dX4_isComparison_23
      · have hf := it_t hf c3
        exact w_X4_isComparison_18 C hr hlk _ _ _ hf hR hS (lv_sub hl [0] rfl)

def rm_X5_next : Room := { frames := 1, cells := 0, slots := 0, locals := 21 }
set_option maxRecDepth 100000 in
set_option maxHeartbeats 4000000 in
theorem k_X5_next {G : Gt} {l : Launch} {h : Hp} {r0 : Nat} {out : Int32} (t_r0 : hpT h r0 = (1, 5))  (hf : f_X5_next h r0 = some out) : Mt G l yX5_next cX5_next 1 (some .int) rm_X5_next [.ref (G.2.2 + r0)] h (some (.int out)) h false 0 0 := by
  refine r_met (by decide +kernel) (Nat.le_of_ble_eq_true rfl) ?_
  intro p e s m args below meth c ls C hr hlk hnm hR hS hl
  have hl : lv_has ls 1 [(0, .ref (G.2.2 + r0))] := hl
  rw [f_X5_next] at hf
  refine lv_aload_n C.x C.b dX5_next_0 rfl (lv_at hl 0 rfl) ?_
  refine r_geti C hR t_r0 fl_X5_19 rfl dX5_next_1 ?_
  refine lv_aload_n C.x C.b dX5_next_4 rfl (lv_at hl 0 rfl) ?_
  refine r_geti C hR t_r0 fl_X5_34 rfl dX5_next_5 ?_
  refine lv_icmp_ge (tgt := 32) C.x C.b dX5_next_8 (by decide) (fun c1 => ?_) (fun c1 => ?_)
  · have hf := it_t hf c1
    refine lv_iconst (v := (-1 : Int32)) C.x C.b dX5_next_32 (by decide) ?_
    have hf := so_e hf
    subst hf
    exact r_iret C hr hlk hR Ext.rf hS dX5_next_33
  · have hf := it_f hf c1
    refine lv_aload_n C.x C.b dX5_next_11 rfl (lv_at hl 0 rfl) ?_
    by_cases c2 : hpR h r0 0 = 0
    · refine r_getn C hR t_r0 fl_X5_9 (by decide) c2 dX5_next_12 ?_
      refine lv_ifnullN (tgt := 32) C.x C.b dX5_next_15 (by decide) ?_
      have hf := it_t hf c2
      refine lv_iconst (v := (-1 : Int32)) C.x C.b dX5_next_32 (by decide) ?_
      have hf := so_e hf
      subst hf
      exact r_iret C hr hlk hR Ext.rf hS dX5_next_33
    · refine r_getr C hR t_r0 fl_X5_9 (by decide) c2 dX5_next_12 (fun tc2 => ?_)
      refine lv_ifnull C.x C.b dX5_next_15 ?_
      have hf := it_f hf c2
      refine lv_aload_n C.x C.b dX5_next_18 rfl (lv_at hl 0 rfl) ?_
      obtain ⟨g3, hf⟩ := gd_e hf
      refine r_getr C hR t_r0 fl_X5_9 (by decide) (nz_e g3) dX5_next_19 (fun tq4 => ?_)
      have tg3 := okO tq4 rfl
      refine lv_aload_n C.x C.b dX5_next_22 rfl (lv_at hl 0 rfl) ?_
      refine r_geti C hR t_r0 fl_X5_19 rfl dX5_next_23 ?_
      obtain ⟨q5, h_q5, hf⟩ := bd_e hf
      refine r_callV (As := [.int (hpI h r0 2)]) (rest := []) C hR hS tg3 rfl mk_X6_get cl_X5_49 (k_X6_get tg3 h_q5) ⟨⟨Nat.le_of_ble_eq_true rfl, Nat.le_of_ble_eq_true rfl⟩, ⟨rfl, rfl⟩, Nat.le_of_ble_eq_true rfl, Nat.le_of_ble_eq_true rfl⟩ rfl hl.1 rfl (Nat.le_of_ble_eq_true rfl) dX5_next_26 (fun H locs hR hS hE1 z_q5 => ?_)
      refine lv_goto (tgt := 33) C.x C.b dX5_next_29 (by decide) ?_
      have hf := so_e hf
      subst hf
      exact r_iret C hr hlk hR Ext.rf hS dX5_next_33

def rm_X5_number : Room := { frames := 2, cells := 0, slots := 0, locals := 41 }
def P_X5_number_56 (G : Gt) (l : Launch) (p : Program) (e : Env) (s : State) (m : MethodId) (args : Array Value) (below : List Frame) (meth : Method) (c : Code) (h0 : Hp) (out : Hp) (r0 : Nat) (k : Hp → Int32 → Option Hp) : Prop := ∀ (H : Heap) (locs : List Loc) (ls : Array Slot) (h : Hp) (x1 : Int32), k h x1 = some out → Ext h0 h → Rel G h H → va_S (AA G.2.2) s.heap H locs → hpT h r0 = (1, 5) → lv_has ls 3 [(0, .ref (G.2.2 + r0)), (1, .int x1)] → W p l e rm_X5_number s m args below meth c H locs 0 0 (MQ below (Qm G h0 out (none) false) args s 0 0 (AA G.2.2)) (F0 m 56 ls [])
def P_X5_number_4 (G : Gt) (l : Launch) (p : Program) (e : Env) (s : State) (m : MethodId) (args : Array Value) (below : List Frame) (meth : Method) (c : Code) (h0 : Hp) (out : Hp) (r0 : Nat) (k : Hp → Int32 → Int32 → Option Hp) : Prop := ∀ (H : Heap) (locs : List Loc) (ls : Array Slot) (h : Hp) (x1 : Int32) (x2 : Int32), k h x1 x2 = some out → Ext h0 h → Rel G h H → va_S (AA G.2.2) s.heap H locs → hpT h r0 = (1, 5) → lv_has ls 3 [(0, .ref (G.2.2 + r0)), (1, .int x1), (2, .int x2)] → W p l e rm_X5_number s m args below meth c H locs 0 0 (MQ below (Qm G h0 out (none) false) args s 0 0 (AA G.2.2)) (F0 m 4 ls [])
set_option maxRecDepth 100000 in
set_option maxHeartbeats 4000000 in
theorem w_X5_number_56 {G : Gt} {l : Launch} {p : Program} {e : Env} {s : State} {m : MethodId} {args : Array Value} {below : List Frame} {meth : Method} {c : Code} {h0 : Hp} {out : Hp} {r0 : Nat}  (C : Cx G p m c cX5_number 3 s args RX5) (hr : meth.sig.returnType = none) (hlk : meth.locks = false)  : P_X5_number_56 G l p e s m args below meth c h0 out r0 (f_X5_number_56 r0) := by
  intro H locs ls h x1 hf hE hR hS t_r0 hl
  rw [f_X5_number_56] at hf
  refine lv_aload_n C.x C.b dX5_number_56 rfl (lv_at hl 0 rfl) ?_
  by_cases c10 : hpR h r0 1 = 0
  · refine r_getn C hR t_r0 fl_X5_15 (by decide) c10 dX5_number_57 ?_
    refine lv_ifnullN (tgt := 71) C.x C.b dX5_number_60 (by decide) ?_
    have hf := it_t hf c10
    have hf := so_e hf
    subst hf
    exact r_vret C hr hlk hR hE hS dX5_number_71
  · refine r_getr C hR t_r0 fl_X5_15 (by decide) c10 dX5_number_57 (fun tc10 => ?_)
    refine lv_ifnull C.x C.b dX5_number_60 ?_
    have hf := it_f hf c10
    refine lv_aload_n C.x C.b dX5_number_63 rfl (lv_at hl 0 rfl) ?_
    obtain ⟨g11, hf⟩ := gd_e hf
    refine r_getr C hR t_r0 fl_X5_15 (by decide) (nz_e g11) dX5_number_64 (fun tq12 => ?_)
    have tg11 := okO tq12 rfl
    refine lv_iload_n C.x C.b dX5_number_67 rfl (lv_at hl 1 rfl) ?_
    obtain ⟨q13, h_q13, hf⟩ := bd_e hf
    refine r_callV (As := [.int x1]) (rest := []) C hR hS tg11 rfl mk_X4_addNumber cl_X5_85 (k_X4_addNumber tg11 h_q13) ⟨⟨Nat.le_of_ble_eq_true rfl, Nat.le_of_ble_eq_true rfl⟩, ⟨rfl, rfl⟩, Nat.le_of_ble_eq_true rfl, Nat.le_of_ble_eq_true rfl⟩ rfl hl.1 rfl (Nat.le_of_ble_eq_true rfl) dX5_number_68 (fun H locs hR hS hE1 z_q13 => ?_)
    have hE := hE.tr hE1
    have t_r0 := hE1.at t_r0 (by decide)
    have hf := so_e hf
    subst hf
    exact r_vret C hr hlk hR hE hS dX5_number_71
set_option maxRecDepth 100000 in
set_option maxHeartbeats 4000000 in
theorem w_X5_number_4 {G : Gt} {l : Launch} {p : Program} {e : Env} {s : State} {m : MethodId} {args : Array Value} {below : List Frame} {meth : Method} {c : Code} {h0 : Hp} {out : Hp} {r0 : Nat}  (C : Cx G p m c cX5_number 3 s args RX5) (hr : meth.sig.returnType = none) (hlk : meth.locks = false)  (n : Nat) : P_X5_number_4 G l p e s m args below meth c h0 out r0 (f_X5_number_4 r0 n) := by
  induction n with
  | zero => intro H locs ls h x1 x2 hf hE hR hS t_r0 hl; cases hf
  | succ n hk4 =>
    intro H locs ls h x1 x2 hf hE hR hS t_r0 hl
    rw [f_X5_number_4] at hf
    obtain ⟨k4, e_k4⟩ : ∃ y, y = f_X5_number_4 r0 n := ⟨_, rfl⟩
    have hf := lt_e hf e_k4
    rw [← e_k4] at hk4
    refine lv_iload_n C.x C.b dX5_number_4 rfl (lv_at hl 2 rfl) ?_
    refine lv_iconst (v := (3 : Int32)) C.x C.b dX5_number_5 (by decide) ?_
    refine lv_icmp_ge (tgt := 56) C.x C.b dX5_number_6 (by decide) (fun c1 => ?_) (fun c1 => ?_)
    · have hf := it_t hf c1
      exact w_X5_number_56 C hr hlk _ _ _ _ _ hf hE hR hS t_r0 (lv_sub hl [0, 1] rfl)
    · have hf := it_f hf c1
      refine lv_aload_n C.x C.b dX5_number_9 rfl (lv_at hl 0 rfl) ?_
      obtain ⟨q2, h_q2, hf⟩ := bd_e hf
      refine r_callV (As := []) (rest := []) C hR hS t_r0 rfl mk_X5_next cl_X5_60 (k_X5_next t_r0 h_q2) ⟨⟨Nat.le_of_ble_eq_true rfl, Nat.le_of_ble_eq_true rfl⟩, ⟨rfl, rfl⟩, Nat.le_of_ble_eq_true rfl, Nat.le_of_ble_eq_true rfl⟩ rfl hl.1 rfl (Nat.le_of_ble_eq_true rfl) dX5_number_10 (fun H locs hR hS hE1 z_q2 => ?_)
      refine lv_bipush (v := (48 : Int32)) C.x C.b dX5_number_13 (by decide) ?_
      refine lv_icmp_lt (tgt := 56) C.x C.b dX5_number_15 (by decide) (fun c3 => ?_) (fun c3 => ?_)
      · have hf := it_t hf c3
        exact w_X5_number_56 C hr hlk _ _ _ _ _ hf hE hR hS t_r0 (lv_sub hl [0, 1] rfl)
      · have hf := it_f hf c3
        refine lv_aload_n C.x C.b dX5_number_18 rfl (lv_at hl 0 rfl) ?_
        obtain ⟨q4, h_q4, hf⟩ := bd_e hf
        refine r_callV (As := []) (rest := []) C hR hS t_r0 rfl mk_X5_next cl_X5_60 (k_X5_next t_r0 h_q4) ⟨⟨Nat.le_of_ble_eq_true rfl, Nat.le_of_ble_eq_true rfl⟩, ⟨rfl, rfl⟩, Nat.le_of_ble_eq_true rfl, Nat.le_of_ble_eq_true rfl⟩ rfl hl.1 rfl (Nat.le_of_ble_eq_true rfl) dX5_number_19 (fun H locs hR hS hE1 z_q4 => ?_)
        refine lv_bipush (v := (57 : Int32)) C.x C.b dX5_number_22 (by decide) ?_
        refine lv_icmp_gt (tgt := 56) C.x C.b dX5_number_24 (by decide) (fun c5 => ?_) (fun c5 => ?_)
        · have hf := it_t hf c5
          exact w_X5_number_56 C hr hlk _ _ _ _ _ hf hE hR hS t_r0 (lv_sub hl [0, 1] rfl)
        · have hf := it_f hf c5
          refine lv_iload_n C.x C.b dX5_number_27 rfl (lv_at hl 1 rfl) ?_
          refine lv_bipush (v := (10 : Int32)) C.x C.b dX5_number_28 (by decide) ?_
          refine lv_imul C.x C.b dX5_number_30 ?_
          refine lv_aload_n C.x C.b dX5_number_31 rfl (lv_at hl 0 rfl) ?_
          obtain ⟨q6, h_q6, hf⟩ := bd_e hf
          refine r_callV (As := []) (rest := [.int (x1 * (10 : Int32))]) C hR hS t_r0 rfl mk_X5_next cl_X5_60 (k_X5_next t_r0 h_q6) ⟨⟨Nat.le_of_ble_eq_true rfl, Nat.le_of_ble_eq_true rfl⟩, ⟨rfl, rfl⟩, Nat.le_of_ble_eq_true rfl, Nat.le_of_ble_eq_true rfl⟩ rfl hl.1 rfl (Nat.le_of_ble_eq_true rfl) dX5_number_32 (fun H locs hR hS hE1 z_q6 => ?_)
          refine lv_iadd C.x C.b dX5_number_35 ?_
          refine lv_bipush (v := (48 : Int32)) C.x C.b dX5_number_36 (by decide) ?_
          refine lv_isub C.x C.b dX5_number_38 ?_
          refine lv_topi (fun v7 e_v7 => ?_)
          have hf := lt_e hf e_v7
          refine lv_istore_n (lv' := [(1, .int v7), (0, .ref (G.2.2 + r0)), (2, .int x2)]) C.x C.b dX5_number_39 rfl hl (by decide) rfl (fun ls hl => ?_)
          refine lv_aload_n C.x C.b dX5_number_40 rfl (lv_at hl 1 rfl) ?_
          refine lv_dup C.x C.b dX5_number_41 rfl ?_
          refine r_geti C hR t_r0 fl_X5_19 rfl dX5_number_42 ?_
          refine lv_iconst (v := (1 : Int32)) C.x C.b dX5_number_45 (by decide) ?_
          refine lv_iadd C.x C.b dX5_number_46 ?_
          refine r_puti C hR hS t_r0 fl_X5_19 fp_X5_5_2 rfl dX5_number_47 (fun H locs hR hS => ?_)
          obtain ⟨h8, e_h8⟩ : ∃ y, y = upI h r0 2 ((hpI h r0 2) + (1 : Int32)) := ⟨_, rfl⟩
          rw [← e_h8] at hR
          have hf := lt_e hf e_h8
          have hE := eI e_h8 hE
          have t_r0 := tI e_h8 t_r0
          obtain ⟨v9, e_v9⟩ : ∃ y : Int32, y = x2 + (1 : Int32) := ⟨_, rfl⟩
          have hf := lt_e hf e_v9
          refine lv_iinc (v := v9) (lv' := [(2, .int v9), (1, .int v7), (0, .ref (G.2.2 + r0))]) C.x C.b dX5_number_50 hl (k := 2) rfl (by rw [e_v9]; rfl) (by decide) rfl (fun ls hl => ?_)
          refine lv_goto (tgt := 4) C.x C.b dX5_number_53 (by decide) ?_
          exact hk4 _ _ _ _ _ _ hf hE hR hS t_r0 (lv_sub hl [2, 1, 0] rfl)
set_option maxRecDepth 100000 in
set_option maxHeartbeats 4000000 in
theorem k_X5_number {G : Gt} {l : Launch} {h : Hp} {r0 : Nat} {out : Hp} (t_r0 : hpT h r0 = (1, 5))  (hf : f_X5_number h r0 = some out) : Mt G l yX5_number cX5_number 3 (none) rm_X5_number [.ref (G.2.2 + r0)] h (none) out false 0 0 := by
  refine r_met (by decide +kernel) (Nat.le_of_ble_eq_true rfl) ?_
  intro p e s m args below meth c ls C hr hlk hnm hR hS hl
  have hE : Ext h h := Ext.rf
  have hl : lv_has ls 3 [(0, .ref (G.2.2 + r0))] := hl
  rw [f_X5_number] at hf
  refine lv_iconst (v := (0 : Int32)) C.x C.b dX5_number_0 (by decide) ?_
  refine lv_istore_n (lv' := [(1, .int (0 : Int32)), (0, .ref (G.2.2 + r0))]) C.x C.b dX5_number_1 rfl hl (by decide) rfl (fun ls hl => ?_)
  refine lv_iconst (v := (0 : Int32)) C.x C.b dX5_number_2 (by decide) ?_
  refine lv_istore_n (lv' := [(2, .int (0 : Int32)), (1, .int (0 : Int32)), (0, .ref (G.2.2 + r0))]) C.x C.b dX5_number_3 rfl hl (by decide) rfl (fun ls hl => ?_)
  exact w_X5_number_4 C hr hlk FU _ _ _ _ _ _ hf hE hR hS t_r0 (lv_sub hl [2, 1, 0] rfl)

def rm_X5_isLetter : Room := { frames := 0, cells := 0, slots := 0, locals := 0 }
set_option maxRecDepth 100000 in
set_option maxHeartbeats 4000000 in
theorem k_X5_isLetter {G : Gt} {l : Launch} {h : Hp} {x0 : Int32} {out : Int32}   (hf : f_X5_isLetter h x0 = some out) : Mt G l yX5_isLetter cX5_isLetter 1 (some .boolean) rm_X5_isLetter [.int x0] h (some (.int out)) h true 0 0 := by
  refine r_met (by decide +kernel) (Nat.le_of_ble_eq_true rfl) ?_
  intro p e s m args below meth c ls C hr hlk hnm hR hS hl
  have hl : lv_has ls 1 [(0, .int x0)] := hl
  rw [f_X5_isLetter] at hf
  refine lv_iload_n C.x C.b dX5_isLetter_0 rfl (lv_at hl 0 rfl) ?_
  by_cases c1_0 : x0 = (97 : Int32)
  · have hf := it_t hf c1_0
    refine lv_tableIn (tgt := 108) C.x C.b dX5_isLetter_1 (by rw [c1_0]; decide) (by rw [c1_0]; decide) (by rw [c1_0]; rfl) (by decide) ?_
    refine lv_iconst (v := (1 : Int32)) C.x C.b dX5_isLetter_108 (by decide) ?_
    have hf := so_e hf
    subst hf
    exact r_zret C hr hlk hR Ext.rf hS z_1 dX5_isLetter_109
  have hf := it_f hf c1_0
  by_cases c1_1 : x0 = (98 : Int32)
  · have hf := it_t hf c1_1
    refine lv_tableIn (tgt := 110) C.x C.b dX5_isLetter_1 (by rw [c1_1]; decide) (by rw [c1_1]; decide) (by rw [c1_1]; rfl) (by decide) ?_
    refine lv_iconst (v := (0 : Int32)) C.x C.b dX5_isLetter_110 (by decide) ?_
    have hf := so_e hf
    subst hf
    exact r_zret C hr hlk hR Ext.rf hS z_0 dX5_isLetter_111
  have hf := it_f hf c1_1
  by_cases c1_2 : x0 = (99 : Int32)
  · have hf := it_t hf c1_2
    refine lv_tableIn (tgt := 108) C.x C.b dX5_isLetter_1 (by rw [c1_2]; decide) (by rw [c1_2]; decide) (by rw [c1_2]; rfl) (by decide) ?_
    refine lv_iconst (v := (1 : Int32)) C.x C.b dX5_isLetter_108 (by decide) ?_
    have hf := so_e hf
    subst hf
    exact r_zret C hr hlk hR Ext.rf hS z_1 dX5_isLetter_109
  have hf := it_f hf c1_2
  by_cases c1_3 : x0 = (100 : Int32)
  · have hf := it_t hf c1_3
    refine lv_tableIn (tgt := 110) C.x C.b dX5_isLetter_1 (by rw [c1_3]; decide) (by rw [c1_3]; decide) (by rw [c1_3]; rfl) (by decide) ?_
    refine lv_iconst (v := (0 : Int32)) C.x C.b dX5_isLetter_110 (by decide) ?_
    have hf := so_e hf
    subst hf
    exact r_zret C hr hlk hR Ext.rf hS z_0 dX5_isLetter_111
  have hf := it_f hf c1_3
  by_cases c1_4 : x0 = (101 : Int32)
  · have hf := it_t hf c1_4
    refine lv_tableIn (tgt := 110) C.x C.b dX5_isLetter_1 (by rw [c1_4]; decide) (by rw [c1_4]; decide) (by rw [c1_4]; rfl) (by decide) ?_
    refine lv_iconst (v := (0 : Int32)) C.x C.b dX5_isLetter_110 (by decide) ?_
    have hf := so_e hf
    subst hf
    exact r_zret C hr hlk hR Ext.rf hS z_0 dX5_isLetter_111
  have hf := it_f hf c1_4
  by_cases c1_5 : x0 = (102 : Int32)
  · have hf := it_t hf c1_5
    refine lv_tableIn (tgt := 110) C.x C.b dX5_isLetter_1 (by rw [c1_5]; decide) (by rw [c1_5]; decide) (by rw [c1_5]; rfl) (by decide) ?_
    refine lv_iconst (v := (0 : Int32)) C.x C.b dX5_isLetter_110 (by decide) ?_
    have hf := so_e hf
    subst hf
    exact r_zret C hr hlk hR Ext.rf hS z_0 dX5_isLetter_111
  have hf := it_f hf c1_5
  by_cases c1_6 : x0 = (103 : Int32)
  · have hf := it_t hf c1_6
    refine lv_tableIn (tgt := 110) C.x C.b dX5_isLetter_1 (by rw [c1_6]; decide) (by rw [c1_6]; decide) (by rw [c1_6]; rfl) (by decide) ?_
    refine lv_iconst (v := (0 : Int32)) C.x C.b dX5_isLetter_110 (by decide) ?_
    have hf := so_e hf
    subst hf
    exact r_zret C hr hlk hR Ext.rf hS z_0 dX5_isLetter_111
  have hf := it_f hf c1_6
  by_cases c1_7 : x0 = (104 : Int32)
  · have hf := it_t hf c1_7
    refine lv_tableIn (tgt := 108) C.x C.b dX5_isLetter_1 (by rw [c1_7]; decide) (by rw [c1_7]; decide) (by rw [c1_7]; rfl) (by decide) ?_
    refine lv_iconst (v := (1 : Int32)) C.x C.b dX5_isLetter_108 (by decide) ?_
    have hf := so_e hf
    subst hf
    exact r_zret C hr hlk hR Ext.rf hS z_1 dX5_isLetter_109
  have hf := it_f hf c1_7
  by_cases c1_8 : x0 = (105 : Int32)
  · have hf := it_t hf c1_8
    refine lv_tableIn (tgt := 110) C.x C.b dX5_isLetter_1 (by rw [c1_8]; decide) (by rw [c1_8]; decide) (by rw [c1_8]; rfl) (by decide) ?_
    refine lv_iconst (v := (0 : Int32)) C.x C.b dX5_isLetter_110 (by decide) ?_
    have hf := so_e hf
    subst hf
    exact r_zret C hr hlk hR Ext.rf hS z_0 dX5_isLetter_111
  have hf := it_f hf c1_8
  by_cases c1_9 : x0 = (106 : Int32)
  · have hf := it_t hf c1_9
    refine lv_tableIn (tgt := 110) C.x C.b dX5_isLetter_1 (by rw [c1_9]; decide) (by rw [c1_9]; decide) (by rw [c1_9]; rfl) (by decide) ?_
    refine lv_iconst (v := (0 : Int32)) C.x C.b dX5_isLetter_110 (by decide) ?_
    have hf := so_e hf
    subst hf
    exact r_zret C hr hlk hR Ext.rf hS z_0 dX5_isLetter_111
  have hf := it_f hf c1_9
  by_cases c1_10 : x0 = (107 : Int32)
  · have hf := it_t hf c1_10
    refine lv_tableIn (tgt := 110) C.x C.b dX5_isLetter_1 (by rw [c1_10]; decide) (by rw [c1_10]; decide) (by rw [c1_10]; rfl) (by decide) ?_
    refine lv_iconst (v := (0 : Int32)) C.x C.b dX5_isLetter_110 (by decide) ?_
    have hf := so_e hf
    subst hf
    exact r_zret C hr hlk hR Ext.rf hS z_0 dX5_isLetter_111
  have hf := it_f hf c1_10
  by_cases c1_11 : x0 = (108 : Int32)
  · have hf := it_t hf c1_11
    refine lv_tableIn (tgt := 110) C.x C.b dX5_isLetter_1 (by rw [c1_11]; decide) (by rw [c1_11]; decide) (by rw [c1_11]; rfl) (by decide) ?_
    refine lv_iconst (v := (0 : Int32)) C.x C.b dX5_isLetter_110 (by decide) ?_
    have hf := so_e hf
    subst hf
    exact r_zret C hr hlk hR Ext.rf hS z_0 dX5_isLetter_111
  have hf := it_f hf c1_11
  by_cases c1_12 : x0 = (109 : Int32)
  · have hf := it_t hf c1_12
    refine lv_tableIn (tgt := 110) C.x C.b dX5_isLetter_1 (by rw [c1_12]; decide) (by rw [c1_12]; decide) (by rw [c1_12]; rfl) (by decide) ?_
    refine lv_iconst (v := (0 : Int32)) C.x C.b dX5_isLetter_110 (by decide) ?_
    have hf := so_e hf
    subst hf
    exact r_zret C hr hlk hR Ext.rf hS z_0 dX5_isLetter_111
  have hf := it_f hf c1_12
  by_cases c1_13 : x0 = (110 : Int32)
  · have hf := it_t hf c1_13
    refine lv_tableIn (tgt := 108) C.x C.b dX5_isLetter_1 (by rw [c1_13]; decide) (by rw [c1_13]; decide) (by rw [c1_13]; rfl) (by decide) ?_
    refine lv_iconst (v := (1 : Int32)) C.x C.b dX5_isLetter_108 (by decide) ?_
    have hf := so_e hf
    subst hf
    exact r_zret C hr hlk hR Ext.rf hS z_1 dX5_isLetter_109
  have hf := it_f hf c1_13
  by_cases c1_14 : x0 = (111 : Int32)
  · have hf := it_t hf c1_14
    refine lv_tableIn (tgt := 108) C.x C.b dX5_isLetter_1 (by rw [c1_14]; decide) (by rw [c1_14]; decide) (by rw [c1_14]; rfl) (by decide) ?_
    refine lv_iconst (v := (1 : Int32)) C.x C.b dX5_isLetter_108 (by decide) ?_
    have hf := so_e hf
    subst hf
    exact r_zret C hr hlk hR Ext.rf hS z_1 dX5_isLetter_109
  have hf := it_f hf c1_14
  by_cases c1_15 : x0 = (112 : Int32)
  · have hf := it_t hf c1_15
    refine lv_tableIn (tgt := 110) C.x C.b dX5_isLetter_1 (by rw [c1_15]; decide) (by rw [c1_15]; decide) (by rw [c1_15]; rfl) (by decide) ?_
    refine lv_iconst (v := (0 : Int32)) C.x C.b dX5_isLetter_110 (by decide) ?_
    have hf := so_e hf
    subst hf
    exact r_zret C hr hlk hR Ext.rf hS z_0 dX5_isLetter_111
  have hf := it_f hf c1_15
  by_cases c1_16 : x0 = (113 : Int32)
  · have hf := it_t hf c1_16
    refine lv_tableIn (tgt := 110) C.x C.b dX5_isLetter_1 (by rw [c1_16]; decide) (by rw [c1_16]; decide) (by rw [c1_16]; rfl) (by decide) ?_
    refine lv_iconst (v := (0 : Int32)) C.x C.b dX5_isLetter_110 (by decide) ?_
    have hf := so_e hf
    subst hf
    exact r_zret C hr hlk hR Ext.rf hS z_0 dX5_isLetter_111
  have hf := it_f hf c1_16
  by_cases c1_17 : x0 = (114 : Int32)
  · have hf := it_t hf c1_17
    refine lv_tableIn (tgt := 108) C.x C.b dX5_isLetter_1 (by rw [c1_17]; decide) (by rw [c1_17]; decide) (by rw [c1_17]; rfl) (by decide) ?_
    refine lv_iconst (v := (1 : Int32)) C.x C.b dX5_isLetter_108 (by decide) ?_
    have hf := so_e hf
    subst hf
    exact r_zret C hr hlk hR Ext.rf hS z_1 dX5_isLetter_109
  have hf := it_f hf c1_17
  by_cases c1_18 : x0 = (115 : Int32)
  · have hf := it_t hf c1_18
    refine lv_tableIn (tgt := 108) C.x C.b dX5_isLetter_1 (by rw [c1_18]; decide) (by rw [c1_18]; decide) (by rw [c1_18]; rfl) (by decide) ?_
    refine lv_iconst (v := (1 : Int32)) C.x C.b dX5_isLetter_108 (by decide) ?_
    have hf := so_e hf
    subst hf
    exact r_zret C hr hlk hR Ext.rf hS z_1 dX5_isLetter_109
  have hf := it_f hf c1_18
  by_cases c1_19 : x0 = (116 : Int32)
  · have hf := it_t hf c1_19
    refine lv_tableIn (tgt := 110) C.x C.b dX5_isLetter_1 (by rw [c1_19]; decide) (by rw [c1_19]; decide) (by rw [c1_19]; rfl) (by decide) ?_
    refine lv_iconst (v := (0 : Int32)) C.x C.b dX5_isLetter_110 (by decide) ?_
    have hf := so_e hf
    subst hf
    exact r_zret C hr hlk hR Ext.rf hS z_0 dX5_isLetter_111
  have hf := it_f hf c1_19
  by_cases c1_20 : x0 = (117 : Int32)
  · have hf := it_t hf c1_20
    refine lv_tableIn (tgt := 110) C.x C.b dX5_isLetter_1 (by rw [c1_20]; decide) (by rw [c1_20]; decide) (by rw [c1_20]; rfl) (by decide) ?_
    refine lv_iconst (v := (0 : Int32)) C.x C.b dX5_isLetter_110 (by decide) ?_
    have hf := so_e hf
    subst hf
    exact r_zret C hr hlk hR Ext.rf hS z_0 dX5_isLetter_111
  have hf := it_f hf c1_20
  by_cases c1_21 : x0 = (118 : Int32)
  · have hf := it_t hf c1_21
    refine lv_tableIn (tgt := 110) C.x C.b dX5_isLetter_1 (by rw [c1_21]; decide) (by rw [c1_21]; decide) (by rw [c1_21]; rfl) (by decide) ?_
    refine lv_iconst (v := (0 : Int32)) C.x C.b dX5_isLetter_110 (by decide) ?_
    have hf := so_e hf
    subst hf
    exact r_zret C hr hlk hR Ext.rf hS z_0 dX5_isLetter_111
  have hf := it_f hf c1_21
  by_cases c1_22 : x0 = (119 : Int32)
  · have hf := it_t hf c1_22
    refine lv_tableIn (tgt := 108) C.x C.b dX5_isLetter_1 (by rw [c1_22]; decide) (by rw [c1_22]; decide) (by rw [c1_22]; rfl) (by decide) ?_
    refine lv_iconst (v := (1 : Int32)) C.x C.b dX5_isLetter_108 (by decide) ?_
    have hf := so_e hf
    subst hf
    exact r_zret C hr hlk hR Ext.rf hS z_1 dX5_isLetter_109
  have hf := it_f hf c1_22
  refine lv_tableOut (tgt := 110) C.x C.b dX5_isLetter_1 (tb_out 23 (by decide) (fun j hj => match j, hj with | 0, _ => fun q => c1_0 (q.trans (by decide)) | 1, _ => fun q => c1_1 (q.trans (by decide)) | 2, _ => fun q => c1_2 (q.trans (by decide)) | 3, _ => fun q => c1_3 (q.trans (by decide)) | 4, _ => fun q => c1_4 (q.trans (by decide)) | 5, _ => fun q => c1_5 (q.trans (by decide)) | 6, _ => fun q => c1_6 (q.trans (by decide)) | 7, _ => fun q => c1_7 (q.trans (by decide)) | 8, _ => fun q => c1_8 (q.trans (by decide)) | 9, _ => fun q => c1_9 (q.trans (by decide)) | 10, _ => fun q => c1_10 (q.trans (by decide)) | 11, _ => fun q => c1_11 (q.trans (by decide)) | 12, _ => fun q => c1_12 (q.trans (by decide)) | 13, _ => fun q => c1_13 (q.trans (by decide)) | 14, _ => fun q => c1_14 (q.trans (by decide)) | 15, _ => fun q => c1_15 (q.trans (by decide)) | 16, _ => fun q => c1_16 (q.trans (by decide)) | 17, _ => fun q => c1_17 (q.trans (by decide)) | 18, _ => fun q => c1_18 (q.trans (by decide)) | 19, _ => fun q => c1_19 (q.trans (by decide)) | 20, _ => fun q => c1_20 (q.trans (by decide)) | 21, _ => fun q => c1_21 (q.trans (by decide)) | 22, _ => fun q => c1_22 (q.trans (by decide)) | n + 23, hn => absurd hn (by omega))) (by decide) ?_
  refine lv_iconst (v := (0 : Int32)) C.x C.b dX5_isLetter_110 (by decide) ?_
  have hf := so_e hf
  subst hf
  exact r_zret C hr hlk hR Ext.rf hS z_0 dX5_isLetter_111

def rm_X5_write : Room := { frames := 2, cells := 0, slots := 0, locals := 42 }
set_option maxRecDepth 100000 in
set_option maxHeartbeats 4000000 in
theorem k_X5_write {G : Gt} {l : Launch} {h : Hp} {r0 : Nat} {x1 : Int32} {out : Hp} (t_r0 : hpT h r0 = (1, 5))  (hf : f_X5_write h r0 x1 = some out) : Mt G l yX5_write cX5_write 2 (none) rm_X5_write [.ref (G.2.2 + r0), .int x1] h (none) out false 0 0 := by
  refine r_met (by decide +kernel) (Nat.le_of_ble_eq_true rfl) ?_
  intro p e s m args below meth c ls C hr hlk hnm hR hS hl
  have hE : Ext h h := Ext.rf
  have hl : lv_has ls 2 [(0, .ref (G.2.2 + r0)), (1, .int x1)] := hl
  rw [f_X5_write] at hf
  refine lv_aload_n C.x C.b dX5_write_0 rfl (lv_at hl 0 rfl) ?_
  by_cases c1 : hpR h r0 1 = 0
  · refine r_getn C hR t_r0 fl_X5_15 (by decide) c1 dX5_write_1 ?_
    refine lv_ifnullN (tgt := 15) C.x C.b dX5_write_4 (by decide) ?_
    have hf := it_t hf c1
    have hf := so_e hf
    subst hf
    exact r_vret C hr hlk hR hE hS dX5_write_15
  · refine r_getr C hR t_r0 fl_X5_15 (by decide) c1 dX5_write_1 (fun tc1 => ?_)
    refine lv_ifnull C.x C.b dX5_write_4 ?_
    have hf := it_f hf c1
    refine lv_aload_n C.x C.b dX5_write_7 rfl (lv_at hl 0 rfl) ?_
    obtain ⟨g2, hf⟩ := gd_e hf
    refine r_getr C hR t_r0 fl_X5_15 (by decide) (nz_e g2) dX5_write_8 (fun tq3 => ?_)
    have tg2 := okO tq3 rfl
    refine lv_iload_n C.x C.b dX5_write_11 rfl (lv_at hl 1 rfl) ?_
    obtain ⟨q4, h_q4, hf⟩ := bd_e hf
    refine r_callV (As := [.int x1]) (rest := []) C hR hS tg2 rfl mk_X4_addSign cl_X5_53 (k_X4_addSign tg2 h_q4) ⟨⟨Nat.le_of_ble_eq_true rfl, Nat.le_of_ble_eq_true rfl⟩, ⟨rfl, rfl⟩, Nat.le_of_ble_eq_true rfl, Nat.le_of_ble_eq_true rfl⟩ rfl hl.1 rfl (Nat.le_of_ble_eq_true rfl) dX5_write_12 (fun H locs hR hS hE1 z_q4 => ?_)
    have hE := hE.tr hE1
    have t_r0 := hE1.at t_r0 (by decide)
    have hf := so_e hf
    subst hf
    exact r_vret C hr hlk hR hE hS dX5_write_15

def rm_X6_add : Room := { frames := 0, cells := 0, slots := 0, locals := 0 }
set_option maxRecDepth 100000 in
set_option maxHeartbeats 4000000 in
theorem k_X6_add {G : Gt} {l : Launch} {h : Hp} {r0 : Nat} {x1 : Int32} {out : Hp} (t_r0 : hpT h r0 = (1, 6))  (hf : f_X6_add h r0 x1 = some out) : Mt G l yX6_add cX6_add 2 (none) rm_X6_add [.ref (G.2.2 + r0), .int x1] h (none) out false 0 0 := by
  refine r_met (by decide +kernel) (Nat.le_of_ble_eq_true rfl) ?_
  intro p e s m args below meth c ls C hr hlk hnm hR hS hl
  have hE : Ext h h := Ext.rf
  have hl : lv_has ls 2 [(0, .ref (G.2.2 + r0)), (1, .int x1)] := hl
  rw [f_X6_add] at hf
  refine lv_aload_n C.x C.b dX6_add_0 rfl (lv_at hl 0 rfl) ?_
  refine r_geti C hR t_r0 fl_X6_15 rfl dX6_add_1 ?_
  refine lv_if_lt (tgt := 39) C.x C.b dX6_add_4 (by decide) (fun c1 => ?_) (fun c1 => ?_)
  · have hf := it_t hf c1
    have hf := so_e hf
    subst hf
    exact r_vret C hr hlk hR hE hS dX6_add_39
  · have hf := it_f hf c1
    refine lv_aload_n C.x C.b dX6_add_7 rfl (lv_at hl 0 rfl) ?_
    refine r_geti C hR t_r0 fl_X6_15 rfl dX6_add_8 ?_
    refine lv_aload_n C.x C.b dX6_add_11 rfl (lv_at hl 0 rfl) ?_
    obtain ⟨g2, hf⟩ := gd_e hf
    refine r_getr C hR t_r0 fl_X6_9 (by decide) (nz_e g2) dX6_add_12 (fun tq3 => ?_)
    have tg2 := okA tq3 rfl
    refine r_alen C hR (Or.inl tg2) dX6_add_15 ?_
    refine lv_icmp_ge (tgt := 39) C.x C.b dX6_add_16 (by decide) (fun c4 => ?_) (fun c4 => ?_)
    · have hf := it_t hf c4
      have hf := so_e hf
      subst hf
      exact r_vret C hr hlk hR hE hS dX6_add_39
    · have hf := it_f hf c4
      refine lv_aload_n C.x C.b dX6_add_19 rfl (lv_at hl 0 rfl) ?_
      refine r_getr C hR t_r0 fl_X6_9 (by decide) (nz_e g2) dX6_add_20 (fun tq5 => ?_)
      refine lv_aload_n C.x C.b dX6_add_23 rfl (lv_at hl 0 rfl) ?_
      refine r_geti C hR t_r0 fl_X6_15 rfl dX6_add_24 ?_
      refine lv_iload_n C.x C.b dX6_add_27 rfl (lv_at hl 1 rfl) ?_
      obtain ⟨g6, hf⟩ := gd_e hf
      refine r_iast C hR hS tg2 g6 dX6_add_28 (fun H locs hR hS => ?_)
      obtain ⟨h7, e_h7⟩ : ∃ y, y = upI h (hpR h r0 0) (ix (hpI h r0 1)) x1 := ⟨_, rfl⟩
      rw [← e_h7] at hR
      have hf := lt_e hf e_h7
      have hE := eI e_h7 hE
      have t_r0 := tI e_h7 t_r0
      refine lv_aload_n C.x C.b dX6_add_29 rfl (lv_at hl 0 rfl) ?_
      refine lv_dup C.x C.b dX6_add_30 rfl ?_
      refine r_geti C hR t_r0 fl_X6_15 rfl dX6_add_31 ?_
      refine lv_iconst (v := (1 : Int32)) C.x C.b dX6_add_34 (by decide) ?_
      refine lv_iadd C.x C.b dX6_add_35 ?_
      refine r_puti C hR hS t_r0 fl_X6_15 fp_X6_6_1 rfl dX6_add_36 (fun H locs hR hS => ?_)
      obtain ⟨h8, e_h8⟩ : ∃ y, y = upI h7 r0 1 ((hpI h7 r0 1) + (1 : Int32)) := ⟨_, rfl⟩
      rw [← e_h8] at hR
      have hf := lt_e hf e_h8
      have hE := eI e_h8 hE
      have t_r0 := tI e_h8 t_r0
      have hf := so_e hf
      subst hf
      exact r_vret C hr hlk hR hE hS dX6_add_39

def rm_X7_start : Room := { frames := 0, cells := 0, slots := 0, locals := 0 }
set_option maxRecDepth 100000 in
set_option maxHeartbeats 4000000 in
theorem k_X7_start {G : Gt} {l : Launch} {h : Hp} {r0 : Nat} {out : Hp} (t_r0 : hpT h r0 = (1, 7))  (hf : f_X7_start h r0 = some out) : Mt G l yX7_start cX7_start 1 (none) rm_X7_start [.ref (G.2.2 + r0)] h (none) out false 0 0 := by
  refine r_met (by decide +kernel) (Nat.le_of_ble_eq_true rfl) ?_
  intro p e s m args below meth c ls C hr hlk hnm hR hS hl
  have hE : Ext h h := Ext.rf
  have hl : lv_has ls 1 [(0, .ref (G.2.2 + r0))] := hl
  rw [f_X7_start] at hf
  refine lv_aload_n C.x C.b dX7_start_0 rfl (lv_at hl 0 rfl) ?_
  refine lv_iconst (v := (0 : Int32)) C.x C.b dX7_start_1 (by decide) ?_
  refine r_puti C hR hS t_r0 fl_X7_13 fp_X7_7_1 rfl dX7_start_2 (fun H locs hR hS => ?_)
  obtain ⟨h1, e_h1⟩ : ∃ y, y = upI h r0 1 (0 : Int32) := ⟨_, rfl⟩
  rw [← e_h1] at hR
  have hf := lt_e hf e_h1
  have hE := eI e_h1 hE
  have t_r0 := tI e_h1 t_r0
  have hf := so_e hf
  subst hf
  exact r_vret C hr hlk hR hE hS dX7_start_5

def rm_X7_add : Room := { frames := 0, cells := 0, slots := 0, locals := 0 }
set_option maxRecDepth 100000 in
set_option maxHeartbeats 4000000 in
theorem k_X7_add {G : Gt} {l : Launch} {h : Hp} {r0 : Nat} {y1 : Int64} {out : Hp} (t_r0 : hpT h r0 = (1, 7))  (hf : f_X7_add h r0 y1 = some out) : Mt G l yX7_add cX7_add 3 (none) rm_X7_add [.ref (G.2.2 + r0), .long y1] h (none) out false 0 0 := by
  refine r_met (by decide +kernel) (Nat.le_of_ble_eq_true rfl) ?_
  intro p e s m args below meth c ls C hr hlk hnm hR hS hl
  have hE : Ext h h := Ext.rf
  have hl : lv_has ls 3 [(0, .ref (G.2.2 + r0)), (1, .long y1)] := hl
  rw [f_X7_add] at hf
  refine lv_aload_n C.x C.b dX7_add_0 rfl (lv_at hl 0 rfl) ?_
  refine r_geti C hR t_r0 fl_X7_13 rfl dX7_add_1 ?_
  refine lv_aload_n C.x C.b dX7_add_4 rfl (lv_at hl 0 rfl) ?_
  obtain ⟨g1, hf⟩ := gd_e hf
  refine r_getr C hR t_r0 fl_X7_7 (by decide) (nz_e g1) dX7_add_5 (fun tq2 => ?_)
  have tg1 := okA tq2 rfl
  refine r_alen C hR (Or.inr tg1) dX7_add_8 ?_
  refine lv_icmp_ge (tgt := 32) C.x C.b dX7_add_9 (by decide) (fun c3 => ?_) (fun c3 => ?_)
  · have hf := it_t hf c3
    have hf := so_e hf
    subst hf
    exact r_vret C hr hlk hR hE hS dX7_add_32
  · have hf := it_f hf c3
    refine lv_aload_n C.x C.b dX7_add_12 rfl (lv_at hl 0 rfl) ?_
    refine r_getr C hR t_r0 fl_X7_7 (by decide) (nz_e g1) dX7_add_13 (fun tq4 => ?_)
    refine lv_aload_n C.x C.b dX7_add_16 rfl (lv_at hl 0 rfl) ?_
    refine r_geti C hR t_r0 fl_X7_13 rfl dX7_add_17 ?_
    refine lv_lload_n C.x C.b dX7_add_20 rfl (lv_at hl 1 rfl) ?_
    obtain ⟨g5, hf⟩ := gd_e hf
    refine r_last C hR hS tg1 g5 dX7_add_21 (fun H locs hR hS => ?_)
    obtain ⟨h6, e_h6⟩ : ∃ y, y = upL h (hpR h r0 0) (ix (hpI h r0 1)) y1 := ⟨_, rfl⟩
    rw [← e_h6] at hR
    have hf := lt_e hf e_h6
    have hE := eL e_h6 hE
    have t_r0 := tL e_h6 t_r0
    refine lv_aload_n C.x C.b dX7_add_22 rfl (lv_at hl 0 rfl) ?_
    refine lv_dup C.x C.b dX7_add_23 rfl ?_
    refine r_geti C hR t_r0 fl_X7_13 rfl dX7_add_24 ?_
    refine lv_iconst (v := (1 : Int32)) C.x C.b dX7_add_27 (by decide) ?_
    refine lv_iadd C.x C.b dX7_add_28 ?_
    refine r_puti C hR hS t_r0 fl_X7_13 fp_X7_7_1 rfl dX7_add_29 (fun H locs hR hS => ?_)
    obtain ⟨h7, e_h7⟩ : ∃ y, y = upI h6 r0 1 ((hpI h6 r0 1) + (1 : Int32)) := ⟨_, rfl⟩
    rw [← e_h7] at hR
    have hf := lt_e hf e_h7
    have hE := eI e_h7 hE
    have t_r0 := tI e_h7 t_r0
    have hf := so_e hf
    subst hf
    exact r_vret C hr hlk hR hE hS dX7_add_32

def rm_X7_turnRound : Room := { frames := 0, cells := 0, slots := 0, locals := 0 }
def P_X7_turnRound_2 (G : Gt) (l : Launch) (p : Program) (e : Env) (s : State) (m : MethodId) (args : Array Value) (below : List Frame) (meth : Method) (c : Code) (h0 : Hp) (out : Hp) (r0 : Nat) (k : Hp → Int32 → Option Hp) : Prop := ∀ (H : Heap) (locs : List Loc) (ls : Array Slot) (h : Hp) (x1 : Int32), k h x1 = some out → Ext h0 h → Rel G h H → va_S (AA G.2.2) s.heap H locs → hpT h r0 = (1, 7) → lv_has ls 4 [(0, .ref (G.2.2 + r0)), (1, .int x1)] → W p l e rm_X7_turnRound s m args below meth c H locs 0 0 (MQ below (Qm G h0 out (none) false) args s 0 0 (AA G.2.2)) (F0 m 2 ls [])
set_option maxRecDepth 100000 in
set_option maxHeartbeats 4000000 in
theorem w_X7_turnRound_2 {G : Gt} {l : Launch} {p : Program} {e : Env} {s : State} {m : MethodId} {args : Array Value} {below : List Frame} {meth : Method} {c : Code} {h0 : Hp} {out : Hp} {r0 : Nat}  (C : Cx G p m c cX7_turnRound 4 s args RX7) (hr : meth.sig.returnType = none) (hlk : meth.locks = false)  (n : Nat) : P_X7_turnRound_2 G l p e s m args below meth c h0 out r0 (f_X7_turnRound_2 r0 n) := by
  induction n with
  | zero => intro H locs ls h x1 hf hE hR hS t_r0 hl; cases hf
  | succ n hk2 =>
    intro H locs ls h x1 hf hE hR hS t_r0 hl
    rw [f_X7_turnRound_2] at hf
    obtain ⟨k2, e_k2⟩ : ∃ y, y = f_X7_turnRound_2 r0 n := ⟨_, rfl⟩
    have hf := lt_e hf e_k2
    rw [← e_k2] at hk2
    refine lv_iload_n C.x C.b dX7_turnRound_2 rfl (lv_at hl 1 rfl) ?_
    refine lv_aload_n C.x C.b dX7_turnRound_3 rfl (lv_at hl 0 rfl) ?_
    refine r_geti C hR t_r0 fl_X7_13 rfl dX7_turnRound_4 ?_
    refine lv_iconst (v := (2 : Int32)) C.x C.b dX7_turnRound_7 (by decide) ?_
    refine lv_idiv C.x C.b dX7_turnRound_8 (by decide) ?_
    refine lv_icmp_ge (tgt := 58) C.x C.b dX7_turnRound_9 (by decide) (fun c1 => ?_) (fun c1 => ?_)
    · have hf := it_t hf c1
      have hf := so_e hf
      subst hf
      exact r_vret C hr hlk hR hE hS dX7_turnRound_58
    · have hf := it_f hf c1
      refine lv_aload_n C.x C.b dX7_turnRound_12 rfl (lv_at hl 0 rfl) ?_
      obtain ⟨g2, hf⟩ := gd_e hf
      refine r_getr C hR t_r0 fl_X7_7 (by decide) (nz_e g2) dX7_turnRound_13 (fun tq3 => ?_)
      have tg2 := okA tq3 rfl
      refine lv_iload_n C.x C.b dX7_turnRound_16 rfl (lv_at hl 1 rfl) ?_
      obtain ⟨g4, hf⟩ := gd_e hf
      refine r_lald C hR tg2 g4 dX7_turnRound_17 ?_
      refine lv_topl (fun v5 e_v5 => ?_)
      have hf := lt_e hf e_v5
      refine lv_lstore_n (lv' := [(2, .long v5), (0, .ref (G.2.2 + r0)), (1, .int x1)]) C.x C.b dX7_turnRound_18 rfl hl (by decide) rfl (fun ls hl => ?_)
      refine lv_aload_n C.x C.b dX7_turnRound_19 rfl (lv_at hl 1 rfl) ?_
      refine r_getr C hR t_r0 fl_X7_7 (by decide) (nz_e g2) dX7_turnRound_20 (fun tq6 => ?_)
      refine lv_iload_n C.x C.b dX7_turnRound_23 rfl (lv_at hl 2 rfl) ?_
      refine lv_aload_n C.x C.b dX7_turnRound_24 rfl (lv_at hl 1 rfl) ?_
      refine r_getr C hR t_r0 fl_X7_7 (by decide) (nz_e g2) dX7_turnRound_25 (fun tq7 => ?_)
      refine lv_aload_n C.x C.b dX7_turnRound_28 rfl (lv_at hl 1 rfl) ?_
      refine r_geti C hR t_r0 fl_X7_13 rfl dX7_turnRound_29 ?_
      refine lv_iconst (v := (1 : Int32)) C.x C.b dX7_turnRound_32 (by decide) ?_
      refine lv_isub C.x C.b dX7_turnRound_33 ?_
      refine lv_iload_n C.x C.b dX7_turnRound_34 rfl (lv_at hl 2 rfl) ?_
      refine lv_isub C.x C.b dX7_turnRound_35 ?_
      obtain ⟨g8, hf⟩ := gd_e hf
      refine r_lald C hR tg2 g8 dX7_turnRound_36 ?_
      obtain ⟨g9, hf⟩ := gd_e hf
      refine r_last C hR hS tg2 g9 dX7_turnRound_37 (fun H locs hR hS => ?_)
      obtain ⟨h10, e_h10⟩ : ∃ y, y = upL h (hpR h r0 0) (ix x1) (hpL h (hpR h r0 0) (ix (((hpI h r0 1) - (1 : Int32)) - x1))) := ⟨_, rfl⟩
      rw [← e_h10] at hR
      have hf := lt_e hf e_h10
      have hE := eL e_h10 hE
      have t_r0 := tL e_h10 t_r0
      refine lv_aload_n C.x C.b dX7_turnRound_38 rfl (lv_at hl 1 rfl) ?_
      obtain ⟨g11, hf⟩ := gd_e hf
      refine r_getr C hR t_r0 fl_X7_7 (by decide) (nz_e g11) dX7_turnRound_39 (fun tq12 => ?_)
      have tg11 := okA tq12 rfl
      refine lv_aload_n C.x C.b dX7_turnRound_42 rfl (lv_at hl 1 rfl) ?_
      refine r_geti C hR t_r0 fl_X7_13 rfl dX7_turnRound_43 ?_
      refine lv_iconst (v := (1 : Int32)) C.x C.b dX7_turnRound_46 (by decide) ?_
      refine lv_isub C.x C.b dX7_turnRound_47 ?_
      refine lv_iload_n C.x C.b dX7_turnRound_48 rfl (lv_at hl 2 rfl) ?_
      refine lv_isub C.x C.b dX7_turnRound_49 ?_
      refine lv_lload_n C.x C.b dX7_turnRound_50 rfl (lv_at hl 0 rfl) ?_
      obtain ⟨g13, hf⟩ := gd_e hf
      refine r_last C hR hS tg11 g13 dX7_turnRound_51 (fun H locs hR hS => ?_)
      obtain ⟨h14, e_h14⟩ : ∃ y, y = upL h10 (hpR h10 r0 0) (ix (((hpI h10 r0 1) - (1 : Int32)) - x1)) v5 := ⟨_, rfl⟩
      rw [← e_h14] at hR
      have hf := lt_e hf e_h14
      have hE := eL e_h14 hE
      have t_r0 := tL e_h14 t_r0
      obtain ⟨v15, e_v15⟩ : ∃ y : Int32, y = x1 + (1 : Int32) := ⟨_, rfl⟩
      have hf := lt_e hf e_v15
      refine lv_iinc (v := v15) (lv' := [(1, .int v15), (2, .long v5), (0, .ref (G.2.2 + r0))]) C.x C.b dX7_turnRound_52 hl (k := 2) rfl (by rw [e_v15]; rfl) (by decide) rfl (fun ls hl => ?_)
      refine lv_goto (tgt := 2) C.x C.b dX7_turnRound_55 (by decide) ?_
      exact hk2 _ _ _ _ _ hf hE hR hS t_r0 (lv_sub hl [2, 0] rfl)
set_option maxRecDepth 100000 in
set_option maxHeartbeats 4000000 in
theorem k_X7_turnRound {G : Gt} {l : Launch} {h : Hp} {r0 : Nat} {out : Hp} (t_r0 : hpT h r0 = (1, 7))  (hf : f_X7_turnRound h r0 = some out) : Mt G l yX7_turnRound cX7_turnRound 4 (none) rm_X7_turnRound [.ref (G.2.2 + r0)] h (none) out false 0 0 := by
  refine r_met (by decide +kernel) (Nat.le_of_ble_eq_true rfl) ?_
  intro p e s m args below meth c ls C hr hlk hnm hR hS hl
  have hE : Ext h h := Ext.rf
  have hl : lv_has ls 4 [(0, .ref (G.2.2 + r0))] := hl
  rw [f_X7_turnRound] at hf
  refine lv_iconst (v := (0 : Int32)) C.x C.b dX7_turnRound_0 (by decide) ?_
  refine lv_istore_n (lv' := [(1, .int (0 : Int32)), (0, .ref (G.2.2 + r0))]) C.x C.b dX7_turnRound_1 rfl hl (by decide) rfl (fun ls hl => ?_)
  exact w_X7_turnRound_2 C hr hlk FU _ _ _ _ _ hf hE hR hS t_r0 (lv_sub hl [1, 0] rfl)

def rm_J7_fill_d0a16 : Room := { frames := 0, cells := 0, slots := 0, locals := 0 }
def P_J7_fill_d0a16_6 (G : Gt) (l : Launch) (p : Program) (e : Env) (s : State) (m : MethodId) (args : Array Value) (below : List Frame) (meth : Method) (c : Code) (h0 : Hp) (out : Hp) (r0 : Nat) (y1 : Int64) (k : Hp → Int32 → Int32 → Option Hp) : Prop := ∀ (H : Heap) (locs : List Loc) (ls : Array Slot) (h : Hp) (x3 : Int32) (x4 : Int32), k h x3 x4 = some out → Ext h0 h → Rel G h H → va_S (AA G.2.2) s.heap H locs → (hpT h r0).1 = 3 → lv_has ls 5 [(0, .ref (G.2.2 + r0)), (1, .long y1), (3, .int x3), (4, .int x4)] → W p l e rm_J7_fill_d0a16 s m args below meth c H locs 0 0 (MQ below (Qm G h0 out (none) false) args s 0 0 (AA G.2.2)) (F0 m 6 ls [])
set_option maxRecDepth 100000 in
set_option maxHeartbeats 4000000 in
theorem w_J7_fill_d0a16_6 {G : Gt} {l : Launch} {p : Program} {e : Env} {s : State} {m : MethodId} {args : Array Value} {below : List Frame} {meth : Method} {c : Code} {h0 : Hp} {out : Hp} {r0 : Nat} {y1 : Int64}  (C : Cx G p m c cJ7_fill_d0a16 5 s args RJ7) (hr : meth.sig.returnType = none) (hlk : meth.locks = false)  (n : Nat) : P_J7_fill_d0a16_6 G l p e s m args below meth c h0 out r0 y1 (f_J7_fill_d0a16_6 r0 y1 n) := by
  induction n with
  | zero => intro H locs ls h x3 x4 hf hE hR hS t_r0 hl; cases hf
  | succ n hk6 =>
    intro H locs ls h x3 x4 hf hE hR hS t_r0 hl
    rw [f_J7_fill_d0a16_6] at hf
    obtain ⟨k6, e_k6⟩ : ∃ y, y = f_J7_fill_d0a16_6 r0 y1 n := ⟨_, rfl⟩
    have hf := lt_e hf e_k6
    rw [← e_k6] at hk6
    refine lv_iload_n C.x C.b dJ7_fill_d0a16_6 rfl (lv_at hl 2 rfl) ?_
    refine lv_iload C.x C.b dJ7_fill_d0a16_7 (lv_at hl 3 rfl) ?_
    refine lv_icmp_ge (tgt := 22) C.x C.b dJ7_fill_d0a16_9 (by decide) (fun c2 => ?_) (fun c2 => ?_)
    · have hf := it_t hf c2
      have hf := so_e hf
      subst hf
      exact r_vret C hr hlk hR hE hS dJ7_fill_d0a16_22
    · have hf := it_f hf c2
      refine lv_aload_n C.x C.b dJ7_fill_d0a16_12 rfl (lv_at hl 0 rfl) ?_
      refine lv_iload_n C.x C.b dJ7_fill_d0a16_13 rfl (lv_at hl 2 rfl) ?_
      refine lv_lload_n C.x C.b dJ7_fill_d0a16_14 rfl (lv_at hl 1 rfl) ?_
      obtain ⟨g3, hf⟩ := gd_e hf
      refine r_last C hR hS t_r0 g3 dJ7_fill_d0a16_15 (fun H locs hR hS => ?_)
      obtain ⟨h4, e_h4⟩ : ∃ y, y = upL h r0 (ix x3) y1 := ⟨_, rfl⟩
      rw [← e_h4] at hR
      have hf := lt_e hf e_h4
      have hE := eL e_h4 hE
      have t_r0 := tLk e_h4 t_r0
      obtain ⟨v5, e_v5⟩ : ∃ y : Int32, y = x3 + (1 : Int32) := ⟨_, rfl⟩
      have hf := lt_e hf e_v5
      refine lv_iinc (v := v5) (lv' := [(3, .int v5), (0, .ref (G.2.2 + r0)), (1, .long y1), (4, .int x4)]) C.x C.b dJ7_fill_d0a16_16 hl (k := 2) rfl (by rw [e_v5]; rfl) (by decide) rfl (fun ls hl => ?_)
      refine lv_goto (tgt := 6) C.x C.b dJ7_fill_d0a16_19 (by decide) ?_
      exact hk6 _ _ _ _ _ _ hf hE hR hS t_r0 (lv_sub hl [1, 2, 0, 3] rfl)
set_option maxRecDepth 100000 in
set_option maxHeartbeats 4000000 in
theorem k_J7_fill_d0a16 {G : Gt} {l : Launch} {h : Hp} {r0 : Nat} {y1 : Int64} {out : Hp} (t_r0 : (hpT h r0).1 = 3)  (hf : f_J7_fill_d0a16 h r0 y1 = some out) : Mt G l yJ7_fill_d0a16 cJ7_fill_d0a16 5 (none) rm_J7_fill_d0a16 [.ref (G.2.2 + r0), .long y1] h (none) out false 0 0 := by
  refine r_met (by decide +kernel) (Nat.le_of_ble_eq_true rfl) ?_
  intro p e s m args below meth c ls C hr hlk hnm hR hS hl
  have hE : Ext h h := Ext.rf
  have hl : lv_has ls 5 [(0, .ref (G.2.2 + r0)), (1, .long y1)] := hl
  rw [f_J7_fill_d0a16] at hf
  refine lv_iconst (v := (0 : Int32)) C.x C.b dJ7_fill_d0a16_0 (by decide) ?_
  refine lv_istore_n (lv' := [(3, .int (0 : Int32)), (0, .ref (G.2.2 + r0)), (1, .long y1)]) C.x C.b dJ7_fill_d0a16_1 rfl hl (by decide) rfl (fun ls hl => ?_)
  refine lv_aload_n C.x C.b dJ7_fill_d0a16_2 rfl (lv_at hl 1 rfl) ?_
  refine r_alen C hR (Or.inr t_r0) dJ7_fill_d0a16_3 ?_
  refine lv_topi (fun v1 e_v1 => ?_)
  have hf := lt_e hf e_v1
  refine lv_istore (lv' := [(4, .int v1), (3, .int (0 : Int32)), (0, .ref (G.2.2 + r0)), (1, .long y1)]) C.x C.b dJ7_fill_d0a16_4 hl (by decide) rfl (fun ls hl => ?_)
  exact w_J7_fill_d0a16_6 C hr hlk FU _ _ _ _ _ _ hf hE hR hS t_r0 (lv_sub hl [2, 3, 1, 0] rfl)

def rm_X8_reach : Room := { frames := 0, cells := 0, slots := 0, locals := 0 }
set_option maxRecDepth 100000 in
set_option maxHeartbeats 4000000 in
theorem k_X8_reach {G : Gt} {l : Launch} {h : Hp} {r0 : Nat} {x1 : Int32} {x2 : Int32} {x3 : Int32} {x4 : Int32} {out : (Int32 × Hp)} (t_r0 : hpT h r0 = (1, 8))  (hf : f_X8_reach h r0 x1 x2 x3 x4 = some out) : Mt G l yX8_reach cX8_reach 6 (some .int) rm_X8_reach [.ref (G.2.2 + r0), .int x1, .int x2, .int x3, .int x4] h (some (.int out.1)) out.2 false 0 0 := by
  refine r_met (by decide +kernel) (Nat.le_of_ble_eq_true rfl) ?_
  intro p e s m args below meth c ls C hr hlk hnm hR hS hl
  have hE : Ext h h := Ext.rf
  have hl : lv_has ls 6 [(0, .ref (G.2.2 + r0)), (1, .int x1), (2, .int x2), (3, .int x3), (4, .int x4)] := hl
  rw [f_X8_reach] at hf
  refine lv_iload_n C.x C.b dX8_reach_0 rfl (lv_at hl 1 rfl) ?_
  refine lv_if_lt (tgt := 20) C.x C.b dX8_reach_1 (by decide) (fun c1 => ?_) (fun c1 => ?_)
  · have hf := it_t hf c1
    refine lv_iload C.x C.b dX8_reach_20 (lv_at hl 4 rfl) ?_
    have hf := so_e hf
    subst hf
    exact r_iret C hr hlk hR hE hS dX8_reach_22
  · have hf := it_f hf c1
    refine lv_iload_n C.x C.b dX8_reach_4 rfl (lv_at hl 1 rfl) ?_
    refine lv_bipush (v := (36 : Int32)) C.x C.b dX8_reach_5 (by decide) ?_
    refine lv_icmp_ge (tgt := 20) C.x C.b dX8_reach_7 (by decide) (fun c2 => ?_) (fun c2 => ?_)
    · have hf := it_t hf c2
      refine lv_iload C.x C.b dX8_reach_20 (lv_at hl 4 rfl) ?_
      have hf := so_e hf
      subst hf
      exact r_iret C hr hlk hR hE hS dX8_reach_22
    · have hf := it_f hf c2
      refine lv_iload C.x C.b dX8_reach_10 (lv_at hl 4 rfl) ?_
      refine lv_aload_n C.x C.b dX8_reach_12 rfl (lv_at hl 0 rfl) ?_
      obtain ⟨g3, hf⟩ := gd_e hf
      refine r_getr C hR t_r0 fl_X8_11 (by decide) (nz_e g3) dX8_reach_13 (fun tq4 => ?_)
      have tg3 := okA tq4 rfl
      refine r_alen C hR (Or.inl tg3) dX8_reach_16 ?_
      refine lv_icmp_lt (tgt := 23) C.x C.b dX8_reach_17 (by decide) (fun c5 => ?_) (fun c5 => ?_)
      · have hf := it_t hf c5
        refine lv_iload_n C.x C.b dX8_reach_23 rfl (lv_at hl 2 rfl) ?_
        refine lv_aload_n C.x C.b dX8_reach_24 rfl (lv_at hl 0 rfl) ?_
        obtain ⟨g6, hf⟩ := gd_e hf
        refine r_getr C hR t_r0 fl_X8_19 (by decide) (nz_e g6) dX8_reach_25 (fun tq7 => ?_)
        have tg6 := okA tq7 rfl
        refine lv_iload_n C.x C.b dX8_reach_28 rfl (lv_at hl 1 rfl) ?_
        obtain ⟨g8, hf⟩ := gd_e hf
        refine r_iald C hR tg6 g8 dX8_reach_29 ?_
        refine lv_ior C.x C.b dX8_reach_30 ?_
        refine lv_sipush (v := (256 : Int32)) C.x C.b dX8_reach_31 (by decide) ?_
        refine lv_irem C.x C.b dX8_reach_34 (by decide) ?_
        refine lv_topi (fun v9 e_v9 => ?_)
        have hf := lt_e hf e_v9
        refine lv_istore (lv' := [(5, .int v9), (0, .ref (G.2.2 + r0)), (1, .int x1), (2, .int x2), (3, .int x3), (4, .int x4)]) C.x C.b dX8_reach_35 hl (by decide) rfl (fun ls hl => ?_)
        refine lv_aload_n C.x C.b dX8_reach_37 rfl (lv_at hl 1 rfl) ?_
        obtain ⟨g10, hf⟩ := gd_e hf
        refine r_getr C hR t_r0 fl_X8_15 (by decide) (nz_e g10) dX8_reach_38 (fun tq11 => ?_)
        have tg10 := okA tq11 rfl
        refine lv_iload C.x C.b dX8_reach_41 (lv_at hl 0 rfl) ?_
        obtain ⟨g12, hf⟩ := gd_e hf
        refine r_lald C hR tg10 g12 dX8_reach_43 ?_
        refine lv_iload_n C.x C.b dX8_reach_44 rfl (lv_at hl 2 rfl) ?_
        refine lv_lshr C.x C.b dX8_reach_45 rfl ?_
        refine lv_topl (fun v13 e_v13 => ?_)
        have hf := lt_e hf e_v13
        refine lv_lconst (v := (1 : Int64)) C.x C.b dX8_reach_46 (by decide) ?_
        refine lv_land C.x C.b dX8_reach_47 ?_
        refine lv_lconst (v := (0 : Int64)) C.x C.b dX8_reach_48 (by decide) ?_
        refine W.lcmp C.x C.b dX8_reach_49 ?_
        refine lv_if_eq (tgt := 56) C.x C.b dX8_reach_50 (by decide) (fun c14 => ?_) (fun c14 => ?_)
        · have hf := it_t hf c14
          refine lv_aload_n C.x C.b dX8_reach_56 rfl (lv_at hl 1 rfl) ?_
          refine r_getr C hR t_r0 fl_X8_15 (by decide) (nz_e g10) dX8_reach_57 (fun tq15 => ?_)
          refine lv_iload C.x C.b dX8_reach_60 (lv_at hl 0 rfl) ?_
          refine lv_dup2_11 C.x C.b dX8_reach_62 rfl rfl ?_
          obtain ⟨g16, hf⟩ := gd_e hf
          refine r_lald C hR tg10 g16 dX8_reach_63 ?_
          refine lv_lconst (v := (1 : Int64)) C.x C.b dX8_reach_64 (by decide) ?_
          refine lv_iload_n C.x C.b dX8_reach_65 rfl (lv_at hl 2 rfl) ?_
          refine lv_lshl C.x C.b dX8_reach_66 rfl ?_
          refine lv_topl (fun v17 e_v17 => ?_)
          have hf := lt_e hf e_v17
          refine lv_lor C.x C.b dX8_reach_67 ?_
          obtain ⟨g18, hf⟩ := gd_e hf
          refine r_last C hR hS tg10 g18 dX8_reach_68 (fun H locs hR hS => ?_)
          obtain ⟨h19, e_h19⟩ : ∃ y, y = upL h (hpR h r0 1) (ix v9) ((hpL h (hpR h r0 1) (ix v9)) ||| v17) := ⟨_, rfl⟩
          rw [← e_h19] at hR
          have hf := lt_e hf e_h19
          have hE := eL e_h19 hE
          have t_r0 := tL e_h19 t_r0
          refine lv_aload_n C.x C.b dX8_reach_69 rfl (lv_at hl 1 rfl) ?_
          obtain ⟨g20, hf⟩ := gd_e hf
          refine r_getr C hR t_r0 fl_X8_11 (by decide) (nz_e g20) dX8_reach_70 (fun tq21 => ?_)
          have tg20 := okA tq21 rfl
          refine lv_iload C.x C.b dX8_reach_73 (lv_at hl 5 rfl) ?_
          refine lv_iload_n C.x C.b dX8_reach_75 rfl (lv_at hl 4 rfl) ?_
          refine lv_sipush (v := (16384 : Int32)) C.x C.b dX8_reach_76 (by decide) ?_
          refine lv_imul C.x C.b dX8_reach_79 ?_
          refine lv_iload_n C.x C.b dX8_reach_80 rfl (lv_at hl 2 rfl) ?_
          refine lv_sipush (v := (256 : Int32)) C.x C.b dX8_reach_81 (by decide) ?_
          refine lv_imul C.x C.b dX8_reach_84 ?_
          refine lv_iadd C.x C.b dX8_reach_85 ?_
          refine lv_iload C.x C.b dX8_reach_86 (lv_at hl 0 rfl) ?_
          refine lv_iadd C.x C.b dX8_reach_88 ?_
          obtain ⟨g22, hf⟩ := gd_e hf
          refine r_iast C hR hS tg20 g22 dX8_reach_89 (fun H locs hR hS => ?_)
          obtain ⟨h23, e_h23⟩ : ∃ y, y = upI h19 (hpR h19 r0 0) (ix x4) (((x3 * (16384 : Int32)) + (x1 * (256 : Int32))) + v9) := ⟨_, rfl⟩
          rw [← e_h23] at hR
          have hf := lt_e hf e_h23
          have hE := eI e_h23 hE
          have t_r0 := tI e_h23 t_r0
          refine lv_iload C.x C.b dX8_reach_90 (lv_at hl 5 rfl) ?_
          refine lv_iconst (v := (1 : Int32)) C.x C.b dX8_reach_92 (by decide) ?_
          refine lv_iadd C.x C.b dX8_reach_93 ?_
          have hf := so_e hf
          subst hf
          exact r_iret C hr hlk hR hE hS dX8_reach_94
        · have hf := it_f hf c14
          refine lv_iload C.x C.b dX8_reach_53 (lv_at hl 5 rfl) ?_
          have hf := so_e hf
          subst hf
          exact r_iret C hr hlk hR hE hS dX8_reach_55
      · have hf := it_f hf c5
        refine lv_iload C.x C.b dX8_reach_20 (lv_at hl 4 rfl) ?_
        have hf := so_e hf
        subst hf
        exact r_iret C hr hlk hR hE hS dX8_reach_22

def rm_X8_tellWay : Room := { frames := 1, cells := 0, slots := 0, locals := 23 }
def P_X8_tellWay_68 (G : Gt) (l : Launch) (p : Program) (e : Env) (s : State) (m : MethodId) (args : Array Value) (below : List Frame) (meth : Method) (c : Code) (h0 : Hp) (out : (Int32 × Hp)) (r0 : Nat) (x1 : Int32) (r2 : Nat) (k : Hp → Option (Int32 × Hp)) : Prop := ∀ (H : Heap) (locs : List Loc) (ls : Array Slot) (h : Hp), k h = some out → Ext h0 h → Rel G h H → va_S (AA G.2.2) s.heap H locs → hpT h r0 = (1, 8) → hpT h r2 = (1, 7) → lv_has ls 5 [(0, .ref (G.2.2 + r0)), (1, .int x1), (2, .ref (G.2.2 + r2))] → W p l e rm_X8_tellWay s m args below meth c H locs 0 0 (MQ below (Qm G h0 out.2 (some (.int out.1)) false) args s 0 0 (AA G.2.2)) (F0 m 68 ls [])
def P_X8_tellWay_9 (G : Gt) (l : Launch) (p : Program) (e : Env) (s : State) (m : MethodId) (args : Array Value) (below : List Frame) (meth : Method) (c : Code) (h0 : Hp) (out : (Int32 × Hp)) (r0 : Nat) (x1 : Int32) (r2 : Nat) (k : Hp → Int32 → Int32 → Option (Int32 × Hp)) : Prop := ∀ (H : Heap) (locs : List Loc) (ls : Array Slot) (h : Hp) (x3 : Int32) (x4 : Int32), k h x3 x4 = some out → Ext h0 h → Rel G h H → va_S (AA G.2.2) s.heap H locs → hpT h r0 = (1, 8) → hpT h r2 = (1, 7) → lv_has ls 5 [(0, .ref (G.2.2 + r0)), (1, .int x1), (2, .ref (G.2.2 + r2)), (3, .int x3), (4, .int x4)] → W p l e rm_X8_tellWay s m args below meth c H locs 0 0 (MQ below (Qm G h0 out.2 (some (.int out.1)) false) args s 0 0 (AA G.2.2)) (F0 m 9 ls [])
set_option maxRecDepth 100000 in
set_option maxHeartbeats 4000000 in
theorem w_X8_tellWay_68 {G : Gt} {l : Launch} {p : Program} {e : Env} {s : State} {m : MethodId} {args : Array Value} {below : List Frame} {meth : Method} {c : Code} {h0 : Hp} {out : (Int32 × Hp)} {r0 : Nat} {x1 : Int32} {r2 : Nat}  (C : Cx G p m c cX8_tellWay 5 s args RX8) (hr : meth.sig.returnType = some .int) (hlk : meth.locks = false)  : P_X8_tellWay_68 G l p e s m args below meth c h0 out r0 x1 r2 (f_X8_tellWay_68 r0 x1 r2) := by
  intro H locs ls h hf hE hR hS t_r0 t_r2 hl
  rw [f_X8_tellWay_68] at hf
  refine lv_aload_n C.x C.b dX8_tellWay_68 rfl (lv_at hl 2 rfl) ?_
  refine lv_aload_n C.x C.b dX8_tellWay_69 rfl (lv_at hl 0 rfl) ?_
  obtain ⟨g17, hf⟩ := gd_e hf
  refine r_getr C hR t_r0 fl_X8_11 (by decide) (nz_e g17) dX8_tellWay_70 (fun tq18 => ?_)
  have tg17 := okA tq18 rfl
  refine lv_iconst (v := (0 : Int32)) C.x C.b dX8_tellWay_73 (by decide) ?_
  obtain ⟨g19, hf⟩ := gd_e hf
  refine r_iald C hR tg17 g19 dX8_tellWay_74 ?_
  refine lv_sipush (v := (16384 : Int32)) C.x C.b dX8_tellWay_75 (by decide) ?_
  refine lv_irem C.x C.b dX8_tellWay_78 (by decide) ?_
  refine lv_topi (fun v20 e_v20 => ?_)
  have hf := lt_e hf e_v20
  refine lv_sipush (v := (256 : Int32)) C.x C.b dX8_tellWay_79 (by decide) ?_
  refine lv_idiv C.x C.b dX8_tellWay_82 (by decide) ?_
  refine lv_i2l C.x C.b dX8_tellWay_83 rfl ?_
  obtain ⟨q21, h_q21, hf⟩ := bd_e hf
  refine r_callV (As := [.long ((v20 / (256 : Int32)).toInt64)]) (rest := []) C hR hS t_r2 rfl mk_X7_add cl_X8_61 (k_X7_add t_r2 h_q21) ⟨⟨Nat.le_of_ble_eq_true rfl, Nat.le_of_ble_eq_true rfl⟩, ⟨rfl, rfl⟩, Nat.le_of_ble_eq_true rfl, Nat.le_of_ble_eq_true rfl⟩ rfl hl.1 rfl (Nat.le_of_ble_eq_true rfl) dX8_tellWay_84 (fun H locs hR hS hE1 z_q21 => ?_)
  have hE := hE.tr hE1
  have t_r0 := hE1.at t_r0 (by decide)
  have t_r2 := hE1.at t_r2 (by decide)
  refine lv_aload_n C.x C.b dX8_tellWay_87 rfl (lv_at hl 2 rfl) ?_
  obtain ⟨q22, h_q22, hf⟩ := bd_e hf
  refine r_callV (As := []) (rest := []) C hR hS t_r2 rfl mk_X7_turnRound cl_X8_65 (k_X7_turnRound t_r2 h_q22) ⟨⟨Nat.le_of_ble_eq_true rfl, Nat.le_of_ble_eq_true rfl⟩, ⟨rfl, rfl⟩, Nat.le_of_ble_eq_true rfl, Nat.le_of_ble_eq_true rfl⟩ rfl hl.1 rfl (Nat.le_of_ble_eq_true rfl) dX8_tellWay_88 (fun H locs hR hS hE1 z_q22 => ?_)
  have hE := hE.tr hE1
  have t_r0 := hE1.at t_r0 (by decide)
  have t_r2 := hE1.at t_r2 (by decide)
  refine lv_aload_n C.x C.b dX8_tellWay_91 rfl (lv_at hl 2 rfl) ?_
  refine r_geti C hR t_r2 fl_X8_68 rfl dX8_tellWay_92 ?_
  refine lv_iconst (v := (1 : Int32)) C.x C.b dX8_tellWay_95 (by decide) ?_
  refine lv_isub C.x C.b dX8_tellWay_96 ?_
  have hf := so_e hf
  subst hf
  exact r_iret C hr hlk hR hE hS dX8_tellWay_97
set_option maxRecDepth 100000 in
set_option maxHeartbeats 4000000 in
theorem w_X8_tellWay_9 {G : Gt} {l : Launch} {p : Program} {e : Env} {s : State} {m : MethodId} {args : Array Value} {below : List Frame} {meth : Method} {c : Code} {h0 : Hp} {out : (Int32 × Hp)} {r0 : Nat} {x1 : Int32} {r2 : Nat}  (C : Cx G p m c cX8_tellWay 5 s args RX8) (hr : meth.sig.returnType = some .int) (hlk : meth.locks = false)  (n : Nat) : P_X8_tellWay_9 G l p e s m args below meth c h0 out r0 x1 r2 (f_X8_tellWay_9 r0 x1 r2 n) := by
  induction n with
  | zero => intro H locs ls h x3 x4 hf hE hR hS t_r0 t_r2 hl; cases hf
  | succ n hk9 =>
    intro H locs ls h x3 x4 hf hE hR hS t_r0 t_r2 hl
    rw [f_X8_tellWay_9] at hf
    obtain ⟨k9, e_k9⟩ : ∃ y, y = f_X8_tellWay_9 r0 x1 r2 n := ⟨_, rfl⟩
    have hf := lt_e hf e_k9
    rw [← e_k9] at hk9
    refine lv_iload C.x C.b dX8_tellWay_9 (lv_at hl 4 rfl) ?_
    refine lv_aload_n C.x C.b dX8_tellWay_11 rfl (lv_at hl 0 rfl) ?_
    obtain ⟨g2, hf⟩ := gd_e hf
    refine r_getr C hR t_r0 fl_X8_11 (by decide) (nz_e g2) dX8_tellWay_12 (fun tq3 => ?_)
    have tg2 := okA tq3 rfl
    refine r_alen C hR (Or.inl tg2) dX8_tellWay_15 ?_
    refine lv_icmp_ge (tgt := 68) C.x C.b dX8_tellWay_16 (by decide) (fun c4 => ?_) (fun c4 => ?_)
    · have hf := it_t hf c4
      exact w_X8_tellWay_68 C hr hlk _ _ _ _ hf hE hR hS t_r0 t_r2 (lv_sub hl [0, 1, 2] rfl)
    · have hf := it_f hf c4
      refine lv_iload_n C.x C.b dX8_tellWay_19 rfl (lv_at hl 3 rfl) ?_
      refine lv_if_le (tgt := 68) C.x C.b dX8_tellWay_20 (by decide) (fun c5 => ?_) (fun c5 => ?_)
      · have hf := it_t hf c5
        exact w_X8_tellWay_68 C hr hlk _ _ _ _ hf hE hR hS t_r0 t_r2 (lv_sub hl [0, 1, 2] rfl)
      · have hf := it_f hf c5
        refine lv_iload_n C.x C.b dX8_tellWay_23 rfl (lv_at hl 3 rfl) ?_
        refine lv_aload_n C.x C.b dX8_tellWay_24 rfl (lv_at hl 0 rfl) ?_
        refine r_getr C hR t_r0 fl_X8_11 (by decide) (nz_e g2) dX8_tellWay_25 (fun tq6 => ?_)
        refine r_alen C hR (Or.inl tg2) dX8_tellWay_28 ?_
        refine lv_icmp_ge (tgt := 68) C.x C.b dX8_tellWay_29 (by decide) (fun c7 => ?_) (fun c7 => ?_)
        · have hf := it_t hf c7
          exact w_X8_tellWay_68 C hr hlk _ _ _ _ hf hE hR hS t_r0 t_r2 (lv_sub hl [0, 1, 2] rfl)
        · have hf := it_f hf c7
          refine lv_aload_n C.x C.b dX8_tellWay_32 rfl (lv_at hl 2 rfl) ?_
          refine lv_aload_n C.x C.b dX8_tellWay_33 rfl (lv_at hl 0 rfl) ?_
          refine r_getr C hR t_r0 fl_X8_11 (by decide) (nz_e g2) dX8_tellWay_34 (fun tq8 => ?_)
          refine lv_iload_n C.x C.b dX8_tellWay_37 rfl (lv_at hl 3 rfl) ?_
          obtain ⟨g9, hf⟩ := gd_e hf
          refine r_iald C hR tg2 g9 dX8_tellWay_38 ?_
          refine lv_sipush (v := (16384 : Int32)) C.x C.b dX8_tellWay_39 (by decide) ?_
          refine lv_irem C.x C.b dX8_tellWay_42 (by decide) ?_
          refine lv_topi (fun v10 e_v10 => ?_)
          have hf := lt_e hf e_v10
          refine lv_sipush (v := (256 : Int32)) C.x C.b dX8_tellWay_43 (by decide) ?_
          refine lv_idiv C.x C.b dX8_tellWay_46 (by decide) ?_
          refine lv_i2l C.x C.b dX8_tellWay_47 rfl ?_
          obtain ⟨q11, h_q11, hf⟩ := bd_e hf
          refine r_callV (As := [.long ((v10 / (256 : Int32)).toInt64)]) (rest := []) C hR hS t_r2 rfl mk_X7_add cl_X8_61 (k_X7_add t_r2 h_q11) ⟨⟨Nat.le_of_ble_eq_true rfl, Nat.le_of_ble_eq_true rfl⟩, ⟨rfl, rfl⟩, Nat.le_of_ble_eq_true rfl, Nat.le_of_ble_eq_true rfl⟩ rfl hl.1 rfl (Nat.le_of_ble_eq_true rfl) dX8_tellWay_48 (fun H locs hR hS hE1 z_q11 => ?_)
          have hE := hE.tr hE1
          have t_r0 := hE1.at t_r0 (by decide)
          have t_r2 := hE1.at t_r2 (by decide)
          refine lv_aload_n C.x C.b dX8_tellWay_51 rfl (lv_at hl 0 rfl) ?_
          obtain ⟨g12, hf⟩ := gd_e hf
          refine r_getr C hR t_r0 fl_X8_11 (by decide) (nz_e g12) dX8_tellWay_52 (fun tq13 => ?_)
          have tg12 := okA tq13 rfl
          refine lv_iload_n C.x C.b dX8_tellWay_55 rfl (lv_at hl 3 rfl) ?_
          obtain ⟨g14, hf⟩ := gd_e hf
          refine r_iald C hR tg12 g14 dX8_tellWay_56 ?_
          refine lv_sipush (v := (16384 : Int32)) C.x C.b dX8_tellWay_57 (by decide) ?_
          refine lv_idiv C.x C.b dX8_tellWay_60 (by decide) ?_
          refine lv_topi (fun v15 e_v15 => ?_)
          have hf := lt_e hf e_v15
          refine lv_istore_n (lv' := [(3, .int v15), (0, .ref (G.2.2 + r0)), (1, .int x1), (2, .ref (G.2.2 + r2)), (4, .int x4)]) C.x C.b dX8_tellWay_61 rfl hl (by decide) rfl (fun ls hl => ?_)
          obtain ⟨v16, e_v16⟩ : ∃ y : Int32, y = x4 + (1 : Int32) := ⟨_, rfl⟩
          have hf := lt_e hf e_v16
          refine lv_iinc (v := v16) (lv' := [(4, .int v16), (3, .int v15), (0, .ref (G.2.2 + r0)), (1, .int x1), (2, .ref (G.2.2 + r2))]) C.x C.b dX8_tellWay_62 hl (k := 4) rfl (by rw [e_v16]; rfl) (by decide) rfl (fun ls hl => ?_)
          refine lv_goto (tgt := 9) C.x C.b dX8_tellWay_65 (by decide) ?_
          exact hk9 _ _ _ _ _ _ hf hE hR hS t_r0 t_r2 (lv_sub hl [2, 3, 4, 1, 0] rfl)
set_option maxRecDepth 100000 in
set_option maxHeartbeats 4000000 in
theorem k_X8_tellWay {G : Gt} {l : Launch} {h : Hp} {r0 : Nat} {x1 : Int32} {r2 : Nat} {out : (Int32 × Hp)} (t_r0 : hpT h r0 = (1, 8)) (t_r2 : hpT h r2 = (1, 7))  (hf : f_X8_tellWay h r0 x1 r2 = some out) : Mt G l yX8_tellWay cX8_tellWay 5 (some .int) rm_X8_tellWay [.ref (G.2.2 + r0), .int x1, .ref (G.2.2 + r2)] h (some (.int out.1)) out.2 false 0 0 := by
  refine r_met (by decide +kernel) (Nat.le_of_ble_eq_true rfl) ?_
  intro p e s m args below meth c ls C hr hlk hnm hR hS hl
  have hE : Ext h h := Ext.rf
  have hl : lv_has ls 5 [(0, .ref (G.2.2 + r0)), (1, .int x1), (2, .ref (G.2.2 + r2))] := hl
  rw [f_X8_tellWay] at hf
  refine lv_aload_n C.x C.b dX8_tellWay_0 rfl (lv_at hl 2 rfl) ?_
  obtain ⟨q1, h_q1, hf⟩ := bd_e hf
  refine r_callV (As := []) (rest := []) C hR hS t_r2 rfl mk_X7_start cl_X8_56 (k_X7_start t_r2 h_q1) ⟨⟨Nat.le_of_ble_eq_true rfl, Nat.le_of_ble_eq_true rfl⟩, ⟨rfl, rfl⟩, Nat.le_of_ble_eq_true rfl, Nat.le_of_ble_eq_true rfl⟩ rfl hl.1 rfl (Nat.le_of_ble_eq_true rfl) dX8_tellWay_1 (fun H locs hR hS hE1 z_q1 => ?_)
  have hE := hE.tr hE1
  have t_r0 := hE1.at t_r0 (by decide)
  have t_r2 := hE1.at t_r2 (by decide)
  refine lv_iload_n C.x C.b dX8_tellWay_4 rfl (lv_at hl 1 rfl) ?_
  refine lv_istore_n (lv' := [(3, .int x1), (0, .ref (G.2.2 + r0)), (1, .int x1), (2, .ref (G.2.2 + r2))]) C.x C.b dX8_tellWay_5 rfl hl (by decide) rfl (fun ls hl => ?_)
  refine lv_iconst (v := (0 : Int32)) C.x C.b dX8_tellWay_6 (by decide) ?_
  refine lv_istore (lv' := [(4, .int (0 : Int32)), (3, .int x1), (0, .ref (G.2.2 + r0)), (1, .int x1), (2, .ref (G.2.2 + r2))]) C.x C.b dX8_tellWay_7 hl (by decide) rfl (fun ls hl => ?_)
  exact w_X8_tellWay_9 C hr hlk FU _ _ _ _ _ _ hf hE hR hS t_r0 t_r2 (lv_sub hl [2, 3, 4, 1, 0] rfl)

def rm_X8_shortest : Room := { frames := 5, cells := 0, slots := 0, locals := 109 }
def P_X8_shortest_181 (G : Gt) (l : Launch) (p : Program) (e : Env) (s : State) (m : MethodId) (args : Array Value) (below : List Frame) (meth : Method) (c : Code) (h0 : Hp) (out : (Int32 × Hp)) (r0 : Nat) (r1 : Nat) (x2 : Int32) (x3 : Int32) (x4 : Int32) (y5 : Int64) (r7 : Nat) (k : Hp → Int32 → Int32 → Int32 → Int32 → Int32 → Option (Int32 × Hp)) : Prop := ∀ (H : Heap) (locs : List Loc) (ls : Array Slot) (h : Hp) (x8 : Int32) (x9 : Int32) (x11 : Int32) (x12 : Int32) (x13 : Int32), k h x8 x9 x11 x12 x13 = some out → Ext h0 h → Rel G h H → va_S (AA G.2.2) s.heap H locs → hpT h r0 = (1, 8) → hpT h r1 = (1, 0) → hpT h r7 = (1, 7) → lv_has ls 15 [(0, .ref (G.2.2 + r0)), (1, .ref (G.2.2 + r1)), (2, .int x2), (3, .int x3), (4, .int x4), (5, .long y5), (7, .ref (G.2.2 + r7)), (8, .int x8), (9, .int x9), (11, .int x11), (12, .int x12), (13, .int x13)] → W p l e rm_X8_shortest s m args below meth c H locs 0 0 (MQ below (Qm G h0 out.2 (some (.int out.1)) false) args s 0 0 (AA G.2.2)) (F0 m 181 ls [])
def P_X8_shortest_133 (G : Gt) (l : Launch) (p : Program) (e : Env) (s : State) (m : MethodId) (args : Array Value) (below : List Frame) (meth : Method) (c : Code) (h0 : Hp) (out : (Int32 × Hp)) (r0 : Nat) (r1 : Nat) (x2 : Int32) (x3 : Int32) (x4 : Int32) (y5 : Int64) (r7 : Nat) (k : Hp → Int32 → Int32 → Int32 → Int32 → Int32 → Option (Int32 × Hp)) : Prop := ∀ (H : Heap) (locs : List Loc) (ls : Array Slot) (h : Hp) (x8 : Int32) (x9 : Int32) (x11 : Int32) (x12 : Int32) (x13 : Int32), k h x8 x9 x11 x12 x13 = some out → Ext h0 h → Rel G h H → va_S (AA G.2.2) s.heap H locs → hpT h r0 = (1, 8) → hpT h r1 = (1, 0) → hpT h r7 = (1, 7) → lv_has ls 15 [(0, .ref (G.2.2 + r0)), (1, .ref (G.2.2 + r1)), (2, .int x2), (3, .int x3), (4, .int x4), (5, .long y5), (7, .ref (G.2.2 + r7)), (8, .int x8), (9, .int x9), (11, .int x11), (12, .int x12), (13, .int x13)] → W p l e rm_X8_shortest s m args below meth c H locs 0 0 (MQ below (Qm G h0 out.2 (some (.int out.1)) false) args s 0 0 (AA G.2.2)) (F0 m 133 ls [])
def P_X8_shortest_130 (G : Gt) (l : Launch) (p : Program) (e : Env) (s : State) (m : MethodId) (args : Array Value) (below : List Frame) (meth : Method) (c : Code) (h0 : Hp) (out : (Int32 × Hp)) (r0 : Nat) (r1 : Nat) (x2 : Int32) (x3 : Int32) (x4 : Int32) (y5 : Int64) (r7 : Nat) (k : Hp → Int32 → Int32 → Int32 → Int32 → Option (Int32 × Hp)) : Prop := ∀ (H : Heap) (locs : List Loc) (ls : Array Slot) (h : Hp) (x8 : Int32) (x9 : Int32) (x11 : Int32) (x12 : Int32), k h x8 x9 x11 x12 = some out → Ext h0 h → Rel G h H → va_S (AA G.2.2) s.heap H locs → hpT h r0 = (1, 8) → hpT h r1 = (1, 0) → hpT h r7 = (1, 7) → lv_has ls 15 [(0, .ref (G.2.2 + r0)), (1, .ref (G.2.2 + r1)), (2, .int x2), (3, .int x3), (4, .int x4), (5, .long y5), (7, .ref (G.2.2 + r7)), (8, .int x8), (9, .int x9), (11, .int x11), (12, .int x12)] → W p l e rm_X8_shortest s m args below meth c H locs 0 0 (MQ below (Qm G h0 out.2 (some (.int out.1)) false) args s 0 0 (AA G.2.2)) (F0 m 130 ls [])
def P_X8_shortest_62 (G : Gt) (l : Launch) (p : Program) (e : Env) (s : State) (m : MethodId) (args : Array Value) (below : List Frame) (meth : Method) (c : Code) (h0 : Hp) (out : (Int32 × Hp)) (r0 : Nat) (r1 : Nat) (x2 : Int32) (x3 : Int32) (x4 : Int32) (y5 : Int64) (r7 : Nat) (k : Hp → Int32 → Int32 → Option (Int32 × Hp)) : Prop := ∀ (H : Heap) (locs : List Loc) (ls : Array Slot) (h : Hp) (x8 : Int32) (x9 : Int32), k h x8 x9 = some out → Ext h0 h → Rel G h H → va_S (AA G.2.2) s.heap H locs → hpT h r0 = (1, 8) → hpT h r1 = (1, 0) → hpT h r7 = (1, 7) → lv_has ls 15 [(0, .ref (G.2.2 + r0)), (1, .ref (G.2.2 + r1)), (2, .int x2), (3, .int x3), (4, .int x4), (5, .long y5), (7, .ref (G.2.2 + r7)), (8, .int x8), (9, .int x9)] → W p l e rm_X8_shortest s m args below meth c H locs 0 0 (MQ below (Qm G h0 out.2 (some (.int out.1)) false) args s 0 0 (AA G.2.2)) (F0 m 62 ls [])
def P_X8_shortest_49 (G : Gt) (l : Launch) (p : Program) (e : Env) (s : State) (m : MethodId) (args : Array Value) (below : List Frame) (meth : Method) (c : Code) (h0 : Hp) (out : (Int32 × Hp)) (r0 : Nat) (r1 : Nat) (x2 : Int32) (x3 : Int32) (x4 : Int32) (y5 : Int64) (r7 : Nat) (k : Hp → Option (Int32 × Hp)) : Prop := ∀ (H : Heap) (locs : List Loc) (ls : Array Slot) (h : Hp), k h = some out → Ext h0 h → Rel G h H → va_S (AA G.2.2) s.heap H locs → hpT h r0 = (1, 8) → hpT h r1 = (1, 0) → hpT h r7 = (1, 7) → lv_has ls 15 [(0, .ref (G.2.2 + r0)), (1, .ref (G.2.2 + r1)), (2, .int x2), (3, .int x3), (4, .int x4), (5, .long y5), (7, .ref (G.2.2 + r7))] → W p l e rm_X8_shortest s m args below meth c H locs 0 0 (MQ below (Qm G h0 out.2 (some (.int out.1)) false) args s 0 0 (AA G.2.2)) (F0 m 49 ls [])
def P_X8_shortest_11 (G : Gt) (l : Launch) (p : Program) (e : Env) (s : State) (m : MethodId) (args : Array Value) (below : List Frame) (meth : Method) (c : Code) (h0 : Hp) (out : (Int32 × Hp)) (r0 : Nat) (r1 : Nat) (x2 : Int32) (x3 : Int32) (x4 : Int32) (y5 : Int64) (r7 : Nat) (k : Hp → Int32 → Option (Int32 × Hp)) : Prop := ∀ (H : Heap) (locs : List Loc) (ls : Array Slot) (h : Hp) (x8 : Int32), k h x8 = some out → Ext h0 h → Rel G h H → va_S (AA G.2.2) s.heap H locs → hpT h r0 = (1, 8) → hpT h r1 = (1, 0) → hpT h r7 = (1, 7) → lv_has ls 15 [(0, .ref (G.2.2 + r0)), (1, .ref (G.2.2 + r1)), (2, .int x2), (3, .int x3), (4, .int x4), (5, .long y5), (7, .ref (G.2.2 + r7)), (8, .int x8)] → W p l e rm_X8_shortest s m args below meth c H locs 0 0 (MQ below (Qm G h0 out.2 (some (.int out.1)) false) args s 0 0 (AA G.2.2)) (F0 m 11 ls [])
set_option maxRecDepth 100000 in
set_option maxHeartbeats 4000000 in
theorem w_X8_shortest_181 {G : Gt} {l : Launch} {p : Program} {e : Env} {s : State} {m : MethodId} {args : Array Value} {below : List Frame} {meth : Method} {c : Code} {h0 : Hp} {out : (Int32 × Hp)} {r0 : Nat} {r1 : Nat} {x2 : Int32} {x3 : Int32} {x4 : Int32} {y5 : Int64} {r7 : Nat} {k62 : Hp → Int32 → Int32 → Option (Int32 × Hp)} {k133 : Hp → Int32 → Int32 → Int32 → Int32 → Int32 → Option (Int32 × Hp)} (C : Cx G p m c cX8_shortest 15 s args RX8) (hr : meth.sig.returnType = some .int) (hlk : meth.locks = false) (hk62 : P_X8_shortest_62 G l p e s m args below meth c h0 out r0 r1 x2 x3 x4 y5 r7 k62) (hk133 : P_X8_shortest_133 G l p e s m args below meth c h0 out r0 r1 x2 x3 x4 y5 r7 k133) : P_X8_shortest_181 G l p e s m args below meth c h0 out r0 r1 x2 x3 x4 y5 r7 (f_X8_shortest_181 r0 r1 x2 x3 x4 y5 r7 k62 k133) := by
  intro H locs ls h x8 x9 x11 x12 x13 hf hE hR hS t_r0 t_r1 t_r7 hl
  rw [f_X8_shortest_181] at hf
  obtain ⟨v33, e_v33⟩ : ∃ y : Int32, y = x13 + (1 : Int32) := ⟨_, rfl⟩
  have hf := lt_e hf e_v33
  refine lv_iinc (v := v33) (lv' := [(13, .int v33), (0, .ref (G.2.2 + r0)), (1, .ref (G.2.2 + r1)), (2, .int x2), (3, .int x3), (4, .int x4), (5, .long y5), (7, .ref (G.2.2 + r7)), (8, .int x8), (9, .int x9), (11, .int x11), (12, .int x12)]) C.x C.b dX8_shortest_181 hl (k := 11) rfl (by rw [e_v33]; rfl) (by decide) rfl (fun ls hl => ?_)
  refine lv_goto (tgt := 133) C.x C.b dX8_shortest_184 (by decide) ?_
  exact hk133 _ _ _ _ _ _ _ _ _ hf hE hR hS t_r0 t_r1 t_r7 (lv_sub hl [1, 2, 3, 4, 5, 6, 7, 8, 9, 10, 11, 0] rfl)
set_option maxRecDepth 100000 in
set_option maxHeartbeats 4000000 in
theorem w_X8_shortest_133 {G : Gt} {l : Launch} {p : Program} {e : Env} {s : State} {m : MethodId} {args : Array Value} {below : List Frame} {meth : Method} {c : Code} {h0 : Hp} {out : (Int32 × Hp)} {r0 : Nat} {r1 : Nat} {x2 : Int32} {x3 : Int32} {x4 : Int32} {y5 : Int64} {r7 : Nat} {k62 : Hp → Int32 → Int32 → Option (Int32 × Hp)} (C : Cx G p m c cX8_shortest 15 s args RX8) (hr : meth.sig.returnType = some .int) (hlk : meth.locks = false) (hk62 : P_X8_shortest_62 G l p e s m args below meth c h0 out r0 r1 x2 x3 x4 y5 r7 k62) (n : Nat) : P_X8_shortest_133 G l p e s m args below meth c h0 out r0 r1 x2 x3 x4 y5 r7 (f_X8_shortest_133 r0 r1 x2 x3 x4 y5 r7 k62 n) := by
  induction n with
  | zero => intro H locs ls h x8 x9 x11 x12 x13 hf hE hR hS t_r0 t_r1 t_r7 hl; cases hf
  | succ n hk133 =>
    intro H locs ls h x8 x9 x11 x12 x13 hf hE hR hS t_r0 t_r1 t_r7 hl
    rw [f_X8_shortest_133] at hf
    obtain ⟨k133, e_k133⟩ : ∃ y, y = f_X8_shortest_133 r0 r1 x2 x3 x4 y5 r7 k62 n := ⟨_, rfl⟩
    have hf := lt_e hf e_k133
    rw [← e_k133] at hk133
    refine lv_iload C.x C.b dX8_shortest_133 (lv_at hl 11 rfl) ?_
    refine lv_iconst (v := (4 : Int32)) C.x C.b dX8_shortest_135 (by decide) ?_
    refine lv_icmp_ge (tgt := 187) C.x C.b dX8_shortest_136 (by decide) (fun c26 => ?_) (fun c26 => ?_)
    · have hf := it_t hf c26
      obtain ⟨v27, e_v27⟩ : ∃ y : Int32, y = x9 + (1 : Int32) := ⟨_, rfl⟩
      have hf := lt_e hf e_v27
      refine lv_iinc (v := v27) (lv' := [(9, .int v27), (0, .ref (G.2.2 + r0)), (1, .ref (G.2.2 + r1)), (2, .int x2), (3, .int x3), (4, .int x4), (5, .long y5), (7, .ref (G.2.2 + r7)), (8, .int x8), (11, .int x11), (12, .int x12), (13, .int x13)]) C.x C.b dX8_shortest_187 hl (k := 8) rfl (by rw [e_v27]; rfl) (by decide) rfl (fun ls hl => ?_)
      refine lv_goto (tgt := 62) C.x C.b dX8_shortest_190 (by decide) ?_
      exact hk62 _ _ _ _ _ _ hf hE hR hS t_r0 t_r1 t_r7 (lv_sub hl [1, 2, 3, 4, 5, 6, 7, 8, 0] rfl)
    · have hf := it_f hf c26
      refine lv_aload_n C.x C.b dX8_shortest_139 rfl (lv_at hl 1 rfl) ?_
      refine lv_iload C.x C.b dX8_shortest_140 (lv_at hl 9 rfl) ?_
      refine lv_iload C.x C.b dX8_shortest_142 (lv_at hl 11 rfl) ?_
      obtain ⟨q28, h_q28, hf⟩ := bd_e hf
      refine r_callV (As := [.int x11, .int x13]) (rest := []) C hR hS t_r1 rfl mk_X0_beside cl_X8_52 (k_X0_beside t_r1 h_q28) ⟨⟨Nat.le_of_ble_eq_true rfl, Nat.le_of_ble_eq_true rfl⟩, ⟨rfl, rfl⟩, Nat.le_of_ble_eq_true rfl, Nat.le_of_ble_eq_true rfl⟩ rfl hl.1 rfl (Nat.le_of_ble_eq_true rfl) dX8_shortest_144 (fun H locs hR hS hE1 z_q28 => ?_)
      refine lv_istore (lv' := [(14, .int q28), (0, .ref (G.2.2 + r0)), (1, .ref (G.2.2 + r1)), (2, .int x2), (3, .int x3), (4, .int x4), (5, .long y5), (7, .ref (G.2.2 + r7)), (8, .int x8), (9, .int x9), (11, .int x11), (12, .int x12), (13, .int x13)]) C.x C.b dX8_shortest_147 hl (by decide) rfl (fun ls hl => ?_)
      refine lv_iload C.x C.b dX8_shortest_149 (lv_at hl 0 rfl) ?_
      refine lv_iconst (v := (-1 : Int32)) C.x C.b dX8_shortest_151 (by decide) ?_
      refine lv_icmp_eq (tgt := 181) C.x C.b dX8_shortest_152 (by decide) (fun c29 => ?_) (fun c29 => ?_)
      · have hf := it_t hf c29
        exact w_X8_shortest_181 C hr hlk hk62 hk133 _ _ _ _ _ _ _ _ _ hf hE hR hS t_r0 t_r1 t_r7 (lv_sub hl [1, 2, 3, 4, 5, 6, 7, 8, 9, 10, 11, 12] rfl)
      · have hf := it_f hf c29
        refine lv_lload C.x C.b dX8_shortest_155 (lv_at hl 6 rfl) ?_
        refine lv_iload C.x C.b dX8_shortest_157 (lv_at hl 0 rfl) ?_
        refine lv_lshr C.x C.b dX8_shortest_159 rfl ?_
        refine lv_topl (fun v30 e_v30 => ?_)
        have hf := lt_e hf e_v30
        refine lv_lconst (v := (1 : Int64)) C.x C.b dX8_shortest_160 (by decide) ?_
        refine lv_land C.x C.b dX8_shortest_161 ?_
        refine lv_lconst (v := (0 : Int64)) C.x C.b dX8_shortest_162 (by decide) ?_
        refine W.lcmp C.x C.b dX8_shortest_163 ?_
        refine lv_if_eq (tgt := 181) C.x C.b dX8_shortest_164 (by decide) (fun c31 => ?_) (fun c31 => ?_)
        · have hf := it_t hf c31
          exact w_X8_shortest_181 C hr hlk hk62 hk133 _ _ _ _ _ _ _ _ _ hf hE hR hS t_r0 t_r1 t_r7 (lv_sub hl [1, 2, 3, 4, 5, 6, 7, 8, 9, 10, 11, 12] rfl)
        · have hf := it_f hf c31
          refine lv_aload_n C.x C.b dX8_shortest_167 rfl (lv_at hl 1 rfl) ?_
          refine lv_iload C.x C.b dX8_shortest_168 (lv_at hl 0 rfl) ?_
          refine lv_iload C.x C.b dX8_shortest_170 (lv_at hl 11 rfl) ?_
          refine lv_iload C.x C.b dX8_shortest_172 (lv_at hl 9 rfl) ?_
          refine lv_iload C.x C.b dX8_shortest_174 (lv_at hl 8 rfl) ?_
          obtain ⟨q32, h_q32, hf⟩ := bd_e hf
          refine r_callV (As := [.int q28, .int x12, .int x9, .int x8]) (rest := []) C hR hS t_r0 rfl mk_X8_reach cl_X8_44 (k_X8_reach t_r0 h_q32) ⟨⟨Nat.le_of_ble_eq_true rfl, Nat.le_of_ble_eq_true rfl⟩, ⟨rfl, rfl⟩, Nat.le_of_ble_eq_true rfl, Nat.le_of_ble_eq_true rfl⟩ rfl hl.1 rfl (Nat.le_of_ble_eq_true rfl) dX8_shortest_176 (fun H locs hR hS hE1 z_q32 => ?_)
          have hE := hE.tr hE1
          have t_r0 := hE1.at t_r0 (by decide)
          have t_r1 := hE1.at t_r1 (by decide)
          have t_r7 := hE1.at t_r7 (by decide)
          refine lv_istore (lv' := [(8, .int q32.1), (14, .int q28), (0, .ref (G.2.2 + r0)), (1, .ref (G.2.2 + r1)), (2, .int x2), (3, .int x3), (4, .int x4), (5, .long y5), (7, .ref (G.2.2 + r7)), (9, .int x9), (11, .int x11), (12, .int x12), (13, .int x13)]) C.x C.b dX8_shortest_179 hl (by decide) rfl (fun ls hl => ?_)
          exact w_X8_shortest_181 C hr hlk hk62 hk133 _ _ _ _ _ _ _ _ _ hf hE hR hS t_r0 t_r1 t_r7 (lv_sub hl [2, 3, 4, 5, 6, 7, 8, 0, 9, 10, 11, 12] rfl)
set_option maxRecDepth 100000 in
set_option maxHeartbeats 4000000 in
theorem w_X8_shortest_130 {G : Gt} {l : Launch} {p : Program} {e : Env} {s : State} {m : MethodId} {args : Array Value} {below : List Frame} {meth : Method} {c : Code} {h0 : Hp} {out : (Int32 × Hp)} {r0 : Nat} {r1 : Nat} {x2 : Int32} {x3 : Int32} {x4 : Int32} {y5 : Int64} {r7 : Nat} {k62 : Hp → Int32 → Int32 → Option (Int32 × Hp)} (C : Cx G p m c cX8_shortest 15 s args RX8) (hr : meth.sig.returnType = some .int) (hlk : meth.locks = false) (hk62 : P_X8_shortest_62 G l p e s m args below meth c h0 out r0 r1 x2 x3 x4 y5 r7 k62) : P_X8_shortest_130 G l p e s m args below meth c h0 out r0 r1 x2 x3 x4 y5 r7 (f_X8_shortest_130 r0 r1 x2 x3 x4 y5 r7 k62) := by
  intro H locs ls h x8 x9 x11 x12 hf hE hR hS t_r0 t_r1 t_r7 hl
  rw [f_X8_shortest_130] at hf
  refine lv_iconst (v := (0 : Int32)) C.x C.b dX8_shortest_130 (by decide) ?_
  refine lv_istore (lv' := [(13, .int (0 : Int32)), (0, .ref (G.2.2 + r0)), (1, .ref (G.2.2 + r1)), (2, .int x2), (3, .int x3), (4, .int x4), (5, .long y5), (7, .ref (G.2.2 + r7)), (8, .int x8), (9, .int x9), (11, .int x11), (12, .int x12)]) C.x C.b dX8_shortest_131 hl (by decide) rfl (fun ls hl => ?_)
  exact w_X8_shortest_133 C hr hlk hk62 FU _ _ _ _ _ _ _ _ _ hf hE hR hS t_r0 t_r1 t_r7 (lv_sub hl [1, 2, 3, 4, 5, 6, 7, 8, 9, 10, 11, 0] rfl)
set_option maxRecDepth 100000 in
set_option maxHeartbeats 4000000 in
theorem w_X8_shortest_62 {G : Gt} {l : Launch} {p : Program} {e : Env} {s : State} {m : MethodId} {args : Array Value} {below : List Frame} {meth : Method} {c : Code} {h0 : Hp} {out : (Int32 × Hp)} {r0 : Nat} {r1 : Nat} {x2 : Int32} {x3 : Int32} {x4 : Int32} {y5 : Int64} {r7 : Nat}  (C : Cx G p m c cX8_shortest 15 s args RX8) (hr : meth.sig.returnType = some .int) (hlk : meth.locks = false)  (n : Nat) : P_X8_shortest_62 G l p e s m args below meth c h0 out r0 r1 x2 x3 x4 y5 r7 (f_X8_shortest_62 r0 r1 x2 x3 x4 y5 r7 n) := by
  induction n with
  | zero => intro H locs ls h x8 x9 hf hE hR hS t_r0 t_r1 t_r7 hl; cases hf
  | succ n hk62 =>
    intro H locs ls h x8 x9 hf hE hR hS t_r0 t_r1 t_r7 hl
    rw [f_X8_shortest_62] at hf
    obtain ⟨k62, e_k62⟩ : ∃ y, y = f_X8_shortest_62 r0 r1 x2 x3 x4 y5 r7 n := ⟨_, rfl⟩
    have hf := lt_e hf e_k62
    rw [← e_k62] at hk62
    refine lv_iload C.x C.b dX8_shortest_62 (lv_at hl 8 rfl) ?_
    refine lv_iload C.x C.b dX8_shortest_64 (lv_at hl 7 rfl) ?_
    refine lv_icmp_ge (tgt := 193) C.x C.b dX8_shortest_66 (by decide) (fun c14 => ?_) (fun c14 => ?_)
    · have hf := it_t hf c14
      refine lv_bipush (v := (-2 : Int32)) C.x C.b dX8_shortest_193 (by decide) ?_
      have hf := so_e hf
      subst hf
      exact r_iret C hr hlk hR hE hS dX8_shortest_195
    · have hf := it_f hf c14
      refine lv_iload C.x C.b dX8_shortest_69 (lv_at hl 8 rfl) ?_
      refine lv_aload_n C.x C.b dX8_shortest_71 rfl (lv_at hl 0 rfl) ?_
      obtain ⟨g15, hf⟩ := gd_e hf
      refine r_getr C hR t_r0 fl_X8_11 (by decide) (nz_e g15) dX8_shortest_72 (fun tq16 => ?_)
      have tg15 := okA tq16 rfl
      refine r_alen C hR (Or.inl tg15) dX8_shortest_75 ?_
      refine lv_icmp_ge (tgt := 193) C.x C.b dX8_shortest_76 (by decide) (fun c17 => ?_) (fun c17 => ?_)
      · have hf := it_t hf c17
        refine lv_bipush (v := (-2 : Int32)) C.x C.b dX8_shortest_193 (by decide) ?_
        have hf := so_e hf
        subst hf
        exact r_iret C hr hlk hR hE hS dX8_shortest_195
      · have hf := it_f hf c17
        refine lv_aload_n C.x C.b dX8_shortest_79 rfl (lv_at hl 0 rfl) ?_
        refine r_getr C hR t_r0 fl_X8_11 (by decide) (nz_e g15) dX8_shortest_80 (fun tq18 => ?_)
        refine lv_iload C.x C.b dX8_shortest_83 (lv_at hl 8 rfl) ?_
        obtain ⟨g19, hf⟩ := gd_e hf
        refine r_iald C hR tg15 g19 dX8_shortest_85 ?_
        refine lv_sipush (v := (16384 : Int32)) C.x C.b dX8_shortest_86 (by decide) ?_
        refine lv_irem C.x C.b dX8_shortest_89 (by decide) ?_
        refine lv_topi (fun v20 e_v20 => ?_)
        have hf := lt_e hf e_v20
        refine lv_istore (lv' := [(10, .int v20), (0, .ref (G.2.2 + r0)), (1, .ref (G.2.2 + r1)), (2, .int x2), (3, .int x3), (4, .int x4), (5, .long y5), (7, .ref (G.2.2 + r7)), (8, .int x8), (9, .int x9)]) C.x C.b dX8_shortest_90 hl (by decide) rfl (fun ls hl => ?_)
        refine lv_iload C.x C.b dX8_shortest_92 (lv_at hl 0 rfl) ?_
        refine lv_sipush (v := (256 : Int32)) C.x C.b dX8_shortest_94 (by decide) ?_
        refine lv_idiv C.x C.b dX8_shortest_97 (by decide) ?_
        refine lv_topi (fun v21 e_v21 => ?_)
        have hf := lt_e hf e_v21
        refine lv_istore (lv' := [(11, .int v21), (10, .int v20), (0, .ref (G.2.2 + r0)), (1, .ref (G.2.2 + r1)), (2, .int x2), (3, .int x3), (4, .int x4), (5, .long y5), (7, .ref (G.2.2 + r7)), (8, .int x8), (9, .int x9)]) C.x C.b dX8_shortest_98 hl (by decide) rfl (fun ls hl => ?_)
        refine lv_iload C.x C.b dX8_shortest_100 (lv_at hl 1 rfl) ?_
        refine lv_sipush (v := (256 : Int32)) C.x C.b dX8_shortest_102 (by decide) ?_
        refine lv_irem C.x C.b dX8_shortest_105 (by decide) ?_
        refine lv_topi (fun v22 e_v22 => ?_)
        have hf := lt_e hf e_v22
        refine lv_istore (lv' := [(12, .int v22), (11, .int v21), (10, .int v20), (0, .ref (G.2.2 + r0)), (1, .ref (G.2.2 + r1)), (2, .int x2), (3, .int x3), (4, .int x4), (5, .long y5), (7, .ref (G.2.2 + r7)), (8, .int x8), (9, .int x9)]) C.x C.b dX8_shortest_106 hl (by decide) rfl (fun ls hl => ?_)
        refine lv_iload C.x C.b dX8_shortest_108 (lv_at hl 1 rfl) ?_
        refine lv_iload_n C.x C.b dX8_shortest_110 rfl (lv_at hl 6 rfl) ?_
        refine lv_icmp_ne (tgt := 130) C.x C.b dX8_shortest_111 (by decide) (fun c23 => ?_) (fun c23 => ?_)
        · have hf := it_f hf c23
          exact w_X8_shortest_130 C hr hlk hk62 _ _ _ _ _ _ _ _ hf hE hR hS t_r0 t_r1 t_r7 (lv_sub hl [3, 4, 5, 6, 7, 8, 9, 10, 11, 1, 0] rfl)
        · have hf := it_t hf c23
          refine lv_iload C.x C.b dX8_shortest_114 (lv_at hl 0 rfl) ?_
          refine lv_iload C.x C.b dX8_shortest_116 (lv_at hl 7 rfl) ?_
          refine lv_icmp_ne (tgt := 130) C.x C.b dX8_shortest_118 (by decide) (fun c24 => ?_) (fun c24 => ?_)
          · have hf := it_f hf c24
            exact w_X8_shortest_130 C hr hlk hk62 _ _ _ _ _ _ _ _ hf hE hR hS t_r0 t_r1 t_r7 (lv_sub hl [3, 4, 5, 6, 7, 8, 9, 10, 11, 1, 0] rfl)
          · have hf := it_t hf c24
            refine lv_aload_n C.x C.b dX8_shortest_121 rfl (lv_at hl 3 rfl) ?_
            refine lv_iload C.x C.b dX8_shortest_122 (lv_at hl 11 rfl) ?_
            refine lv_aload C.x C.b dX8_shortest_124 (lv_at hl 9 rfl) ?_
            obtain ⟨q25, h_q25, hf⟩ := bd_e hf
            refine r_callV (As := [.int x9, .ref (G.2.2 + r7)]) (rest := []) C hR hS t_r0 rfl mk_X8_tellWay cl_X8_48 (k_X8_tellWay t_r0 t_r7 h_q25) ⟨⟨Nat.le_of_ble_eq_true rfl, Nat.le_of_ble_eq_true rfl⟩, ⟨rfl, rfl⟩, Nat.le_of_ble_eq_true rfl, Nat.le_of_ble_eq_true rfl⟩ rfl hl.1 rfl (Nat.le_of_ble_eq_true rfl) dX8_shortest_126 (fun H locs hR hS hE1 z_q25 => ?_)
            have hE := hE.tr hE1
            have t_r0 := hE1.at t_r0 (by decide)
            have t_r1 := hE1.at t_r1 (by decide)
            have t_r7 := hE1.at t_r7 (by decide)
            have hf := so_e hf
            subst hf
            exact r_iret C hr hlk hR hE hS dX8_shortest_129
set_option maxRecDepth 100000 in
set_option maxHeartbeats 4000000 in
theorem w_X8_shortest_49 {G : Gt} {l : Launch} {p : Program} {e : Env} {s : State} {m : MethodId} {args : Array Value} {below : List Frame} {meth : Method} {c : Code} {h0 : Hp} {out : (Int32 × Hp)} {r0 : Nat} {r1 : Nat} {x2 : Int32} {x3 : Int32} {x4 : Int32} {y5 : Int64} {r7 : Nat}  (C : Cx G p m c cX8_shortest 15 s args RX8) (hr : meth.sig.returnType = some .int) (hlk : meth.locks = false)  : P_X8_shortest_49 G l p e s m args below meth c h0 out r0 r1 x2 x3 x4 y5 r7 (f_X8_shortest_49 r0 r1 x2 x3 x4 y5 r7) := by
  intro H locs ls h hf hE hR hS t_r0 t_r1 t_r7 hl
  rw [f_X8_shortest_49] at hf
  refine lv_aload_n C.x C.b dX8_shortest_49 rfl (lv_at hl 0 rfl) ?_
  refine lv_iload_n C.x C.b dX8_shortest_50 rfl (lv_at hl 2 rfl) ?_
  refine lv_iconst (v := (0 : Int32)) C.x C.b dX8_shortest_51 (by decide) ?_
  refine lv_iconst (v := (0 : Int32)) C.x C.b dX8_shortest_52 (by decide) ?_
  refine lv_iconst (v := (0 : Int32)) C.x C.b dX8_shortest_53 (by decide) ?_
  obtain ⟨q13, h_q13, hf⟩ := bd_e hf
  refine r_callV (As := [.int x2, .int (0 : Int32), .int (0 : Int32), .int (0 : Int32)]) (rest := []) C hR hS t_r0 rfl mk_X8_reach cl_X8_44 (k_X8_reach t_r0 h_q13) ⟨⟨Nat.le_of_ble_eq_true rfl, Nat.le_of_ble_eq_true rfl⟩, ⟨rfl, rfl⟩, Nat.le_of_ble_eq_true rfl, Nat.le_of_ble_eq_true rfl⟩ rfl hl.1 rfl (Nat.le_of_ble_eq_true rfl) dX8_shortest_54 (fun H locs hR hS hE1 z_q13 => ?_)
  have hE := hE.tr hE1
  have t_r0 := hE1.at t_r0 (by decide)
  have t_r1 := hE1.at t_r1 (by decide)
  have t_r7 := hE1.at t_r7 (by decide)
  refine lv_istore (lv' := [(8, .int q13.1), (0, .ref (G.2.2 + r0)), (1, .ref (G.2.2 + r1)), (2, .int x2), (3, .int x3), (4, .int x4), (5, .long y5), (7, .ref (G.2.2 + r7))]) C.x C.b dX8_shortest_57 hl (by decide) rfl (fun ls hl => ?_)
  refine lv_iconst (v := (0 : Int32)) C.x C.b dX8_shortest_59 (by decide) ?_
  refine lv_istore (lv' := [(9, .int (0 : Int32)), (8, .int q13.1), (0, .ref (G.2.2 + r0)), (1, .ref (G.2.2 + r1)), (2, .int x2), (3, .int x3), (4, .int x4), (5, .long y5), (7, .ref (G.2.2 + r7))]) C.x C.b dX8_shortest_60 hl (by decide) rfl (fun ls hl => ?_)
  exact w_X8_shortest_62 C hr hlk FU _ _ _ _ _ _ hf hE hR hS t_r0 t_r1 t_r7 (lv_sub hl [2, 3, 4, 5, 6, 7, 8, 1, 0] rfl)
set_option maxRecDepth 100000 in
set_option maxHeartbeats 4000000 in
theorem w_X8_shortest_11 {G : Gt} {l : Launch} {p : Program} {e : Env} {s : State} {m : MethodId} {args : Array Value} {below : List Frame} {meth : Method} {c : Code} {h0 : Hp} {out : (Int32 × Hp)} {r0 : Nat} {r1 : Nat} {x2 : Int32} {x3 : Int32} {x4 : Int32} {y5 : Int64} {r7 : Nat}  (C : Cx G p m c cX8_shortest 15 s args RX8) (hr : meth.sig.returnType = some .int) (hlk : meth.locks = false)  (n : Nat) : P_X8_shortest_11 G l p e s m args below meth c h0 out r0 r1 x2 x3 x4 y5 r7 (f_X8_shortest_11 r0 r1 x2 x3 x4 y5 r7 n) := by
  induction n with
  | zero => intro H locs ls h x8 hf hE hR hS t_r0 t_r1 t_r7 hl; cases hf
  | succ n hk11 =>
    intro H locs ls h x8 hf hE hR hS t_r0 t_r1 t_r7 hl
    rw [f_X8_shortest_11] at hf
    obtain ⟨k11, e_k11⟩ : ∃ y, y = f_X8_shortest_11 r0 r1 x2 x3 x4 y5 r7 n := ⟨_, rfl⟩
    have hf := lt_e hf e_k11
    rw [← e_k11] at hk11
    refine lv_iload C.x C.b dX8_shortest_11 (lv_at hl 7 rfl) ?_
    refine lv_aload_n C.x C.b dX8_shortest_13 rfl (lv_at hl 1 rfl) ?_
    obtain ⟨q4, h_q4, hf⟩ := bd_e hf
    refine r_callV (As := []) (rest := [.int x8]) C hR hS t_r1 rfl mk_X0_cells cl_X8_34 (k_X0_cells t_r1 h_q4) ⟨⟨Nat.le_of_ble_eq_true rfl, Nat.le_of_ble_eq_true rfl⟩, ⟨rfl, rfl⟩, Nat.le_of_ble_eq_true rfl, Nat.le_of_ble_eq_true rfl⟩ rfl hl.1 rfl (Nat.le_of_ble_eq_true rfl) dX8_shortest_14 (fun H locs hR hS hE1 z_q4 => ?_)
    refine lv_icmp_ge (tgt := 49) C.x C.b dX8_shortest_17 (by decide) (fun c5 => ?_) (fun c5 => ?_)
    · have hf := it_t hf c5
      exact w_X8_shortest_49 C hr hlk _ _ _ _ hf hE hR hS t_r0 t_r1 t_r7 (lv_sub hl [0, 1, 2, 3, 4, 5, 6] rfl)
    · have hf := it_f hf c5
      refine lv_iload C.x C.b dX8_shortest_20 (lv_at hl 7 rfl) ?_
      refine lv_bipush (v := (36 : Int32)) C.x C.b dX8_shortest_22 (by decide) ?_
      refine lv_icmp_ge (tgt := 49) C.x C.b dX8_shortest_24 (by decide) (fun c6 => ?_) (fun c6 => ?_)
      · have hf := it_t hf c6
        exact w_X8_shortest_49 C hr hlk _ _ _ _ hf hE hR hS t_r0 t_r1 t_r7 (lv_sub hl [0, 1, 2, 3, 4, 5, 6] rfl)
      · have hf := it_f hf c6
        refine lv_aload_n C.x C.b dX8_shortest_27 rfl (lv_at hl 0 rfl) ?_
        obtain ⟨g7, hf⟩ := gd_e hf
        refine r_getr C hR t_r0 fl_X8_19 (by decide) (nz_e g7) dX8_shortest_28 (fun tq8 => ?_)
        have tg7 := okA tq8 rfl
        refine lv_iload C.x C.b dX8_shortest_31 (lv_at hl 7 rfl) ?_
        refine lv_aload_n C.x C.b dX8_shortest_33 rfl (lv_at hl 1 rfl) ?_
        refine lv_iload C.x C.b dX8_shortest_34 (lv_at hl 7 rfl) ?_
        obtain ⟨q9, h_q9, hf⟩ := bd_e hf
        refine r_callV (As := [.int x8]) (rest := [.int x8, .ref (G.2.2 + (hpR h r0 2))]) C hR hS t_r1 rfl mk_X0_onOver cl_X8_40 (k_X0_onOver t_r1 h_q9) ⟨⟨Nat.le_of_ble_eq_true rfl, Nat.le_of_ble_eq_true rfl⟩, ⟨rfl, rfl⟩, Nat.le_of_ble_eq_true rfl, Nat.le_of_ble_eq_true rfl⟩ rfl hl.1 rfl (Nat.le_of_ble_eq_true rfl) dX8_shortest_36 (fun H locs hR hS hE1 z_q9 => ?_)
        refine lv_iload C.x C.b dX8_shortest_39 (lv_at hl 4 rfl) ?_
        refine lv_iand C.x C.b dX8_shortest_41 ?_
        obtain ⟨g10, hf⟩ := gd_e hf
        refine r_iast C hR hS tg7 g10 dX8_shortest_42 (fun H locs hR hS => ?_)
        obtain ⟨h11, e_h11⟩ : ∃ y, y = upI h (hpR h r0 2) (ix x8) (q9 &&& x4) := ⟨_, rfl⟩
        rw [← e_h11] at hR
        have hf := lt_e hf e_h11
        have hE := eI e_h11 hE
        have t_r0 := tI e_h11 t_r0
        have t_r1 := tI e_h11 t_r1
        have t_r7 := tI e_h11 t_r7
        obtain ⟨v12, e_v12⟩ : ∃ y : Int32, y = x8 + (1 : Int32) := ⟨_, rfl⟩
        have hf := lt_e hf e_v12
        refine lv_iinc (v := v12) (lv' := [(8, .int v12), (0, .ref (G.2.2 + r0)), (1, .ref (G.2.2 + r1)), (2, .int x2), (3, .int x3), (4, .int x4), (5, .long y5), (7, .ref (G.2.2 + r7))]) C.x C.b dX8_shortest_43 hl (k := 7) rfl (by rw [e_v12]; rfl) (by decide) rfl (fun ls hl => ?_)
        refine lv_goto (tgt := 11) C.x C.b dX8_shortest_46 (by decide) ?_
        exact hk11 _ _ _ _ _ hf hE hR hS t_r0 t_r1 t_r7 (lv_sub hl [1, 2, 3, 4, 5, 6, 7, 0] rfl)
set_option maxRecDepth 100000 in
set_option maxHeartbeats 4000000 in
theorem k_X8_shortest {G : Gt} {l : Launch} {h : Hp} {r0 : Nat} {r1 : Nat} {x2 : Int32} {x3 : Int32} {x4 : Int32} {y5 : Int64} {r7 : Nat} {out : (Int32 × Hp)} (t_r0 : hpT h r0 = (1, 8)) (t_r1 : hpT h r1 = (1, 0)) (t_r7 : hpT h r7 = (1, 7))  (hf : f_X8_shortest h r0 r1 x2 x3 x4 y5 r7 = some out) : Mt G l yX8_shortest cX8_shortest 15 (some .int) rm_X8_shortest [.ref (G.2.2 + r0), .ref (G.2.2 + r1), .int x2, .int x3, .int x4, .long y5, .ref (G.2.2 + r7)] h (some (.int out.1)) out.2 false 0 0 := by
  refine r_met (by decide +kernel) (Nat.le_of_ble_eq_true rfl) ?_
  intro p e s m args below meth c ls C hr hlk hnm hR hS hl
  have hE : Ext h h := Ext.rf
  have hl : lv_has ls 15 [(0, .ref (G.2.2 + r0)), (1, .ref (G.2.2 + r1)), (2, .int x2), (3, .int x3), (4, .int x4), (5, .long y5), (7, .ref (G.2.2 + r7))] := hl
  rw [f_X8_shortest] at hf
  refine lv_aload_n C.x C.b dX8_shortest_0 rfl (lv_at hl 0 rfl) ?_
  obtain ⟨g1, hf⟩ := gd_e hf
  refine r_getr C hR t_r0 fl_X8_15 (by decide) (nz_e g1) dX8_shortest_1 (fun tq2 => ?_)
  have tg1 := okA tq2 rfl
  refine lv_lconst (v := (0 : Int64)) C.x C.b dX8_shortest_4 (by decide) ?_
  obtain ⟨q3, h_q3, hf⟩ := bd_e hf
  refine r_callS (As := [.ref (G.2.2 + (hpR h r0 1)), .long (0 : Int64)]) (rest := []) C hR hS mk_J7_fill_d0a16 cl_X8_28 (k_J7_fill_d0a16 tg1 h_q3) ⟨⟨Nat.le_of_ble_eq_true rfl, Nat.le_of_ble_eq_true rfl⟩, ⟨rfl, rfl⟩, Nat.le_of_ble_eq_true rfl, Nat.le_of_ble_eq_true rfl⟩ rfl hl.1 rfl (Nat.le_of_ble_eq_true rfl) dX8_shortest_5 (fun H locs hR hS hE1 z_q3 => ?_)
  have hE := hE.tr hE1
  have t_r0 := hE1.at t_r0 (by decide)
  have t_r1 := hE1.at t_r1 (by decide)
  have t_r7 := hE1.at t_r7 (by decide)
  refine lv_iconst (v := (0 : Int32)) C.x C.b dX8_shortest_8 (by decide) ?_
  refine lv_istore (lv' := [(8, .int (0 : Int32)), (0, .ref (G.2.2 + r0)), (1, .ref (G.2.2 + r1)), (2, .int x2), (3, .int x3), (4, .int x4), (5, .long y5), (7, .ref (G.2.2 + r7))]) C.x C.b dX8_shortest_9 hl (by decide) rfl (fun ls hl => ?_)
  exact w_X8_shortest_11 C hr hlk FU _ _ _ _ _ hf hE hR hS t_r0 t_r1 t_r7 (lv_sub hl [1, 2, 3, 4, 5, 6, 7, 0] rfl)

