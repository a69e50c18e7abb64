def rm_X9_pitchDrawn : Room := { frames := 5, cells := 0, slots := 0, locals := 113 }
set_option maxRecDepth 100000 in
set_option maxHeartbeats 4000000 in
theorem k_X9_pitchDrawn {G : Gt} {l : Launch}  {h : Hp} {r0 : Nat} {r1 : Nat} {out : Hp} (t_r0 : hpT h r0 = (1, 9)) (t_r1 : hpT h r1 = (1, 1))  (hf : f_X9_pitchDrawn  h r0 r1 = some out) : Mt G l yX9_pitchDrawn cX9_pitchDrawn 5 (none) rm_X9_pitchDrawn [.ref (G.2.2 + r0), .ref (G.2.2 + r1)] h (none) out 0 0 0 := by
  refine r_met (by decide +kernel) (Nat.le_of_ble_eq_true rfl) ?_
  intro p e s m args below meth c ls C hr hlk hnm hR hS hl
  have hE : Ext h h := Ext.rf
  have hl : lv_has ls 5 [(0, .ref (G.2.2 + r0)), (1, .ref (G.2.2 + r1))] := hl
  rw [f_X9_pitchDrawn] at hf
  refine lv_aload_n C.x C.b dX9_pitchDrawn_0 rfl (lv_at hl 1 rfl) ?_
  refine lv_aload_n C.x C.b dX9_pitchDrawn_1 rfl (lv_at hl 0 rfl) ?_
  obtain ⟨g1, hf⟩ := gd_e hf
  refine r_getr C hR t_r0 fl_X9_33 (by decide) (nz_e g1) dX9_pitchDrawn_2 (fun tq2 => ?_)
  have tg1 := okO tq2 rfl
  obtain ⟨q3, h_q3, hf⟩ := bd_e hf
  refine r_callV (As := []) (rest := [.ref (G.2.2 + r1)]) C hR hS tg1 rfl mk_X0_cells cl_X9_118 (k_X0_cells tg1 h_q3) ⟨⟨Nat.le_of_ble_eq_true rfl, Nat.le_of_ble_eq_true rfl⟩, ⟨rfl, rfl⟩, Nat.le_of_ble_eq_true rfl, Nat.le_of_ble_eq_true rfl⟩ rfl hl.1 rfl (Nat.le_of_ble_eq_true rfl) dX9_pitchDrawn_5 (fun H locs hR hS hE1 z_q3 => ?_)
  obtain ⟨q4, h_q4, hf⟩ := bd_e hf
  refine r_callV (As := [.int q3]) (rest := []) C hR hS t_r1 rfl mk_X1_of cl_X9_424 (k_X1_of t_r1 h_q4) ⟨⟨Nat.le_of_ble_eq_true rfl, Nat.le_of_ble_eq_true rfl⟩, ⟨rfl, rfl⟩, Nat.le_of_ble_eq_true rfl, Nat.le_of_ble_eq_true rfl⟩ rfl hl.1 rfl (Nat.le_of_ble_eq_true rfl) dX9_pitchDrawn_8 (fun H locs hR hS hE1 z_q4 => ?_)
  have hE := hE.tr hE1
  have t_r0 := hE1.at t_r0 (by decide)
  have t_r1 := hE1.at t_r1 (by decide)
  refine lv_istore_n (lv' := [(2, .int q4.1), (0, .ref (G.2.2 + r0)), (1, .ref (G.2.2 + r1))]) C.x C.b dX9_pitchDrawn_11 rfl hl (by decide) rfl (fun ls hl => ?_)
  refine lv_iconst (v := (1 : Int32)) C.x C.b dX9_pitchDrawn_12 (by decide) ?_
  refine lv_aload_n C.x C.b dX9_pitchDrawn_13 rfl (lv_at hl 2 rfl) ?_
  refine lv_iconst (v := (3 : Int32)) C.x C.b dX9_pitchDrawn_14 (by decide) ?_
  obtain ⟨q5, h_q5, hf⟩ := bd_e hf
  refine r_callV (As := [.int (3 : Int32)]) (rest := [.int (1 : Int32)]) C hR hS t_r1 rfl mk_X1_of cl_X9_424 (k_X1_of t_r1 h_q5) ⟨⟨Nat.le_of_ble_eq_true rfl, Nat.le_of_ble_eq_true rfl⟩, ⟨rfl, rfl⟩, Nat.le_of_ble_eq_true rfl, Nat.le_of_ble_eq_true rfl⟩ rfl hl.1 rfl (Nat.le_of_ble_eq_true rfl) dX9_pitchDrawn_15 (fun H locs hR hS hE1 z_q5 => ?_)
  have hE := hE.tr hE1
  have t_r0 := hE1.at t_r0 (by decide)
  have t_r1 := hE1.at t_r1 (by decide)
  refine lv_iadd C.x C.b dX9_pitchDrawn_18 ?_
  refine lv_topi (fun v6 e_v6 => ?_)
  have hf := lt_e hf e_v6
  refine lv_istore_n (lv' := [(3, .int v6), (2, .int q4.1), (0, .ref (G.2.2 + r0)), (1, .ref (G.2.2 + r1))]) C.x C.b dX9_pitchDrawn_19 rfl hl (by decide) rfl (fun ls hl => ?_)
  refine lv_iconst (v := (1 : Int32)) C.x C.b dX9_pitchDrawn_20 (by decide) ?_
  refine lv_aload_n C.x C.b dX9_pitchDrawn_21 rfl (lv_at hl 3 rfl) ?_
  refine lv_iconst (v := (3 : Int32)) C.x C.b dX9_pitchDrawn_22 (by decide) ?_
  obtain ⟨q7, h_q7, hf⟩ := bd_e hf
  refine r_callV (As := [.int (3 : Int32)]) (rest := [.int (1 : Int32)]) C hR hS t_r1 rfl mk_X1_of cl_X9_424 (k_X1_of t_r1 h_q7) ⟨⟨Nat.le_of_ble_eq_true rfl, Nat.le_of_ble_eq_true rfl⟩, ⟨rfl, rfl⟩, Nat.le_of_ble_eq_true rfl, Nat.le_of_ble_eq_true rfl⟩ rfl hl.1 rfl (Nat.le_of_ble_eq_true rfl) dX9_pitchDrawn_23 (fun H locs hR hS hE1 z_q7 => ?_)
  have hE := hE.tr hE1
  have t_r0 := hE1.at t_r0 (by decide)
  have t_r1 := hE1.at t_r1 (by decide)
  refine lv_iadd C.x C.b dX9_pitchDrawn_26 ?_
  refine lv_topi (fun v8 e_v8 => ?_)
  have hf := lt_e hf e_v8
  refine lv_istore (lv' := [(4, .int v8), (3, .int v6), (2, .int q4.1), (0, .ref (G.2.2 + r0)), (1, .ref (G.2.2 + r1))]) C.x C.b dX9_pitchDrawn_27 hl (by decide) rfl (fun ls hl => ?_)
  refine lv_aload_n C.x C.b dX9_pitchDrawn_29 rfl (lv_at hl 3 rfl) ?_
  obtain ⟨g9, hf⟩ := gd_e hf
  refine r_getr C hR t_r0 fl_X9_33 (by decide) (nz_e g9) dX9_pitchDrawn_30 (fun tq10 => ?_)
  have tg9 := okO tq10 rfl
  refine lv_iload_n C.x C.b dX9_pitchDrawn_33 rfl (lv_at hl 2 rfl) ?_
  refine lv_iload_n C.x C.b dX9_pitchDrawn_34 rfl (lv_at hl 1 rfl) ?_
  refine lv_iload C.x C.b dX9_pitchDrawn_35 (lv_at hl 0 rfl) ?_
  refine lv_iconst (v := (1 : Int32)) C.x C.b dX9_pitchDrawn_37 (by decide) ?_
  refine lv_aload_n C.x C.b dX9_pitchDrawn_38 rfl (lv_at hl 4 rfl) ?_
  refine lv_bipush (v := (9 : Int32)) C.x C.b dX9_pitchDrawn_39 (by decide) ?_
  obtain ⟨q11, h_q11, hf⟩ := bd_e hf
  refine r_callV (As := [.int (9 : Int32)]) (rest := [.int (1 : Int32), .int v8, .int v6, .int q4.1, .ref (G.2.2 + (hpR q7.2 r0 4))]) C hR hS t_r1 rfl mk_X1_of cl_X9_424 (k_X1_of t_r1 h_q11) ⟨⟨Nat.le_of_ble_eq_true rfl, Nat.le_of_ble_eq_true rfl⟩, ⟨rfl, rfl⟩, Nat.le_of_ble_eq_true rfl, Nat.le_of_ble_eq_true rfl⟩ rfl hl.1 rfl (Nat.le_of_ble_eq_true rfl) dX9_pitchDrawn_41 (fun H locs hR hS hE1 z_q11 => ?_)
  have hE := hE.tr hE1
  have tg9 := hE1.at tg9 (by decide)
  have t_r0 := hE1.at t_r0 (by decide)
  have t_r1 := hE1.at t_r1 (by decide)
  refine lv_iadd C.x C.b dX9_pitchDrawn_44 ?_
  refine lv_iconst (v := (0 : Int32)) C.x C.b dX9_pitchDrawn_45 (by decide) ?_
  obtain ⟨q12, h_q12, hf⟩ := bd_e hf
  refine r_callV (As := [.int q4.1, .int v6, .int v8, .int ((1 : Int32) + q11.1), .int (0 : Int32)]) (rest := []) C hR hS tg9 rfl mk_X0_pitchOn cl_X9_229 (k_X0_pitchOn tg9 h_q12) ⟨⟨Nat.le_of_ble_eq_true rfl, Nat.le_of_ble_eq_true rfl⟩, ⟨rfl, rfl⟩, Nat.le_of_ble_eq_true rfl, Nat.le_of_ble_eq_true rfl⟩ rfl hl.1 rfl (Nat.le_of_ble_eq_true rfl) dX9_pitchDrawn_46 (fun H locs hR hS hE1 z_q12 => ?_)
  have hE := hE.tr hE1
  have t_r0 := hE1.at t_r0 (by decide)
  have t_r1 := hE1.at t_r1 (by decide)
  refine lv_pop C.x C.b dX9_pitchDrawn_49 rfl ?_
  have hf := so_e hf
  subst hf
  exact r_vret C hr hlk hR hE hS dX9_pitchDrawn_50

def rm_X9_drawn : Room := { frames := 6, cells := 1, slots := 1, locals := 137 }
def P_X9_drawn_129 (G : Gt) (l : Launch) (p : Program) (e : Env) (s : State) (m : MethodId) (args : Array Value) (below : List Frame) (meth : Method) (c : Code) (h0 : Hp) (out : (Int32 × Hp)) (r0 : Nat) (x1 : Int32) (x2 : Int32) (k : Hp → Nat → Int32 → Int32 → Option (Int32 × Hp)) : Prop := ∀ (H : Heap) (locs : List Loc) (ls : Array Slot) (h : Hp) (r3 : Nat) (x4 : Int32) (x5 : Int32), k h r3 x4 x5 = some out → Ext h0 h → Rel G h H → va_S (AA G.2.2) s.heap H locs → hpT h r0 = (1, 9) → hpT h r3 = (1, 1) → lv_has ls 8 [(0, .ref (G.2.2 + r0)), (1, .int x1), (2, .int x2), (3, .ref (G.2.2 + r3)), (4, .int x4), (5, .int x5)] → W p l e rm_X9_drawn s m args below meth c H locs 1 1 (MQ below (Qm G h0 out.2 (some (.int out.1)) 0) args s 1 1 (AA G.2.2)) (F0 m 129 ls [])
def P_X9_drawn_39 (G : Gt) (l : Launch) (p : Program) (e : Env) (s : State) (m : MethodId) (args : Array Value) (below : List Frame) (meth : Method) (c : Code) (h0 : Hp) (out : (Int32 × Hp)) (r0 : Nat) (x1 : Int32) (x2 : Int32) (k : Hp → Nat → Int32 → Int32 → Option (Int32 × Hp)) : Prop := ∀ (H : Heap) (locs : List Loc) (ls : Array Slot) (h : Hp) (r3 : Nat) (x4 : Int32) (x5 : Int32), k h r3 x4 x5 = some out → Ext h0 h → Rel G h H → va_S (AA G.2.2) s.heap H locs → hpT h r0 = (1, 9) → hpT h r3 = (1, 1) → lv_has ls 8 [(0, .ref (G.2.2 + r0)), (1, .int x1), (2, .int x2), (3, .ref (G.2.2 + r3)), (4, .int x4), (5, .int x5)] → W p l e rm_X9_drawn s m args below meth c H locs 1 1 (MQ below (Qm G h0 out.2 (some (.int out.1)) 0) args s 1 1 (AA G.2.2)) (F0 m 39 ls [])
set_option maxRecDepth 100000 in
set_option maxHeartbeats 4000000 in
theorem w_X9_drawn_129 {G : Gt} {l : Launch} {p : Program} {e : Env} {s : State} {m : MethodId} {args : Array Value} {below : List Frame} {meth : Method} {c : Code}  {h0 : Hp} {out : (Int32 × Hp)} {r0 : Nat} {x1 : Int32} {x2 : Int32} {k39 : Hp → Nat → Int32 → Int32 → Option (Int32 × Hp)} (C : Cx G p m c cX9_drawn 8 s args RX9) (hr : meth.sig.returnType = some .int) (hlk : meth.locks = false)  (hk39 : P_X9_drawn_39 G l p e s m args below meth c h0 out r0 x1 x2 k39) : P_X9_drawn_129 G l p e s m args below meth c h0 out r0 x1 x2 (f_X9_drawn_129 r0 x1 x2 k39) := by
  intro H locs ls h r3 x4 x5 hf hE hR hS t_r0 t_r3 hl
  rw [f_X9_drawn_129] at hf
  obtain ⟨v45, e_v45⟩ : ∃ y : Int32, y = x5 + (1 : Int32) := ⟨_, rfl⟩
  have hf := lt_e hf e_v45
  refine lv_iinc (v := v45) (lv' := [(5, .int v45), (0, .ref (G.2.2 + r0)), (1, .int x1), (2, .int x2), (3, .ref (G.2.2 + r3)), (4, .int x4)]) C.x C.b dX9_drawn_129 hl (k := 5) rfl (by rw [e_v45]; rfl) (by decide) rfl (fun ls hl => ?_)
  refine lv_goto (tgt := 39) C.x C.b dX9_drawn_132 (by decide) ?_
  exact hk39 _ _ _ _ _ _ _ hf hE hR hS t_r0 t_r3 (lv_sub hl [1, 2, 3, 4, 5, 0] rfl)
set_option maxRecDepth 100000 in
set_option maxHeartbeats 4000000 in
theorem w_X9_drawn_39 {G : Gt} {l : Launch} {p : Program} {e : Env} {s : State} {m : MethodId} {args : Array Value} {below : List Frame} {meth : Method} {c : Code}  {h0 : Hp} {out : (Int32 × Hp)} {r0 : Nat} {x1 : Int32} {x2 : Int32}  (C : Cx G p m c cX9_drawn 8 s args RX9) (hr : meth.sig.returnType = some .int) (hlk : meth.locks = false)   (n : Nat) : P_X9_drawn_39 G l p e s m args below meth c h0 out r0 x1 x2 (f_X9_drawn_39 r0 x1 x2 n) := by
  induction n with
  | zero => intro H locs ls h r3 x4 x5 hf hE hR hS t_r0 t_r3 hl; cases hf
  | succ n hk39 =>
    intro H locs ls h r3 x4 x5 hf hE hR hS t_r0 t_r3 hl
    rw [f_X9_drawn_39] at hf
    obtain ⟨k39, e_k39⟩ : ∃ y, y = f_X9_drawn_39 r0 x1 x2 n := ⟨_, rfl⟩
    have hf := lt_e hf e_k39
    rw [← e_k39] at hk39
    refine lv_iload C.x C.b dX9_drawn_39 (lv_at hl 5 rfl) ?_
    refine lv_iload_n C.x C.b dX9_drawn_41 rfl (lv_at hl 2 rfl) ?_
    refine lv_icmp_ge (tgt := 135) C.x C.b dX9_drawn_42 (by decide) (fun c11 => ?_) (fun c11 => ?_)
    · have hf := it_t hf c11
      refine lv_aload_n C.x C.b dX9_drawn_135 rfl (lv_at hl 0 rfl) ?_
      obtain ⟨g12, hf⟩ := gd_e hf
      refine r_getr C hR t_r0 fl_X9_19 (by decide) (nz_e g12) dX9_drawn_136 (fun tq13 => ?_)
      have tg12 := okO tq13 rfl
      obtain ⟨q14, h_q14, hf⟩ := bd_e hf
      refine r_callV (As := []) (rest := []) C hR hS tg12 rfl mk_X7_start cl_X9_220 (k_X7_start tg12 h_q14) ⟨⟨Nat.le_of_ble_eq_true rfl, Nat.le_of_ble_eq_true rfl⟩, ⟨rfl, rfl⟩, Nat.le_of_ble_eq_true rfl, Nat.le_of_ble_eq_true rfl⟩ rfl hl.1 rfl (Nat.le_of_ble_eq_true rfl) dX9_drawn_139 (fun H locs hR hS hE1 z_q14 => ?_)
      have hE := hE.tr hE1
      have t_r0 := hE1.at t_r0 (by decide)
      have t_r3 := hE1.at t_r3 (by decide)
      refine lv_aload_n C.x C.b dX9_drawn_142 rfl (lv_at hl 0 rfl) ?_
      obtain ⟨g15, hf⟩ := gd_e hf
      refine r_getr C hR t_r0 fl_X9_19 (by decide) (nz_e g15) dX9_drawn_143 (fun tq16 => ?_)
      have tg15 := okO tq16 rfl
      refine lv_aload_n C.x C.b dX9_drawn_146 rfl (lv_at hl 0 rfl) ?_
      obtain ⟨g17, hf⟩ := gd_e hf
      refine r_getr C hR t_r0 fl_X9_33 (by decide) (nz_e g17) dX9_drawn_147 (fun tq18 => ?_)
      have tg17 := okO tq18 rfl
      refine r_geti C hR tg17 fl_X9_146 rfl dX9_drawn_150 ?_
      refine lv_i2l C.x C.b dX9_drawn_153 rfl ?_
      obtain ⟨q19, h_q19, hf⟩ := bd_e hf
      refine r_callV (As := [.long ((hpI q14 (hpR q14 r0 4) 2).toInt64)]) (rest := []) C hR hS tg15 rfl mk_X7_add cl_X9_223 (k_X7_add tg15 h_q19) ⟨⟨Nat.le_of_ble_eq_true rfl, Nat.le_of_ble_eq_true rfl⟩, ⟨rfl, rfl⟩, Nat.le_of_ble_eq_true rfl, Nat.le_of_ble_eq_true rfl⟩ rfl hl.1 rfl (Nat.le_of_ble_eq_true rfl) dX9_drawn_154 (fun H locs hR hS hE1 z_q19 => ?_)
      have hE := hE.tr hE1
      have t_r0 := hE1.at t_r0 (by decide)
      have t_r3 := hE1.at t_r3 (by decide)
      refine lv_aload_n C.x C.b dX9_drawn_157 rfl (lv_at hl 0 rfl) ?_
      obtain ⟨g20, hf⟩ := gd_e hf
      refine r_getr C hR t_r0 fl_X9_19 (by decide) (nz_e g20) dX9_drawn_158 (fun tq21 => ?_)
      have tg20 := okO tq21 rfl
      refine lv_iload C.x C.b dX9_drawn_161 (lv_at hl 4 rfl) ?_
      refine lv_i2l C.x C.b dX9_drawn_163 rfl ?_
      obtain ⟨q22, h_q22, hf⟩ := bd_e hf
      refine r_callV (As := [.long (x4.toInt64)]) (rest := []) C hR hS tg20 rfl mk_X7_add cl_X9_223 (k_X7_add tg20 h_q22) ⟨⟨Nat.le_of_ble_eq_true rfl, Nat.le_of_ble_eq_true rfl⟩, ⟨rfl, rfl⟩, Nat.le_of_ble_eq_true rfl, Nat.le_of_ble_eq_true rfl⟩ rfl hl.1 rfl (Nat.le_of_ble_eq_true rfl) dX9_drawn_164 (fun H locs hR hS hE1 z_q22 => ?_)
      have hE := hE.tr hE1
      have t_r0 := hE1.at t_r0 (by decide)
      have t_r3 := hE1.at t_r3 (by decide)
      refine lv_aload_n C.x C.b dX9_drawn_167 rfl (lv_at hl 0 rfl) ?_
      obtain ⟨g23, hf⟩ := gd_e hf
      refine r_getr C hR t_r0 fl_X9_33 (by decide) (nz_e g23) dX9_drawn_168 (fun tq24 => ?_)
      have tg23 := okO tq24 rfl
      obtain ⟨q25, h_q25, hf⟩ := bd_e hf
      refine r_callV (As := []) (rest := []) C hR hS tg23 rfl mk_X0_onCount cl_X9_226 (k_X0_onCount tg23 h_q25) ⟨⟨Nat.le_of_ble_eq_true rfl, Nat.le_of_ble_eq_true rfl⟩, ⟨rfl, rfl⟩, Nat.le_of_ble_eq_true rfl, Nat.le_of_ble_eq_true rfl⟩ rfl hl.1 rfl (Nat.le_of_ble_eq_true rfl) dX9_drawn_171 (fun H locs hR hS hE1 z_q25 => ?_)
      have hf := so_e hf
      subst hf
      refine W.widen (k := 1) (n := 1) (Nat.le_of_ble_eq_true rfl) (Nat.le_of_ble_eq_true rfl) ?_
      exact r_iret C hr hlk hR hE hS dX9_drawn_174
    · have hf := it_f hf c11
      refine lv_aload_n C.x C.b dX9_drawn_45 rfl (lv_at hl 3 rfl) ?_
      refine lv_iconst (v := (4 : Int32)) C.x C.b dX9_drawn_46 (by decide) ?_
      obtain ⟨q26, h_q26, hf⟩ := bd_e hf
      refine r_callV (As := [.int (4 : Int32)]) (rest := []) C hR hS t_r3 rfl mk_X1_of cl_X9_424 (k_X1_of t_r3 h_q26) ⟨⟨Nat.le_of_ble_eq_true rfl, Nat.le_of_ble_eq_true rfl⟩, ⟨rfl, rfl⟩, Nat.le_of_ble_eq_true rfl, Nat.le_of_ble_eq_true rfl⟩ rfl hl.1 rfl (Nat.le_of_ble_eq_true rfl) dX9_drawn_47 (fun H locs hR hS hE1 z_q26 => ?_)
      have hE := hE.tr hE1
      have t_r0 := hE1.at t_r0 (by decide)
      have t_r3 := hE1.at t_r3 (by decide)
      refine lv_istore (lv' := [(6, .int q26.1), (0, .ref (G.2.2 + r0)), (1, .int x1), (2, .int x2), (3, .ref (G.2.2 + r3)), (4, .int x4), (5, .int x5)]) C.x C.b dX9_drawn_50 hl (by decide) rfl (fun ls hl => ?_)
      refine lv_iload C.x C.b dX9_drawn_52 (lv_at hl 0 rfl) ?_
      refine lv_iconst (v := (2 : Int32)) C.x C.b dX9_drawn_54 (by decide) ?_
      refine lv_icmp_ge (tgt := 77) C.x C.b dX9_drawn_55 (by decide) (fun c27 => ?_) (fun c27 => ?_)
      · have hf := it_t hf c27
        refine lv_iload C.x C.b dX9_drawn_77 (lv_at hl 0 rfl) ?_
        refine lv_iconst (v := (2 : Int32)) C.x C.b dX9_drawn_79 (by decide) ?_
        refine lv_icmp_ne (tgt := 91) C.x C.b dX9_drawn_80 (by decide) (fun c28 => ?_) (fun c28 => ?_)
        · have hf := it_f hf c28
          refine lv_aload_n C.x C.b dX9_drawn_91 rfl (lv_at hl 1 rfl) ?_
          obtain ⟨g29, hf⟩ := gd_e hf
          refine r_getr C hR t_r0 fl_X9_33 (by decide) (nz_e g29) dX9_drawn_92 (fun tq30 => ?_)
          have tg29 := okO tq30 rfl
          refine r_geti C hR tg29 fl_X9_146 rfl dX9_drawn_95 ?_
          refine lv_if_le (tgt := 129) C.x C.b dX9_drawn_98 (by decide) (fun c31 => ?_) (fun c31 => ?_)
          · have hf := it_t hf c31
            exact w_X9_drawn_129 C hr hlk hk39 _ _ _ _ _ _ _ hf hE hR hS t_r0 t_r3 (lv_sub hl [1, 2, 3, 4, 5, 6] rfl)
          · have hf := it_f hf c31
            refine lv_aload_n C.x C.b dX9_drawn_101 rfl (lv_at hl 4 rfl) ?_
            refine lv_aload_n C.x C.b dX9_drawn_102 rfl (lv_at hl 1 rfl) ?_
            refine r_getr C hR t_r0 fl_X9_33 (by decide) (nz_e g29) dX9_drawn_103 (fun tq32 => ?_)
            refine r_geti C hR tg29 fl_X9_146 rfl dX9_drawn_106 ?_
            obtain ⟨q33, h_q33, hf⟩ := bd_e hf
            refine r_callV (As := [.int (hpI q26.2 (hpR q26.2 r0 4) 2)]) (rest := []) C hR hS t_r3 rfl mk_X1_of cl_X9_424 (k_X1_of t_r3 h_q33) ⟨⟨Nat.le_of_ble_eq_true rfl, Nat.le_of_ble_eq_true rfl⟩, ⟨rfl, rfl⟩, Nat.le_of_ble_eq_true rfl, Nat.le_of_ble_eq_true rfl⟩ rfl hl.1 rfl (Nat.le_of_ble_eq_true rfl) dX9_drawn_109 (fun H locs hR hS hE1 z_q33 => ?_)
            have hE := hE.tr hE1
            have t_r0 := hE1.at t_r0 (by decide)
            have t_r3 := hE1.at t_r3 (by decide)
            refine lv_istore (lv' := [(7, .int q33.1), (6, .int q26.1), (0, .ref (G.2.2 + r0)), (1, .int x1), (2, .int x2), (3, .ref (G.2.2 + r3)), (4, .int x4), (5, .int x5)]) C.x C.b dX9_drawn_112 hl (by decide) rfl (fun ls hl => ?_)
            refine lv_aload_n C.x C.b dX9_drawn_114 rfl (lv_at hl 2 rfl) ?_
            obtain ⟨g34, hf⟩ := gd_e hf
            refine r_getr C hR t_r0 fl_X9_33 (by decide) (nz_e g34) dX9_drawn_115 (fun tq35 => ?_)
            have tg34 := okO tq35 rfl
            refine lv_iload C.x C.b dX9_drawn_118 (lv_at hl 0 rfl) ?_
            refine lv_aload_n C.x C.b dX9_drawn_120 rfl (lv_at hl 5 rfl) ?_
            refine lv_iconst (v := (4 : Int32)) C.x C.b dX9_drawn_121 (by decide) ?_
            obtain ⟨q36, h_q36, hf⟩ := bd_e hf
            refine r_callV (As := [.int (4 : Int32)]) (rest := [.int q33.1, .ref (G.2.2 + (hpR q33.2 r0 4))]) C hR hS t_r3 rfl mk_X1_of cl_X9_424 (k_X1_of t_r3 h_q36) ⟨⟨Nat.le_of_ble_eq_true rfl, Nat.le_of_ble_eq_true rfl⟩, ⟨rfl, rfl⟩, Nat.le_of_ble_eq_true rfl, Nat.le_of_ble_eq_true rfl⟩ rfl hl.1 rfl (Nat.le_of_ble_eq_true rfl) dX9_drawn_122 (fun H locs hR hS hE1 z_q36 => ?_)
            have hE := hE.tr hE1
            have tg34 := hE1.at tg34 (by decide)
            have t_r0 := hE1.at t_r0 (by decide)
            have t_r3 := hE1.at t_r3 (by decide)
            obtain ⟨q37, h_q37, hf⟩ := bd_e hf
            refine r_callV (As := [.int q33.1, .int q36.1]) (rest := []) C hR hS tg34 rfl mk_X0_move cl_X9_242 (k_X0_move tg34 h_q37) ⟨⟨Nat.le_of_ble_eq_true rfl, Nat.le_of_ble_eq_true rfl⟩, ⟨rfl, rfl⟩, Nat.le_of_ble_eq_true rfl, Nat.le_of_ble_eq_true rfl⟩ rfl hl.1 rfl (Nat.le_of_ble_eq_true rfl) dX9_drawn_125 (fun H locs hR hS hE1 z_q37 => ?_)
            have hE := hE.tr hE1
            have t_r0 := hE1.at t_r0 (by decide)
            have t_r3 := hE1.at t_r3 (by decide)
            refine lv_pop C.x C.b dX9_drawn_128 rfl ?_
            exact w_X9_drawn_129 C hr hlk hk39 _ _ _ _ _ _ _ hf hE hR hS t_r0 t_r3 (lv_sub hl [2, 3, 4, 5, 6, 7] rfl)
        · have hf := it_t hf c28
          refine lv_aload_n C.x C.b dX9_drawn_83 rfl (lv_at hl 1 rfl) ?_
          refine lv_aload_n C.x C.b dX9_drawn_84 rfl (lv_at hl 4 rfl) ?_
          obtain ⟨q38, h_q38, hf⟩ := bd_e hf
          refine r_callV (As := [.ref (G.2.2 + r3)]) (rest := []) C hR hS t_r0 rfl mk_X9_pitchDrawn cl_X9_427 (k_X9_pitchDrawn t_r0 t_r3 h_q38) ⟨⟨Nat.le_of_ble_eq_true rfl, Nat.le_of_ble_eq_true rfl⟩, ⟨rfl, rfl⟩, Nat.le_of_ble_eq_true rfl, Nat.le_of_ble_eq_true rfl⟩ rfl hl.1 rfl (Nat.le_of_ble_eq_true rfl) dX9_drawn_85 (fun H locs hR hS hE1 z_q38 => ?_)
          have hE := hE.tr hE1
          have t_r0 := hE1.at t_r0 (by decide)
          have t_r3 := hE1.at t_r3 (by decide)
          refine lv_goto (tgt := 129) C.x C.b dX9_drawn_88 (by decide) ?_
          exact w_X9_drawn_129 C hr hlk hk39 _ _ _ _ _ _ _ hf hE hR hS t_r0 t_r3 (lv_sub hl [1, 2, 3, 4, 5, 6] rfl)
      · have hf := it_f hf c27
        refine lv_iload C.x C.b dX9_drawn_58 (lv_at hl 5 rfl) ?_
        refine lv_aload_n C.x C.b dX9_drawn_60 rfl (lv_at hl 1 rfl) ?_
        obtain ⟨g39, hf⟩ := gd_e hf
        refine r_getr C hR t_r0 fl_X9_33 (by decide) (nz_e g39) dX9_drawn_61 (fun tq40 => ?_)
        have tg39 := okO tq40 rfl
        refine lv_aload_n C.x C.b dX9_drawn_64 rfl (lv_at hl 1 rfl) ?_
        obtain ⟨g41, hf⟩ := gd_e hf
        refine r_getr C hR t_r0 fl_X9_50 (by decide) (nz_e g41) dX9_drawn_65 (fun tq42 => ?_)
        have tg41 := okO tq42 rfl
        obtain ⟨q43, h_q43, hf⟩ := bd_e hf
        refine r_callV (As := [.ref (G.2.2 + (hpR q26.2 r0 8))]) (rest := [.int x4]) C hR hS tg39 rfl mk_X0_goBy cl_X9_298 (k_X0_goBy tg39 tg41 h_q43) ⟨⟨Nat.le_of_ble_eq_true rfl, Nat.le_of_ble_eq_true rfl⟩, ⟨rfl, rfl⟩, Nat.le_of_ble_eq_true rfl, Nat.le_of_ble_eq_true rfl⟩ rfl hl.1 rfl (Nat.le_of_ble_eq_true rfl) dX9_drawn_68 (fun H locs hR hS hE1 z_q43 => ?_)
        have hE := hE.tr hE1
        have t_r0 := hE1.at t_r0 (by decide)
        have t_r3 := hE1.at t_r3 (by decide)
        refine lv_iadd C.x C.b dX9_drawn_71 ?_
        refine lv_topi (fun v44 e_v44 => ?_)
        have hf := lt_e hf e_v44
        refine lv_istore (lv' := [(4, .int v44), (6, .int q26.1), (0, .ref (G.2.2 + r0)), (1, .int x1), (2, .int x2), (3, .ref (G.2.2 + r3)), (5, .int x5)]) C.x C.b dX9_drawn_72 hl (by decide) rfl (fun ls hl => ?_)
        refine lv_goto (tgt := 129) C.x C.b dX9_drawn_74 (by decide) ?_
        exact w_X9_drawn_129 C hr hlk hk39 _ _ _ _ _ _ _ hf hE hR hS t_r0 t_r3 (lv_sub hl [2, 3, 4, 5, 0, 6] rfl)
set_option maxRecDepth 100000 in
set_option maxHeartbeats 4000000 in
theorem k_X9_drawn {G : Gt} {l : Launch}  {h : Hp} {r0 : Nat} {x1 : Int32} {x2 : Int32} {out : (Int32 × Hp)} (t_r0 : hpT h r0 = (1, 9))  (hf : f_X9_drawn  h r0 x1 x2 = some out) : Mt G l yX9_drawn cX9_drawn 8 (some .int) rm_X9_drawn [.ref (G.2.2 + r0), .int x1, .int x2] h (some (.int out.1)) out.2 0 1 1 := by
  refine r_met (by decide +kernel) (Nat.le_of_ble_eq_true rfl) ?_
  intro p e s m args below meth c ls C hr hlk hnm hR hS hl
  have hE : Ext h h := Ext.rf
  have hl : lv_has ls 8 [(0, .ref (G.2.2 + r0)), (1, .int x1), (2, .int x2)] := hl
  rw [f_X9_drawn] at hf
  refine lv_iload_n C.x C.b dX9_drawn_0 rfl (lv_at hl 2 rfl) ?_
  refine lv_iconst (v := (1 : Int32)) C.x C.b dX9_drawn_1 (by decide) ?_
  refine lv_icmp_lt (tgt := 11) C.x C.b dX9_drawn_2 (by decide) (fun c1 => ?_) (fun c1 => ?_)
  · have hf := it_t hf c1
    refine lv_iconst (v := (-1 : Int32)) C.x C.b dX9_drawn_11 (by decide) ?_
    have hf := so_e hf
    subst hf
    refine W.widen (k := 1) (n := 1) (Nat.le_of_ble_eq_true rfl) (Nat.le_of_ble_eq_true rfl) ?_
    exact r_iret C hr hlk hR hE hS dX9_drawn_12
  · have hf := it_f hf c1
    refine lv_iload_n C.x C.b dX9_drawn_5 rfl (lv_at hl 2 rfl) ?_
    refine lv_bipush (v := (60 : Int32)) C.x C.b dX9_drawn_6 (by decide) ?_
    refine lv_icmp_le (tgt := 13) C.x C.b dX9_drawn_8 (by decide) (fun c2 => ?_) (fun c2 => ?_)
    · have hf := it_t hf c2
      refine r_newN C hR hS nl_X9_421 (Nat.le_of_ble_eq_true rfl) (Nat.le_of_ble_eq_true rfl) dX9_drawn_13 (fun H a3 e_a3 hR hS hE1 t_a3 => ?_)
      have hf := lt_e hf e_a3
      obtain ⟨h4, e_h4⟩ : ∃ y, y = hpNew h (1, 1) := ⟨_, rfl⟩
      rw [← e_h4] at hR hE1 t_a3
      have hf := lt_e hf e_h4
      have hE := hE.tr hE1
      have t_r0 := hE1.at t_r0 (by decide)
      refine lv_dup C.x C.b dX9_drawn_16 rfl ?_
      refine lv_iload_n C.x C.b dX9_drawn_17 rfl (lv_at hl 1 rfl) ?_
      obtain ⟨q5, h_q5, hf⟩ := bd_e hf
      refine r_callI (As := [.int x1]) (rest := [.ref (G.2.2 + a3)]) C hR hS mk_X1_init cl_X9_423 (k_X1_init t_a3 h_q5) ⟨⟨Nat.le_of_ble_eq_true rfl, Nat.le_of_ble_eq_true rfl⟩, ⟨rfl, rfl⟩, Nat.le_of_ble_eq_true rfl, Nat.le_of_ble_eq_true rfl⟩ rfl hl.1 rfl (Nat.le_of_ble_eq_true rfl) dX9_drawn_18 (fun H locs hR hS hE1 z_q5 => ?_)
      have hE := hE.tr hE1
      have t_a3 := hE1.at t_a3 (by decide)
      have t_r0 := hE1.at t_r0 (by decide)
      refine lv_astore_n (lv' := [(3, .ref (G.2.2 + a3)), (0, .ref (G.2.2 + r0)), (1, .int x1), (2, .int x2)]) C.x C.b dX9_drawn_21 rfl hl (by decide) rfl (fun ls hl => ?_)
      refine lv_iconst (v := (0 : Int32)) C.x C.b dX9_drawn_22 (by decide) ?_
      refine lv_istore (lv' := [(4, .int (0 : Int32)), (3, .ref (G.2.2 + a3)), (0, .ref (G.2.2 + r0)), (1, .int x1), (2, .int x2)]) C.x C.b dX9_drawn_23 hl (by decide) rfl (fun ls hl => ?_)
      refine lv_aload_n C.x C.b dX9_drawn_25 rfl (lv_at hl 2 rfl) ?_
      obtain ⟨g6, hf⟩ := gd_e hf
      refine r_getr C hR t_r0 fl_X9_33 (by decide) (nz_e g6) dX9_drawn_26 (fun tq7 => ?_)
      have tg6 := okO tq7 rfl
      refine lv_aload_n C.x C.b dX9_drawn_29 rfl (lv_at hl 2 rfl) ?_
      obtain ⟨g8, hf⟩ := gd_e hf
      refine r_getr C hR t_r0 fl_X9_26 (by decide) (nz_e g8) dX9_drawn_30 (fun tq9 => ?_)
      have tg8 := okO tq9 rfl
      obtain ⟨q10, h_q10, hf⟩ := bd_e hf
      refine r_callV (As := [.ref (G.2.2 + (hpR q5 r0 2))]) (rest := []) C hR hS tg6 rfl mk_X0_copy cl_X9_134 (k_X0_copy tg6 tg8 h_q10) ⟨⟨Nat.le_of_ble_eq_true rfl, Nat.le_of_ble_eq_true rfl⟩, ⟨rfl, rfl⟩, Nat.le_of_ble_eq_true rfl, Nat.le_of_ble_eq_true rfl⟩ rfl hl.1 rfl (Nat.le_of_ble_eq_true rfl) dX9_drawn_33 (fun H locs hR hS hE1 z_q10 => ?_)
      have hE := hE.tr hE1
      have t_a3 := hE1.at t_a3 (by decide)
      have t_r0 := hE1.at t_r0 (by decide)
      refine lv_iconst (v := (0 : Int32)) C.x C.b dX9_drawn_36 (by decide) ?_
      refine lv_istore (lv' := [(5, .int (0 : Int32)), (4, .int (0 : Int32)), (3, .ref (G.2.2 + a3)), (0, .ref (G.2.2 + r0)), (1, .int x1), (2, .int x2)]) C.x C.b dX9_drawn_37 hl (by decide) rfl (fun ls hl => ?_)
      exact w_X9_drawn_39 C hr hlk FU _ _ _ _ _ _ _ hf hE hR hS t_r0 t_a3 (lv_sub hl [3, 4, 5, 2, 1, 0] rfl)
    · have hf := it_f hf c2
      refine lv_iconst (v := (-1 : Int32)) C.x C.b dX9_drawn_11 (by decide) ?_
      have hf := so_e hf
      subst hf
      refine W.widen (k := 1) (n := 1) (Nat.le_of_ble_eq_true rfl) (Nat.le_of_ble_eq_true rfl) ?_
      exact r_iret C hr hlk hR hE hS dX9_drawn_12

def rm_X9_keep : Room := { frames := 2, cells := 0, slots := 0, locals := 39 }
set_option maxRecDepth 100000 in
set_option maxHeartbeats 4000000 in
theorem k_X9_keep {G : Gt} {l : Launch}  {h : Hp} {r0 : Nat} {x1 : Int32} {out : (Int32 × Hp)} (t_r0 : hpT h r0 = (1, 9))  (hf : f_X9_keep  h r0 x1 = some out) : Mt G l yX9_keep cX9_keep 2 (some .boolean) rm_X9_keep [.ref (G.2.2 + r0), .int x1] h (some (.int out.1)) out.2 1 0 0 := by
  refine r_met (by decide +kernel) (Nat.le_of_ble_eq_true rfl) ?_
  intro p e s m args below meth c ls C hr hlk hnm hR hS hl
  have hE : Ext h h := Ext.rf
  have hl : lv_has ls 2 [(0, .ref (G.2.2 + r0)), (1, .int x1)] := hl
  rw [f_X9_keep] at hf
  refine lv_iload_n C.x C.b dX9_keep_0 rfl (lv_at hl 1 rfl) ?_
  refine lv_if_lt (tgt := 9) C.x C.b dX9_keep_1 (by decide) (fun c1 => ?_) (fun c1 => ?_)
  · have hf := it_t hf c1
    refine lv_iconst (v := (0 : Int32)) C.x C.b dX9_keep_9 (by decide) ?_
    have hf := so_e hf
    subst hf
    exact r_zret C hr hlk hR hE hS z_0 dX9_keep_10
  · have hf := it_f hf c1
    refine lv_iload_n C.x C.b dX9_keep_4 rfl (lv_at hl 1 rfl) ?_
    refine lv_iconst (v := (3 : Int32)) C.x C.b dX9_keep_5 (by decide) ?_
    refine lv_icmp_lt (tgt := 11) C.x C.b dX9_keep_6 (by decide) (fun c2 => ?_) (fun c2 => ?_)
    · have hf := it_t hf c2
      refine lv_aload_n C.x C.b dX9_keep_11 rfl (lv_at hl 0 rfl) ?_
      obtain ⟨g3, hf⟩ := gd_e hf
      refine r_getr C hR t_r0 fl_X9_43 (by decide) (nz_e g3) dX9_keep_12 (fun tq4 => ?_)
      have tg3 := okA tq4 rfl
      refine lv_iload_n C.x C.b dX9_keep_15 rfl (lv_at hl 1 rfl) ?_
      obtain ⟨g5, hf⟩ := gd_e hf
      obtain ⟨g6, hf⟩ := gd_e hf
      refine r_aald C hR tg3 g5 (nz_e g6) dX9_keep_16 (fun tg6 => ?_)
      refine lv_aload_n C.x C.b dX9_keep_17 rfl (lv_at hl 0 rfl) ?_
      obtain ⟨g7, hf⟩ := gd_e hf
      refine r_getr C hR t_r0 fl_X9_26 (by decide) (nz_e g7) dX9_keep_18 (fun tq8 => ?_)
      have tg7 := okO tq8 rfl
      obtain ⟨q9, h_q9, hf⟩ := bd_e hf
      refine r_callV (As := [.ref (G.2.2 + (hpR h r0 2))]) (rest := []) C hR hS tg6 rfl mk_X0_copy cl_X9_134 (k_X0_copy tg6 tg7 h_q9) ⟨⟨Nat.le_of_ble_eq_true rfl, Nat.le_of_ble_eq_true rfl⟩, ⟨rfl, rfl⟩, Nat.le_of_ble_eq_true rfl, Nat.le_of_ble_eq_true rfl⟩ rfl hl.1 rfl (Nat.le_of_ble_eq_true rfl) dX9_keep_21 (fun H locs hR hS hE1 z_q9 => ?_)
      have hE := hE.tr hE1
      have t_r0 := hE1.at t_r0 (by decide)
      refine lv_aload_n C.x C.b dX9_keep_24 rfl (lv_at hl 0 rfl) ?_
      refine lv_dup C.x C.b dX9_keep_25 rfl ?_
      refine r_geti C hR t_r0 fl_X9_123 rfl dX9_keep_26 ?_
      refine lv_iconst (v := (1 : Int32)) C.x C.b dX9_keep_29 (by decide) ?_
      refine lv_iload_n C.x C.b dX9_keep_30 rfl (lv_at hl 1 rfl) ?_
      refine lv_ishl C.x C.b dX9_keep_31 ?_
      refine lv_topi (fun v10 e_v10 => ?_)
      have hf := lt_e hf e_v10
      refine lv_ior C.x C.b dX9_keep_32 ?_
      refine r_puti C hR hS t_r0 fl_X9_123 fp_X9_9_7 rfl dX9_keep_33 (fun H locs hR hS => ?_)
      obtain ⟨h11, e_h11⟩ : ∃ y, y = upI q9 r0 7 ((hpI q9 r0 7) ||| v10) := ⟨_, rfl⟩
      rw [← e_h11] at hR
      have hf := lt_e hf e_h11
      have hE := eI e_h11 hE
      have t_r0 := tI e_h11 t_r0
      refine lv_iconst (v := (1 : Int32)) C.x C.b dX9_keep_36 (by decide) ?_
      have hf := so_e hf
      subst hf
      exact r_zret C hr hlk hR hE hS z_1 dX9_keep_37
    · have hf := it_f hf c2
      refine lv_iconst (v := (0 : Int32)) C.x C.b dX9_keep_9 (by decide) ?_
      have hf := so_e hf
      subst hf
      exact r_zret C hr hlk hR hE hS z_0 dX9_keep_10

def rm_X9_again : Room := { frames := 2, cells := 0, slots := 0, locals := 39 }
set_option maxRecDepth 100000 in
set_option maxHeartbeats 4000000 in
theorem k_X9_again {G : Gt} {l : Launch}  {h : Hp} {r0 : Nat} {x1 : Int32} {out : (Int32 × Hp)} (t_r0 : hpT h r0 = (1, 9))  (hf : f_X9_again  h r0 x1 = some out) : Mt G l yX9_again cX9_again 2 (some .boolean) rm_X9_again [.ref (G.2.2 + r0), .int x1] h (some (.int out.1)) out.2 1 0 0 := by
  refine r_met (by decide +kernel) (Nat.le_of_ble_eq_true rfl) ?_
  intro p e s m args below meth c ls C hr hlk hnm hR hS hl
  have hE : Ext h h := Ext.rf
  have hl : lv_has ls 2 [(0, .ref (G.2.2 + r0)), (1, .int x1)] := hl
  rw [f_X9_again] at hf
  refine lv_iload_n C.x C.b dX9_again_0 rfl (lv_at hl 1 rfl) ?_
  refine lv_if_lt (tgt := 20) C.x C.b dX9_again_1 (by decide) (fun c1 => ?_) (fun c1 => ?_)
  · have hf := it_t hf c1
    refine lv_iconst (v := (0 : Int32)) C.x C.b dX9_again_20 (by decide) ?_
    have hf := so_e hf
    subst hf
    exact r_zret C hr hlk hR hE hS z_0 dX9_again_21
  · have hf := it_f hf c1
    refine lv_iload_n C.x C.b dX9_again_4 rfl (lv_at hl 1 rfl) ?_
    refine lv_iconst (v := (3 : Int32)) C.x C.b dX9_again_5 (by decide) ?_
    refine lv_icmp_ge (tgt := 20) C.x C.b dX9_again_6 (by decide) (fun c2 => ?_) (fun c2 => ?_)
    · have hf := it_t hf c2
      refine lv_iconst (v := (0 : Int32)) C.x C.b dX9_again_20 (by decide) ?_
      have hf := so_e hf
      subst hf
      exact r_zret C hr hlk hR hE hS z_0 dX9_again_21
    · have hf := it_f hf c2
      refine lv_aload_n C.x C.b dX9_again_9 rfl (lv_at hl 0 rfl) ?_
      refine r_geti C hR t_r0 fl_X9_123 rfl dX9_again_10 ?_
      refine lv_iload_n C.x C.b dX9_again_13 rfl (lv_at hl 1 rfl) ?_
      obtain ⟨q3, h_q3, hf⟩ := bd_e hf
      refine r_callS (As := [.int (hpI h r0 7), .int x1]) (rest := []) C hR hS mk_X9_isIn cl_X9_291 (k_X9_isIn h_q3) ⟨⟨Nat.le_of_ble_eq_true rfl, Nat.le_of_ble_eq_true rfl⟩, ⟨rfl, rfl⟩, Nat.le_of_ble_eq_true rfl, Nat.le_of_ble_eq_true rfl⟩ rfl hl.1 rfl (Nat.le_of_ble_eq_true rfl) dX9_again_14 (fun H locs hR hS hE1 z_q3 => ?_)
      have z_q3 := z_q3 _ rfl
      refine lv_if_ne (tgt := 22) C.x C.b dX9_again_17 (by decide) (fun c4 => ?_) (fun c4 => ?_)
      · have hf := it_f hf c4
        refine lv_aload_n C.x C.b dX9_again_22 rfl (lv_at hl 0 rfl) ?_
        obtain ⟨g5, hf⟩ := gd_e hf
        refine r_getr C hR t_r0 fl_X9_26 (by decide) (nz_e g5) dX9_again_23 (fun tq6 => ?_)
        have tg5 := okO tq6 rfl
        refine lv_aload_n C.x C.b dX9_again_26 rfl (lv_at hl 0 rfl) ?_
        obtain ⟨g7, hf⟩ := gd_e hf
        refine r_getr C hR t_r0 fl_X9_43 (by decide) (nz_e g7) dX9_again_27 (fun tq8 => ?_)
        have tg7 := okA tq8 rfl
        refine lv_iload_n C.x C.b dX9_again_30 rfl (lv_at hl 1 rfl) ?_
        obtain ⟨g9, hf⟩ := gd_e hf
        obtain ⟨g10, hf⟩ := gd_e hf
        refine r_aald C hR tg7 g9 (nz_e g10) dX9_again_31 (fun tg10 => ?_)
        obtain ⟨q11, h_q11, hf⟩ := bd_e hf
        refine r_callV (As := [.ref (G.2.2 + (hpR h (hpR h r0 6) (ix x1)))]) (rest := []) C hR hS tg5 rfl mk_X0_copy cl_X9_134 (k_X0_copy tg5 tg10 h_q11) ⟨⟨Nat.le_of_ble_eq_true rfl, Nat.le_of_ble_eq_true rfl⟩, ⟨rfl, rfl⟩, Nat.le_of_ble_eq_true rfl, Nat.le_of_ble_eq_true rfl⟩ rfl hl.1 rfl (Nat.le_of_ble_eq_true rfl) dX9_again_32 (fun H locs hR hS hE1 z_q11 => ?_)
        have hE := hE.tr hE1
        have t_r0 := hE1.at t_r0 (by decide)
        refine lv_aload_n C.x C.b dX9_again_35 rfl (lv_at hl 0 rfl) ?_
        obtain ⟨g12, hf⟩ := gd_e hf
        refine r_getr C hR t_r0 fl_X9_39 (by decide) (nz_e g12) dX9_again_36 (fun tq13 => ?_)
        have tg12 := okO tq13 rfl
        obtain ⟨q14, h_q14, hf⟩ := bd_e hf
        refine r_callV (As := []) (rest := []) C hR hS tg12 rfl mk_X3_wipe cl_X9_121 (k_X3_wipe tg12 h_q14) ⟨⟨Nat.le_of_ble_eq_true rfl, Nat.le_of_ble_eq_true rfl⟩, ⟨rfl, rfl⟩, Nat.le_of_ble_eq_true rfl, Nat.le_of_ble_eq_true rfl⟩ rfl hl.1 rfl (Nat.le_of_ble_eq_true rfl) dX9_again_39 (fun H locs hR hS hE1 z_q14 => ?_)
        have hE := hE.tr hE1
        have t_r0 := hE1.at t_r0 (by decide)
        refine lv_iconst (v := (1 : Int32)) C.x C.b dX9_again_42 (by decide) ?_
        have hf := so_e hf
        subst hf
        exact r_zret C hr hlk hR hE hS z_1 dX9_again_43
      · have hf := it_t hf c4
        refine lv_iconst (v := (0 : Int32)) C.x C.b dX9_again_20 (by decide) ?_
        have hf := so_e hf
        subst hf
        exact r_zret C hr hlk hR hE hS z_0 dX9_again_21

def rm_X9_count : Room := { frames := 2, cells := 0, slots := 0, locals := 42 }
set_option maxRecDepth 100000 in
set_option maxHeartbeats 4000000 in
theorem k_X9_count {G : Gt} {l : Launch}  {h : Hp} {r0 : Nat} {x1 : Int32} {out : Int32} (t_r0 : hpT h r0 = (1, 9))  (hf : f_X9_count  h r0 x1 = some out) : Mt G l yX9_count cX9_count 2 (some .int) rm_X9_count [.ref (G.2.2 + r0), .int x1] h (some (.int out)) h 0 0 0 := by
  refine r_met (by decide +kernel) (Nat.le_of_ble_eq_true rfl) ?_
  intro p e s m args below meth c ls C hr hlk hnm hR hS hl
  have hl : lv_has ls 2 [(0, .ref (G.2.2 + r0)), (1, .int x1)] := hl
  rw [f_X9_count] at hf
  refine lv_iload_n C.x C.b dX9_count_0 rfl (lv_at hl 1 rfl) ?_
  by_cases c27_0 : x1 = (0 : Int32)
  · have hf := it_t hf c27_0
    refine lv_tableIn (tgt := 64) C.x C.b dX9_count_1 (by rw [c27_0]; decide) (by rw [c27_0]; decide) (by rw [c27_0]; rfl) (by decide) ?_
    refine lv_aload_n C.x C.b dX9_count_64 rfl (lv_at hl 0 rfl) ?_
    obtain ⟨g1, hf⟩ := gd_e hf
    refine r_getr C hR t_r0 fl_X9_26 (by decide) (nz_e g1) dX9_count_65 (fun tq2 => ?_)
    have tg1 := okO tq2 rfl
    refine r_geti C hR tg1 fl_X9_326 rfl dX9_count_68 ?_
    have hf := so_e hf
    subst hf
    exact r_iret C hr hlk hR Ext.rf hS dX9_count_71
  have hf := it_f hf c27_0
  by_cases c27_1 : x1 = (1 : Int32)
  · have hf := it_t hf c27_1
    refine lv_tableIn (tgt := 72) C.x C.b dX9_count_1 (by rw [c27_1]; decide) (by rw [c27_1]; decide) (by rw [c27_1]; rfl) (by decide) ?_
    refine lv_aload_n C.x C.b dX9_count_72 rfl (lv_at hl 0 rfl) ?_
    obtain ⟨g3, hf⟩ := gd_e hf
    refine r_getr C hR t_r0 fl_X9_26 (by decide) (nz_e g3) dX9_count_73 (fun tq4 => ?_)
    have tg3 := okO tq4 rfl
    refine r_geti C hR tg3 fl_X9_329 rfl dX9_count_76 ?_
    have hf := so_e hf
    subst hf
    exact r_iret C hr hlk hR Ext.rf hS dX9_count_79
  have hf := it_f hf c27_1
  by_cases c27_2 : x1 = (2 : Int32)
  · have hf := it_t hf c27_2
    refine lv_tableIn (tgt := 80) C.x C.b dX9_count_1 (by rw [c27_2]; decide) (by rw [c27_2]; decide) (by rw [c27_2]; rfl) (by decide) ?_
    refine lv_aload_n C.x C.b dX9_count_80 rfl (lv_at hl 0 rfl) ?_
    obtain ⟨g5, hf⟩ := gd_e hf
    refine r_getr C hR t_r0 fl_X9_26 (by decide) (nz_e g5) dX9_count_81 (fun tq6 => ?_)
    have tg5 := okO tq6 rfl
    refine r_geti C hR tg5 fl_X9_146 rfl dX9_count_84 ?_
    have hf := so_e hf
    subst hf
    exact r_iret C hr hlk hR Ext.rf hS dX9_count_87
  have hf := it_f hf c27_2
  by_cases c27_3 : x1 = (3 : Int32)
  · have hf := it_t hf c27_3
    refine lv_tableIn (tgt := 88) C.x C.b dX9_count_1 (by rw [c27_3]; decide) (by rw [c27_3]; decide) (by rw [c27_3]; rfl) (by decide) ?_
    refine lv_aload_n C.x C.b dX9_count_88 rfl (lv_at hl 0 rfl) ?_
    obtain ⟨g7, hf⟩ := gd_e hf
    refine r_getr C hR t_r0 fl_X9_26 (by decide) (nz_e g7) dX9_count_89 (fun tq8 => ?_)
    have tg7 := okO tq8 rfl
    obtain ⟨q9, h_q9, hf⟩ := bd_e hf
    refine r_callV (As := []) (rest := []) C hR hS tg7 rfl mk_X0_onCount cl_X9_226 (k_X0_onCount tg7 h_q9) ⟨⟨Nat.le_of_ble_eq_true rfl, Nat.le_of_ble_eq_true rfl⟩, ⟨rfl, rfl⟩, Nat.le_of_ble_eq_true rfl, Nat.le_of_ble_eq_true rfl⟩ rfl hl.1 rfl (Nat.le_of_ble_eq_true rfl) dX9_count_92 (fun H locs hR hS hE1 z_q9 => ?_)
    have hf := so_e hf
    subst hf
    exact r_iret C hr hlk hR Ext.rf hS dX9_count_95
  have hf := it_f hf c27_3
  by_cases c27_4 : x1 = (4 : Int32)
  · have hf := it_t hf c27_4
    refine lv_tableIn (tgt := 96) C.x C.b dX9_count_1 (by rw [c27_4]; decide) (by rw [c27_4]; decide) (by rw [c27_4]; rfl) (by decide) ?_
    refine lv_aload_n C.x C.b dX9_count_96 rfl (lv_at hl 0 rfl) ?_
    obtain ⟨g10, hf⟩ := gd_e hf
    refine r_getr C hR t_r0 fl_X9_26 (by decide) (nz_e g10) dX9_count_97 (fun tq11 => ?_)
    have tg10 := okO tq11 rfl
    refine r_geti C hR tg10 fl_X9_254 rfl dX9_count_100 ?_
    have hf := so_e hf
    subst hf
    exact r_iret C hr hlk hR Ext.rf hS dX9_count_103
  have hf := it_f hf c27_4
  by_cases c27_5 : x1 = (5 : Int32)
  · have hf := it_t hf c27_5
    refine lv_tableIn (tgt := 104) C.x C.b dX9_count_1 (by rw [c27_5]; decide) (by rw [c27_5]; decide) (by rw [c27_5]; rfl) (by decide) ?_
    refine lv_aload_n C.x C.b dX9_count_104 rfl (lv_at hl 0 rfl) ?_
    obtain ⟨g12, hf⟩ := gd_e hf
    refine r_getr C hR t_r0 fl_X9_26 (by decide) (nz_e g12) dX9_count_105 (fun tq13 => ?_)
    have tg12 := okO tq13 rfl
    refine r_geti C hR tg12 fl_X9_431 rfl dX9_count_108 ?_
    have hf := so_e hf
    subst hf
    exact r_iret C hr hlk hR Ext.rf hS dX9_count_111
  have hf := it_f hf c27_5
  by_cases c27_6 : x1 = (6 : Int32)
  · have hf := it_t hf c27_6
    refine lv_tableIn (tgt := 112) C.x C.b dX9_count_1 (by rw [c27_6]; decide) (by rw [c27_6]; decide) (by rw [c27_6]; rfl) (by decide) ?_
    refine lv_aload_n C.x C.b dX9_count_112 rfl (lv_at hl 0 rfl) ?_
    obtain ⟨g14, hf⟩ := gd_e hf
    refine r_getr C hR t_r0 fl_X9_26 (by decide) (nz_e g14) dX9_count_113 (fun tq15 => ?_)
    have tg14 := okO tq15 rfl
    obtain ⟨q16, h_q16, hf⟩ := bd_e hf
    refine r_callV (As := []) (rest := []) C hR hS tg14 rfl mk_X0_strengthOfAll cl_X9_207 (k_X0_strengthOfAll tg14 h_q16) ⟨⟨Nat.le_of_ble_eq_true rfl, Nat.le_of_ble_eq_true rfl⟩, ⟨rfl, rfl⟩, Nat.le_of_ble_eq_true rfl, Nat.le_of_ble_eq_true rfl⟩ rfl hl.1 rfl (Nat.le_of_ble_eq_true rfl) dX9_count_116 (fun H locs hR hS hE1 z_q16 => ?_)
    have hf := so_e hf
    subst hf
    exact r_iret C hr hlk hR Ext.rf hS dX9_count_119
  have hf := it_f hf c27_6
  by_cases c27_7 : x1 = (7 : Int32)
  · have hf := it_t hf c27_7
    refine lv_tableIn (tgt := 120) C.x C.b dX9_count_1 (by rw [c27_7]; decide) (by rw [c27_7]; decide) (by rw [c27_7]; rfl) (by decide) ?_
    refine lv_aload_n C.x C.b dX9_count_120 rfl (lv_at hl 0 rfl) ?_
    obtain ⟨g17, hf⟩ := gd_e hf
    refine r_getr C hR t_r0 fl_X9_69 (by decide) (nz_e g17) dX9_count_121 (fun tq18 => ?_)
    have tg17 := okO tq18 rfl
    refine r_geti C hR tg17 fl_X9_355 rfl dX9_count_124 ?_
    have hf := so_e hf
    subst hf
    exact r_iret C hr hlk hR Ext.rf hS dX9_count_127
  have hf := it_f hf c27_7
  by_cases c27_8 : x1 = (8 : Int32)
  · have hf := it_t hf c27_8
    refine lv_tableIn (tgt := 128) C.x C.b dX9_count_1 (by rw [c27_8]; decide) (by rw [c27_8]; decide) (by rw [c27_8]; rfl) (by decide) ?_
    refine lv_aload_n C.x C.b dX9_count_128 rfl (lv_at hl 0 rfl) ?_
    obtain ⟨g19, hf⟩ := gd_e hf
    refine r_getr C hR t_r0 fl_X9_73 (by decide) (nz_e g19) dX9_count_129 (fun tq20 => ?_)
    have tg19 := okO tq20 rfl
    refine r_geti C hR tg19 fl_X9_355 rfl dX9_count_132 ?_
    have hf := so_e hf
    subst hf
    exact r_iret C hr hlk hR Ext.rf hS dX9_count_135
  have hf := it_f hf c27_8
  by_cases c27_9 : x1 = (9 : Int32)
  · have hf := it_t hf c27_9
    refine lv_tableIn (tgt := 136) C.x C.b dX9_count_1 (by rw [c27_9]; decide) (by rw [c27_9]; decide) (by rw [c27_9]; rfl) (by decide) ?_
    refine lv_aload_n C.x C.b dX9_count_136 rfl (lv_at hl 0 rfl) ?_
    obtain ⟨g21, hf⟩ := gd_e hf
    refine r_getr C hR t_r0 fl_X9_39 (by decide) (nz_e g21) dX9_count_137 (fun tq22 => ?_)
    have tg21 := okO tq22 rfl
    refine r_geti C hR tg21 fl_X9_263 rfl dX9_count_140 ?_
    have hf := so_e hf
    subst hf
    exact r_iret C hr hlk hR Ext.rf hS dX9_count_143
  have hf := it_f hf c27_9
  by_cases c27_10 : x1 = (10 : Int32)
  · have hf := it_t hf c27_10
    refine lv_tableIn (tgt := 144) C.x C.b dX9_count_1 (by rw [c27_10]; decide) (by rw [c27_10]; decide) (by rw [c27_10]; rfl) (by decide) ?_
    refine lv_aload_n C.x C.b dX9_count_144 rfl (lv_at hl 0 rfl) ?_
    obtain ⟨g23, hf⟩ := gd_e hf
    refine r_getr C hR t_r0 fl_X9_19 (by decide) (nz_e g23) dX9_count_145 (fun tq24 => ?_)
    have tg23 := okO tq24 rfl
    refine r_geti C hR tg23 fl_X9_434 rfl dX9_count_148 ?_
    have hf := so_e hf
    subst hf
    exact r_iret C hr hlk hR Ext.rf hS dX9_count_151
  have hf := it_f hf c27_10
  by_cases c27_11 : x1 = (11 : Int32)
  · have hf := it_t hf c27_11
    refine lv_tableIn (tgt := 152) C.x C.b dX9_count_1 (by rw [c27_11]; decide) (by rw [c27_11]; decide) (by rw [c27_11]; rfl) (by decide) ?_
    refine lv_aload_n C.x C.b dX9_count_152 rfl (lv_at hl 0 rfl) ?_
    obtain ⟨g25, hf⟩ := gd_e hf
    refine r_getr C hR t_r0 fl_X9_10 (by decide) (nz_e g25) dX9_count_153 (fun tq26 => ?_)
    have tg25 := okO tq26 rfl
    refine r_geti C hR tg25 fl_X9_93 rfl dX9_count_156 ?_
    have hf := so_e hf
    subst hf
    exact r_iret C hr hlk hR Ext.rf hS dX9_count_159
  have hf := it_f hf c27_11
  refine lv_tableOut (tgt := 160) C.x C.b dX9_count_1 (tb_out 12 (by decide) (fun j hj => match j, hj with | 0, _ => fun q => c27_0 (q.trans (by decide)) | 1, _ => fun q => c27_1 (q.trans (by decide)) | 2, _ => fun q => c27_2 (q.trans (by decide)) | 3, _ => fun q => c27_3 (q.trans (by decide)) | 4, _ => fun q => c27_4 (q.trans (by decide)) | 5, _ => fun q => c27_5 (q.trans (by decide)) | 6, _ => fun q => c27_6 (q.trans (by decide)) | 7, _ => fun q => c27_7 (q.trans (by decide)) | 8, _ => fun q => c27_8 (q.trans (by decide)) | 9, _ => fun q => c27_9 (q.trans (by decide)) | 10, _ => fun q => c27_10 (q.trans (by decide)) | 11, _ => fun q => c27_11 (q.trans (by decide)) | n + 12, hn => absurd hn (by omega))) (by decide) ?_
  refine lv_bipush (v := (-100 : Int32)) C.x C.b dX9_count_160 (by decide) ?_
  have hf := so_e hf
  subst hf
  exact r_iret C hr hlk hR Ext.rf hS dX9_count_162

def rm_X10_init : Room := { frames := 1, cells := 27, slots := 12028, locals := 12 }
set_option maxRecDepth 100000 in
set_option maxHeartbeats 4000000 in
theorem k_X10_init {G : Gt} {l : Launch}  {h : Hp} {r0 : Nat} {out : Hp} (t_r0 : hpT h r0 = (1, 10))  (hf : f_X10_init  h r0 = some out) : Mt G l yX10_init cX10_init 1 (none) rm_X10_init [.ref (G.2.2 + r0)] h (none) out 0 27 12028 := by
  refine r_met (by decide +kernel) (Nat.le_of_ble_eq_true rfl) ?_
  intro p e s m args below meth c ls C hr hlk hnm hR hS hl
  have hE : Ext h h := Ext.rf
  have hl : lv_has ls 1 [(0, .ref (G.2.2 + r0))] := hl
  rw [f_X10_init] at hf
  refine lv_aload_n C.x C.b dX10_init_0 rfl (lv_at hl 0 rfl) ?_
  refine r_objinit C hl.1 lk_X10_3 lk_oi_i lk_oi_c (Nat.le_of_ble_eq_true rfl) (Nat.le_of_ble_eq_true rfl) dX10_init_1 ?_
  refine lv_aload_n C.x C.b dX10_init_4 rfl (lv_at hl 0 rfl) ?_
  refine lv_sipush (v := (160 : Int32)) C.x C.b dX10_init_5 (by decide) ?_
  refine r_newlN C hR hS (160 : Int32) (by decide) (Nat.le_of_ble_eq_true rfl) lk_arr_long (Nat.le_of_ble_eq_true rfl) (Nat.le_of_ble_eq_true rfl) dX10_init_8 (fun H a1 e_a1 hR hS hE1 t_a1 => ?_)
  have hf := lt_e hf e_a1
  obtain ⟨h2, e_h2⟩ : ∃ y, y = hpNew h (3, ix (160 : Int32)) := ⟨_, rfl⟩
  rw [← e_h2] at hR hE1 t_a1
  have hf := lt_e hf e_h2
  have hE := hE.tr hE1
  have t_r0 := hE1.at t_r0 (by decide)
  refine r_putr C hR hS true (fun _ => hnm) (ne0k hR t_a1 (by decide)) t_r0 (okT_a t_a1 rfl (by decide)) fl_X10_9 fp_X10_10_2 (by decide) dX10_init_10 (fun H locs hR hS => ?_)
  obtain ⟨h3, e_h3⟩ : ∃ y, y = upR h2 r0 2 a1 := ⟨_, rfl⟩
  rw [← e_h3] at hR
  have hf := lt_e hf e_h3
  have hE := eR e_h3 hE
  have t_r0 := tR e_h3 t_r0
  refine lv_aload_n C.x C.b dX10_init_13 rfl (lv_at hl 0 rfl) ?_
  refine lv_iconst (v := (4 : Int32)) C.x C.b dX10_init_14 (by decide) ?_
  refine r_puti C hR hS t_r0 fl_X10_13 fp_X10_10_3 rfl dX10_init_15 (fun H locs hR hS => ?_)
  obtain ⟨h4, e_h4⟩ : ∃ y, y = upI h3 r0 3 (4 : Int32) := ⟨_, rfl⟩
  rw [← e_h4] at hR
  have hf := lt_e hf e_h4
  have hE := eI e_h4 hE
  have t_r0 := tI e_h4 t_r0
  refine lv_aload_n C.x C.b dX10_init_18 rfl (lv_at hl 0 rfl) ?_
  refine lv_iconst (v := (4 : Int32)) C.x C.b dX10_init_19 (by decide) ?_
  refine r_puti C hR hS t_r0 fl_X10_17 fp_X10_10_4 rfl dX10_init_20 (fun H locs hR hS => ?_)
  obtain ⟨h5, e_h5⟩ : ∃ y, y = upI h4 r0 4 (4 : Int32) := ⟨_, rfl⟩
  rw [← e_h5] at hR
  have hf := lt_e hf e_h5
  have hE := eI e_h5 hE
  have t_r0 := tI e_h5 t_r0
  refine lv_aload_n C.x C.b dX10_init_23 rfl (lv_at hl 0 rfl) ?_
  refine lv_bipush (v := (51 : Int32)) C.x C.b dX10_init_24 (by decide) ?_
  refine r_newiN C hR hS (51 : Int32) (by decide) (Nat.le_of_ble_eq_true rfl) lk_arr_int (Nat.le_of_ble_eq_true rfl) (Nat.le_of_ble_eq_true rfl) dX10_init_26 (fun H a6 e_a6 hR hS hE1 t_a6 => ?_)
  have hf := lt_e hf e_a6
  obtain ⟨h7, e_h7⟩ : ∃ y, y = hpNew h5 (2, ix (51 : Int32)) := ⟨_, rfl⟩
  rw [← e_h7] at hR hE1 t_a6
  have hf := lt_e hf e_h7
  have hE := hE.tr hE1
  have t_r0 := hE1.at t_r0 (by decide)
  refine r_putr C hR hS true (fun _ => hnm) (ne0k hR t_a6 (by decide)) t_r0 (okT_a t_a6 rfl (by decide)) fl_X10_20 fp_X10_10_6 (by decide) dX10_init_28 (fun H locs hR hS => ?_)
  obtain ⟨h8, e_h8⟩ : ∃ y, y = upR h7 r0 6 a6 := ⟨_, rfl⟩
  rw [← e_h8] at hR
  have hf := lt_e hf e_h8
  have hE := eR e_h8 hE
  have t_r0 := tR e_h8 t_r0
  refine lv_aload_n C.x C.b dX10_init_31 rfl (lv_at hl 0 rfl) ?_
  refine lv_bipush (v := (51 : Int32)) C.x C.b dX10_init_32 (by decide) ?_
  refine r_newiN C hR hS (51 : Int32) (by decide) (Nat.le_of_ble_eq_true rfl) lk_arr_int (Nat.le_of_ble_eq_true rfl) (Nat.le_of_ble_eq_true rfl) dX10_init_34 (fun H a9 e_a9 hR hS hE1 t_a9 => ?_)
  have hf := lt_e hf e_a9
  obtain ⟨h10, e_h10⟩ : ∃ y, y = hpNew h8 (2, ix (51 : Int32)) := ⟨_, rfl⟩
  rw [← e_h10] at hR hE1 t_a9
  have hf := lt_e hf e_h10
  have hE := hE.tr hE1
  have t_r0 := hE1.at t_r0 (by decide)
  refine r_putr C hR hS true (fun _ => hnm) (ne0k hR t_a9 (by decide)) t_r0 (okT_a t_a9 rfl (by decide)) fl_X10_24 fp_X10_10_7 (by decide) dX10_init_36 (fun H locs hR hS => ?_)
  obtain ⟨h11, e_h11⟩ : ∃ y, y = upR h10 r0 7 a9 := ⟨_, rfl⟩
  rw [← e_h11] at hR
  have hf := lt_e hf e_h11
  have hE := eR e_h11 hE
  have t_r0 := tR e_h11 t_r0
  refine lv_aload_n C.x C.b dX10_init_39 rfl (lv_at hl 0 rfl) ?_
  refine lv_bipush (v := (80 : Int32)) C.x C.b dX10_init_40 (by decide) ?_
  refine r_newiN C hR hS (80 : Int32) (by decide) (Nat.le_of_ble_eq_true rfl) lk_arr_int (Nat.le_of_ble_eq_true rfl) (Nat.le_of_ble_eq_true rfl) dX10_init_42 (fun H a12 e_a12 hR hS hE1 t_a12 => ?_)
  have hf := lt_e hf e_a12
  obtain ⟨h13, e_h13⟩ : ∃ y, y = hpNew h11 (2, ix (80 : Int32)) := ⟨_, rfl⟩
  rw [← e_h13] at hR hE1 t_a12
  have hf := lt_e hf e_h13
  have hE := hE.tr hE1
  have t_r0 := hE1.at t_r0 (by decide)
  refine r_putr C hR hS true (fun _ => hnm) (ne0k hR t_a12 (by decide)) t_r0 (okT_a t_a12 rfl (by decide)) fl_X10_27 fp_X10_10_8 (by decide) dX10_init_44 (fun H locs hR hS => ?_)
  obtain ⟨h14, e_h14⟩ : ∃ y, y = upR h13 r0 8 a12 := ⟨_, rfl⟩
  rw [← e_h14] at hR
  have hf := lt_e hf e_h14
  have hE := eR e_h14 hE
  have t_r0 := tR e_h14 t_r0
  refine lv_aload_n C.x C.b dX10_init_47 rfl (lv_at hl 0 rfl) ?_
  refine lv_bipush (v := (48 : Int32)) C.x C.b dX10_init_48 (by decide) ?_
  refine r_newiN C hR hS (48 : Int32) (by decide) (Nat.le_of_ble_eq_true rfl) lk_arr_int (Nat.le_of_ble_eq_true rfl) (Nat.le_of_ble_eq_true rfl) dX10_init_50 (fun H a15 e_a15 hR hS hE1 t_a15 => ?_)
  have hf := lt_e hf e_a15
  obtain ⟨h16, e_h16⟩ : ∃ y, y = hpNew h14 (2, ix (48 : Int32)) := ⟨_, rfl⟩
  rw [← e_h16] at hR hE1 t_a15
  have hf := lt_e hf e_h16
  have hE := hE.tr hE1
  have t_r0 := hE1.at t_r0 (by decide)
  refine r_putr C hR hS true (fun _ => hnm) (ne0k hR t_a15 (by decide)) t_r0 (okT_a t_a15 rfl (by decide)) fl_X10_30 fp_X10_10_13 (by decide) dX10_init_52 (fun H locs hR hS => ?_)
  obtain ⟨h17, e_h17⟩ : ∃ y, y = upR h16 r0 13 a15 := ⟨_, rfl⟩
  rw [← e_h17] at hR
  have hf := lt_e hf e_h17
  have hE := eR e_h17 hE
  have t_r0 := tR e_h17 t_r0
  refine lv_aload_n C.x C.b dX10_init_55 rfl (lv_at hl 0 rfl) ?_
  refine lv_bipush (v := (80 : Int32)) C.x C.b dX10_init_56 (by decide) ?_
  refine r_newiN C hR hS (80 : Int32) (by decide) (Nat.le_of_ble_eq_true rfl) lk_arr_int (Nat.le_of_ble_eq_true rfl) (Nat.le_of_ble_eq_true rfl) dX10_init_58 (fun H a18 e_a18 hR hS hE1 t_a18 => ?_)
  have hf := lt_e hf e_a18
  obtain ⟨h19, e_h19⟩ : ∃ y, y = hpNew h17 (2, ix (80 : Int32)) := ⟨_, rfl⟩
  rw [← e_h19] at hR hE1 t_a18
  have hf := lt_e hf e_h19
  have hE := hE.tr hE1
  have t_r0 := hE1.at t_r0 (by decide)
  refine r_putr C hR hS true (fun _ => hnm) (ne0k hR t_a18 (by decide)) t_r0 (okT_a t_a18 rfl (by decide)) fl_X10_33 fp_X10_10_15 (by decide) dX10_init_60 (fun H locs hR hS => ?_)
  obtain ⟨h20, e_h20⟩ : ∃ y, y = upR h19 r0 15 a18 := ⟨_, rfl⟩
  rw [← e_h20] at hR
  have hf := lt_e hf e_h20
  have hE := eR e_h20 hE
  have t_r0 := tR e_h20 t_r0
  refine lv_aload_n C.x C.b dX10_init_63 rfl (lv_at hl 0 rfl) ?_
  refine lv_bipush (v := (80 : Int32)) C.x C.b dX10_init_64 (by decide) ?_
  refine r_newiN C hR hS (80 : Int32) (by decide) (Nat.le_of_ble_eq_true rfl) lk_arr_int (Nat.le_of_ble_eq_true rfl) (Nat.le_of_ble_eq_true rfl) dX10_init_66 (fun H a21 e_a21 hR hS hE1 t_a21 => ?_)
  have hf := lt_e hf e_a21
  obtain ⟨h22, e_h22⟩ : ∃ y, y = hpNew h20 (2, ix (80 : Int32)) := ⟨_, rfl⟩
  rw [← e_h22] at hR hE1 t_a21
  have hf := lt_e hf e_h22
  have hE := hE.tr hE1
  have t_r0 := hE1.at t_r0 (by decide)
  refine r_putr C hR hS true (fun _ => hnm) (ne0k hR t_a21 (by decide)) t_r0 (okT_a t_a21 rfl (by decide)) fl_X10_36 fp_X10_10_16 (by decide) dX10_init_68 (fun H locs hR hS => ?_)
  obtain ⟨h23, e_h23⟩ : ∃ y, y = upR h22 r0 16 a21 := ⟨_, rfl⟩
  rw [← e_h23] at hR
  have hf := lt_e hf e_h23
  have hE := eR e_h23 hE
  have t_r0 := tR e_h23 t_r0
  refine lv_aload_n C.x C.b dX10_init_71 rfl (lv_at hl 0 rfl) ?_
  refine lv_bipush (v := (80 : Int32)) C.x C.b dX10_init_72 (by decide) ?_
  refine r_newiN C hR hS (80 : Int32) (by decide) (Nat.le_of_ble_eq_true rfl) lk_arr_int (Nat.le_of_ble_eq_true rfl) (Nat.le_of_ble_eq_true rfl) dX10_init_74 (fun H a24 e_a24 hR hS hE1 t_a24 => ?_)
  have hf := lt_e hf e_a24
  obtain ⟨h25, e_h25⟩ : ∃ y, y = hpNew h23 (2, ix (80 : Int32)) := ⟨_, rfl⟩
  rw [← e_h25] at hR hE1 t_a24
  have hf := lt_e hf e_h25
  have hE := hE.tr hE1
  have t_r0 := hE1.at t_r0 (by decide)
  refine r_putr C hR hS true (fun _ => hnm) (ne0k hR t_a24 (by decide)) t_r0 (okT_a t_a24 rfl (by decide)) fl_X10_39 fp_X10_10_19 (by decide) dX10_init_76 (fun H locs hR hS => ?_)
  obtain ⟨h26, e_h26⟩ : ∃ y, y = upR h25 r0 19 a24 := ⟨_, rfl⟩
  rw [← e_h26] at hR
  have hf := lt_e hf e_h26
  have hE := eR e_h26 hE
  have t_r0 := tR e_h26 t_r0
  refine lv_aload_n C.x C.b dX10_init_79 rfl (lv_at hl 0 rfl) ?_
  refine lv_bipush (v := (8 : Int32)) C.x C.b dX10_init_80 (by decide) ?_
  refine r_newiN C hR hS (8 : Int32) (by decide) (Nat.le_of_ble_eq_true rfl) lk_arr_int (Nat.le_of_ble_eq_true rfl) (Nat.le_of_ble_eq_true rfl) dX10_init_82 (fun H a27 e_a27 hR hS hE1 t_a27 => ?_)
  have hf := lt_e hf e_a27
  obtain ⟨h28, e_h28⟩ : ∃ y, y = hpNew h26 (2, ix (8 : Int32)) := ⟨_, rfl⟩
  rw [← e_h28] at hR hE1 t_a27
  have hf := lt_e hf e_h28
  have hE := hE.tr hE1
  have t_r0 := hE1.at t_r0 (by decide)
  refine r_putr C hR hS true (fun _ => hnm) (ne0k hR t_a27 (by decide)) t_r0 (okT_a t_a27 rfl (by decide)) fl_X10_42 fp_X10_10_20 (by decide) dX10_init_84 (fun H locs hR hS => ?_)
  obtain ⟨h29, e_h29⟩ : ∃ y, y = upR h28 r0 20 a27 := ⟨_, rfl⟩
  rw [← e_h29] at hR
  have hf := lt_e hf e_h29
  have hE := eR e_h29 hE
  have t_r0 := tR e_h29 t_r0
  refine lv_aload_n C.x C.b dX10_init_87 rfl (lv_at hl 0 rfl) ?_
  refine lv_iconst (v := (-1 : Int32)) C.x C.b dX10_init_88 (by decide) ?_
  refine r_puti C hR hS t_r0 fl_X10_45 fp_X10_10_21 rfl dX10_init_89 (fun H locs hR hS => ?_)
  obtain ⟨h30, e_h30⟩ : ∃ y, y = upI h29 r0 21 (-1 : Int32) := ⟨_, rfl⟩
  rw [← e_h30] at hR
  have hf := lt_e hf e_h30
  have hE := eI e_h30 hE
  have t_r0 := tI e_h30 t_r0
  refine lv_aload_n C.x C.b dX10_init_92 rfl (lv_at hl 0 rfl) ?_
  refine lv_sipush (v := (816 : Int32)) C.x C.b dX10_init_93 (by decide) ?_
  refine r_newiN C hR hS (816 : Int32) (by decide) (Nat.le_of_ble_eq_true rfl) lk_arr_int (Nat.le_of_ble_eq_true rfl) (Nat.le_of_ble_eq_true rfl) dX10_init_96 (fun H a31 e_a31 hR hS hE1 t_a31 => ?_)
  have hf := lt_e hf e_a31
  obtain ⟨h32, e_h32⟩ : ∃ y, y = hpNew h30 (2, ix (816 : Int32)) := ⟨_, rfl⟩
  rw [← e_h32] at hR hE1 t_a31
  have hf := lt_e hf e_h32
  have hE := hE.tr hE1
  have t_r0 := hE1.at t_r0 (by decide)
  refine r_putr C hR hS true (fun _ => hnm) (ne0k hR t_a31 (by decide)) t_r0 (okT_a t_a31 rfl (by decide)) fl_X10_48 fp_X10_10_23 (by decide) dX10_init_98 (fun H locs hR hS => ?_)
  obtain ⟨h33, e_h33⟩ : ∃ y, y = upR h32 r0 23 a31 := ⟨_, rfl⟩
  rw [← e_h33] at hR
  have hf := lt_e hf e_h33
  have hE := eR e_h33 hE
  have t_r0 := tR e_h33 t_r0
  refine lv_aload_n C.x C.b dX10_init_101 rfl (lv_at hl 0 rfl) ?_
  refine lv_bipush (v := (8 : Int32)) C.x C.b dX10_init_102 (by decide) ?_
  refine r_newiN C hR hS (8 : Int32) (by decide) (Nat.le_of_ble_eq_true rfl) lk_arr_int (Nat.le_of_ble_eq_true rfl) (Nat.le_of_ble_eq_true rfl) dX10_init_104 (fun H a34 e_a34 hR hS hE1 t_a34 => ?_)
  have hf := lt_e hf e_a34
  obtain ⟨h35, e_h35⟩ : ∃ y, y = hpNew h33 (2, ix (8 : Int32)) := ⟨_, rfl⟩
  rw [← e_h35] at hR hE1 t_a34
  have hf := lt_e hf e_h35
  have hE := hE.tr hE1
  have t_r0 := hE1.at t_r0 (by decide)
  refine r_putr C hR hS true (fun _ => hnm) (ne0k hR t_a34 (by decide)) t_r0 (okT_a t_a34 rfl (by decide)) fl_X10_51 fp_X10_10_24 (by decide) dX10_init_106 (fun H locs hR hS => ?_)
  obtain ⟨h36, e_h36⟩ : ∃ y, y = upR h35 r0 24 a34 := ⟨_, rfl⟩
  rw [← e_h36] at hR
  have hf := lt_e hf e_h36
  have hE := eR e_h36 hE
  have t_r0 := tR e_h36 t_r0
  refine lv_aload_n C.x C.b dX10_init_109 rfl (lv_at hl 0 rfl) ?_
  refine lv_bipush (v := (60 : Int32)) C.x C.b dX10_init_110 (by decide) ?_
  refine r_newiN C hR hS (60 : Int32) (by decide) (Nat.le_of_ble_eq_true rfl) lk_arr_int (Nat.le_of_ble_eq_true rfl) (Nat.le_of_ble_eq_true rfl) dX10_init_112 (fun H a37 e_a37 hR hS hE1 t_a37 => ?_)
  have hf := lt_e hf e_a37
  obtain ⟨h38, e_h38⟩ : ∃ y, y = hpNew h36 (2, ix (60 : Int32)) := ⟨_, rfl⟩
  rw [← e_h38] at hR hE1 t_a37
  have hf := lt_e hf e_h38
  have hE := hE.tr hE1
  have t_r0 := hE1.at t_r0 (by decide)
  refine r_putr C hR hS true (fun _ => hnm) (ne0k hR t_a37 (by decide)) t_r0 (okT_a t_a37 rfl (by decide)) fl_X10_54 fp_X10_10_26 (by decide) dX10_init_114 (fun H locs hR hS => ?_)
  obtain ⟨h39, e_h39⟩ : ∃ y, y = upR h38 r0 26 a37 := ⟨_, rfl⟩
  rw [← e_h39] at hR
  have hf := lt_e hf e_h39
  have hE := eR e_h39 hE
  have t_r0 := tR e_h39 t_r0
  refine lv_aload_n C.x C.b dX10_init_117 rfl (lv_at hl 0 rfl) ?_
  refine lv_sipush (v := (360 : Int32)) C.x C.b dX10_init_118 (by decide) ?_
  refine r_newiN C hR hS (360 : Int32) (by decide) (Nat.le_of_ble_eq_true rfl) lk_arr_int (Nat.le_of_ble_eq_true rfl) (Nat.le_of_ble_eq_true rfl) dX10_init_121 (fun H a40 e_a40 hR hS hE1 t_a40 => ?_)
  have hf := lt_e hf e_a40
  obtain ⟨h41, e_h41⟩ : ∃ y, y = hpNew h39 (2, ix (360 : Int32)) := ⟨_, rfl⟩
  rw [← e_h41] at hR hE1 t_a40
  have hf := lt_e hf e_h41
  have hE := hE.tr hE1
  have t_r0 := hE1.at t_r0 (by decide)
  refine r_putr C hR hS true (fun _ => hnm) (ne0k hR t_a40 (by decide)) t_r0 (okT_a t_a40 rfl (by decide)) fl_X10_57 fp_X10_10_27 (by decide) dX10_init_123 (fun H locs hR hS => ?_)
  obtain ⟨h42, e_h42⟩ : ∃ y, y = upR h41 r0 27 a40 := ⟨_, rfl⟩
  rw [← e_h42] at hR
  have hf := lt_e hf e_h42
  have hE := eR e_h42 hE
  have t_r0 := tR e_h42 t_r0
  refine lv_aload_n C.x C.b dX10_init_126 rfl (lv_at hl 0 rfl) ?_
  refine lv_sipush (v := (9216 : Int32)) C.x C.b dX10_init_127 (by decide) ?_
  refine r_newiN C hR hS (9216 : Int32) (by decide) (Nat.le_of_ble_eq_true rfl) lk_arr_int (Nat.le_of_ble_eq_true rfl) (Nat.le_of_ble_eq_true rfl) dX10_init_130 (fun H a43 e_a43 hR hS hE1 t_a43 => ?_)
  have hf := lt_e hf e_a43
  obtain ⟨h44, e_h44⟩ : ∃ y, y = hpNew h42 (2, ix (9216 : Int32)) := ⟨_, rfl⟩
  rw [← e_h44] at hR hE1 t_a43
  have hf := lt_e hf e_h44
  have hE := hE.tr hE1
  have t_r0 := hE1.at t_r0 (by decide)
  refine r_putr C hR hS true (fun _ => hnm) (ne0k hR t_a43 (by decide)) t_r0 (okT_a t_a43 rfl (by decide)) fl_X10_60 fp_X10_10_29 (by decide) dX10_init_132 (fun H locs hR hS => ?_)
  obtain ⟨h45, e_h45⟩ : ∃ y, y = upR h44 r0 29 a43 := ⟨_, rfl⟩
  rw [← e_h45] at hR
  have hf := lt_e hf e_h45
  have hE := eR e_h45 hE
  have t_r0 := tR e_h45 t_r0
  refine lv_aload_n C.x C.b dX10_init_135 rfl (lv_at hl 0 rfl) ?_
  refine lv_bipush (v := (36 : Int32)) C.x C.b dX10_init_136 (by decide) ?_
  refine r_newiN C hR hS (36 : Int32) (by decide) (Nat.le_of_ble_eq_true rfl) lk_arr_int (Nat.le_of_ble_eq_true rfl) (Nat.le_of_ble_eq_true rfl) dX10_init_138 (fun H a46 e_a46 hR hS hE1 t_a46 => ?_)
  have hf := lt_e hf e_a46
  obtain ⟨h47, e_h47⟩ : ∃ y, y = hpNew h45 (2, ix (36 : Int32)) := ⟨_, rfl⟩
  rw [← e_h47] at hR hE1 t_a46
  have hf := lt_e hf e_h47
  have hE := hE.tr hE1
  have t_r0 := hE1.at t_r0 (by decide)
  refine r_putr C hR hS true (fun _ => hnm) (ne0k hR t_a46 (by decide)) t_r0 (okT_a t_a46 rfl (by decide)) fl_X10_63 fp_X10_10_30 (by decide) dX10_init_140 (fun H locs hR hS => ?_)
  obtain ⟨h48, e_h48⟩ : ∃ y, y = upR h47 r0 30 a46 := ⟨_, rfl⟩
  rw [← e_h48] at hR
  have hf := lt_e hf e_h48
  have hE := eR e_h48 hE
  have t_r0 := tR e_h48 t_r0
  refine lv_aload_n C.x C.b dX10_init_143 rfl (lv_at hl 0 rfl) ?_
  refine lv_bipush (v := (10 : Int32)) C.x C.b dX10_init_144 (by decide) ?_
  refine r_newiN C hR hS (10 : Int32) (by decide) (Nat.le_of_ble_eq_true rfl) lk_arr_int (Nat.le_of_ble_eq_true rfl) (Nat.le_of_ble_eq_true rfl) dX10_init_146 (fun H a49 e_a49 hR hS hE1 t_a49 => ?_)
  have hf := lt_e hf e_a49
  obtain ⟨h50, e_h50⟩ : ∃ y, y = hpNew h48 (2, ix (10 : Int32)) := ⟨_, rfl⟩
  rw [← e_h50] at hR hE1 t_a49
  have hf := lt_e hf e_h50
  have hE := hE.tr hE1
  have t_r0 := hE1.at t_r0 (by decide)
  refine r_putr C hR hS true (fun _ => hnm) (ne0k hR t_a49 (by decide)) t_r0 (okT_a t_a49 rfl (by decide)) fl_X10_66 fp_X10_10_32 (by decide) dX10_init_148 (fun H locs hR hS => ?_)
  obtain ⟨h51, e_h51⟩ : ∃ y, y = upR h50 r0 32 a49 := ⟨_, rfl⟩
  rw [← e_h51] at hR
  have hf := lt_e hf e_h51
  have hE := eR e_h51 hE
  have t_r0 := tR e_h51 t_r0
  refine lv_aload_n C.x C.b dX10_init_151 rfl (lv_at hl 0 rfl) ?_
  refine lv_bipush (v := (10 : Int32)) C.x C.b dX10_init_152 (by decide) ?_
  refine r_newiN C hR hS (10 : Int32) (by decide) (Nat.le_of_ble_eq_true rfl) lk_arr_int (Nat.le_of_ble_eq_true rfl) (Nat.le_of_ble_eq_true rfl) dX10_init_154 (fun H a52 e_a52 hR hS hE1 t_a52 => ?_)
  have hf := lt_e hf e_a52
  obtain ⟨h53, e_h53⟩ : ∃ y, y = hpNew h51 (2, ix (10 : Int32)) := ⟨_, rfl⟩
  rw [← e_h53] at hR hE1 t_a52
  have hf := lt_e hf e_h53
  have hE := hE.tr hE1
  have t_r0 := hE1.at t_r0 (by decide)
  refine r_putr C hR hS true (fun _ => hnm) (ne0k hR t_a52 (by decide)) t_r0 (okT_a t_a52 rfl (by decide)) fl_X10_69 fp_X10_10_33 (by decide) dX10_init_156 (fun H locs hR hS => ?_)
  obtain ⟨h54, e_h54⟩ : ∃ y, y = upR h53 r0 33 a52 := ⟨_, rfl⟩
  rw [← e_h54] at hR
  have hf := lt_e hf e_h54
  have hE := eR e_h54 hE
  have t_r0 := tR e_h54 t_r0
  refine lv_aload_n C.x C.b dX10_init_159 rfl (lv_at hl 0 rfl) ?_
  refine lv_bipush (v := (10 : Int32)) C.x C.b dX10_init_160 (by decide) ?_
  refine r_newiN C hR hS (10 : Int32) (by decide) (Nat.le_of_ble_eq_true rfl) lk_arr_int (Nat.le_of_ble_eq_true rfl) (Nat.le_of_ble_eq_true rfl) dX10_init_162 (fun H a55 e_a55 hR hS hE1 t_a55 => ?_)
  have hf := lt_e hf e_a55
  obtain ⟨h56, e_h56⟩ : ∃ y, y = hpNew h54 (2, ix (10 : Int32)) := ⟨_, rfl⟩
  rw [← e_h56] at hR hE1 t_a55
  have hf := lt_e hf e_h56
  have hE := hE.tr hE1
  have t_r0 := hE1.at t_r0 (by decide)
  refine r_putr C hR hS true (fun _ => hnm) (ne0k hR t_a55 (by decide)) t_r0 (okT_a t_a55 rfl (by decide)) fl_X10_72 fp_X10_10_34 (by decide) dX10_init_164 (fun H locs hR hS => ?_)
  obtain ⟨h57, e_h57⟩ : ∃ y, y = upR h56 r0 34 a55 := ⟨_, rfl⟩
  rw [← e_h57] at hR
  have hf := lt_e hf e_h57
  have hE := eR e_h57 hE
  have t_r0 := tR e_h57 t_r0
  refine lv_aload_n C.x C.b dX10_init_167 rfl (lv_at hl 0 rfl) ?_
  refine lv_sipush (v := (496 : Int32)) C.x C.b dX10_init_168 (by decide) ?_
  refine r_newiN C hR hS (496 : Int32) (by decide) (Nat.le_of_ble_eq_true rfl) lk_arr_int (Nat.le_of_ble_eq_true rfl) (Nat.le_of_ble_eq_true rfl) dX10_init_171 (fun H a58 e_a58 hR hS hE1 t_a58 => ?_)
  have hf := lt_e hf e_a58
  obtain ⟨h59, e_h59⟩ : ∃ y, y = hpNew h57 (2, ix (496 : Int32)) := ⟨_, rfl⟩
  rw [← e_h59] at hR hE1 t_a58
  have hf := lt_e hf e_h59
  have hE := hE.tr hE1
  have t_r0 := hE1.at t_r0 (by decide)
  refine r_putr C hR hS true (fun _ => hnm) (ne0k hR t_a58 (by decide)) t_r0 (okT_a t_a58 rfl (by decide)) fl_X10_75 fp_X10_10_35 (by decide) dX10_init_173 (fun H locs hR hS => ?_)
  obtain ⟨h60, e_h60⟩ : ∃ y, y = upR h59 r0 35 a58 := ⟨_, rfl⟩
  rw [← e_h60] at hR
  have hf := lt_e hf e_h60
  have hE := eR e_h60 hE
  have t_r0 := tR e_h60 t_r0
  refine lv_aload_n C.x C.b dX10_init_176 rfl (lv_at hl 0 rfl) ?_
  refine lv_bipush (v := (12 : Int32)) C.x C.b dX10_init_177 (by decide) ?_
  refine r_newiN C hR hS (12 : Int32) (by decide) (Nat.le_of_ble_eq_true rfl) lk_arr_int (Nat.le_of_ble_eq_true rfl) (Nat.le_of_ble_eq_true rfl) dX10_init_179 (fun H a61 e_a61 hR hS hE1 t_a61 => ?_)
  have hf := lt_e hf e_a61
  obtain ⟨h62, e_h62⟩ : ∃ y, y = hpNew h60 (2, ix (12 : Int32)) := ⟨_, rfl⟩
  rw [← e_h62] at hR hE1 t_a61
  have hf := lt_e hf e_h62
  have hE := hE.tr hE1
  have t_r0 := hE1.at t_r0 (by decide)
  refine r_putr C hR hS true (fun _ => hnm) (ne0k hR t_a61 (by decide)) t_r0 (okT_a t_a61 rfl (by decide)) fl_X10_78 fp_X10_10_37 (by decide) dX10_init_181 (fun H locs hR hS => ?_)
  obtain ⟨h63, e_h63⟩ : ∃ y, y = upR h62 r0 37 a61 := ⟨_, rfl⟩
  rw [← e_h63] at hR
  have hf := lt_e hf e_h63
  have hE := eR e_h63 hE
  have t_r0 := tR e_h63 t_r0
  refine lv_aload_n C.x C.b dX10_init_184 rfl (lv_at hl 0 rfl) ?_
  refine lv_bipush (v := (12 : Int32)) C.x C.b dX10_init_185 (by decide) ?_
  refine r_newiN C hR hS (12 : Int32) (by decide) (Nat.le_of_ble_eq_true rfl) lk_arr_int (Nat.le_of_ble_eq_true rfl) (Nat.le_of_ble_eq_true rfl) dX10_init_187 (fun H a64 e_a64 hR hS hE1 t_a64 => ?_)
  have hf := lt_e hf e_a64
  obtain ⟨h65, e_h65⟩ : ∃ y, y = hpNew h63 (2, ix (12 : Int32)) := ⟨_, rfl⟩
  rw [← e_h65] at hR hE1 t_a64
  have hf := lt_e hf e_h65
  have hE := hE.tr hE1
  have t_r0 := hE1.at t_r0 (by decide)
  refine r_putr C hR hS true (fun _ => hnm) (ne0k hR t_a64 (by decide)) t_r0 (okT_a t_a64 rfl (by decide)) fl_X10_81 fp_X10_10_38 (by decide) dX10_init_189 (fun H locs hR hS => ?_)
  obtain ⟨h66, e_h66⟩ : ∃ y, y = upR h65 r0 38 a64 := ⟨_, rfl⟩
  rw [← e_h66] at hR
  have hf := lt_e hf e_h66
  have hE := eR e_h66 hE
  have t_r0 := tR e_h66 t_r0
  refine lv_aload_n C.x C.b dX10_init_192 rfl (lv_at hl 0 rfl) ?_
  refine lv_bipush (v := (41 : Int32)) C.x C.b dX10_init_193 (by decide) ?_
  refine r_newiN C hR hS (41 : Int32) (by decide) (Nat.le_of_ble_eq_true rfl) lk_arr_int (Nat.le_of_ble_eq_true rfl) (Nat.le_of_ble_eq_true rfl) dX10_init_195 (fun H a67 e_a67 hR hS hE1 t_a67 => ?_)
  have hf := lt_e hf e_a67
  obtain ⟨h68, e_h68⟩ : ∃ y, y = hpNew h66 (2, ix (41 : Int32)) := ⟨_, rfl⟩
  rw [← e_h68] at hR hE1 t_a67
  have hf := lt_e hf e_h68
  have hE := hE.tr hE1
  have t_r0 := hE1.at t_r0 (by decide)
  refine r_putr C hR hS true (fun _ => hnm) (ne0k hR t_a67 (by decide)) t_r0 (okT_a t_a67 rfl (by decide)) fl_X10_84 fp_X10_10_39 (by decide) dX10_init_197 (fun H locs hR hS => ?_)
  obtain ⟨h69, e_h69⟩ : ∃ y, y = upR h68 r0 39 a67 := ⟨_, rfl⟩
  rw [← e_h69] at hR
  have hf := lt_e hf e_h69
  have hE := eR e_h69 hE
  have t_r0 := tR e_h69 t_r0
  refine lv_aload_n C.x C.b dX10_init_200 rfl (lv_at hl 0 rfl) ?_
  refine lv_bipush (v := (64 : Int32)) C.x C.b dX10_init_201 (by decide) ?_
  refine r_newzN C hR hS (64 : Int32) (by decide) (Nat.le_of_ble_eq_true rfl) lk_arr_boolean (Nat.le_of_ble_eq_true rfl) (Nat.le_of_ble_eq_true rfl) dX10_init_203 (fun H a70 e_a70 hR hS hE1 t_a70 => ?_)
  have hf := lt_e hf e_a70
  obtain ⟨h71, e_h71⟩ : ∃ y, y = hpNew h69 (4, ix (64 : Int32)) := ⟨_, rfl⟩
  rw [← e_h71] at hR hE1 t_a70
  have hf := lt_e hf e_h71
  have hE := hE.tr hE1
  have t_r0 := hE1.at t_r0 (by decide)
  refine r_putr C hR hS true (fun _ => hnm) (ne0k hR t_a70 (by decide)) t_r0 (okT_a t_a70 rfl (by decide)) fl_X10_87 fp_X10_10_40 (by decide) dX10_init_205 (fun H locs hR hS => ?_)
  obtain ⟨h72, e_h72⟩ : ∃ y, y = upR h71 r0 40 a70 := ⟨_, rfl⟩
  rw [← e_h72] at hR
  have hf := lt_e hf e_h72
  have hE := eR e_h72 hE
  have t_r0 := tR e_h72 t_r0
  refine lv_aload_n C.x C.b dX10_init_208 rfl (lv_at hl 0 rfl) ?_
  refine lv_bipush (v := (80 : Int32)) C.x C.b dX10_init_209 (by decide) ?_
  refine r_newiN C hR hS (80 : Int32) (by decide) (Nat.le_of_ble_eq_true rfl) lk_arr_int (Nat.le_of_ble_eq_true rfl) (Nat.le_of_ble_eq_true rfl) dX10_init_211 (fun H a73 e_a73 hR hS hE1 t_a73 => ?_)
  have hf := lt_e hf e_a73
  obtain ⟨h74, e_h74⟩ : ∃ y, y = hpNew h72 (2, ix (80 : Int32)) := ⟨_, rfl⟩
  rw [← e_h74] at hR hE1 t_a73
  have hf := lt_e hf e_h74
  have hE := hE.tr hE1
  have t_r0 := hE1.at t_r0 (by decide)
  refine r_putr C hR hS true (fun _ => hnm) (ne0k hR t_a73 (by decide)) t_r0 (okT_a t_a73 rfl (by decide)) fl_X10_91 fp_X10_10_41 (by decide) dX10_init_213 (fun H locs hR hS => ?_)
  obtain ⟨h75, e_h75⟩ : ∃ y, y = upR h74 r0 41 a73 := ⟨_, rfl⟩
  rw [← e_h75] at hR
  have hf := lt_e hf e_h75
  have hE := eR e_h75 hE
  have t_r0 := tR e_h75 t_r0
  refine lv_aload_n C.x C.b dX10_init_216 rfl (lv_at hl 0 rfl) ?_
  refine lv_iconst (v := (3 : Int32)) C.x C.b dX10_init_217 (by decide) ?_
  refine r_newzN C hR hS (3 : Int32) (by decide) (Nat.le_of_ble_eq_true rfl) lk_arr_boolean (Nat.le_of_ble_eq_true rfl) (Nat.le_of_ble_eq_true rfl) dX10_init_218 (fun H a76 e_a76 hR hS hE1 t_a76 => ?_)
  have hf := lt_e hf e_a76
  obtain ⟨h77, e_h77⟩ : ∃ y, y = hpNew h75 (4, ix (3 : Int32)) := ⟨_, rfl⟩
  rw [← e_h77] at hR hE1 t_a76
  have hf := lt_e hf e_h77
  have hE := hE.tr hE1
  have t_r0 := hE1.at t_r0 (by decide)
  refine r_putr C hR hS true (fun _ => hnm) (ne0k hR t_a76 (by decide)) t_r0 (okT_a t_a76 rfl (by decide)) fl_X10_94 fp_X10_10_43 (by decide) dX10_init_220 (fun H locs hR hS => ?_)
  obtain ⟨h78, e_h78⟩ : ∃ y, y = upR h77 r0 43 a76 := ⟨_, rfl⟩
  rw [← e_h78] at hR
  have hf := lt_e hf e_h78
  have hE := eR e_h78 hE
  have t_r0 := tR e_h78 t_r0
  refine lv_aload_n C.x C.b dX10_init_223 rfl (lv_at hl 0 rfl) ?_
  refine lv_iconst (v := (3 : Int32)) C.x C.b dX10_init_224 (by decide) ?_
  refine r_newiN C hR hS (3 : Int32) (by decide) (Nat.le_of_ble_eq_true rfl) lk_arr_int (Nat.le_of_ble_eq_true rfl) (Nat.le_of_ble_eq_true rfl) dX10_init_225 (fun H a79 e_a79 hR hS hE1 t_a79 => ?_)
  have hf := lt_e hf e_a79
  obtain ⟨h80, e_h80⟩ : ∃ y, y = hpNew h78 (2, ix (3 : Int32)) := ⟨_, rfl⟩
  rw [← e_h80] at hR hE1 t_a79
  have hf := lt_e hf e_h80
  have hE := hE.tr hE1
  have t_r0 := hE1.at t_r0 (by decide)
  refine r_putr C hR hS true (fun _ => hnm) (ne0k hR t_a79 (by decide)) t_r0 (okT_a t_a79 rfl (by decide)) fl_X10_97 fp_X10_10_44 (by decide) dX10_init_227 (fun H locs hR hS => ?_)
  obtain ⟨h81, e_h81⟩ : ∃ y, y = upR h80 r0 44 a79 := ⟨_, rfl⟩
  rw [← e_h81] at hR
  have hf := lt_e hf e_h81
  have hE := eR e_h81 hE
  have t_r0 := tR e_h81 t_r0
  refine lv_aload_n C.x C.b dX10_init_230 rfl (lv_at hl 0 rfl) ?_
  refine lv_sipush (v := (153 : Int32)) C.x C.b dX10_init_231 (by decide) ?_
  refine r_newiN C hR hS (153 : Int32) (by decide) (Nat.le_of_ble_eq_true rfl) lk_arr_int (Nat.le_of_ble_eq_true rfl) (Nat.le_of_ble_eq_true rfl) dX10_init_234 (fun H a82 e_a82 hR hS hE1 t_a82 => ?_)
  have hf := lt_e hf e_a82
  obtain ⟨h83, e_h83⟩ : ∃ y, y = hpNew h81 (2, ix (153 : Int32)) := ⟨_, rfl⟩
  rw [← e_h83] at hR hE1 t_a82
  have hf := lt_e hf e_h83
  have hE := hE.tr hE1
  have t_r0 := hE1.at t_r0 (by decide)
  refine r_putr C hR hS true (fun _ => hnm) (ne0k hR t_a82 (by decide)) t_r0 (okT_a t_a82 rfl (by decide)) fl_X10_100 fp_X10_10_45 (by decide) dX10_init_236 (fun H locs hR hS => ?_)
  obtain ⟨h84, e_h84⟩ : ∃ y, y = upR h83 r0 45 a82 := ⟨_, rfl⟩
  rw [← e_h84] at hR
  have hf := lt_e hf e_h84
  have hE := eR e_h84 hE
  have t_r0 := tR e_h84 t_r0
  have hf := so_e hf
  subst hf
  refine W.widen (k := 27) (n := 12028) (Nat.le_of_ble_eq_true rfl) (Nat.le_of_ble_eq_true rfl) ?_
  exact r_vret C hr hlk hR hE hS dX10_init_239

def rm_X10_thrown : Room := { frames := 0, cells := 0, slots := 0, locals := 0 }
set_option maxRecDepth 100000 in
set_option maxHeartbeats 4000000 in
theorem k_X10_thrown {G : Gt} {l : Launch}  {h : Hp} {r0 : Nat} {out : Int32} (t_r0 : hpT h r0 = (1, 10))  (hf : f_X10_thrown  h r0 = some out) : Mt G l yX10_thrown cX10_thrown 1 (some .int) rm_X10_thrown [.ref (G.2.2 + r0)] h (some (.int out)) h 0 0 0 := by
  refine r_met (by decide +kernel) (Nat.le_of_ble_eq_true rfl) ?_
  intro p e s m args below meth c ls C hr hlk hnm hR hS hl
  have hl : lv_has ls 1 [(0, .ref (G.2.2 + r0))] := hl
  rw [f_X10_thrown] at hf
  refine lv_aload_n C.x C.b dX10_thrown_0 rfl (lv_at hl 0 rfl) ?_
  refine r_geti C hR t_r0 fl_X10_103 rfl dX10_thrown_1 ?_
  have hf := so_e hf
  subst hf
  exact r_iret C hr hlk hR Ext.rf hS dX10_thrown_4

def rm_X10_refuse : Room := { frames := 0, cells := 0, slots := 0, locals := 0 }
set_option maxRecDepth 100000 in
set_option maxHeartbeats 4000000 in
theorem k_X10_refuse {G : Gt} {l : Launch}  {h : Hp} {r0 : Nat} {out : (Int32 × Hp)} (t_r0 : hpT h r0 = (1, 10))  (hf : f_X10_refuse  h r0 = some out) : Mt G l yX10_refuse cX10_refuse 1 (some .int) rm_X10_refuse [.ref (G.2.2 + r0)] h (some (.int out.1)) out.2 0 0 0 := by
  refine r_met (by decide +kernel) (Nat.le_of_ble_eq_true rfl) ?_
  intro p e s m args below meth c ls C hr hlk hnm hR hS hl
  have hE : Ext h h := Ext.rf
  have hl : lv_has ls 1 [(0, .ref (G.2.2 + r0))] := hl
  rw [f_X10_refuse] at hf
  refine lv_aload_n C.x C.b dX10_refuse_0 rfl (lv_at hl 0 rfl) ?_
  refine lv_iconst (v := (1 : Int32)) C.x C.b dX10_refuse_1 (by decide) ?_
  refine r_puti C hR hS t_r0 fl_X10_103 fp_X10_10_0 rfl dX10_refuse_2 (fun H locs hR hS => ?_)
  obtain ⟨h1, e_h1⟩ : ∃ y, y = upI h r0 0 (1 : Int32) := ⟨_, rfl⟩
  rw [← e_h1] at hR
  have hf := lt_e hf e_h1
  have hE := eI e_h1 hE
  have t_r0 := tI e_h1 t_r0
  refine lv_iconst (v := (0 : Int32)) C.x C.b dX10_refuse_5 (by decide) ?_
  have hf := so_e hf
  subst hf
  exact r_iret C hr hlk hR hE hS dX10_refuse_6

def rm_X10_in : Room := { frames := 0, cells := 0, slots := 0, locals := 0 }
set_option maxRecDepth 100000 in
set_option maxHeartbeats 4000000 in
theorem k_X10_in {G : Gt} {l : Launch}  {h : Hp} {y0 : Int64} {y2 : Int64} {y4 : Int64} {out : Int32}   (hf : f_X10_in  h y0 y2 y4 = some out) : Mt G l yX10_in cX10_in 6 (some .boolean) rm_X10_in [.long y0, .long y2, .long y4] h (some (.int out)) h 1 0 0 := by
  refine r_met (by decide +kernel) (Nat.le_of_ble_eq_true rfl) ?_
  intro p e s m args below meth c ls C hr hlk hnm hR hS hl
  have hl : lv_has ls 6 [(0, .long y0), (2, .long y2), (4, .long y4)] := hl
  rw [f_X10_in] at hf
  refine lv_lload_n C.x C.b dX10_in_0 rfl (lv_at hl 0 rfl) ?_
  refine lv_lload_n C.x C.b dX10_in_1 rfl (lv_at hl 1 rfl) ?_
  refine W.lcmp C.x C.b dX10_in_2 ?_
  refine lv_if_lt (tgt := 17) C.x C.b dX10_in_3 (by decide) (fun c1 => ?_) (fun c1 => ?_)
  · have hf := it_t hf c1
    refine lv_iconst (v := (0 : Int32)) C.x C.b dX10_in_17 (by decide) ?_
    have hf := so_e hf
    subst hf
    exact r_zret C hr hlk hR Ext.rf hS z_0 dX10_in_18
  · have hf := it_f hf c1
    refine lv_lload_n C.x C.b dX10_in_6 rfl (lv_at hl 0 rfl) ?_
    refine lv_lload C.x C.b dX10_in_7 (lv_at hl 2 rfl) ?_
    refine W.lcmp C.x C.b dX10_in_9 ?_
    refine lv_if_gt (tgt := 17) C.x C.b dX10_in_10 (by decide) (fun c2 => ?_) (fun c2 => ?_)
    · have hf := it_t hf c2
      refine lv_iconst (v := (0 : Int32)) C.x C.b dX10_in_17 (by decide) ?_
      have hf := so_e hf
      subst hf
      exact r_zret C hr hlk hR Ext.rf hS z_0 dX10_in_18
    · have hf := it_f hf c2
      refine lv_iconst (v := (1 : Int32)) C.x C.b dX10_in_13 (by decide) ?_
      refine lv_goto (tgt := 18) C.x C.b dX10_in_14 (by decide) ?_
      have hf := so_e hf
      subst hf
      exact r_zret C hr hlk hR Ext.rf hS z_1 dX10_in_18

def rm_X10_has : Room := { frames := 0, cells := 0, slots := 0, locals := 0 }
set_option maxRecDepth 100000 in
set_option maxHeartbeats 4000000 in
theorem k_X10_has {G : Gt} {l : Launch}  {h : Hp} {y0 : Int64} {x2 : Int32} {out : Int32}   (hf : f_X10_has  h y0 x2 = some out) : Mt G l yX10_has cX10_has 3 (some .boolean) rm_X10_has [.long y0, .int x2] h (some (.int out)) h 1 0 0 := by
  refine r_met (by decide +kernel) (Nat.le_of_ble_eq_true rfl) ?_
  intro p e s m args below meth c ls C hr hlk hnm hR hS hl
  have hl : lv_has ls 3 [(0, .long y0), (2, .int x2)] := hl
  rw [f_X10_has] at hf
  refine lv_lload_n C.x C.b dX10_has_0 rfl (lv_at hl 0 rfl) ?_
  refine lv_iload_n C.x C.b dX10_has_1 rfl (lv_at hl 1 rfl) ?_
  refine lv_lshr C.x C.b dX10_has_2 rfl ?_
  refine lv_topl (fun v1 e_v1 => ?_)
  have hf := lt_e hf e_v1
  refine lv_lconst (v := (1 : Int64)) C.x C.b dX10_has_3 (by decide) ?_
  refine lv_land C.x C.b dX10_has_4 ?_
  refine lv_lconst (v := (1 : Int64)) C.x C.b dX10_has_5 (by decide) ?_
  refine W.lcmp C.x C.b dX10_has_6 ?_
  refine lv_if_ne (tgt := 14) C.x C.b dX10_has_7 (by decide) (fun c2 => ?_) (fun c2 => ?_)
  · have hf := it_f hf c2
    refine lv_iconst (v := (0 : Int32)) C.x C.b dX10_has_14 (by decide) ?_
    have hf := so_e hf
    subst hf
    exact r_zret C hr hlk hR Ext.rf hS z_0 dX10_has_15
  · have hf := it_t hf c2
    refine lv_iconst (v := (1 : Int32)) C.x C.b dX10_has_10 (by decide) ?_
    refine lv_goto (tgt := 15) C.x C.b dX10_has_11 (by decide) ?_
    have hf := so_e hf
    subst hf
    exact r_zret C hr hlk hR Ext.rf hS z_1 dX10_has_15

def rm_X10_flag : Room := { frames := 0, cells := 0, slots := 0, locals := 0 }
set_option maxRecDepth 100000 in
set_option maxHeartbeats 4000000 in
theorem k_X10_flag {G : Gt} {l : Launch}  {h : Hp} {x0 : Int32} {out : Int32}   (hf : f_X10_flag  h x0 = some out) : Mt G l yX10_flag cX10_flag 1 (some .int) rm_X10_flag [.int x0] h (some (.int out)) h 0 0 0 := by
  refine r_met (by decide +kernel) (Nat.le_of_ble_eq_true rfl) ?_
  intro p e s m args below meth c ls C hr hlk hnm hR hS hl
  have hl : lv_has ls 1 [(0, .int x0)] := hl
  rw [f_X10_flag] at hf
  refine lv_iload_n C.x C.b dX10_flag_0 rfl (lv_at hl 0 rfl) ?_
  refine lv_if_eq (tgt := 8) C.x C.b dX10_flag_1 (by decide) (fun c1 => ?_) (fun c1 => ?_)
  · have hf := it_t hf c1
    refine lv_iconst (v := (0 : Int32)) C.x C.b dX10_flag_8 (by decide) ?_
    have hf := so_e hf
    subst hf
    exact r_iret C hr hlk hR Ext.rf hS dX10_flag_9
  · have hf := it_f hf c1
    refine lv_iconst (v := (1 : Int32)) C.x C.b dX10_flag_4 (by decide) ?_
    refine lv_goto (tgt := 9) C.x C.b dX10_flag_5 (by decide) ?_
    have hf := so_e hf
    subst hf
    exact r_iret C hr hlk hR Ext.rf hS dX10_flag_9

def rmS_C (d : Nat) : Room := { frames := 1 + d, cells := 0, slots := 0, locals := 1 + d * 23 }
set_option maxRecDepth 100000 in
set_option maxHeartbeats 4000000 in
theorem ko_X10_common {G : Gt} {l : Launch} {d : Nat} {E_X10_common : Hp → Int64 → Int64 → Option Int64} (hE_X10_common : ∀ {h : Hp} {y0 : Int64} {y2 : Int64} {out : Int64}, E_X10_common h y0 y2 = some out → Mt G l yX10_common cX10_common 4 (some .long) (rmS_C d) [.long y0, .long y2] h (some (.long out)) h 0 0 0) {h : Hp} {y0 : Int64} {y2 : Int64} {out : Int64}   (hf : fo_X10_common E_X10_common h y0 y2 = some out) : Mt G l yX10_common cX10_common 4 (some .long) (rmS_C (d + 1)) [.long y0, .long y2] h (some (.long out)) h 0 0 0 := by
  refine r_met (by decide +kernel) (Nat.le_of_ble_eq_true rfl) ?_
  intro p e s m args below meth c ls C hr hlk hnm hR hS hl
  have hl : lv_has ls 4 [(0, .long y0), (2, .long y2)] := hl
  rw [fo_X10_common] at hf
  refine lv_lload_n C.x C.b dX10_common_0 rfl (lv_at hl 1 rfl) ?_
  refine lv_lconst (v := (0 : Int64)) C.x C.b dX10_common_1 (by decide) ?_
  refine W.lcmp C.x C.b dX10_common_2 ?_
  refine lv_if_ne (tgt := 10) C.x C.b dX10_common_3 (by decide) (fun c1 => ?_) (fun c1 => ?_)
  · have hf := it_f hf c1
    refine lv_lload_n C.x C.b dX10_common_10 rfl (lv_at hl 1 rfl) ?_
    refine lv_lload_n C.x C.b dX10_common_11 rfl (lv_at hl 0 rfl) ?_
    refine lv_lload_n C.x C.b dX10_common_12 rfl (lv_at hl 1 rfl) ?_
    obtain ⟨g2, hf⟩ := gd_e hf
    refine lv_lrem C.x C.b dX10_common_13 (nz64_e g2) ?_
    refine lv_topl (fun v3 e_v3 => ?_)
    have hf := lt_e hf e_v3
    obtain ⟨q4, h_q4, hf⟩ := bd_e hf
    refine r_callS (As := [.long y2, .long v3]) (rest := []) C hR hS mk_X10_common cl_X10_106 (hE_X10_common h_q4) ⟨⟨by simp only [rmS_C, rmS_C] <;> omega, by simp only [rmS_C, rmS_C] <;> omega⟩, ⟨rfl, rfl⟩, by simp only [rmS_C] <;> omega, by simp only [rmS_C] <;> omega⟩ rfl hl.1 rfl (Nat.le_of_ble_eq_true rfl) dX10_common_14 (fun H locs hR hS hE1 z_q4 => ?_)
    have hf := so_e hf
    subst hf
    exact r_lret C hr hlk hR Ext.rf hS dX10_common_17
  · have hf := it_t hf c1
    refine lv_lload_n C.x C.b dX10_common_6 rfl (lv_at hl 0 rfl) ?_
    refine lv_goto (tgt := 17) C.x C.b dX10_common_7 (by decide) ?_
    have hf := so_e hf
    subst hf
    exact r_lret C hr hlk hR Ext.rf hS dX10_common_17

set_option maxRecDepth 100000 in
theorem kx_C {G : Gt} {l : Launch} (d : Nat) : (∀ {h : Hp} {y0 : Int64} {y2 : Int64} {out : Int64}, (fx_C d) h y0 y2 = some out → Mt G l yX10_common cX10_common 4 (some .long) (rmS_C d) [.long y0, .long y2] h (some (.long out)) h 0 0 0) := by
  induction d with
  | zero => exact fun hf => (by cases hf)
  | succ d ih => exact fun hf => ko_X10_common ih hf
def rm_X10_common : Room := { frames := 71, cells := 0, slots := 0, locals := 1611 }
theorem k_X10_common {G : Gt} {l : Launch} : (∀ {h : Hp} {y0 : Int64} {y2 : Int64} {out : Int64}, f_X10_common h y0 y2 = some out → Mt G l yX10_common cX10_common 4 (some .long) rm_X10_common [.long y0, .long y2] h (some (.long out)) h 0 0 0) := fun hf => (kx_C 70) hf

def rm_X10_enters : Room := { frames := 0, cells := 0, slots := 0, locals := 0 }
set_option maxRecDepth 100000 in
set_option maxHeartbeats 4000000 in
theorem k_X10_enters {G : Gt} {l : Launch}  {h : Hp} {r0 : Nat} {y1 : Int64} {out : Hp} (t_r0 : hpT h r0 = (1, 10))  (hf : f_X10_enters  h r0 y1 = some out) : Mt G l yX10_enters cX10_enters 3 (none) rm_X10_enters [.ref (G.2.2 + r0), .long y1] h (none) out 0 0 0 := by
  refine r_met (by decide +kernel) (Nat.le_of_ble_eq_true rfl) ?_
  intro p e s m args below meth c ls C hr hlk hnm hR hS hl
  have hE : Ext h h := Ext.rf
  have hl : lv_has ls 3 [(0, .ref (G.2.2 + r0)), (1, .long y1)] := hl
  rw [f_X10_enters] at hf
  refine lv_aload_n C.x C.b dX10_enters_0 rfl (lv_at hl 0 rfl) ?_
  obtain ⟨g1, hf⟩ := gd_e hf
  refine r_getr C hR t_r0 fl_X10_9 (by decide) (nz_e g1) dX10_enters_1 (fun tq2 => ?_)
  have tg1 := okA tq2 rfl
  refine lv_aload_n C.x C.b dX10_enters_4 rfl (lv_at hl 0 rfl) ?_
  refine r_geti C hR t_r0 fl_X10_110 rfl dX10_enters_5 ?_
  refine lv_lload_n C.x C.b dX10_enters_8 rfl (lv_at hl 1 rfl) ?_
  obtain ⟨g3, hf⟩ := gd_e hf
  refine r_last C hR hS tg1 g3 dX10_enters_9 (fun H locs hR hS => ?_)
  obtain ⟨h4, e_h4⟩ : ∃ y, y = upL h (hpR h r0 2) (ix (hpI h r0 1)) y1 := ⟨_, rfl⟩
  rw [← e_h4] at hR
  have hf := lt_e hf e_h4
  have hE := eL e_h4 hE
  have t_r0 := tL e_h4 t_r0
  refine lv_aload_n C.x C.b dX10_enters_10 rfl (lv_at hl 0 rfl) ?_
  refine lv_dup C.x C.b dX10_enters_11 rfl ?_
  refine r_geti C hR t_r0 fl_X10_110 rfl dX10_enters_12 ?_
  refine lv_iconst (v := (1 : Int32)) C.x C.b dX10_enters_15 (by decide) ?_
  refine lv_iadd C.x C.b dX10_enters_16 ?_
  refine r_puti C hR hS t_r0 fl_X10_110 fp_X10_10_1 rfl dX10_enters_17 (fun H locs hR hS => ?_)
  obtain ⟨h5, e_h5⟩ : ∃ y, y = upI h4 r0 1 ((hpI h4 r0 1) + (1 : Int32)) := ⟨_, rfl⟩
  rw [← e_h5] at hR
  have hf := lt_e hf e_h5
  have hE := eI e_h5 hE
  have t_r0 := tI e_h5 t_r0
  have hf := so_e hf
  subst hf
  exact r_vret C hr hlk hR hE hS dX10_enters_20

def rm_X10_cells : Room := { frames := 0, cells := 0, slots := 0, locals := 0 }
set_option maxRecDepth 100000 in
set_option maxHeartbeats 4000000 in
theorem k_X10_cells {G : Gt} {l : Launch}  {h : Hp} {r0 : Nat} {out : Int32} (t_r0 : hpT h r0 = (1, 10))  (hf : f_X10_cells  h r0 = some out) : Mt G l yX10_cells cX10_cells 1 (some .int) rm_X10_cells [.ref (G.2.2 + r0)] h (some (.int out)) h 0 0 0 := by
  refine r_met (by decide +kernel) (Nat.le_of_ble_eq_true rfl) ?_
  intro p e s m args below meth c ls C hr hlk hnm hR hS hl
  have hl : lv_has ls 1 [(0, .ref (G.2.2 + r0))] := hl
  rw [f_X10_cells] at hf
  refine lv_aload_n C.x C.b dX10_cells_0 rfl (lv_at hl 0 rfl) ?_
  refine r_geti C hR t_r0 fl_X10_13 rfl dX10_cells_1 ?_
  refine lv_aload_n C.x C.b dX10_cells_4 rfl (lv_at hl 0 rfl) ?_
  refine r_geti C hR t_r0 fl_X10_17 rfl dX10_cells_5 ?_
  refine lv_imul C.x C.b dX10_cells_8 ?_
  have hf := so_e hf
  subst hf
  exact r_iret C hr hlk hR Ext.rf hS dX10_cells_9

def rm_X10_isCell : Room := { frames := 1, cells := 0, slots := 0, locals := 25 }
set_option maxRecDepth 100000 in
set_option maxHeartbeats 4000000 in
theorem k_X10_isCell {G : Gt} {l : Launch}  {h : Hp} {r0 : Nat} {x1 : Int32} {out : Int32} (t_r0 : hpT h r0 = (1, 10))  (hf : f_X10_isCell  h r0 x1 = some out) : Mt G l yX10_isCell cX10_isCell 2 (some .boolean) rm_X10_isCell [.ref (G.2.2 + r0), .int x1] h (some (.int out)) h 1 0 0 := by
  refine r_met (by decide +kernel) (Nat.le_of_ble_eq_true rfl) ?_
  intro p e s m args below meth c ls C hr hlk hnm hR hS hl
  have hl : lv_has ls 2 [(0, .ref (G.2.2 + r0)), (1, .int x1)] := hl
  rw [f_X10_isCell] at hf
  refine lv_iload_n C.x C.b dX10_isCell_0 rfl (lv_at hl 1 rfl) ?_
  refine lv_i2l C.x C.b dX10_isCell_1 rfl ?_
  refine lv_lconst (v := (0 : Int64)) C.x C.b dX10_isCell_2 (by decide) ?_
  refine lv_aload_n C.x C.b dX10_isCell_3 rfl (lv_at hl 0 rfl) ?_
  obtain ⟨q1, h_q1, hf⟩ := bd_e hf
  refine r_callV (As := []) (rest := [.long (0 : Int64), .long (x1.toInt64)]) C hR hS t_r0 rfl mk_X10_cells cl_X10_113 (k_X10_cells t_r0 h_q1) ⟨⟨Nat.le_of_ble_eq_true rfl, Nat.le_of_ble_eq_true rfl⟩, ⟨rfl, rfl⟩, Nat.le_of_ble_eq_true rfl, Nat.le_of_ble_eq_true rfl⟩ rfl hl.1 rfl (Nat.le_of_ble_eq_true rfl) dX10_isCell_4 (fun H locs hR hS hE1 z_q1 => ?_)
  refine lv_iconst (v := (1 : Int32)) C.x C.b dX10_isCell_7 (by decide) ?_
  refine lv_isub C.x C.b dX10_isCell_8 ?_
  refine lv_i2l C.x C.b dX10_isCell_9 rfl ?_
  obtain ⟨q2, h_q2, hf⟩ := bd_e hf
  refine r_callS (As := [.long (x1.toInt64), .long (0 : Int64), .long ((q1 - (1 : Int32)).toInt64)]) (rest := []) C hR hS mk_X10_in cl_X10_117 (k_X10_in h_q2) ⟨⟨Nat.le_of_ble_eq_true rfl, Nat.le_of_ble_eq_true rfl⟩, ⟨rfl, rfl⟩, Nat.le_of_ble_eq_true rfl, Nat.le_of_ble_eq_true rfl⟩ rfl hl.1 rfl (Nat.le_of_ble_eq_true rfl) dX10_isCell_10 (fun H locs hR hS hE1 z_q2 => ?_)
  have z_q2 := z_q2 _ rfl
  have hf := so_e hf
  subst hf
  exact r_zret C hr hlk hR Ext.rf hS z_q2 dX10_isCell_13

def rm_X10_isCamp : Room := { frames := 1, cells := 0, slots := 0, locals := 25 }
set_option maxRecDepth 100000 in
set_option maxHeartbeats 4000000 in
theorem k_X10_isCamp {G : Gt} {l : Launch}  {h : Hp} {r0 : Nat} {x1 : Int32} {out : Int32} (t_r0 : hpT h r0 = (1, 10))  (hf : f_X10_isCamp  h r0 x1 = some out) : Mt G l yX10_isCamp cX10_isCamp 2 (some .boolean) rm_X10_isCamp [.ref (G.2.2 + r0), .int x1] h (some (.int out)) h 1 0 0 := by
  refine r_met (by decide +kernel) (Nat.le_of_ble_eq_true rfl) ?_
  intro p e s m args below meth c ls C hr hlk hnm hR hS hl
  have hl : lv_has ls 2 [(0, .ref (G.2.2 + r0)), (1, .int x1)] := hl
  rw [f_X10_isCamp] at hf
  refine lv_iload_n C.x C.b dX10_isCamp_0 rfl (lv_at hl 1 rfl) ?_
  refine lv_i2l C.x C.b dX10_isCamp_1 rfl ?_
  refine lv_lconst (v := (0 : Int64)) C.x C.b dX10_isCamp_2 (by decide) ?_
  refine lv_aload_n C.x C.b dX10_isCamp_3 rfl (lv_at hl 0 rfl) ?_
  obtain ⟨g1, hf⟩ := gd_e hf
  refine r_getr C hR t_r0 fl_X10_20 (by decide) (nz_e g1) dX10_isCamp_4 (fun tq2 => ?_)
  have tg1 := okA tq2 rfl
  refine lv_bipush (v := (48 : Int32)) C.x C.b dX10_isCamp_7 (by decide) ?_
  obtain ⟨g3, hf⟩ := gd_e hf
  refine r_iald C hR tg1 g3 dX10_isCamp_9 ?_
  refine lv_iconst (v := (1 : Int32)) C.x C.b dX10_isCamp_10 (by decide) ?_
  refine lv_isub C.x C.b dX10_isCamp_11 ?_
  refine lv_i2l C.x C.b dX10_isCamp_12 rfl ?_
  obtain ⟨q4, h_q4, hf⟩ := bd_e hf
  refine r_callS (As := [.long (x1.toInt64), .long (0 : Int64), .long (((hpI h (hpR h r0 6) (ix (48 : Int32))) - (1 : Int32)).toInt64)]) (rest := []) C hR hS mk_X10_in cl_X10_117 (k_X10_in h_q4) ⟨⟨Nat.le_of_ble_eq_true rfl, Nat.le_of_ble_eq_true rfl⟩, ⟨rfl, rfl⟩, Nat.le_of_ble_eq_true rfl, Nat.le_of_ble_eq_true rfl⟩ rfl hl.1 rfl (Nat.le_of_ble_eq_true rfl) dX10_isCamp_13 (fun H locs hR hS hE1 z_q4 => ?_)
  have z_q4 := z_q4 _ rfl
  have hf := so_e hf
  subst hf
  exact r_zret C hr hlk hR Ext.rf hS z_q4 dX10_isCamp_16

def rm_X10_isOn : Room := { frames := 0, cells := 0, slots := 0, locals := 0 }
set_option maxRecDepth 100000 in
set_option maxHeartbeats 4000000 in
theorem k_X10_isOn {G : Gt} {l : Launch}  {h : Hp} {r0 : Nat} {x1 : Int32} {out : Int32} (t_r0 : (hpT h r0).1 = 2)  (hf : f_X10_isOn  h r0 x1 = some out) : Mt G l yX10_isOn cX10_isOn 2 (some .boolean) rm_X10_isOn [.ref (G.2.2 + r0), .int x1] h (some (.int out)) h 1 0 0 := by
  refine r_met (by decide +kernel) (Nat.le_of_ble_eq_true rfl) ?_
  intro p e s m args below meth c ls C hr hlk hnm hR hS hl
  have hl : lv_has ls 2 [(0, .ref (G.2.2 + r0)), (1, .int x1)] := hl
  rw [f_X10_isOn] at hf
  refine lv_iload_n C.x C.b dX10_isOn_0 rfl (lv_at hl 1 rfl) ?_
  refine lv_aload_n C.x C.b dX10_isOn_1 rfl (lv_at hl 0 rfl) ?_
  refine lv_bipush (v := (48 : Int32)) C.x C.b dX10_isOn_2 (by decide) ?_
  obtain ⟨g1, hf⟩ := gd_e hf
  refine r_iald C hR t_r0 g1 dX10_isOn_4 ?_
  refine lv_icmp_ge (tgt := 21) C.x C.b dX10_isOn_5 (by decide) (fun c2 => ?_) (fun c2 => ?_)
  · have hf := it_t hf c2
    refine lv_iconst (v := (0 : Int32)) C.x C.b dX10_isOn_21 (by decide) ?_
    have hf := so_e hf
    subst hf
    exact r_zret C hr hlk hR Ext.rf hS z_0 dX10_isOn_22
  · have hf := it_f hf c2
    refine lv_aload_n C.x C.b dX10_isOn_8 rfl (lv_at hl 0 rfl) ?_
    refine lv_bipush (v := (24 : Int32)) C.x C.b dX10_isOn_9 (by decide) ?_
    refine lv_iload_n C.x C.b dX10_isOn_11 rfl (lv_at hl 1 rfl) ?_
    refine lv_iadd C.x C.b dX10_isOn_12 ?_
    obtain ⟨g3, hf⟩ := gd_e hf
    refine r_iald C hR t_r0 g3 dX10_isOn_13 ?_
    refine lv_if_le (tgt := 21) C.x C.b dX10_isOn_14 (by decide) (fun c4 => ?_) (fun c4 => ?_)
    · have hf := it_t hf c4
      refine lv_iconst (v := (0 : Int32)) C.x C.b dX10_isOn_21 (by decide) ?_
      have hf := so_e hf
      subst hf
      exact r_zret C hr hlk hR Ext.rf hS z_0 dX10_isOn_22
    · have hf := it_f hf c4
      refine lv_iconst (v := (1 : Int32)) C.x C.b dX10_isOn_17 (by decide) ?_
      refine lv_goto (tgt := 22) C.x C.b dX10_isOn_18 (by decide) ?_
      have hf := so_e hf
      subst hf
      exact r_zret C hr hlk hR Ext.rf hS z_1 dX10_isOn_22

def rm_X10_isIn : Room := { frames := 0, cells := 0, slots := 0, locals := 0 }
set_option maxRecDepth 100000 in
set_option maxHeartbeats 4000000 in
theorem k_X10_isIn {G : Gt} {l : Launch}  {h : Hp} {r0 : Nat} {x1 : Int32} {x2 : Int32} {x3 : Int32} {out : Int32} (t_r0 : hpT h r0 = (1, 10))  (hf : f_X10_isIn  h r0 x1 x2 x3 = some out) : Mt G l yX10_isIn cX10_isIn 4 (some .boolean) rm_X10_isIn [.ref (G.2.2 + r0), .int x1, .int x2, .int x3] h (some (.int out)) h 1 0 0 := by
  refine r_met (by decide +kernel) (Nat.le_of_ble_eq_true rfl) ?_
  intro p e s m args below meth c ls C hr hlk hnm hR hS hl
  have hl : lv_has ls 4 [(0, .ref (G.2.2 + r0)), (1, .int x1), (2, .int x2), (3, .int x3)] := hl
  rw [f_X10_isIn] at hf
  refine lv_iload_n C.x C.b dX10_isIn_0 rfl (lv_at hl 1 rfl) ?_
  refine lv_aload_n C.x C.b dX10_isIn_1 rfl (lv_at hl 0 rfl) ?_
  refine r_geti C hR t_r0 fl_X10_17 rfl dX10_isIn_2 ?_
  obtain ⟨g1, hf⟩ := gd_e hf
  refine lv_idiv C.x C.b dX10_isIn_5 (nz32_e g1) ?_
  refine lv_iload_n C.x C.b dX10_isIn_6 rfl (lv_at hl 2 rfl) ?_
  refine lv_iadd C.x C.b dX10_isIn_7 ?_
  refine lv_aload_n C.x C.b dX10_isIn_8 rfl (lv_at hl 0 rfl) ?_
  refine r_geti C hR t_r0 fl_X10_13 rfl dX10_isIn_9 ?_
  refine lv_icmp_gt (tgt := 34) C.x C.b dX10_isIn_12 (by decide) (fun c2 => ?_) (fun c2 => ?_)
  · have hf := it_t hf c2
    refine lv_iconst (v := (0 : Int32)) C.x C.b dX10_isIn_34 (by decide) ?_
    have hf := so_e hf
    subst hf
    exact r_zret C hr hlk hR Ext.rf hS z_0 dX10_isIn_35
  · have hf := it_f hf c2
    refine lv_iload_n C.x C.b dX10_isIn_15 rfl (lv_at hl 1 rfl) ?_
    refine lv_aload_n C.x C.b dX10_isIn_16 rfl (lv_at hl 0 rfl) ?_
    refine r_geti C hR t_r0 fl_X10_17 rfl dX10_isIn_17 ?_
    obtain ⟨g3, hf⟩ := gd_e hf
    refine lv_irem C.x C.b dX10_isIn_20 (nz32_e g3) ?_
    refine lv_topi (fun v4 e_v4 => ?_)
    have hf := lt_e hf e_v4
    refine lv_iload_n C.x C.b dX10_isIn_21 rfl (lv_at hl 3 rfl) ?_
    refine lv_iadd C.x C.b dX10_isIn_22 ?_
    refine lv_aload_n C.x C.b dX10_isIn_23 rfl (lv_at hl 0 rfl) ?_
    refine r_geti C hR t_r0 fl_X10_17 rfl dX10_isIn_24 ?_
    refine lv_icmp_gt (tgt := 34) C.x C.b dX10_isIn_27 (by decide) (fun c5 => ?_) (fun c5 => ?_)
    · have hf := it_t hf c5
      refine lv_iconst (v := (0 : Int32)) C.x C.b dX10_isIn_34 (by decide) ?_
      have hf := so_e hf
      subst hf
      exact r_zret C hr hlk hR Ext.rf hS z_0 dX10_isIn_35
    · have hf := it_f hf c5
      refine lv_iconst (v := (1 : Int32)) C.x C.b dX10_isIn_30 (by decide) ?_
      refine lv_goto (tgt := 35) C.x C.b dX10_isIn_31 (by decide) ?_
      have hf := so_e hf
      subst hf
      exact r_zret C hr hlk hR Ext.rf hS z_1 dX10_isIn_35

def rm_X10_isOver : Room := { frames := 1, cells := 0, slots := 0, locals := 25 }
set_option maxRecDepth 100000 in
set_option maxHeartbeats 4000000 in
theorem k_X10_isOver {G : Gt} {l : Launch}  {h : Hp} {r0 : Nat} {x1 : Int32} {x2 : Int32} {x3 : Int32} {x4 : Int32} {out : Int32} (t_r0 : hpT h r0 = (1, 10))  (hf : f_X10_isOver  h r0 x1 x2 x3 x4 = some out) : Mt G l yX10_isOver cX10_isOver 7 (some .boolean) rm_X10_isOver [.ref (G.2.2 + r0), .int x1, .int x2, .int x3, .int x4] h (some (.int out)) h 1 0 0 := by
  refine r_met (by decide +kernel) (Nat.le_of_ble_eq_true rfl) ?_
  intro p e s m args below meth c ls C hr hlk hnm hR hS hl
  have hl : lv_has ls 7 [(0, .ref (G.2.2 + r0)), (1, .int x1), (2, .int x2), (3, .int x3), (4, .int x4)] := hl
  rw [f_X10_isOver] at hf
  refine lv_iload C.x C.b dX10_isOver_0 (lv_at hl 4 rfl) ?_
  refine lv_aload_n C.x C.b dX10_isOver_2 rfl (lv_at hl 0 rfl) ?_
  refine r_geti C hR t_r0 fl_X10_17 rfl dX10_isOver_3 ?_
  obtain ⟨g1, hf⟩ := gd_e hf
  refine lv_idiv C.x C.b dX10_isOver_6 (nz32_e g1) ?_
  refine lv_iload_n C.x C.b dX10_isOver_7 rfl (lv_at hl 1 rfl) ?_
  refine lv_aload_n C.x C.b dX10_isOver_8 rfl (lv_at hl 0 rfl) ?_
  refine r_geti C hR t_r0 fl_X10_17 rfl dX10_isOver_9 ?_
  obtain ⟨g2, hf⟩ := gd_e hf
  refine lv_idiv C.x C.b dX10_isOver_12 (nz32_e g2) ?_
  refine lv_isub C.x C.b dX10_isOver_13 ?_
  refine lv_topi (fun v3 e_v3 => ?_)
  have hf := lt_e hf e_v3
  refine lv_istore (lv' := [(5, .int v3), (0, .ref (G.2.2 + r0)), (1, .int x1), (2, .int x2), (3, .int x3), (4, .int x4)]) C.x C.b dX10_isOver_14 hl (by decide) rfl (fun ls hl => ?_)
  refine lv_iload C.x C.b dX10_isOver_16 (lv_at hl 5 rfl) ?_
  refine lv_aload_n C.x C.b dX10_isOver_18 rfl (lv_at hl 1 rfl) ?_
  refine r_geti C hR t_r0 fl_X10_17 rfl dX10_isOver_19 ?_
  obtain ⟨g4, hf⟩ := gd_e hf
  refine lv_irem C.x C.b dX10_isOver_22 (nz32_e g4) ?_
  refine lv_topi (fun v5 e_v5 => ?_)
  have hf := lt_e hf e_v5
  refine lv_iload_n C.x C.b dX10_isOver_23 rfl (lv_at hl 2 rfl) ?_
  refine lv_aload_n C.x C.b dX10_isOver_24 rfl (lv_at hl 1 rfl) ?_
  refine r_geti C hR t_r0 fl_X10_17 rfl dX10_isOver_25 ?_
  obtain ⟨g6, hf⟩ := gd_e hf
  refine lv_irem C.x C.b dX10_isOver_28 (nz32_e g6) ?_
  refine lv_topi (fun v7 e_v7 => ?_)
  have hf := lt_e hf e_v7
  refine lv_isub C.x C.b dX10_isOver_29 ?_
  refine lv_topi (fun v8 e_v8 => ?_)
  have hf := lt_e hf e_v8
  refine lv_istore (lv' := [(6, .int v8), (5, .int v3), (0, .ref (G.2.2 + r0)), (1, .int x1), (2, .int x2), (3, .int x3), (4, .int x4)]) C.x C.b dX10_isOver_30 hl (by decide) rfl (fun ls hl => ?_)
  refine lv_iload C.x C.b dX10_isOver_32 (lv_at hl 1 rfl) ?_
  refine lv_i2l C.x C.b dX10_isOver_34 rfl ?_
  refine lv_lconst (v := (0 : Int64)) C.x C.b dX10_isOver_35 (by decide) ?_
  refine lv_iload_n C.x C.b dX10_isOver_36 rfl (lv_at hl 4 rfl) ?_
  refine lv_iconst (v := (1 : Int32)) C.x C.b dX10_isOver_37 (by decide) ?_
  refine lv_isub C.x C.b dX10_isOver_38 ?_
  refine lv_i2l C.x C.b dX10_isOver_39 rfl ?_
  obtain ⟨q9, h_q9, hf⟩ := bd_e hf
  refine r_callS (As := [.long (v3.toInt64), .long (0 : Int64), .long ((x2 - (1 : Int32)).toInt64)]) (rest := []) C hR hS mk_X10_in cl_X10_117 (k_X10_in h_q9) ⟨⟨Nat.le_of_ble_eq_true rfl, Nat.le_of_ble_eq_true rfl⟩, ⟨rfl, rfl⟩, Nat.le_of_ble_eq_true rfl, Nat.le_of_ble_eq_true rfl⟩ rfl hl.1 rfl (Nat.le_of_ble_eq_true rfl) dX10_isOver_40 (fun H locs hR hS hE1 z_q9 => ?_)
  have z_q9 := z_q9 _ rfl
  refine lv_if_eq (tgt := 64) C.x C.b dX10_isOver_43 (by decide) (fun c10 => ?_) (fun c10 => ?_)
  · have hf := it_t hf c10
    refine lv_iconst (v := (0 : Int32)) C.x C.b dX10_isOver_64 (by decide) ?_
    have hf := so_e hf
    subst hf
    exact r_zret C hr hlk hR Ext.rf hS z_0 dX10_isOver_65
  · have hf := it_f hf c10
    refine lv_iload C.x C.b dX10_isOver_46 (lv_at hl 0 rfl) ?_
    refine lv_i2l C.x C.b dX10_isOver_48 rfl ?_
    refine lv_lconst (v := (0 : Int64)) C.x C.b dX10_isOver_49 (by decide) ?_
    refine lv_iload_n C.x C.b dX10_isOver_50 rfl (lv_at hl 5 rfl) ?_
    refine lv_iconst (v := (1 : Int32)) C.x C.b dX10_isOver_51 (by decide) ?_
    refine lv_isub C.x C.b dX10_isOver_52 ?_
    refine lv_i2l C.x C.b dX10_isOver_53 rfl ?_
    obtain ⟨q11, h_q11, hf⟩ := bd_e hf
    refine r_callS (As := [.long (v8.toInt64), .long (0 : Int64), .long ((x3 - (1 : Int32)).toInt64)]) (rest := []) C hR hS mk_X10_in cl_X10_117 (k_X10_in h_q11) ⟨⟨Nat.le_of_ble_eq_true rfl, Nat.le_of_ble_eq_true rfl⟩, ⟨rfl, rfl⟩, Nat.le_of_ble_eq_true rfl, Nat.le_of_ble_eq_true rfl⟩ rfl hl.1 rfl (Nat.le_of_ble_eq_true rfl) dX10_isOver_54 (fun H locs hR hS hE1 z_q11 => ?_)
    have z_q11 := z_q11 _ rfl
    refine lv_if_eq (tgt := 64) C.x C.b dX10_isOver_57 (by decide) (fun c12 => ?_) (fun c12 => ?_)
    · have hf := it_t hf c12
      refine lv_iconst (v := (0 : Int32)) C.x C.b dX10_isOver_64 (by decide) ?_
      have hf := so_e hf
      subst hf
      exact r_zret C hr hlk hR Ext.rf hS z_0 dX10_isOver_65
    · have hf := it_f hf c12
      refine lv_iconst (v := (1 : Int32)) C.x C.b dX10_isOver_60 (by decide) ?_
      refine lv_goto (tgt := 65) C.x C.b dX10_isOver_61 (by decide) ?_
      have hf := so_e hf
      subst hf
      exact r_zret C hr hlk hR Ext.rf hS z_1 dX10_isOver_65

def rm_X10_isLyingOver : Room := { frames := 2, cells := 0, slots := 0, locals := 51 }
set_option maxRecDepth 100000 in
set_option maxHeartbeats 4000000 in
theorem k_X10_isLyingOver {G : Gt} {l : Launch}  {h : Hp} {r0 : Nat} {r1 : Nat} {x2 : Int32} {x3 : Int32} {out : Int32} (t_r0 : hpT h r0 = (1, 10)) (t_r1 : (hpT h r1).1 = 2)  (hf : f_X10_isLyingOver  h r0 r1 x2 x3 = some out) : Mt G l yX10_isLyingOver cX10_isLyingOver 4 (some .boolean) rm_X10_isLyingOver [.ref (G.2.2 + r0), .ref (G.2.2 + r1), .int x2, .int x3] h (some (.int out)) h 1 0 0 := by
  refine r_met (by decide +kernel) (Nat.le_of_ble_eq_true rfl) ?_
  intro p e s m args below meth c ls C hr hlk hnm hR hS hl
  have hl : lv_has ls 4 [(0, .ref (G.2.2 + r0)), (1, .ref (G.2.2 + r1)), (2, .int x2), (3, .int x3)] := hl
  rw [f_X10_isLyingOver] at hf
  refine lv_aload_n C.x C.b dX10_isLyingOver_0 rfl (lv_at hl 0 rfl) ?_
  refine lv_aload_n C.x C.b dX10_isLyingOver_1 rfl (lv_at hl 1 rfl) ?_
  refine lv_iload_n C.x C.b dX10_isLyingOver_2 rfl (lv_at hl 2 rfl) ?_
  obtain ⟨g1, hf⟩ := gd_e hf
  refine r_iald C hR t_r1 g1 dX10_isLyingOver_3 ?_
  refine lv_aload_n C.x C.b dX10_isLyingOver_4 rfl (lv_at hl 1 rfl) ?_
  refine lv_bipush (v := (8 : Int32)) C.x C.b dX10_isLyingOver_5 (by decide) ?_
  refine lv_iload_n C.x C.b dX10_isLyingOver_7 rfl (lv_at hl 2 rfl) ?_
  refine lv_iadd C.x C.b dX10_isLyingOver_8 ?_
  obtain ⟨g2, hf⟩ := gd_e hf
  refine r_iald C hR t_r1 g2 dX10_isLyingOver_9 ?_
  refine lv_aload_n C.x C.b dX10_isLyingOver_10 rfl (lv_at hl 1 rfl) ?_
  refine lv_bipush (v := (16 : Int32)) C.x C.b dX10_isLyingOver_11 (by decide) ?_
  refine lv_iload_n C.x C.b dX10_isLyingOver_13 rfl (lv_at hl 2 rfl) ?_
  refine lv_iadd C.x C.b dX10_isLyingOver_14 ?_
  obtain ⟨g3, hf⟩ := gd_e hf
  refine r_iald C hR t_r1 g3 dX10_isLyingOver_15 ?_
  refine lv_iload_n C.x C.b dX10_isLyingOver_16 rfl (lv_at hl 3 rfl) ?_
  obtain ⟨q4, h_q4, hf⟩ := bd_e hf
  refine r_callV (As := [.int (hpI h r1 (ix x2)), .int (hpI h r1 (ix ((8 : Int32) + x2))), .int (hpI h r1 (ix ((16 : Int32) + x2))), .int x3]) (rest := []) C hR hS t_r0 rfl mk_X10_isOver cl_X10_121 (k_X10_isOver t_r0 h_q4) ⟨⟨Nat.le_of_ble_eq_true rfl, Nat.le_of_ble_eq_true rfl⟩, ⟨rfl, rfl⟩, Nat.le_of_ble_eq_true rfl, Nat.le_of_ble_eq_true rfl⟩ rfl hl.1 rfl (Nat.le_of_ble_eq_true rfl) dX10_isLyingOver_17 (fun H locs hR hS hE1 z_q4 => ?_)
  have z_q4 := z_q4 _ rfl
  have hf := so_e hf
  subst hf
  exact r_zret C hr hlk hR Ext.rf hS z_q4 dX10_isLyingOver_20

