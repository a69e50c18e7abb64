def rm_X9_undo : Room := { frames := 3, cells := 0, slots := 0, locals := 60 }
set_option maxRecDepth 100000 in
set_option maxHeartbeats 4000000 in
theorem k_X9_undo {G : Gt} {l : Launch}  {h : Hp} {r0 : Nat} {out : (Int32 × Hp)} (t_r0 : hpT h r0 = (1, 9))  (hf : f_X9_undo  h r0 = some out) : Mt G l yX9_undo cX9_undo 1 (some .int) rm_X9_undo [.ref (G.2.2 + r0)] h (some (.int out.1)) out.2 0 0 0 := by
  refine r_met (by decide +kernel) (Nat.le_of_ble_eq_true rfl) ?_
  intro p e s m args below meth c ls C hr hlk hnm hR hS hl
  have hE : Ext h h := Ext.rf
  have hl : lv_has ls 1 [(0, .ref (G.2.2 + r0))] := hl
  rw [f_X9_undo] at hf
  refine lv_aload_n C.x C.b dX9_undo_0 rfl (lv_at hl 0 rfl) ?_
  obtain ⟨g1, hf⟩ := gd_e hf
  refine r_getr C hR t_r0 fl_X9_39 (by decide) (nz_e g1) dX9_undo_1 (fun tq2 => ?_)
  have tg1 := okO tq2 rfl
  refine r_geti C hR tg1 fl_X9_263 rfl dX9_undo_4 ?_
  refine lv_if_ne (tgt := 12) C.x C.b dX9_undo_7 (by decide) (fun c3 => ?_) (fun c3 => ?_)
  · have hf := it_f hf c3
    refine lv_aload_n C.x C.b dX9_undo_12 rfl (lv_at hl 0 rfl) ?_
    refine r_getr C hR t_r0 fl_X9_39 (by decide) (nz_e g1) dX9_undo_13 (fun tq4 => ?_)
    refine lv_aload_n C.x C.b dX9_undo_16 rfl (lv_at hl 0 rfl) ?_
    obtain ⟨g5, hf⟩ := gd_e hf
    refine r_getr C hR t_r0 fl_X9_26 (by decide) (nz_e g5) dX9_undo_17 (fun tq6 => ?_)
    have tg5 := okO tq6 rfl
    obtain ⟨q7, h_q7, hf⟩ := bd_e hf
    refine r_callV (As := [.ref (G.2.2 + (hpR h r0 2))]) (rest := []) C hR hS tg1 rfl mk_X3_pop cl_X9_264 (k_X3_pop tg1 tg5 h_q7) ⟨⟨Nat.le_of_ble_eq_true rfl, Nat.le_of_ble_eq_true rfl⟩, ⟨rfl, rfl⟩, Nat.le_of_ble_eq_true rfl, Nat.le_of_ble_eq_true rfl⟩ rfl hl.1 rfl (Nat.le_of_ble_eq_true rfl) dX9_undo_20 (fun H locs hR hS hE1 z_q7 => ?_)
    have hE := hE.tr hE1
    have t_r0 := hE1.at t_r0 (by decide)
    refine lv_aload_n C.x C.b dX9_undo_23 rfl (lv_at hl 0 rfl) ?_
    obtain ⟨g8, hf⟩ := gd_e hf
    refine r_getr C hR t_r0 fl_X9_39 (by decide) (nz_e g8) dX9_undo_24 (fun tq9 => ?_)
    have tg8 := okO tq9 rfl
    refine r_geti C hR tg8 fl_X9_263 rfl dX9_undo_27 ?_
    have hf := so_e hf
    subst hf
    exact r_iret C hr hlk hR hE hS dX9_undo_30
  · have hf := it_t hf c3
    refine lv_iconst (v := (-1 : Int32)) C.x C.b dX9_undo_10 (by decide) ?_
    have hf := so_e hf
    subst hf
    exact r_iret C hr hlk hR hE hS dX9_undo_11

def rm_J13_bitCount_95d88 : Room := { frames := 0, cells := 0, slots := 0, locals := 0 }
set_option maxRecDepth 100000 in
set_option maxHeartbeats 4000000 in
theorem k_J13_bitCount_95d88 {G : Gt} {l : Launch}  {h : Hp} {y0 : Int64} {out : Int32}   (hf : f_J13_bitCount_95d88  h y0 = some out) : Mt G l yJ13_bitCount_95d88 cJ13_bitCount_95d88 2 (some .int) rm_J13_bitCount_95d88 [.long y0] h (some (.int out)) h 0 0 0 := by
  refine r_met (by decide +kernel) (Nat.le_of_ble_eq_true rfl) ?_
  intro p e s m args below meth c ls C hr hlk hnm hR hS hl
  have hl : lv_has ls 2 [(0, .long y0)] := hl
  rw [f_J13_bitCount_95d88] at hf
  refine lv_lload_n C.x C.b dJ13_bitCount_95d88_0 rfl (lv_at hl 0 rfl) ?_
  refine lv_lload_n C.x C.b dJ13_bitCount_95d88_1 rfl (lv_at hl 0 rfl) ?_
  refine lv_iconst (v := (1 : Int32)) C.x C.b dJ13_bitCount_95d88_2 (by decide) ?_
  refine lv_lushr C.x C.b dJ13_bitCount_95d88_3 rfl ?_
  refine lv_topl (fun v1 e_v1 => ?_)
  have hf := lt_e hf e_v1
  refine lv_ldc2 C.x C.b C.ow (C.ts _ lk_J13_314) dJ13_bitCount_95d88_4 ?_
  refine lv_land C.x C.b dJ13_bitCount_95d88_7 ?_
  refine lv_lsub C.x C.b dJ13_bitCount_95d88_8 ?_
  refine lv_topl (fun v2 e_v2 => ?_)
  have hf := lt_e hf e_v2
  refine lv_lstore_n (lv' := [(0, .long v2)]) C.x C.b dJ13_bitCount_95d88_9 rfl hl (by decide) rfl (fun ls hl => ?_)
  refine lv_lload_n C.x C.b dJ13_bitCount_95d88_10 rfl (lv_at hl 0 rfl) ?_
  refine lv_ldc2 C.x C.b C.ow (C.ts _ lk_J13_316) dJ13_bitCount_95d88_11 ?_
  refine lv_land C.x C.b dJ13_bitCount_95d88_14 ?_
  refine lv_lload_n C.x C.b dJ13_bitCount_95d88_15 rfl (lv_at hl 0 rfl) ?_
  refine lv_iconst (v := (2 : Int32)) C.x C.b dJ13_bitCount_95d88_16 (by decide) ?_
  refine lv_lushr C.x C.b dJ13_bitCount_95d88_17 rfl ?_
  refine lv_topl (fun v3 e_v3 => ?_)
  have hf := lt_e hf e_v3
  refine lv_ldc2 C.x C.b C.ow (C.ts _ lk_J13_316) dJ13_bitCount_95d88_18 ?_
  refine lv_land C.x C.b dJ13_bitCount_95d88_21 ?_
  refine lv_ladd C.x C.b dJ13_bitCount_95d88_22 ?_
  refine lv_topl (fun v4 e_v4 => ?_)
  have hf := lt_e hf e_v4
  refine lv_lstore_n (lv' := [(0, .long v4)]) C.x C.b dJ13_bitCount_95d88_23 rfl hl (by decide) rfl (fun ls hl => ?_)
  refine lv_lload_n C.x C.b dJ13_bitCount_95d88_24 rfl (lv_at hl 0 rfl) ?_
  refine lv_lload_n C.x C.b dJ13_bitCount_95d88_25 rfl (lv_at hl 0 rfl) ?_
  refine lv_iconst (v := (4 : Int32)) C.x C.b dJ13_bitCount_95d88_26 (by decide) ?_
  refine lv_lushr C.x C.b dJ13_bitCount_95d88_27 rfl ?_
  refine lv_topl (fun v5 e_v5 => ?_)
  have hf := lt_e hf e_v5
  refine lv_ladd C.x C.b dJ13_bitCount_95d88_28 ?_
  refine lv_ldc2 C.x C.b C.ow (C.ts _ lk_J13_318) dJ13_bitCount_95d88_29 ?_
  refine lv_land C.x C.b dJ13_bitCount_95d88_32 ?_
  refine lv_topl (fun v6 e_v6 => ?_)
  have hf := lt_e hf e_v6
  refine lv_lstore_n (lv' := [(0, .long v6)]) C.x C.b dJ13_bitCount_95d88_33 rfl hl (by decide) rfl (fun ls hl => ?_)
  refine lv_lload_n C.x C.b dJ13_bitCount_95d88_34 rfl (lv_at hl 0 rfl) ?_
  refine lv_lload_n C.x C.b dJ13_bitCount_95d88_35 rfl (lv_at hl 0 rfl) ?_
  refine lv_bipush (v := (8 : Int32)) C.x C.b dJ13_bitCount_95d88_36 (by decide) ?_
  refine lv_lushr C.x C.b dJ13_bitCount_95d88_38 rfl ?_
  refine lv_topl (fun v7 e_v7 => ?_)
  have hf := lt_e hf e_v7
  refine lv_ladd C.x C.b dJ13_bitCount_95d88_39 ?_
  refine lv_topl (fun v8 e_v8 => ?_)
  have hf := lt_e hf e_v8
  refine lv_lstore_n (lv' := [(0, .long v8)]) C.x C.b dJ13_bitCount_95d88_40 rfl hl (by decide) rfl (fun ls hl => ?_)
  refine lv_lload_n C.x C.b dJ13_bitCount_95d88_41 rfl (lv_at hl 0 rfl) ?_
  refine lv_lload_n C.x C.b dJ13_bitCount_95d88_42 rfl (lv_at hl 0 rfl) ?_
  refine lv_bipush (v := (16 : Int32)) C.x C.b dJ13_bitCount_95d88_43 (by decide) ?_
  refine lv_lushr C.x C.b dJ13_bitCount_95d88_45 rfl ?_
  refine lv_topl (fun v9 e_v9 => ?_)
  have hf := lt_e hf e_v9
  refine lv_ladd C.x C.b dJ13_bitCount_95d88_46 ?_
  refine lv_topl (fun v10 e_v10 => ?_)
  have hf := lt_e hf e_v10
  refine lv_lstore_n (lv' := [(0, .long v10)]) C.x C.b dJ13_bitCount_95d88_47 rfl hl (by decide) rfl (fun ls hl => ?_)
  refine lv_lload_n C.x C.b dJ13_bitCount_95d88_48 rfl (lv_at hl 0 rfl) ?_
  refine lv_lload_n C.x C.b dJ13_bitCount_95d88_49 rfl (lv_at hl 0 rfl) ?_
  refine lv_bipush (v := (32 : Int32)) C.x C.b dJ13_bitCount_95d88_50 (by decide) ?_
  refine lv_lushr C.x C.b dJ13_bitCount_95d88_52 rfl ?_
  refine lv_topl (fun v11 e_v11 => ?_)
  have hf := lt_e hf e_v11
  refine lv_ladd C.x C.b dJ13_bitCount_95d88_53 ?_
  refine lv_topl (fun v12 e_v12 => ?_)
  have hf := lt_e hf e_v12
  refine lv_lstore_n (lv' := [(0, .long v12)]) C.x C.b dJ13_bitCount_95d88_54 rfl hl (by decide) rfl (fun ls hl => ?_)
  refine lv_lload_n C.x C.b dJ13_bitCount_95d88_55 rfl (lv_at hl 0 rfl) ?_
  refine lv_l2i C.x C.b dJ13_bitCount_95d88_56 rfl ?_
  refine lv_bipush (v := (127 : Int32)) C.x C.b dJ13_bitCount_95d88_57 (by decide) ?_
  refine lv_iand C.x C.b dJ13_bitCount_95d88_59 ?_
  have hf := so_e hf
  subst hf
  exact r_iret C hr hlk hR Ext.rf hS dJ13_bitCount_95d88_60

def rm_X9_slept : Room := { frames := 6, cells := 0, slots := 0, locals := 132 }
def P_X9_slept_41 (G : Gt) (l : Launch) (p : Program) (e : Env) (s : State) (m : MethodId) (args : Array Value) (below : List Frame) (meth : Method) (c : Code) (h0 : Hp) (out : (Int64 × Hp)) (r0 : Nat) (k : Hp → Int32 → Int32 → Int32 → Option (Int64 × Hp)) : Prop := ∀ (H : Heap) (locs : List Loc) (ls : Array Slot) (h : Hp) (x1 : Int32) (x2 : Int32) (x3 : Int32), k h x1 x2 x3 = some out → Ext h0 h → Rel G h H → va_S (AA G.2.2) s.heap H locs → hpT h r0 = (1, 9) → lv_has ls 5 [(0, .ref (G.2.2 + r0)), (1, .int x1), (2, .int x2), (3, .int x3)] → W p l e rm_X9_slept s m args below meth c H locs 0 0 (MQ below (Qm G h0 out.2 (some (.long out.1)) 0) args s 0 0 (AA G.2.2)) (F0 m 41 ls [])
def P_X9_slept_6 (G : Gt) (l : Launch) (p : Program) (e : Env) (s : State) (m : MethodId) (args : Array Value) (below : List Frame) (meth : Method) (c : Code) (h0 : Hp) (out : (Int64 × Hp)) (r0 : Nat) (k : Hp → Int32 → Int32 → Int32 → Option (Int64 × Hp)) : Prop := ∀ (H : Heap) (locs : List Loc) (ls : Array Slot) (h : Hp) (x1 : Int32) (x2 : Int32) (x3 : Int32), k h x1 x2 x3 = some out → Ext h0 h → Rel G h H → va_S (AA G.2.2) s.heap H locs → hpT h r0 = (1, 9) → lv_has ls 5 [(0, .ref (G.2.2 + r0)), (1, .int x1), (2, .int x2), (3, .int x3)] → W p l e rm_X9_slept s m args below meth c H locs 0 0 (MQ below (Qm G h0 out.2 (some (.long out.1)) 0) args s 0 0 (AA G.2.2)) (F0 m 6 ls [])
set_option maxRecDepth 100000 in
set_option maxHeartbeats 4000000 in
theorem w_X9_slept_41 {G : Gt} {l : Launch} {p : Program} {e : Env} {s : State} {m : MethodId} {args : Array Value} {below : List Frame} {meth : Method} {c : Code}  {h0 : Hp} {out : (Int64 × Hp)} {r0 : Nat} {k6 : Hp → Int32 → Int32 → Int32 → Option (Int64 × Hp)} (C : Cx G p m c cX9_slept 5 s args RX9) (hr : meth.sig.returnType = some .long) (hlk : meth.locks = false)  (hk6 : P_X9_slept_6 G l p e s m args below meth c h0 out r0 k6) : P_X9_slept_41 G l p e s m args below meth c h0 out r0 (f_X9_slept_41 r0 k6) := by
  intro H locs ls h x1 x2 x3 hf hE hR hS t_r0 hl
  rw [f_X9_slept_41] at hf
  obtain ⟨v24, e_v24⟩ : ∃ y : Int32, y = x3 + (1 : Int32) := ⟨_, rfl⟩
  have hf := lt_e hf e_v24
  refine lv_iinc (v := v24) (lv' := [(3, .int v24), (0, .ref (G.2.2 + r0)), (1, .int x1), (2, .int x2)]) C.x C.b dX9_slept_41 hl (k := 3) rfl (by rw [e_v24]; rfl) (by decide) rfl (fun ls hl => ?_)
  refine lv_goto (tgt := 6) C.x C.b dX9_slept_44 (by decide) ?_
  exact hk6 _ _ _ _ _ _ _ hf hE hR hS t_r0 (lv_sub hl [1, 2, 3, 0] rfl)
set_option maxRecDepth 100000 in
set_option maxHeartbeats 4000000 in
theorem w_X9_slept_6 {G : Gt} {l : Launch} {p : Program} {e : Env} {s : State} {m : MethodId} {args : Array Value} {below : List Frame} {meth : Method} {c : Code}  {h0 : Hp} {out : (Int64 × Hp)} {r0 : Nat}  (C : Cx G p m c cX9_slept 5 s args RX9) (hr : meth.sig.returnType = some .long) (hlk : meth.locks = false)   (n : Nat) : P_X9_slept_6 G l p e s m args below meth c h0 out r0 (f_X9_slept_6 r0 n) := by
  induction n with
  | zero => intro H locs ls h x1 x2 x3 hf hE hR hS t_r0 hl; cases hf
  | succ n hk6 =>
    intro H locs ls h x1 x2 x3 hf hE hR hS t_r0 hl
    rw [f_X9_slept_6] at hf
    obtain ⟨k6, e_k6⟩ : ∃ y, y = f_X9_slept_6 r0 n := ⟨_, rfl⟩
    have hf := lt_e hf e_k6
    rw [← e_k6] at hk6
    refine lv_iload_n C.x C.b dX9_slept_6 rfl (lv_at hl 3 rfl) ?_
    refine lv_aload_n C.x C.b dX9_slept_7 rfl (lv_at hl 0 rfl) ?_
    obtain ⟨g1, hf⟩ := gd_e hf
    refine r_getr C hR t_r0 fl_X9_26 (by decide) (nz_e g1) dX9_slept_8 (fun tq2 => ?_)
    have tg1 := okO tq2 rfl
    obtain ⟨q3, h_q3, hf⟩ := bd_e hf
    refine r_callV (As := []) (rest := [.int x3]) C hR hS tg1 rfl mk_X0_cells cl_X9_118 (k_X0_cells tg1 h_q3) ⟨⟨Nat.le_of_ble_eq_true rfl, Nat.le_of_ble_eq_true rfl⟩, ⟨rfl, rfl⟩, Nat.le_of_ble_eq_true rfl, Nat.le_of_ble_eq_true rfl⟩ rfl hl.1 rfl (Nat.le_of_ble_eq_true rfl) dX9_slept_11 (fun H locs hR hS hE1 z_q3 => ?_)
    refine lv_icmp_ge (tgt := 47) C.x C.b dX9_slept_14 (by decide) (fun c4 => ?_) (fun c4 => ?_)
    · have hf := it_t hf c4
      refine lv_aload_n C.x C.b dX9_slept_47 rfl (lv_at hl 0 rfl) ?_
      refine r_getr C hR t_r0 fl_X9_26 (by decide) (nz_e g1) dX9_slept_48 (fun tq5 => ?_)
      obtain ⟨q6, h_q6, hf⟩ := bd_e hf
      refine r_callV (As := []) (rest := []) C hR hS tg1 rfl mk_X0_sleptCells cl_X9_272 (k_X0_sleptCells tg1 h_q6) ⟨⟨Nat.le_of_ble_eq_true rfl, Nat.le_of_ble_eq_true rfl⟩, ⟨rfl, rfl⟩, Nat.le_of_ble_eq_true rfl, Nat.le_of_ble_eq_true rfl⟩ rfl hl.1 rfl (Nat.le_of_ble_eq_true rfl) dX9_slept_51 (fun H locs hR hS hE1 z_q6 => ?_)
      refine lv_lstore_n (lv' := [(3, .long q6), (0, .ref (G.2.2 + r0)), (1, .int x1), (2, .int x2)]) C.x C.b dX9_slept_54 rfl hl (by decide) rfl (fun ls hl => ?_)
      refine lv_aload_n C.x C.b dX9_slept_55 rfl (lv_at hl 1 rfl) ?_
      obtain ⟨g7, hf⟩ := gd_e hf
      refine r_getr C hR t_r0 fl_X9_19 (by decide) (nz_e g7) dX9_slept_56 (fun tq8 => ?_)
      have tg7 := okO tq8 rfl
      obtain ⟨q9, h_q9, hf⟩ := bd_e hf
      refine r_callV (As := []) (rest := []) C hR hS tg7 rfl mk_X7_start cl_X9_220 (k_X7_start tg7 h_q9) ⟨⟨Nat.le_of_ble_eq_true rfl, Nat.le_of_ble_eq_true rfl⟩, ⟨rfl, rfl⟩, Nat.le_of_ble_eq_true rfl, Nat.le_of_ble_eq_true rfl⟩ rfl hl.1 rfl (Nat.le_of_ble_eq_true rfl) dX9_slept_59 (fun H locs hR hS hE1 z_q9 => ?_)
      have hE := hE.tr hE1
      have t_r0 := hE1.at t_r0 (by decide)
      refine lv_aload_n C.x C.b dX9_slept_62 rfl (lv_at hl 1 rfl) ?_
      obtain ⟨g10, hf⟩ := gd_e hf
      refine r_getr C hR t_r0 fl_X9_19 (by decide) (nz_e g10) dX9_slept_63 (fun tq11 => ?_)
      have tg10 := okO tq11 rfl
      refine lv_lload_n C.x C.b dX9_slept_66 rfl (lv_at hl 0 rfl) ?_
      obtain ⟨q12, h_q12, hf⟩ := bd_e hf
      refine r_callS (As := [.long q6]) (rest := [.ref (G.2.2 + (hpR q9 r0 1))]) C hR hS mk_J13_bitCount_95d88 cl_X9_276 (k_J13_bitCount_95d88 h_q12) ⟨⟨Nat.le_of_ble_eq_true rfl, Nat.le_of_ble_eq_true rfl⟩, ⟨rfl, rfl⟩, Nat.le_of_ble_eq_true rfl, Nat.le_of_ble_eq_true rfl⟩ rfl hl.1 rfl (Nat.le_of_ble_eq_true rfl) dX9_slept_67 (fun H locs hR hS hE1 z_q12 => ?_)
      refine lv_i2l C.x C.b dX9_slept_70 rfl ?_
      obtain ⟨q13, h_q13, hf⟩ := bd_e hf
      refine r_callV (As := [.long (q12.toInt64)]) (rest := []) C hR hS tg10 rfl mk_X7_add cl_X9_223 (k_X7_add tg10 h_q13) ⟨⟨Nat.le_of_ble_eq_true rfl, Nat.le_of_ble_eq_true rfl⟩, ⟨rfl, rfl⟩, Nat.le_of_ble_eq_true rfl, Nat.le_of_ble_eq_true rfl⟩ rfl hl.1 rfl (Nat.le_of_ble_eq_true rfl) dX9_slept_71 (fun H locs hR hS hE1 z_q13 => ?_)
      have hE := hE.tr hE1
      have t_r0 := hE1.at t_r0 (by decide)
      refine lv_aload_n C.x C.b dX9_slept_74 rfl (lv_at hl 1 rfl) ?_
      obtain ⟨g14, hf⟩ := gd_e hf
      refine r_getr C hR t_r0 fl_X9_19 (by decide) (nz_e g14) dX9_slept_75 (fun tq15 => ?_)
      have tg14 := okO tq15 rfl
      refine lv_iload_n C.x C.b dX9_slept_78 rfl (lv_at hl 2 rfl) ?_
      refine lv_i2l C.x C.b dX9_slept_79 rfl ?_
      obtain ⟨q16, h_q16, hf⟩ := bd_e hf
      refine r_callV (As := [.long (x1.toInt64)]) (rest := []) C hR hS tg14 rfl mk_X7_add cl_X9_223 (k_X7_add tg14 h_q16) ⟨⟨Nat.le_of_ble_eq_true rfl, Nat.le_of_ble_eq_true rfl⟩, ⟨rfl, rfl⟩, Nat.le_of_ble_eq_true rfl, Nat.le_of_ble_eq_true rfl⟩ rfl hl.1 rfl (Nat.le_of_ble_eq_true rfl) dX9_slept_80 (fun H locs hR hS hE1 z_q16 => ?_)
      have hE := hE.tr hE1
      have t_r0 := hE1.at t_r0 (by decide)
      refine lv_aload_n C.x C.b dX9_slept_83 rfl (lv_at hl 1 rfl) ?_
      obtain ⟨g17, hf⟩ := gd_e hf
      refine r_getr C hR t_r0 fl_X9_19 (by decide) (nz_e g17) dX9_slept_84 (fun tq18 => ?_)
      have tg17 := okO tq18 rfl
      refine lv_iload_n C.x C.b dX9_slept_87 rfl (lv_at hl 3 rfl) ?_
      refine lv_i2l C.x C.b dX9_slept_88 rfl ?_
      obtain ⟨q19, h_q19, hf⟩ := bd_e hf
      refine r_callV (As := [.long (x2.toInt64)]) (rest := []) C hR hS tg17 rfl mk_X7_add cl_X9_223 (k_X7_add tg17 h_q19) ⟨⟨Nat.le_of_ble_eq_true rfl, Nat.le_of_ble_eq_true rfl⟩, ⟨rfl, rfl⟩, Nat.le_of_ble_eq_true rfl, Nat.le_of_ble_eq_true rfl⟩ rfl hl.1 rfl (Nat.le_of_ble_eq_true rfl) dX9_slept_89 (fun H locs hR hS hE1 z_q19 => ?_)
      have hE := hE.tr hE1
      have t_r0 := hE1.at t_r0 (by decide)
      refine lv_lload_n C.x C.b dX9_slept_92 rfl (lv_at hl 0 rfl) ?_
      have hf := so_e hf
      subst hf
      exact r_lret C hr hlk hR hE hS dX9_slept_93
    · have hf := it_f hf c4
      refine lv_aload_n C.x C.b dX9_slept_17 rfl (lv_at hl 0 rfl) ?_
      refine r_getr C hR t_r0 fl_X9_26 (by decide) (nz_e g1) dX9_slept_18 (fun tq20 => ?_)
      refine lv_iload_n C.x C.b dX9_slept_21 rfl (lv_at hl 3 rfl) ?_
      obtain ⟨q21, h_q21, hf⟩ := bd_e hf
      refine r_callV (As := [.int x3]) (rest := []) C hR hS tg1 rfl mk_X0_onOver cl_X9_189 (k_X0_onOver tg1 h_q21) ⟨⟨Nat.le_of_ble_eq_true rfl, Nat.le_of_ble_eq_true rfl⟩, ⟨rfl, rfl⟩, Nat.le_of_ble_eq_true rfl, Nat.le_of_ble_eq_true rfl⟩ rfl hl.1 rfl (Nat.le_of_ble_eq_true rfl) dX9_slept_22 (fun H locs hR hS hE1 z_q21 => ?_)
      obtain ⟨q22, h_q22, hf⟩ := bd_e hf
      refine r_callS (As := [.int q21]) (rest := []) C hR hS mk_J6_bitCount_0f7a4 cl_X9_267 (k_J6_bitCount_0f7a4 h_q22) ⟨⟨Nat.le_of_ble_eq_true rfl, Nat.le_of_ble_eq_true rfl⟩, ⟨rfl, rfl⟩, Nat.le_of_ble_eq_true rfl, Nat.le_of_ble_eq_true rfl⟩ rfl hl.1 rfl (Nat.le_of_ble_eq_true rfl) dX9_slept_25 (fun H locs hR hS hE1 z_q22 => ?_)
      refine lv_istore (lv' := [(4, .int q22), (0, .ref (G.2.2 + r0)), (1, .int x1), (2, .int x2), (3, .int x3)]) C.x C.b dX9_slept_28 hl (by decide) rfl (fun ls hl => ?_)
      refine lv_iload C.x C.b dX9_slept_30 (lv_at hl 0 rfl) ?_
      refine lv_iload_n C.x C.b dX9_slept_32 rfl (lv_at hl 2 rfl) ?_
      refine lv_icmp_le (tgt := 41) C.x C.b dX9_slept_33 (by decide) (fun c23 => ?_) (fun c23 => ?_)
      · simp only [if_pos c23] at hf
        exact w_X9_slept_41 C hr hlk hk6 _ _ _ _ _ _ _ hf hE hR hS t_r0 (lv_sub hl [1, 2, 3, 4] rfl)
      · simp only [if_neg c23] at hf
        refine lv_iload C.x C.b dX9_slept_36 (lv_at hl 0 rfl) ?_
        refine lv_istore_n (lv' := [(1, .int q22), (4, .int q22), (0, .ref (G.2.2 + r0)), (2, .int x2), (3, .int x3)]) C.x C.b dX9_slept_38 rfl hl (by decide) rfl (fun ls hl => ?_)
        refine lv_iload_n C.x C.b dX9_slept_39 rfl (lv_at hl 4 rfl) ?_
        refine lv_istore_n (lv' := [(2, .int x3), (1, .int q22), (4, .int q22), (0, .ref (G.2.2 + r0)), (3, .int x3)]) C.x C.b dX9_slept_40 rfl hl (by decide) rfl (fun ls hl => ?_)
        exact w_X9_slept_41 C hr hlk hk6 _ _ _ _ _ _ _ hf hE hR hS t_r0 (lv_sub hl [3, 1, 0, 4] rfl)
set_option maxRecDepth 100000 in
set_option maxHeartbeats 4000000 in
theorem k_X9_slept {G : Gt} {l : Launch}  {h : Hp} {r0 : Nat} {out : (Int64 × Hp)} (t_r0 : hpT h r0 = (1, 9))  (hf : f_X9_slept  h r0 = some out) : Mt G l yX9_slept cX9_slept 5 (some .long) rm_X9_slept [.ref (G.2.2 + r0)] h (some (.long out.1)) out.2 0 0 0 := by
  refine r_met (by decide +kernel) (Nat.le_of_ble_eq_true rfl) ?_
  intro p e s m args below meth c ls C hr hlk hnm hR hS hl
  have hE : Ext h h := Ext.rf
  have hl : lv_has ls 5 [(0, .ref (G.2.2 + r0))] := hl
  rw [f_X9_slept] at hf
  refine lv_iconst (v := (0 : Int32)) C.x C.b dX9_slept_0 (by decide) ?_
  refine lv_istore_n (lv' := [(1, .int (0 : Int32)), (0, .ref (G.2.2 + r0))]) C.x C.b dX9_slept_1 rfl hl (by decide) rfl (fun ls hl => ?_)
  refine lv_iconst (v := (-1 : Int32)) C.x C.b dX9_slept_2 (by decide) ?_
  refine lv_istore_n (lv' := [(2, .int (-1 : Int32)), (1, .int (0 : Int32)), (0, .ref (G.2.2 + r0))]) C.x C.b dX9_slept_3 rfl hl (by decide) rfl (fun ls hl => ?_)
  refine lv_iconst (v := (0 : Int32)) C.x C.b dX9_slept_4 (by decide) ?_
  refine lv_istore_n (lv' := [(3, .int (0 : Int32)), (2, .int (-1 : Int32)), (1, .int (0 : Int32)), (0, .ref (G.2.2 + r0))]) C.x C.b dX9_slept_5 rfl hl (by decide) rfl (fun ls hl => ?_)
  exact w_X9_slept_6 C hr hlk FU _ _ _ _ _ _ _ hf hE hR hS t_r0 (lv_sub hl [3, 2, 1, 0] rfl)

def rm_X9_crosses : Room := { frames := 5, cells := 0, slots := 0, locals := 109 }
def P_X9_crosses_33 (G : Gt) (l : Launch) (p : Program) (e : Env) (s : State) (m : MethodId) (args : Array Value) (below : List Frame) (meth : Method) (c : Code) (h0 : Hp) (out : (Int32 × Hp)) (r0 : Nat) (k : Hp → Int32 → Int32 → Option (Int32 × Hp)) : Prop := ∀ (H : Heap) (locs : List Loc) (ls : Array Slot) (h : Hp) (x1 : Int32) (x2 : Int32), k h x1 x2 = some out → Ext h0 h → Rel G h H → va_S (AA G.2.2) s.heap H locs → hpT h r0 = (1, 9) → lv_has ls 5 [(0, .ref (G.2.2 + r0)), (1, .int x1), (2, .int x2)] → W p l e rm_X9_crosses s m args below meth c H locs 0 0 (MQ below (Qm G h0 out.2 (some (.int out.1)) 0) args s 0 0 (AA G.2.2)) (F0 m 33 ls [])
def P_X9_crosses_126 (G : Gt) (l : Launch) (p : Program) (e : Env) (s : State) (m : MethodId) (args : Array Value) (below : List Frame) (meth : Method) (c : Code) (h0 : Hp) (out : (Int32 × Hp)) (r0 : Nat) (k : Hp → Int32 → Int32 → Int32 → Option (Int32 × Hp)) : Prop := ∀ (H : Heap) (locs : List Loc) (ls : Array Slot) (h : Hp) (x2 : Int32) (x3 : Int32) (x4 : Int32), k h x2 x3 x4 = some out → Ext h0 h → Rel G h H → va_S (AA G.2.2) s.heap H locs → hpT h r0 = (1, 9) → lv_has ls 5 [(0, .ref (G.2.2 + r0)), (2, .int x2), (3, .int x3), (4, .int x4)] → W p l e rm_X9_crosses s m args below meth c H locs 0 0 (MQ below (Qm G h0 out.2 (some (.int out.1)) 0) args s 0 0 (AA G.2.2)) (F0 m 126 ls [])
def P_X9_crosses_123 (G : Gt) (l : Launch) (p : Program) (e : Env) (s : State) (m : MethodId) (args : Array Value) (below : List Frame) (meth : Method) (c : Code) (h0 : Hp) (out : (Int32 × Hp)) (r0 : Nat) (k : Hp → Int32 → Int32 → Int32 → Option (Int32 × Hp)) : Prop := ∀ (H : Heap) (locs : List Loc) (ls : Array Slot) (h : Hp) (x2 : Int32) (x3 : Int32) (x4 : Int32), k h x2 x3 x4 = some out → Ext h0 h → Rel G h H → va_S (AA G.2.2) s.heap H locs → hpT h r0 = (1, 9) → lv_has ls 5 [(0, .ref (G.2.2 + r0)), (2, .int x2), (3, .int x3), (4, .int x4)] → W p l e rm_X9_crosses s m args below meth c H locs 0 0 (MQ below (Qm G h0 out.2 (some (.int out.1)) 0) args s 0 0 (AA G.2.2)) (F0 m 123 ls [])
def P_X9_crosses_75 (G : Gt) (l : Launch) (p : Program) (e : Env) (s : State) (m : MethodId) (args : Array Value) (below : List Frame) (meth : Method) (c : Code) (h0 : Hp) (out : (Int32 × Hp)) (r0 : Nat) (k : Hp → Int32 → Int32 → Int32 → Option (Int32 × Hp)) : Prop := ∀ (H : Heap) (locs : List Loc) (ls : Array Slot) (h : Hp) (x2 : Int32) (x3 : Int32) (x4 : Int32), k h x2 x3 x4 = some out → Ext h0 h → Rel G h H → va_S (AA G.2.2) s.heap H locs → hpT h r0 = (1, 9) → lv_has ls 5 [(0, .ref (G.2.2 + r0)), (2, .int x2), (3, .int x3), (4, .int x4)] → W p l e rm_X9_crosses s m args below meth c H locs 0 0 (MQ below (Qm G h0 out.2 (some (.int out.1)) 0) args s 0 0 (AA G.2.2)) (F0 m 75 ls [])
def P_X9_crosses_59 (G : Gt) (l : Launch) (p : Program) (e : Env) (s : State) (m : MethodId) (args : Array Value) (below : List Frame) (meth : Method) (c : Code) (h0 : Hp) (out : (Int32 × Hp)) (r0 : Nat) (k : Hp → Int32 → Int32 → Option (Int32 × Hp)) : Prop := ∀ (H : Heap) (locs : List Loc) (ls : Array Slot) (h : Hp) (x2 : Int32) (x3 : Int32), k h x2 x3 = some out → Ext h0 h → Rel G h H → va_S (AA G.2.2) s.heap H locs → hpT h r0 = (1, 9) → lv_has ls 5 [(0, .ref (G.2.2 + r0)), (2, .int x2), (3, .int x3)] → W p l e rm_X9_crosses s m args below meth c H locs 0 0 (MQ below (Qm G h0 out.2 (some (.int out.1)) 0) args s 0 0 (AA G.2.2)) (F0 m 59 ls [])
def P_X9_crosses_4 (G : Gt) (l : Launch) (p : Program) (e : Env) (s : State) (m : MethodId) (args : Array Value) (below : List Frame) (meth : Method) (c : Code) (h0 : Hp) (out : (Int32 × Hp)) (r0 : Nat) (k : Hp → Int32 → Int32 → Option (Int32 × Hp)) : Prop := ∀ (H : Heap) (locs : List Loc) (ls : Array Slot) (h : Hp) (x1 : Int32) (x2 : Int32), k h x1 x2 = some out → Ext h0 h → Rel G h H → va_S (AA G.2.2) s.heap H locs → hpT h r0 = (1, 9) → lv_has ls 5 [(0, .ref (G.2.2 + r0)), (1, .int x1), (2, .int x2)] → W p l e rm_X9_crosses s m args below meth c H locs 0 0 (MQ below (Qm G h0 out.2 (some (.int out.1)) 0) args s 0 0 (AA G.2.2)) (F0 m 4 ls [])
set_option maxRecDepth 100000 in
set_option maxHeartbeats 4000000 in
theorem w_X9_crosses_33 {G : Gt} {l : Launch} {p : Program} {e : Env} {s : State} {m : MethodId} {args : Array Value} {below : List Frame} {meth : Method} {c : Code}  {h0 : Hp} {out : (Int32 × Hp)} {r0 : Nat} {k4 : Hp → Int32 → Int32 → Option (Int32 × Hp)} (C : Cx G p m c cX9_crosses 5 s args RX9) (hr : meth.sig.returnType = some .int) (hlk : meth.locks = false)  (hk4 : P_X9_crosses_4 G l p e s m args below meth c h0 out r0 k4) : P_X9_crosses_33 G l p e s m args below meth c h0 out r0 (f_X9_crosses_33 r0 k4) := by
  intro H locs ls h x1 x2 hf hE hR hS t_r0 hl
  rw [f_X9_crosses_33] at hf
  obtain ⟨v16, e_v16⟩ : ∃ y : Int32, y = x2 + (1 : Int32) := ⟨_, rfl⟩
  have hf := lt_e hf e_v16
  refine lv_iinc (v := v16) (lv' := [(2, .int v16), (0, .ref (G.2.2 + r0)), (1, .int x1)]) C.x C.b dX9_crosses_33 hl (k := 2) rfl (by rw [e_v16]; rfl) (by decide) rfl (fun ls hl => ?_)
  refine lv_goto (tgt := 4) C.x C.b dX9_crosses_36 (by decide) ?_
  exact hk4 _ _ _ _ _ _ hf hE hR hS t_r0 (lv_sub hl [1, 2, 0] rfl)
set_option maxRecDepth 100000 in
set_option maxHeartbeats 4000000 in
theorem w_X9_crosses_126 {G : Gt} {l : Launch} {p : Program} {e : Env} {s : State} {m : MethodId} {args : Array Value} {below : List Frame} {meth : Method} {c : Code}  {h0 : Hp} {out : (Int32 × Hp)} {r0 : Nat} {k59 : Hp → Int32 → Int32 → Option (Int32 × Hp)} {k75 : Hp → Int32 → Int32 → Int32 → Option (Int32 × Hp)} (C : Cx G p m c cX9_crosses 5 s args RX9) (hr : meth.sig.returnType = some .int) (hlk : meth.locks = false)  (hk59 : P_X9_crosses_59 G l p e s m args below meth c h0 out r0 k59) (hk75 : P_X9_crosses_75 G l p e s m args below meth c h0 out r0 k75) : P_X9_crosses_126 G l p e s m args below meth c h0 out r0 (f_X9_crosses_126 r0 k59 k75) := by
  intro H locs ls h x2 x3 x4 hf hE hR hS t_r0 hl
  rw [f_X9_crosses_126] at hf
  obtain ⟨v36, e_v36⟩ : ∃ y : Int32, y = x4 + (1 : Int32) := ⟨_, rfl⟩
  have hf := lt_e hf e_v36
  refine lv_iinc (v := v36) (lv' := [(4, .int v36), (0, .ref (G.2.2 + r0)), (2, .int x2), (3, .int x3)]) C.x C.b dX9_crosses_126 hl (k := 3) rfl (by rw [e_v36]; rfl) (by decide) rfl (fun ls hl => ?_)
  refine lv_goto (tgt := 75) C.x C.b dX9_crosses_129 (by decide) ?_
  exact hk75 _ _ _ _ _ _ _ hf hE hR hS t_r0 (lv_sub hl [1, 2, 3, 0] rfl)
set_option maxRecDepth 100000 in
set_option maxHeartbeats 4000000 in
theorem w_X9_crosses_123 {G : Gt} {l : Launch} {p : Program} {e : Env} {s : State} {m : MethodId} {args : Array Value} {below : List Frame} {meth : Method} {c : Code}  {h0 : Hp} {out : (Int32 × Hp)} {r0 : Nat} {k59 : Hp → Int32 → Int32 → Option (Int32 × Hp)} {k75 : Hp → Int32 → Int32 → Int32 → Option (Int32 × Hp)} (C : Cx G p m c cX9_crosses 5 s args RX9) (hr : meth.sig.returnType = some .int) (hlk : meth.locks = false)  (hk59 : P_X9_crosses_59 G l p e s m args below meth c h0 out r0 k59) (hk75 : P_X9_crosses_75 G l p e s m args below meth c h0 out r0 k75) : P_X9_crosses_123 G l p e s m args below meth c h0 out r0 (f_X9_crosses_123 r0 k59 k75) := by
  intro H locs ls h x2 x3 x4 hf hE hR hS t_r0 hl
  rw [f_X9_crosses_123] at hf
  obtain ⟨v35, e_v35⟩ : ∃ y : Int32, y = x2 + (1 : Int32) := ⟨_, rfl⟩
  have hf := lt_e hf e_v35
  refine lv_iinc (v := v35) (lv' := [(2, .int v35), (0, .ref (G.2.2 + r0)), (3, .int x3), (4, .int x4)]) C.x C.b dX9_crosses_123 hl (k := 1) rfl (by rw [e_v35]; rfl) (by decide) rfl (fun ls hl => ?_)
  exact w_X9_crosses_126 C hr hlk hk59 hk75 _ _ _ _ _ _ _ hf hE hR hS t_r0 (lv_sub hl [1, 0, 2, 3] rfl)
set_option maxRecDepth 100000 in
set_option maxHeartbeats 4000000 in
theorem w_X9_crosses_75 {G : Gt} {l : Launch} {p : Program} {e : Env} {s : State} {m : MethodId} {args : Array Value} {below : List Frame} {meth : Method} {c : Code}  {h0 : Hp} {out : (Int32 × Hp)} {r0 : Nat} {k59 : Hp → Int32 → Int32 → Option (Int32 × Hp)} (C : Cx G p m c cX9_crosses 5 s args RX9) (hr : meth.sig.returnType = some .int) (hlk : meth.locks = false)  (hk59 : P_X9_crosses_59 G l p e s m args below meth c h0 out r0 k59) (n : Nat) : P_X9_crosses_75 G l p e s m args below meth c h0 out r0 (f_X9_crosses_75 r0 k59 n) := by
  induction n with
  | zero => intro H locs ls h x2 x3 x4 hf hE hR hS t_r0 hl; cases hf
  | succ n hk75 =>
    intro H locs ls h x2 x3 x4 hf hE hR hS t_r0 hl
    rw [f_X9_crosses_75] at hf
    obtain ⟨k75, e_k75⟩ : ∃ y, y = f_X9_crosses_75 r0 k59 n := ⟨_, rfl⟩
    have hf := lt_e hf e_k75
    rw [← e_k75] at hk75
    refine lv_iload C.x C.b dX9_crosses_75 (lv_at hl 3 rfl) ?_
    refine lv_aload_n C.x C.b dX9_crosses_77 rfl (lv_at hl 0 rfl) ?_
    obtain ⟨g21, hf⟩ := gd_e hf
    refine r_getr C hR t_r0 fl_X9_26 (by decide) (nz_e g21) dX9_crosses_78 (fun tq22 => ?_)
    have tg21 := okO tq22 rfl
    refine r_geti C hR tg21 fl_X9_146 rfl dX9_crosses_81 ?_
    refine lv_icmp_ge (tgt := 132) C.x C.b dX9_crosses_84 (by decide) (fun c23 => ?_) (fun c23 => ?_)
    · have hf := it_t hf c23
      obtain ⟨v24, e_v24⟩ : ∃ y : Int32, y = x3 + (1 : Int32) := ⟨_, rfl⟩
      have hf := lt_e hf e_v24
      refine lv_iinc (v := v24) (lv' := [(3, .int v24), (0, .ref (G.2.2 + r0)), (2, .int x2), (4, .int x4)]) C.x C.b dX9_crosses_132 hl (k := 2) rfl (by rw [e_v24]; rfl) (by decide) rfl (fun ls hl => ?_)
      refine lv_goto (tgt := 59) C.x C.b dX9_crosses_135 (by decide) ?_
      exact hk59 _ _ _ _ _ _ hf hE hR hS t_r0 (lv_sub hl [1, 2, 0] rfl)
    · have hf := it_f hf c23
      refine lv_aload_n C.x C.b dX9_crosses_87 rfl (lv_at hl 0 rfl) ?_
      refine r_getr C hR t_r0 fl_X9_26 (by decide) (nz_e g21) dX9_crosses_88 (fun tq25 => ?_)
      refine lv_iload_n C.x C.b dX9_crosses_91 rfl (lv_at hl 2 rfl) ?_
      refine lv_iload C.x C.b dX9_crosses_92 (lv_at hl 3 rfl) ?_
      obtain ⟨q26, h_q26, hf⟩ := bd_e hf
      refine r_callV (As := [.int x3, .int x4]) (rest := []) C hR hS tg21 rfl mk_X0_cross cl_X9_281 (k_X0_cross tg21 h_q26) ⟨⟨Nat.le_of_ble_eq_true rfl, Nat.le_of_ble_eq_true rfl⟩, ⟨rfl, rfl⟩, Nat.le_of_ble_eq_true rfl, Nat.le_of_ble_eq_true rfl⟩ rfl hl.1 rfl (Nat.le_of_ble_eq_true rfl) dX9_crosses_94 (fun H locs hR hS hE1 z_q26 => ?_)
      have z_q26 := z_q26 _ rfl
      refine lv_if_eq (tgt := 126) C.x C.b dX9_crosses_97 (by decide) (fun c27 => ?_) (fun c27 => ?_)
      · have hf := it_t hf c27
        exact w_X9_crosses_126 C hr hlk hk59 hk75 _ _ _ _ _ _ _ hf hE hR hS t_r0 (lv_sub hl [0, 1, 2, 3] rfl)
      · have hf := it_f hf c27
        refine lv_iload_n C.x C.b dX9_crosses_100 rfl (lv_at hl 1 rfl) ?_
        refine lv_if_ne (tgt := 123) C.x C.b dX9_crosses_101 (by decide) (fun c28 => ?_) (fun c28 => ?_)
        · have hf := it_f hf c28
          exact w_X9_crosses_123 C hr hlk hk59 hk75 _ _ _ _ _ _ _ hf hE hR hS t_r0 (lv_sub hl [0, 1, 2, 3] rfl)
        · have hf := it_t hf c28
          refine lv_aload_n C.x C.b dX9_crosses_104 rfl (lv_at hl 0 rfl) ?_
          obtain ⟨g29, hf⟩ := gd_e hf
          refine r_getr C hR t_r0 fl_X9_19 (by decide) (nz_e g29) dX9_crosses_105 (fun tq30 => ?_)
          have tg29 := okO tq30 rfl
          refine lv_iload_n C.x C.b dX9_crosses_108 rfl (lv_at hl 2 rfl) ?_
          refine lv_i2l C.x C.b dX9_crosses_109 rfl ?_
          obtain ⟨q31, h_q31, hf⟩ := bd_e hf
          refine r_callV (As := [.long (x3.toInt64)]) (rest := []) C hR hS tg29 rfl mk_X7_add cl_X9_223 (k_X7_add tg29 h_q31) ⟨⟨Nat.le_of_ble_eq_true rfl, Nat.le_of_ble_eq_true rfl⟩, ⟨rfl, rfl⟩, Nat.le_of_ble_eq_true rfl, Nat.le_of_ble_eq_true rfl⟩ rfl hl.1 rfl (Nat.le_of_ble_eq_true rfl) dX9_crosses_110 (fun H locs hR hS hE1 z_q31 => ?_)
          have hE := hE.tr hE1
          have t_r0 := hE1.at t_r0 (by decide)
          refine lv_aload_n C.x C.b dX9_crosses_113 rfl (lv_at hl 0 rfl) ?_
          obtain ⟨g32, hf⟩ := gd_e hf
          refine r_getr C hR t_r0 fl_X9_19 (by decide) (nz_e g32) dX9_crosses_114 (fun tq33 => ?_)
          have tg32 := okO tq33 rfl
          refine lv_iload C.x C.b dX9_crosses_117 (lv_at hl 3 rfl) ?_
          refine lv_i2l C.x C.b dX9_crosses_119 rfl ?_
          obtain ⟨q34, h_q34, hf⟩ := bd_e hf
          refine r_callV (As := [.long (x4.toInt64)]) (rest := []) C hR hS tg32 rfl mk_X7_add cl_X9_223 (k_X7_add tg32 h_q34) ⟨⟨Nat.le_of_ble_eq_true rfl, Nat.le_of_ble_eq_true rfl⟩, ⟨rfl, rfl⟩, Nat.le_of_ble_eq_true rfl, Nat.le_of_ble_eq_true rfl⟩ rfl hl.1 rfl (Nat.le_of_ble_eq_true rfl) dX9_crosses_120 (fun H locs hR hS hE1 z_q34 => ?_)
          have hE := hE.tr hE1
          have t_r0 := hE1.at t_r0 (by decide)
          exact w_X9_crosses_123 C hr hlk hk59 hk75 _ _ _ _ _ _ _ hf hE hR hS t_r0 (lv_sub hl [0, 1, 2, 3] rfl)
set_option maxRecDepth 100000 in
set_option maxHeartbeats 4000000 in
theorem w_X9_crosses_59 {G : Gt} {l : Launch} {p : Program} {e : Env} {s : State} {m : MethodId} {args : Array Value} {below : List Frame} {meth : Method} {c : Code}  {h0 : Hp} {out : (Int32 × Hp)} {r0 : Nat}  (C : Cx G p m c cX9_crosses 5 s args RX9) (hr : meth.sig.returnType = some .int) (hlk : meth.locks = false)   (n : Nat) : P_X9_crosses_59 G l p e s m args below meth c h0 out r0 (f_X9_crosses_59 r0 n) := by
  induction n with
  | zero => intro H locs ls h x2 x3 hf hE hR hS t_r0 hl; cases hf
  | succ n hk59 =>
    intro H locs ls h x2 x3 hf hE hR hS t_r0 hl
    rw [f_X9_crosses_59] at hf
    obtain ⟨k59, e_k59⟩ : ∃ y, y = f_X9_crosses_59 r0 n := ⟨_, rfl⟩
    have hf := lt_e hf e_k59
    rw [← e_k59] at hk59
    refine lv_iload_n C.x C.b dX9_crosses_59 rfl (lv_at hl 2 rfl) ?_
    refine lv_aload_n C.x C.b dX9_crosses_60 rfl (lv_at hl 0 rfl) ?_
    obtain ⟨g17, hf⟩ := gd_e hf
    refine r_getr C hR t_r0 fl_X9_26 (by decide) (nz_e g17) dX9_crosses_61 (fun tq18 => ?_)
    have tg17 := okO tq18 rfl
    refine r_geti C hR tg17 fl_X9_146 rfl dX9_crosses_64 ?_
    refine lv_icmp_ge (tgt := 138) C.x C.b dX9_crosses_67 (by decide) (fun c19 => ?_) (fun c19 => ?_)
    · have hf := it_t hf c19
      refine lv_iload_n C.x C.b dX9_crosses_138 rfl (lv_at hl 1 rfl) ?_
      have hf := so_e hf
      subst hf
      exact r_iret C hr hlk hR hE hS dX9_crosses_139
    · have hf := it_f hf c19
      refine lv_iload_n C.x C.b dX9_crosses_70 rfl (lv_at hl 2 rfl) ?_
      refine lv_iconst (v := (1 : Int32)) C.x C.b dX9_crosses_71 (by decide) ?_
      refine lv_iadd C.x C.b dX9_crosses_72 ?_
      refine lv_topi (fun v20 e_v20 => ?_)
      have hf := lt_e hf e_v20
      refine lv_istore (lv' := [(4, .int v20), (0, .ref (G.2.2 + r0)), (2, .int x2), (3, .int x3)]) C.x C.b dX9_crosses_73 hl (by decide) rfl (fun ls hl => ?_)
      exact w_X9_crosses_75 C hr hlk hk59 FU _ _ _ _ _ _ _ hf hE hR hS t_r0 (lv_sub hl [1, 2, 3, 0] rfl)
set_option maxRecDepth 100000 in
set_option maxHeartbeats 4000000 in
theorem w_X9_crosses_4 {G : Gt} {l : Launch} {p : Program} {e : Env} {s : State} {m : MethodId} {args : Array Value} {below : List Frame} {meth : Method} {c : Code}  {h0 : Hp} {out : (Int32 × Hp)} {r0 : Nat}  (C : Cx G p m c cX9_crosses 5 s args RX9) (hr : meth.sig.returnType = some .int) (hlk : meth.locks = false)   (n : Nat) : P_X9_crosses_4 G l p e s m args below meth c h0 out r0 (f_X9_crosses_4 r0 n) := by
  induction n with
  | zero => intro H locs ls h x1 x2 hf hE hR hS t_r0 hl; cases hf
  | succ n hk4 =>
    intro H locs ls h x1 x2 hf hE hR hS t_r0 hl
    rw [f_X9_crosses_4] at hf
    obtain ⟨k4, e_k4⟩ : ∃ y, y = f_X9_crosses_4 r0 n := ⟨_, rfl⟩
    have hf := lt_e hf e_k4
    rw [← e_k4] at hk4
    refine lv_iload_n C.x C.b dX9_crosses_4 rfl (lv_at hl 2 rfl) ?_
    refine lv_aload_n C.x C.b dX9_crosses_5 rfl (lv_at hl 0 rfl) ?_
    obtain ⟨g1, hf⟩ := gd_e hf
    refine r_getr C hR t_r0 fl_X9_26 (by decide) (nz_e g1) dX9_crosses_6 (fun tq2 => ?_)
    have tg1 := okO tq2 rfl
    obtain ⟨q3, h_q3, hf⟩ := bd_e hf
    refine r_callV (As := []) (rest := [.int x2]) C hR hS tg1 rfl mk_X0_cells cl_X9_118 (k_X0_cells tg1 h_q3) ⟨⟨Nat.le_of_ble_eq_true rfl, Nat.le_of_ble_eq_true rfl⟩, ⟨rfl, rfl⟩, Nat.le_of_ble_eq_true rfl, Nat.le_of_ble_eq_true rfl⟩ rfl hl.1 rfl (Nat.le_of_ble_eq_true rfl) dX9_crosses_9 (fun H locs hR hS hE1 z_q3 => ?_)
    refine lv_icmp_ge (tgt := 39) C.x C.b dX9_crosses_12 (by decide) (fun c4 => ?_) (fun c4 => ?_)
    · have hf := it_t hf c4
      refine lv_aload_n C.x C.b dX9_crosses_39 rfl (lv_at hl 0 rfl) ?_
      obtain ⟨g5, hf⟩ := gd_e hf
      refine r_getr C hR t_r0 fl_X9_19 (by decide) (nz_e g5) dX9_crosses_40 (fun tq6 => ?_)
      have tg5 := okO tq6 rfl
      obtain ⟨q7, h_q7, hf⟩ := bd_e hf
      refine r_callV (As := []) (rest := []) C hR hS tg5 rfl mk_X7_start cl_X9_220 (k_X7_start tg5 h_q7) ⟨⟨Nat.le_of_ble_eq_true rfl, Nat.le_of_ble_eq_true rfl⟩, ⟨rfl, rfl⟩, Nat.le_of_ble_eq_true rfl, Nat.le_of_ble_eq_true rfl⟩ rfl hl.1 rfl (Nat.le_of_ble_eq_true rfl) dX9_crosses_43 (fun H locs hR hS hE1 z_q7 => ?_)
      have hE := hE.tr hE1
      have t_r0 := hE1.at t_r0 (by decide)
      refine lv_aload_n C.x C.b dX9_crosses_46 rfl (lv_at hl 0 rfl) ?_
      obtain ⟨g8, hf⟩ := gd_e hf
      refine r_getr C hR t_r0 fl_X9_19 (by decide) (nz_e g8) dX9_crosses_47 (fun tq9 => ?_)
      have tg8 := okO tq9 rfl
      refine lv_iload_n C.x C.b dX9_crosses_50 rfl (lv_at hl 1 rfl) ?_
      refine lv_i2l C.x C.b dX9_crosses_51 rfl ?_
      obtain ⟨q10, h_q10, hf⟩ := bd_e hf
      refine r_callV (As := [.long (x1.toInt64)]) (rest := []) C hR hS tg8 rfl mk_X7_add cl_X9_223 (k_X7_add tg8 h_q10) ⟨⟨Nat.le_of_ble_eq_true rfl, Nat.le_of_ble_eq_true rfl⟩, ⟨rfl, rfl⟩, Nat.le_of_ble_eq_true rfl, Nat.le_of_ble_eq_true rfl⟩ rfl hl.1 rfl (Nat.le_of_ble_eq_true rfl) dX9_crosses_52 (fun H locs hR hS hE1 z_q10 => ?_)
      have hE := hE.tr hE1
      have t_r0 := hE1.at t_r0 (by decide)
      refine lv_iconst (v := (0 : Int32)) C.x C.b dX9_crosses_55 (by decide) ?_
      refine lv_istore_n (lv' := [(2, .int (0 : Int32)), (0, .ref (G.2.2 + r0)), (1, .int x1)]) C.x C.b dX9_crosses_56 rfl hl (by decide) rfl (fun ls hl => ?_)
      refine lv_iconst (v := (0 : Int32)) C.x C.b dX9_crosses_57 (by decide) ?_
      refine lv_istore_n (lv' := [(3, .int (0 : Int32)), (2, .int (0 : Int32)), (0, .ref (G.2.2 + r0)), (1, .int x1)]) C.x C.b dX9_crosses_58 rfl hl (by decide) rfl (fun ls hl => ?_)
      exact w_X9_crosses_59 C hr hlk FU _ _ _ _ _ _ hf hE hR hS t_r0 (lv_sub hl [2, 1, 0] rfl)
    · have hf := it_f hf c4
      refine lv_aload_n C.x C.b dX9_crosses_15 rfl (lv_at hl 0 rfl) ?_
      refine r_getr C hR t_r0 fl_X9_26 (by decide) (nz_e g1) dX9_crosses_16 (fun tq11 => ?_)
      refine lv_iload_n C.x C.b dX9_crosses_19 rfl (lv_at hl 2 rfl) ?_
      obtain ⟨q12, h_q12, hf⟩ := bd_e hf
      refine r_callV (As := [.int x2]) (rest := []) C hR hS tg1 rfl mk_X0_onOver cl_X9_189 (k_X0_onOver tg1 h_q12) ⟨⟨Nat.le_of_ble_eq_true rfl, Nat.le_of_ble_eq_true rfl⟩, ⟨rfl, rfl⟩, Nat.le_of_ble_eq_true rfl, Nat.le_of_ble_eq_true rfl⟩ rfl hl.1 rfl (Nat.le_of_ble_eq_true rfl) dX9_crosses_20 (fun H locs hR hS hE1 z_q12 => ?_)
      obtain ⟨q13, h_q13, hf⟩ := bd_e hf
      refine r_callS (As := [.int q12]) (rest := []) C hR hS mk_J6_bitCount_0f7a4 cl_X9_267 (k_J6_bitCount_0f7a4 h_q13) ⟨⟨Nat.le_of_ble_eq_true rfl, Nat.le_of_ble_eq_true rfl⟩, ⟨rfl, rfl⟩, Nat.le_of_ble_eq_true rfl, Nat.le_of_ble_eq_true rfl⟩ rfl hl.1 rfl (Nat.le_of_ble_eq_true rfl) dX9_crosses_23 (fun H locs hR hS hE1 z_q13 => ?_)
      refine lv_iconst (v := (1 : Int32)) C.x C.b dX9_crosses_26 (by decide) ?_
      refine lv_icmp_le (tgt := 33) C.x C.b dX9_crosses_27 (by decide) (fun c14 => ?_) (fun c14 => ?_)
      · have hf := it_t hf c14
        exact w_X9_crosses_33 C hr hlk hk4 _ _ _ _ _ _ hf hE hR hS t_r0 (lv_sub hl [0, 1, 2] rfl)
      · have hf := it_f hf c14
        obtain ⟨v15, e_v15⟩ : ∃ y : Int32, y = x1 + (1 : Int32) := ⟨_, rfl⟩
        have hf := lt_e hf e_v15
        refine lv_iinc (v := v15) (lv' := [(1, .int v15), (0, .ref (G.2.2 + r0)), (2, .int x2)]) C.x C.b dX9_crosses_30 hl (k := 1) rfl (by rw [e_v15]; rfl) (by decide) rfl (fun ls hl => ?_)
        exact w_X9_crosses_33 C hr hlk hk4 _ _ _ _ _ _ hf hE hR hS t_r0 (lv_sub hl [1, 0, 2] rfl)
set_option maxRecDepth 100000 in
set_option maxHeartbeats 4000000 in
theorem k_X9_crosses {G : Gt} {l : Launch}  {h : Hp} {r0 : Nat} {out : (Int32 × Hp)} (t_r0 : hpT h r0 = (1, 9))  (hf : f_X9_crosses  h r0 = some out) : Mt G l yX9_crosses cX9_crosses 5 (some .int) rm_X9_crosses [.ref (G.2.2 + r0)] h (some (.int out.1)) out.2 0 0 0 := by
  refine r_met (by decide +kernel) (Nat.le_of_ble_eq_true rfl) ?_
  intro p e s m args below meth c ls C hr hlk hnm hR hS hl
  have hE : Ext h h := Ext.rf
  have hl : lv_has ls 5 [(0, .ref (G.2.2 + r0))] := hl
  rw [f_X9_crosses] at hf
  refine lv_iconst (v := (0 : Int32)) C.x C.b dX9_crosses_0 (by decide) ?_
  refine lv_istore_n (lv' := [(1, .int (0 : Int32)), (0, .ref (G.2.2 + r0))]) C.x C.b dX9_crosses_1 rfl hl (by decide) rfl (fun ls hl => ?_)
  refine lv_iconst (v := (0 : Int32)) C.x C.b dX9_crosses_2 (by decide) ?_
  refine lv_istore_n (lv' := [(2, .int (0 : Int32)), (1, .int (0 : Int32)), (0, .ref (G.2.2 + r0))]) C.x C.b dX9_crosses_3 rfl hl (by decide) rfl (fun ls hl => ?_)
  exact w_X9_crosses_4 C hr hlk FU _ _ _ _ _ _ hf hE hR hS t_r0 (lv_sub hl [2, 1, 0] rfl)

def rm_X9_heap : Room := { frames := 3, cells := 0, slots := 0, locals := 69 }
def P_X9_heap_74 (G : Gt) (l : Launch) (p : Program) (e : Env) (s : State) (m : MethodId) (args : Array Value) (below : List Frame) (meth : Method) (c : Code) (h0 : Hp) (out : (Int32 × Hp)) (r0 : Nat) (x1 : Int32) (k : Hp → Int32 → Int64 → Int32 → Option (Int32 × Hp)) : Prop := ∀ (H : Heap) (locs : List Loc) (ls : Array Slot) (h : Hp) (x2 : Int32) (y3 : Int64) (x5 : Int32), k h x2 y3 x5 = some out → Ext h0 h → Rel G h H → va_S (AA G.2.2) s.heap H locs → hpT h r0 = (1, 9) → lv_has ls 6 [(0, .ref (G.2.2 + r0)), (1, .int x1), (2, .int x2), (3, .long y3), (5, .int x5)] → W p l e rm_X9_heap s m args below meth c H locs 0 0 (MQ below (Qm G h0 out.2 (some (.int out.1)) 0) args s 0 0 (AA G.2.2)) (F0 m 74 ls [])
def P_X9_heap_41 (G : Gt) (l : Launch) (p : Program) (e : Env) (s : State) (m : MethodId) (args : Array Value) (below : List Frame) (meth : Method) (c : Code) (h0 : Hp) (out : (Int32 × Hp)) (r0 : Nat) (x1 : Int32) (k : Hp → Int32 → Int64 → Int32 → Option (Int32 × Hp)) : Prop := ∀ (H : Heap) (locs : List Loc) (ls : Array Slot) (h : Hp) (x2 : Int32) (y3 : Int64) (x5 : Int32), k h x2 y3 x5 = some out → Ext h0 h → Rel G h H → va_S (AA G.2.2) s.heap H locs → hpT h r0 = (1, 9) → lv_has ls 6 [(0, .ref (G.2.2 + r0)), (1, .int x1), (2, .int x2), (3, .long y3), (5, .int x5)] → W p l e rm_X9_heap s m args below meth c H locs 0 0 (MQ below (Qm G h0 out.2 (some (.int out.1)) 0) args s 0 0 (AA G.2.2)) (F0 m 41 ls [])
set_option maxRecDepth 100000 in
set_option maxHeartbeats 4000000 in
theorem w_X9_heap_74 {G : Gt} {l : Launch} {p : Program} {e : Env} {s : State} {m : MethodId} {args : Array Value} {below : List Frame} {meth : Method} {c : Code}  {h0 : Hp} {out : (Int32 × Hp)} {r0 : Nat} {x1 : Int32} {k41 : Hp → Int32 → Int64 → Int32 → Option (Int32 × Hp)} (C : Cx G p m c cX9_heap 6 s args RX9) (hr : meth.sig.returnType = some .int) (hlk : meth.locks = false)  (hk41 : P_X9_heap_41 G l p e s m args below meth c h0 out r0 x1 k41) : P_X9_heap_74 G l p e s m args below meth c h0 out r0 x1 (f_X9_heap_74 r0 x1 k41) := by
  intro H locs ls h x2 y3 x5 hf hE hR hS t_r0 hl
  rw [f_X9_heap_74] at hf
  obtain ⟨v28, e_v28⟩ : ∃ y : Int32, y = x5 + (1 : Int32) := ⟨_, rfl⟩
  have hf := lt_e hf e_v28
  refine lv_iinc (v := v28) (lv' := [(5, .int v28), (0, .ref (G.2.2 + r0)), (1, .int x1), (2, .int x2), (3, .long y3)]) C.x C.b dX9_heap_74 hl (k := 4) rfl (by rw [e_v28]; rfl) (by decide) rfl (fun ls hl => ?_)
  refine lv_goto (tgt := 41) C.x C.b dX9_heap_77 (by decide) ?_
  exact hk41 _ _ _ _ _ _ _ hf hE hR hS t_r0 (lv_sub hl [1, 2, 3, 4, 0] rfl)
set_option maxRecDepth 100000 in
set_option maxHeartbeats 4000000 in
theorem w_X9_heap_41 {G : Gt} {l : Launch} {p : Program} {e : Env} {s : State} {m : MethodId} {args : Array Value} {below : List Frame} {meth : Method} {c : Code}  {h0 : Hp} {out : (Int32 × Hp)} {r0 : Nat} {x1 : Int32}  (C : Cx G p m c cX9_heap 6 s args RX9) (hr : meth.sig.returnType = some .int) (hlk : meth.locks = false)   (n : Nat) : P_X9_heap_41 G l p e s m args below meth c h0 out r0 x1 (f_X9_heap_41 r0 x1 n) := by
  induction n with
  | zero => intro H locs ls h x2 y3 x5 hf hE hR hS t_r0 hl; cases hf
  | succ n hk41 =>
    intro H locs ls h x2 y3 x5 hf hE hR hS t_r0 hl
    rw [f_X9_heap_41] at hf
    obtain ⟨k41, e_k41⟩ : ∃ y, y = f_X9_heap_41 r0 x1 n := ⟨_, rfl⟩
    have hf := lt_e hf e_k41
    rw [← e_k41] at hk41
    refine lv_iload C.x C.b dX9_heap_41 (lv_at hl 4 rfl) ?_
    refine lv_aload_n C.x C.b dX9_heap_43 rfl (lv_at hl 0 rfl) ?_
    obtain ⟨g10, hf⟩ := gd_e hf
    refine r_getr C hR t_r0 fl_X9_26 (by decide) (nz_e g10) dX9_heap_44 (fun tq11 => ?_)
    have tg10 := okO tq11 rfl
    refine r_geti C hR tg10 fl_X9_146 rfl dX9_heap_47 ?_
    refine lv_icmp_ge (tgt := 80) C.x C.b dX9_heap_50 (by decide) (fun c12 => ?_) (fun c12 => ?_)
    · have hf := it_t hf c12
      refine lv_aload_n C.x C.b dX9_heap_80 rfl (lv_at hl 0 rfl) ?_
      obtain ⟨g13, hf⟩ := gd_e hf
      refine r_getr C hR t_r0 fl_X9_19 (by decide) (nz_e g13) dX9_heap_81 (fun tq14 => ?_)
      have tg13 := okO tq14 rfl
      obtain ⟨q15, h_q15, hf⟩ := bd_e hf
      refine r_callV (As := []) (rest := []) C hR hS tg13 rfl mk_X7_start cl_X9_220 (k_X7_start tg13 h_q15) ⟨⟨Nat.le_of_ble_eq_true rfl, Nat.le_of_ble_eq_true rfl⟩, ⟨rfl, rfl⟩, Nat.le_of_ble_eq_true rfl, Nat.le_of_ble_eq_true rfl⟩ rfl hl.1 rfl (Nat.le_of_ble_eq_true rfl) dX9_heap_84 (fun H locs hR hS hE1 z_q15 => ?_)
      have hE := hE.tr hE1
      have t_r0 := hE1.at t_r0 (by decide)
      refine lv_aload_n C.x C.b dX9_heap_87 rfl (lv_at hl 0 rfl) ?_
      obtain ⟨g16, hf⟩ := gd_e hf
      refine r_getr C hR t_r0 fl_X9_19 (by decide) (nz_e g16) dX9_heap_88 (fun tq17 => ?_)
      have tg16 := okO tq17 rfl
      refine lv_iload_n C.x C.b dX9_heap_91 rfl (lv_at hl 2 rfl) ?_
      obtain ⟨q18, h_q18, hf⟩ := bd_e hf
      refine r_callS (As := [.int x2]) (rest := [.ref (G.2.2 + (hpR q15 r0 1))]) C hR hS mk_J6_bitCount_0f7a4 cl_X9_267 (k_J6_bitCount_0f7a4 h_q18) ⟨⟨Nat.le_of_ble_eq_true rfl, Nat.le_of_ble_eq_true rfl⟩, ⟨rfl, rfl⟩, Nat.le_of_ble_eq_true rfl, Nat.le_of_ble_eq_true rfl⟩ rfl hl.1 rfl (Nat.le_of_ble_eq_true rfl) dX9_heap_92 (fun H locs hR hS hE1 z_q18 => ?_)
      refine lv_i2l C.x C.b dX9_heap_95 rfl ?_
      obtain ⟨q19, h_q19, hf⟩ := bd_e hf
      refine r_callV (As := [.long (q18.toInt64)]) (rest := []) C hR hS tg16 rfl mk_X7_add cl_X9_223 (k_X7_add tg16 h_q19) ⟨⟨Nat.le_of_ble_eq_true rfl, Nat.le_of_ble_eq_true rfl⟩, ⟨rfl, rfl⟩, Nat.le_of_ble_eq_true rfl, Nat.le_of_ble_eq_true rfl⟩ rfl hl.1 rfl (Nat.le_of_ble_eq_true rfl) dX9_heap_96 (fun H locs hR hS hE1 z_q19 => ?_)
      have hE := hE.tr hE1
      have t_r0 := hE1.at t_r0 (by decide)
      refine lv_aload_n C.x C.b dX9_heap_99 rfl (lv_at hl 0 rfl) ?_
      obtain ⟨g20, hf⟩ := gd_e hf
      refine r_getr C hR t_r0 fl_X9_19 (by decide) (nz_e g20) dX9_heap_100 (fun tq21 => ?_)
      have tg20 := okO tq21 rfl
      refine lv_lload_n C.x C.b dX9_heap_103 rfl (lv_at hl 3 rfl) ?_
      obtain ⟨q22, h_q22, hf⟩ := bd_e hf
      refine r_callV (As := [.long y3]) (rest := []) C hR hS tg20 rfl mk_X7_add cl_X9_223 (k_X7_add tg20 h_q22) ⟨⟨Nat.le_of_ble_eq_true rfl, Nat.le_of_ble_eq_true rfl⟩, ⟨rfl, rfl⟩, Nat.le_of_ble_eq_true rfl, Nat.le_of_ble_eq_true rfl⟩ rfl hl.1 rfl (Nat.le_of_ble_eq_true rfl) dX9_heap_104 (fun H locs hR hS hE1 z_q22 => ?_)
      have hE := hE.tr hE1
      have t_r0 := hE1.at t_r0 (by decide)
      refine lv_iload_n C.x C.b dX9_heap_107 rfl (lv_at hl 2 rfl) ?_
      have hf := so_e hf
      subst hf
      exact r_iret C hr hlk hR hE hS dX9_heap_108
    · have hf := it_f hf c12
      refine lv_iload_n C.x C.b dX9_heap_53 rfl (lv_at hl 2 rfl) ?_
      refine lv_iload C.x C.b dX9_heap_54 (lv_at hl 4 rfl) ?_
      obtain ⟨q23, h_q23, hf⟩ := bd_e hf
      refine r_callS (As := [.int x2, .int x5]) (rest := []) C hR hS mk_X9_isIn cl_X9_291 (k_X9_isIn h_q23) ⟨⟨Nat.le_of_ble_eq_true rfl, Nat.le_of_ble_eq_true rfl⟩, ⟨rfl, rfl⟩, Nat.le_of_ble_eq_true rfl, Nat.le_of_ble_eq_true rfl⟩ rfl hl.1 rfl (Nat.le_of_ble_eq_true rfl) dX9_heap_56 (fun H locs hR hS hE1 z_q23 => ?_)
      have z_q23 := z_q23 _ rfl
      refine lv_if_eq (tgt := 74) C.x C.b dX9_heap_59 (by decide) (fun c24 => ?_) (fun c24 => ?_)
      · have hf := it_t hf c24
        exact w_X9_heap_74 C hr hlk hk41 _ _ _ _ _ _ _ hf hE hR hS t_r0 (lv_sub hl [0, 1, 2, 3, 4] rfl)
      · have hf := it_f hf c24
        refine lv_lload_n C.x C.b dX9_heap_62 rfl (lv_at hl 3 rfl) ?_
        refine lv_aload_n C.x C.b dX9_heap_63 rfl (lv_at hl 0 rfl) ?_
        refine r_getr C hR t_r0 fl_X9_26 (by decide) (nz_e g10) dX9_heap_64 (fun tq25 => ?_)
        refine lv_iload C.x C.b dX9_heap_67 (lv_at hl 4 rfl) ?_
        obtain ⟨q26, h_q26, hf⟩ := bd_e hf
        refine r_callV (As := [.int x5]) (rest := [.long y3]) C hR hS tg10 rfl mk_X0_cellsOf cl_X9_294 (k_X0_cellsOf tg10 h_q26) ⟨⟨Nat.le_of_ble_eq_true rfl, Nat.le_of_ble_eq_true rfl⟩, ⟨rfl, rfl⟩, Nat.le_of_ble_eq_true rfl, Nat.le_of_ble_eq_true rfl⟩ rfl hl.1 rfl (Nat.le_of_ble_eq_true rfl) dX9_heap_69 (fun H locs hR hS hE1 z_q26 => ?_)
        refine lv_lor C.x C.b dX9_heap_72 ?_
        refine lv_topl (fun v27 e_v27 => ?_)
        have hf := lt_e hf e_v27
        refine lv_lstore_n (lv' := [(3, .long v27), (0, .ref (G.2.2 + r0)), (1, .int x1), (2, .int x2), (5, .int x5)]) C.x C.b dX9_heap_73 rfl hl (by decide) rfl (fun ls hl => ?_)
        exact w_X9_heap_74 C hr hlk hk41 _ _ _ _ _ _ _ hf hE hR hS t_r0 (lv_sub hl [1, 2, 3, 0, 4] rfl)
set_option maxRecDepth 100000 in
set_option maxHeartbeats 4000000 in
theorem k_X9_heap {G : Gt} {l : Launch}  {h : Hp} {r0 : Nat} {x1 : Int32} {out : (Int32 × Hp)} (t_r0 : hpT h r0 = (1, 9))  (hf : f_X9_heap  h r0 x1 = some out) : Mt G l yX9_heap cX9_heap 6 (some .int) rm_X9_heap [.ref (G.2.2 + r0), .int x1] h (some (.int out.1)) out.2 0 0 0 := by
  refine r_met (by decide +kernel) (Nat.le_of_ble_eq_true rfl) ?_
  intro p e s m args below meth c ls C hr hlk hnm hR hS hl
  have hE : Ext h h := Ext.rf
  have hl : lv_has ls 6 [(0, .ref (G.2.2 + r0)), (1, .int x1)] := hl
  rw [f_X9_heap] at hf
  refine lv_aload_n C.x C.b dX9_heap_0 rfl (lv_at hl 0 rfl) ?_
  obtain ⟨g1, hf⟩ := gd_e hf
  refine r_getr C hR t_r0 fl_X9_26 (by decide) (nz_e g1) dX9_heap_1 (fun tq2 => ?_)
  have tg1 := okO tq2 rfl
  refine lv_iload_n C.x C.b dX9_heap_4 rfl (lv_at hl 1 rfl) ?_
  obtain ⟨q3, h_q3, hf⟩ := bd_e hf
  refine r_callV (As := [.int x1]) (rest := []) C hR hS tg1 rfl mk_X0_has cl_X9_154 (k_X0_has tg1 h_q3) ⟨⟨Nat.le_of_ble_eq_true rfl, Nat.le_of_ble_eq_true rfl⟩, ⟨rfl, rfl⟩, Nat.le_of_ble_eq_true rfl, Nat.le_of_ble_eq_true rfl⟩ rfl hl.1 rfl (Nat.le_of_ble_eq_true rfl) dX9_heap_5 (fun H locs hR hS hE1 z_q3 => ?_)
  have z_q3 := z_q3 _ rfl
  refine lv_if_ne (tgt := 13) C.x C.b dX9_heap_8 (by decide) (fun c4 => ?_) (fun c4 => ?_)
  · have hf := it_f hf c4
    refine lv_aload_n C.x C.b dX9_heap_13 rfl (lv_at hl 0 rfl) ?_
    refine r_getr C hR t_r0 fl_X9_26 (by decide) (nz_e g1) dX9_heap_14 (fun tq5 => ?_)
    refine lv_iload_n C.x C.b dX9_heap_17 rfl (lv_at hl 1 rfl) ?_
    obtain ⟨q6, h_q6, hf⟩ := bd_e hf
    refine r_callV (As := [.int x1]) (rest := []) C hR hS tg1 rfl mk_X0_isOn cl_X9_285 (k_X0_isOn tg1 h_q6) ⟨⟨Nat.le_of_ble_eq_true rfl, Nat.le_of_ble_eq_true rfl⟩, ⟨rfl, rfl⟩, Nat.le_of_ble_eq_true rfl, Nat.le_of_ble_eq_true rfl⟩ rfl hl.1 rfl (Nat.le_of_ble_eq_true rfl) dX9_heap_18 (fun H locs hR hS hE1 z_q6 => ?_)
    have z_q6 := z_q6 _ rfl
    refine lv_if_ne (tgt := 27) C.x C.b dX9_heap_21 (by decide) (fun c7 => ?_) (fun c7 => ?_)
    · have hf := it_f hf c7
      refine lv_aload_n C.x C.b dX9_heap_27 rfl (lv_at hl 0 rfl) ?_
      refine r_getr C hR t_r0 fl_X9_26 (by decide) (nz_e g1) dX9_heap_28 (fun tq8 => ?_)
      refine lv_iload_n C.x C.b dX9_heap_31 rfl (lv_at hl 1 rfl) ?_
      obtain ⟨q9, h_q9, hf⟩ := bd_e hf
      refine r_callV (As := [.int x1]) (rest := []) C hR hS tg1 rfl mk_X0_hangTogether cl_X9_288 (k_X0_hangTogether tg1 h_q9) ⟨⟨Nat.le_of_ble_eq_true rfl, Nat.le_of_ble_eq_true rfl⟩, ⟨rfl, rfl⟩, Nat.le_of_ble_eq_true rfl, Nat.le_of_ble_eq_true rfl⟩ rfl hl.1 rfl (Nat.le_of_ble_eq_true rfl) dX9_heap_32 (fun H locs hR hS hE1 z_q9 => ?_)
      refine lv_istore_n (lv' := [(2, .int q9), (0, .ref (G.2.2 + r0)), (1, .int x1)]) C.x C.b dX9_heap_35 rfl hl (by decide) rfl (fun ls hl => ?_)
      refine lv_lconst (v := (0 : Int64)) C.x C.b dX9_heap_36 (by decide) ?_
      refine lv_lstore_n (lv' := [(3, .long (0 : Int64)), (2, .int q9), (0, .ref (G.2.2 + r0)), (1, .int x1)]) C.x C.b dX9_heap_37 rfl hl (by decide) rfl (fun ls hl => ?_)
      refine lv_iconst (v := (0 : Int32)) C.x C.b dX9_heap_38 (by decide) ?_
      refine lv_istore (lv' := [(5, .int (0 : Int32)), (3, .long (0 : Int64)), (2, .int q9), (0, .ref (G.2.2 + r0)), (1, .int x1)]) C.x C.b dX9_heap_39 hl (by decide) rfl (fun ls hl => ?_)
      exact w_X9_heap_41 C hr hlk FU _ _ _ _ _ _ _ hf hE hR hS t_r0 (lv_sub hl [3, 4, 2, 1, 0] rfl)
    · have hf := it_t hf c7
      refine lv_bipush (v := (-2 : Int32)) C.x C.b dX9_heap_24 (by decide) ?_
      have hf := so_e hf
      subst hf
      exact r_iret C hr hlk hR hE hS dX9_heap_26
  · have hf := it_t hf c4
    refine lv_iconst (v := (-1 : Int32)) C.x C.b dX9_heap_11 (by decide) ?_
    have hf := so_e hf
    subst hf
    exact r_iret C hr hlk hR hE hS dX9_heap_12

def rm_X9_gone : Room := { frames := 5, cells := 0, slots := 0, locals := 106 }
def P_X9_gone_26 (G : Gt) (l : Launch) (p : Program) (e : Env) (s : State) (m : MethodId) (args : Array Value) (below : List Frame) (meth : Method) (c : Code) (h0 : Hp) (out : (Int32 × Hp)) (r0 : Nat) (x1 : Int32) (k : Hp → Int32 → Option (Int32 × Hp)) : Prop := ∀ (H : Heap) (locs : List Loc) (ls : Array Slot) (h : Hp) (x2 : Int32), k h x2 = some out → Ext h0 h → Rel G h H → va_S (AA G.2.2) s.heap H locs → hpT h r0 = (1, 9) → lv_has ls 3 [(0, .ref (G.2.2 + r0)), (1, .int x1), (2, .int x2)] → W p l e rm_X9_gone s m args below meth c H locs 0 0 (MQ below (Qm G h0 out.2 (some (.int out.1)) 0) args s 0 0 (AA G.2.2)) (F0 m 26 ls [])
set_option maxRecDepth 100000 in
set_option maxHeartbeats 4000000 in
theorem w_X9_gone_26 {G : Gt} {l : Launch} {p : Program} {e : Env} {s : State} {m : MethodId} {args : Array Value} {below : List Frame} {meth : Method} {c : Code}  {h0 : Hp} {out : (Int32 × Hp)} {r0 : Nat} {x1 : Int32}  (C : Cx G p m c cX9_gone 3 s args RX9) (hr : meth.sig.returnType = some .int) (hlk : meth.locks = false)   (n : Nat) : P_X9_gone_26 G l p e s m args below meth c h0 out r0 x1 (f_X9_gone_26 r0 x1 n) := by
  induction n with
  | zero => intro H locs ls h x2 hf hE hR hS t_r0 hl; cases hf
  | succ n hk26 =>
    intro H locs ls h x2 hf hE hR hS t_r0 hl
    rw [f_X9_gone_26] at hf
    obtain ⟨k26, e_k26⟩ : ∃ y, y = f_X9_gone_26 r0 x1 n := ⟨_, rfl⟩
    have hf := lt_e hf e_k26
    rw [← e_k26] at hk26
    refine lv_iload_n C.x C.b dX9_gone_26 rfl (lv_at hl 2 rfl) ?_
    refine lv_bipush (v := (100 : Int32)) C.x C.b dX9_gone_27 (by decide) ?_
    refine lv_icmp_ge (tgt := 86) C.x C.b dX9_gone_29 (by decide) (fun c9 => ?_) (fun c9 => ?_)
    · have hf := it_t hf c9
      refine lv_bipush (v := (-2 : Int32)) C.x C.b dX9_gone_86 (by decide) ?_
      have hf := so_e hf
      subst hf
      exact r_iret C hr hlk hR hE hS dX9_gone_88
    · have hf := it_f hf c9
      refine lv_aload_n C.x C.b dX9_gone_32 rfl (lv_at hl 0 rfl) ?_
      obtain ⟨g10, hf⟩ := gd_e hf
      refine r_getr C hR t_r0 fl_X9_33 (by decide) (nz_e g10) dX9_gone_33 (fun tq11 => ?_)
      have tg10 := okO tq11 rfl
      refine lv_iload_n C.x C.b dX9_gone_36 rfl (lv_at hl 1 rfl) ?_
      obtain ⟨q12, h_q12, hf⟩ := bd_e hf
      refine r_callV (As := [.int x1]) (rest := []) C hR hS tg10 rfl mk_X0_isOn cl_X9_285 (k_X0_isOn tg10 h_q12) ⟨⟨Nat.le_of_ble_eq_true rfl, Nat.le_of_ble_eq_true rfl⟩, ⟨rfl, rfl⟩, Nat.le_of_ble_eq_true rfl, Nat.le_of_ble_eq_true rfl⟩ rfl hl.1 rfl (Nat.le_of_ble_eq_true rfl) dX9_gone_37 (fun H locs hR hS hE1 z_q12 => ?_)
      have z_q12 := z_q12 _ rfl
      refine lv_if_ne (tgt := 68) C.x C.b dX9_gone_40 (by decide) (fun c13 => ?_) (fun c13 => ?_)
      · have hf := it_f hf c13
        refine lv_aload_n C.x C.b dX9_gone_68 rfl (lv_at hl 0 rfl) ?_
        refine r_getr C hR t_r0 fl_X9_33 (by decide) (nz_e g10) dX9_gone_69 (fun tq14 => ?_)
        refine lv_aload_n C.x C.b dX9_gone_72 rfl (lv_at hl 0 rfl) ?_
        obtain ⟨g15, hf⟩ := gd_e hf
        refine r_getr C hR t_r0 fl_X9_50 (by decide) (nz_e g15) dX9_gone_73 (fun tq16 => ?_)
        have tg15 := okO tq16 rfl
        obtain ⟨q17, h_q17, hf⟩ := bd_e hf
        refine r_callV (As := [.ref (G.2.2 + (hpR h r0 8))]) (rest := []) C hR hS tg10 rfl mk_X0_goBy cl_X9_298 (k_X0_goBy tg10 tg15 h_q17) ⟨⟨Nat.le_of_ble_eq_true rfl, Nat.le_of_ble_eq_true rfl⟩, ⟨rfl, rfl⟩, Nat.le_of_ble_eq_true rfl, Nat.le_of_ble_eq_true rfl⟩ rfl hl.1 rfl (Nat.le_of_ble_eq_true rfl) dX9_gone_76 (fun H locs hR hS hE1 z_q17 => ?_)
        have hE := hE.tr hE1
        have t_r0 := hE1.at t_r0 (by decide)
        refine lv_pop C.x C.b dX9_gone_79 rfl ?_
        obtain ⟨v18, e_v18⟩ : ∃ y : Int32, y = x2 + (1 : Int32) := ⟨_, rfl⟩
        have hf := lt_e hf e_v18
        refine lv_iinc (v := v18) (lv' := [(2, .int v18), (0, .ref (G.2.2 + r0)), (1, .int x1)]) C.x C.b dX9_gone_80 hl (k := 2) rfl (by rw [e_v18]; rfl) (by decide) rfl (fun ls hl => ?_)
        refine lv_goto (tgt := 26) C.x C.b dX9_gone_83 (by decide) ?_
        exact hk26 _ _ _ _ _ hf hE hR hS t_r0 (lv_sub hl [1, 2, 0] rfl)
      · have hf := it_t hf c13
        refine lv_aload_n C.x C.b dX9_gone_43 rfl (lv_at hl 0 rfl) ?_
        obtain ⟨g19, hf⟩ := gd_e hf
        refine r_getr C hR t_r0 fl_X9_19 (by decide) (nz_e g19) dX9_gone_44 (fun tq20 => ?_)
        have tg19 := okO tq20 rfl
        obtain ⟨q21, h_q21, hf⟩ := bd_e hf
        refine r_callV (As := []) (rest := []) C hR hS tg19 rfl mk_X7_start cl_X9_220 (k_X7_start tg19 h_q21) ⟨⟨Nat.le_of_ble_eq_true rfl, Nat.le_of_ble_eq_true rfl⟩, ⟨rfl, rfl⟩, Nat.le_of_ble_eq_true rfl, Nat.le_of_ble_eq_true rfl⟩ rfl hl.1 rfl (Nat.le_of_ble_eq_true rfl) dX9_gone_47 (fun H locs hR hS hE1 z_q21 => ?_)
        have hE := hE.tr hE1
        have t_r0 := hE1.at t_r0 (by decide)
        refine lv_aload_n C.x C.b dX9_gone_50 rfl (lv_at hl 0 rfl) ?_
        obtain ⟨g22, hf⟩ := gd_e hf
        refine r_getr C hR t_r0 fl_X9_19 (by decide) (nz_e g22) dX9_gone_51 (fun tq23 => ?_)
        have tg22 := okO tq23 rfl
        refine lv_aload_n C.x C.b dX9_gone_54 rfl (lv_at hl 0 rfl) ?_
        obtain ⟨g24, hf⟩ := gd_e hf
        refine r_getr C hR t_r0 fl_X9_33 (by decide) (nz_e g24) dX9_gone_55 (fun tq25 => ?_)
        have tg24 := okO tq25 rfl
        refine lv_iload_n C.x C.b dX9_gone_58 rfl (lv_at hl 1 rfl) ?_
        obtain ⟨q26, h_q26, hf⟩ := bd_e hf
        refine r_callV (As := [.int x1]) (rest := [.ref (G.2.2 + (hpR q21 r0 1))]) C hR hS tg24 rfl mk_X0_firstCell cl_X9_161 (k_X0_firstCell tg24 h_q26) ⟨⟨Nat.le_of_ble_eq_true rfl, Nat.le_of_ble_eq_true rfl⟩, ⟨rfl, rfl⟩, Nat.le_of_ble_eq_true rfl, Nat.le_of_ble_eq_true rfl⟩ rfl hl.1 rfl (Nat.le_of_ble_eq_true rfl) dX9_gone_59 (fun H locs hR hS hE1 z_q26 => ?_)
        refine lv_i2l C.x C.b dX9_gone_62 rfl ?_
        obtain ⟨q27, h_q27, hf⟩ := bd_e hf
        refine r_callV (As := [.long (q26.toInt64)]) (rest := []) C hR hS tg22 rfl mk_X7_add cl_X9_223 (k_X7_add tg22 h_q27) ⟨⟨Nat.le_of_ble_eq_true rfl, Nat.le_of_ble_eq_true rfl⟩, ⟨rfl, rfl⟩, Nat.le_of_ble_eq_true rfl, Nat.le_of_ble_eq_true rfl⟩ rfl hl.1 rfl (Nat.le_of_ble_eq_true rfl) dX9_gone_63 (fun H locs hR hS hE1 z_q27 => ?_)
        have hE := hE.tr hE1
        have t_r0 := hE1.at t_r0 (by decide)
        refine lv_iload_n C.x C.b dX9_gone_66 rfl (lv_at hl 2 rfl) ?_
        have hf := so_e hf
        subst hf
        exact r_iret C hr hlk hR hE hS dX9_gone_67
set_option maxRecDepth 100000 in
set_option maxHeartbeats 4000000 in
theorem k_X9_gone {G : Gt} {l : Launch}  {h : Hp} {r0 : Nat} {x1 : Int32} {out : (Int32 × Hp)} (t_r0 : hpT h r0 = (1, 9))  (hf : f_X9_gone  h r0 x1 = some out) : Mt G l yX9_gone cX9_gone 3 (some .int) rm_X9_gone [.ref (G.2.2 + r0), .int x1] h (some (.int out.1)) out.2 0 0 0 := by
  refine r_met (by decide +kernel) (Nat.le_of_ble_eq_true rfl) ?_
  intro p e s m args below meth c ls C hr hlk hnm hR hS hl
  have hE : Ext h h := Ext.rf
  have hl : lv_has ls 3 [(0, .ref (G.2.2 + r0)), (1, .int x1)] := hl
  rw [f_X9_gone] at hf
  refine lv_aload_n C.x C.b dX9_gone_0 rfl (lv_at hl 0 rfl) ?_
  obtain ⟨g1, hf⟩ := gd_e hf
  refine r_getr C hR t_r0 fl_X9_26 (by decide) (nz_e g1) dX9_gone_1 (fun tq2 => ?_)
  have tg1 := okO tq2 rfl
  refine lv_iload_n C.x C.b dX9_gone_4 rfl (lv_at hl 1 rfl) ?_
  obtain ⟨q3, h_q3, hf⟩ := bd_e hf
  refine r_callV (As := [.int x1]) (rest := []) C hR hS tg1 rfl mk_X0_has cl_X9_154 (k_X0_has tg1 h_q3) ⟨⟨Nat.le_of_ble_eq_true rfl, Nat.le_of_ble_eq_true rfl⟩, ⟨rfl, rfl⟩, Nat.le_of_ble_eq_true rfl, Nat.le_of_ble_eq_true rfl⟩ rfl hl.1 rfl (Nat.le_of_ble_eq_true rfl) dX9_gone_5 (fun H locs hR hS hE1 z_q3 => ?_)
  have z_q3 := z_q3 _ rfl
  refine lv_if_ne (tgt := 13) C.x C.b dX9_gone_8 (by decide) (fun c4 => ?_) (fun c4 => ?_)
  · have hf := it_f hf c4
    refine lv_aload_n C.x C.b dX9_gone_13 rfl (lv_at hl 0 rfl) ?_
    obtain ⟨g5, hf⟩ := gd_e hf
    refine r_getr C hR t_r0 fl_X9_33 (by decide) (nz_e g5) dX9_gone_14 (fun tq6 => ?_)
    have tg5 := okO tq6 rfl
    refine lv_aload_n C.x C.b dX9_gone_17 rfl (lv_at hl 0 rfl) ?_
    refine r_getr C hR t_r0 fl_X9_26 (by decide) (nz_e g1) dX9_gone_18 (fun tq7 => ?_)
    obtain ⟨q8, h_q8, hf⟩ := bd_e hf
    refine r_callV (As := [.ref (G.2.2 + (hpR h r0 2))]) (rest := []) C hR hS tg5 rfl mk_X0_copy cl_X9_134 (k_X0_copy tg5 tg1 h_q8) ⟨⟨Nat.le_of_ble_eq_true rfl, Nat.le_of_ble_eq_true rfl⟩, ⟨rfl, rfl⟩, Nat.le_of_ble_eq_true rfl, Nat.le_of_ble_eq_true rfl⟩ rfl hl.1 rfl (Nat.le_of_ble_eq_true rfl) dX9_gone_21 (fun H locs hR hS hE1 z_q8 => ?_)
    have hE := hE.tr hE1
    have t_r0 := hE1.at t_r0 (by decide)
    refine lv_iconst (v := (0 : Int32)) C.x C.b dX9_gone_24 (by decide) ?_
    refine lv_istore_n (lv' := [(2, .int (0 : Int32)), (0, .ref (G.2.2 + r0)), (1, .int x1)]) C.x C.b dX9_gone_25 rfl hl (by decide) rfl (fun ls hl => ?_)
    exact w_X9_gone_26 C hr hlk FU _ _ _ _ _ hf hE hR hS t_r0 (lv_sub hl [1, 2, 0] rfl)
  · have hf := it_t hf c4
    refine lv_iconst (v := (-1 : Int32)) C.x C.b dX9_gone_11 (by decide) ?_
    have hf := so_e hf
    subst hf
    exact r_iret C hr hlk hR hE hS dX9_gone_12

def rm_X9_lies : Room := { frames := 6, cells := 0, slots := 0, locals := 130 }
set_option maxRecDepth 100000 in
set_option maxHeartbeats 4000000 in
theorem k_X9_lies {G : Gt} {l : Launch}  {h : Hp} {r0 : Nat} {x1 : Int32} {x2 : Int32} {out : (Int32 × Hp)} (t_r0 : hpT h r0 = (1, 9))  (hf : f_X9_lies  h r0 x1 x2 = some out) : Mt G l yX9_lies cX9_lies 3 (some .int) rm_X9_lies [.ref (G.2.2 + r0), .int x1, .int x2] h (some (.int out.1)) out.2 0 0 0 := by
  refine r_met (by decide +kernel) (Nat.le_of_ble_eq_true rfl) ?_
  intro p e s m args below meth c ls C hr hlk hnm hR hS hl
  have hE : Ext h h := Ext.rf
  have hl : lv_has ls 3 [(0, .ref (G.2.2 + r0)), (1, .int x1), (2, .int x2)] := hl
  rw [f_X9_lies] at hf
  refine lv_aload_n C.x C.b dX9_lies_0 rfl (lv_at hl 0 rfl) ?_
  obtain ⟨g1, hf⟩ := gd_e hf
  refine r_getr C hR t_r0 fl_X9_26 (by decide) (nz_e g1) dX9_lies_1 (fun tq2 => ?_)
  have tg1 := okO tq2 rfl
  refine lv_iload_n C.x C.b dX9_lies_4 rfl (lv_at hl 1 rfl) ?_
  obtain ⟨q3, h_q3, hf⟩ := bd_e hf
  refine r_callV (As := [.int x1]) (rest := []) C hR hS tg1 rfl mk_X0_has cl_X9_154 (k_X0_has tg1 h_q3) ⟨⟨Nat.le_of_ble_eq_true rfl, Nat.le_of_ble_eq_true rfl⟩, ⟨rfl, rfl⟩, Nat.le_of_ble_eq_true rfl, Nat.le_of_ble_eq_true rfl⟩ rfl hl.1 rfl (Nat.le_of_ble_eq_true rfl) dX9_lies_5 (fun H locs hR hS hE1 z_q3 => ?_)
  have z_q3 := z_q3 _ rfl
  refine lv_if_eq (tgt := 21) C.x C.b dX9_lies_8 (by decide) (fun c4 => ?_) (fun c4 => ?_)
  · have hf := it_t hf c4
    refine lv_iconst (v := (-1 : Int32)) C.x C.b dX9_lies_21 (by decide) ?_
    have hf := so_e hf
    subst hf
    exact r_iret C hr hlk hR hE hS dX9_lies_22
  · have hf := it_f hf c4
    refine lv_iload_n C.x C.b dX9_lies_11 rfl (lv_at hl 2 rfl) ?_
    refine lv_if_lt (tgt := 21) C.x C.b dX9_lies_12 (by decide) (fun c5 => ?_) (fun c5 => ?_)
    · have hf := it_t hf c5
      refine lv_iconst (v := (-1 : Int32)) C.x C.b dX9_lies_21 (by decide) ?_
      have hf := so_e hf
      subst hf
      exact r_iret C hr hlk hR hE hS dX9_lies_22
    · have hf := it_f hf c5
      refine lv_iload_n C.x C.b dX9_lies_15 rfl (lv_at hl 2 rfl) ?_
      refine lv_bipush (v := (100 : Int32)) C.x C.b dX9_lies_16 (by decide) ?_
      refine lv_icmp_lt (tgt := 23) C.x C.b dX9_lies_18 (by decide) (fun c6 => ?_) (fun c6 => ?_)
      · have hf := it_t hf c6
        refine lv_aload_n C.x C.b dX9_lies_23 rfl (lv_at hl 0 rfl) ?_
        obtain ⟨g7, hf⟩ := gd_e hf
        refine r_getr C hR t_r0 fl_X9_33 (by decide) (nz_e g7) dX9_lies_24 (fun tq8 => ?_)
        have tg7 := okO tq8 rfl
        refine lv_aload_n C.x C.b dX9_lies_27 rfl (lv_at hl 0 rfl) ?_
        refine r_getr C hR t_r0 fl_X9_26 (by decide) (nz_e g1) dX9_lies_28 (fun tq9 => ?_)
        obtain ⟨q10, h_q10, hf⟩ := bd_e hf
        refine r_callV (As := [.ref (G.2.2 + (hpR h r0 2))]) (rest := []) C hR hS tg7 rfl mk_X0_copy cl_X9_134 (k_X0_copy tg7 tg1 h_q10) ⟨⟨Nat.le_of_ble_eq_true rfl, Nat.le_of_ble_eq_true rfl⟩, ⟨rfl, rfl⟩, Nat.le_of_ble_eq_true rfl, Nat.le_of_ble_eq_true rfl⟩ rfl hl.1 rfl (Nat.le_of_ble_eq_true rfl) dX9_lies_31 (fun H locs hR hS hE1 z_q10 => ?_)
        have hE := hE.tr hE1
        have t_r0 := hE1.at t_r0 (by decide)
        refine lv_aload_n C.x C.b dX9_lies_34 rfl (lv_at hl 0 rfl) ?_
        obtain ⟨g11, hf⟩ := gd_e hf
        refine r_getr C hR t_r0 fl_X9_33 (by decide) (nz_e g11) dX9_lies_35 (fun tq12 => ?_)
        have tg11 := okO tq12 rfl
        refine lv_aload_n C.x C.b dX9_lies_38 rfl (lv_at hl 0 rfl) ?_
        obtain ⟨g13, hf⟩ := gd_e hf
        refine r_getr C hR t_r0 fl_X9_50 (by decide) (nz_e g13) dX9_lies_39 (fun tq14 => ?_)
        have tg13 := okO tq14 rfl
        refine lv_iload_n C.x C.b dX9_lies_42 rfl (lv_at hl 2 rfl) ?_
        obtain ⟨q15, h_q15, hf⟩ := bd_e hf
        refine r_callV (As := [.ref (G.2.2 + (hpR q10 r0 8)), .int x2]) (rest := []) C hR hS tg11 rfl mk_X0_goByTimes cl_X9_213 (k_X0_goByTimes tg11 tg13 h_q15) ⟨⟨Nat.le_of_ble_eq_true rfl, Nat.le_of_ble_eq_true rfl⟩, ⟨rfl, rfl⟩, Nat.le_of_ble_eq_true rfl, Nat.le_of_ble_eq_true rfl⟩ rfl hl.1 rfl (Nat.le_of_ble_eq_true rfl) dX9_lies_43 (fun H locs hR hS hE1 z_q15 => ?_)
        have hE := hE.tr hE1
        have t_r0 := hE1.at t_r0 (by decide)
        refine lv_pop C.x C.b dX9_lies_46 rfl ?_
        refine lv_aload_n C.x C.b dX9_lies_47 rfl (lv_at hl 0 rfl) ?_
        obtain ⟨g16, hf⟩ := gd_e hf
        refine r_getr C hR t_r0 fl_X9_19 (by decide) (nz_e g16) dX9_lies_48 (fun tq17 => ?_)
        have tg16 := okO tq17 rfl
        obtain ⟨q18, h_q18, hf⟩ := bd_e hf
        refine r_callV (As := []) (rest := []) C hR hS tg16 rfl mk_X7_start cl_X9_220 (k_X7_start tg16 h_q18) ⟨⟨Nat.le_of_ble_eq_true rfl, Nat.le_of_ble_eq_true rfl⟩, ⟨rfl, rfl⟩, Nat.le_of_ble_eq_true rfl, Nat.le_of_ble_eq_true rfl⟩ rfl hl.1 rfl (Nat.le_of_ble_eq_true rfl) dX9_lies_51 (fun H locs hR hS hE1 z_q18 => ?_)
        have hE := hE.tr hE1
        have t_r0 := hE1.at t_r0 (by decide)
        refine lv_aload_n C.x C.b dX9_lies_54 rfl (lv_at hl 0 rfl) ?_
        obtain ⟨g19, hf⟩ := gd_e hf
        refine r_getr C hR t_r0 fl_X9_19 (by decide) (nz_e g19) dX9_lies_55 (fun tq20 => ?_)
        have tg19 := okO tq20 rfl
        refine lv_aload_n C.x C.b dX9_lies_58 rfl (lv_at hl 0 rfl) ?_
        obtain ⟨g21, hf⟩ := gd_e hf
        refine r_getr C hR t_r0 fl_X9_33 (by decide) (nz_e g21) dX9_lies_59 (fun tq22 => ?_)
        have tg21 := okO tq22 rfl
        obtain ⟨g23, hf⟩ := gd_e hf
        refine r_getr C hR tg21 fl_X9_170 (by decide) (nz_e g23) dX9_lies_62 (fun tq24 => ?_)
        have tg23 := okA tq24 rfl
        refine lv_iload_n C.x C.b dX9_lies_65 rfl (lv_at hl 1 rfl) ?_
        obtain ⟨g25, hf⟩ := gd_e hf
        refine r_iald C hR tg23 g25 dX9_lies_66 ?_
        refine lv_i2l C.x C.b dX9_lies_67 rfl ?_
        obtain ⟨q26, h_q26, hf⟩ := bd_e hf
        refine r_callV (As := [.long ((hpI q18 (hpR q18 (hpR q18 r0 4) 9) (ix x1)).toInt64)]) (rest := []) C hR hS tg19 rfl mk_X7_add cl_X9_223 (k_X7_add tg19 h_q26) ⟨⟨Nat.le_of_ble_eq_true rfl, Nat.le_of_ble_eq_true rfl⟩, ⟨rfl, rfl⟩, Nat.le_of_ble_eq_true rfl, Nat.le_of_ble_eq_true rfl⟩ rfl hl.1 rfl (Nat.le_of_ble_eq_true rfl) dX9_lies_68 (fun H locs hR hS hE1 z_q26 => ?_)
        have hE := hE.tr hE1
        have t_r0 := hE1.at t_r0 (by decide)
        refine lv_aload_n C.x C.b dX9_lies_71 rfl (lv_at hl 0 rfl) ?_
        obtain ⟨g27, hf⟩ := gd_e hf
        refine r_getr C hR t_r0 fl_X9_19 (by decide) (nz_e g27) dX9_lies_72 (fun tq28 => ?_)
        have tg27 := okO tq28 rfl
        refine lv_aload_n C.x C.b dX9_lies_75 rfl (lv_at hl 0 rfl) ?_
        obtain ⟨g29, hf⟩ := gd_e hf
        refine r_getr C hR t_r0 fl_X9_33 (by decide) (nz_e g29) dX9_lies_76 (fun tq30 => ?_)
        have tg29 := okO tq30 rfl
        obtain ⟨q31, h_q31, hf⟩ := bd_e hf
        refine r_callV (As := []) (rest := [.ref (G.2.2 + (hpR q26 r0 1))]) C hR hS tg29 rfl mk_X0_onBits cl_X9_302 (k_X0_onBits tg29 h_q31) ⟨⟨Nat.le_of_ble_eq_true rfl, Nat.le_of_ble_eq_true rfl⟩, ⟨rfl, rfl⟩, Nat.le_of_ble_eq_true rfl, Nat.le_of_ble_eq_true rfl⟩ rfl hl.1 rfl (Nat.le_of_ble_eq_true rfl) dX9_lies_79 (fun H locs hR hS hE1 z_q31 => ?_)
        refine lv_i2l C.x C.b dX9_lies_82 rfl ?_
        obtain ⟨q32, h_q32, hf⟩ := bd_e hf
        refine r_callV (As := [.long (q31.toInt64)]) (rest := []) C hR hS tg27 rfl mk_X7_add cl_X9_223 (k_X7_add tg27 h_q32) ⟨⟨Nat.le_of_ble_eq_true rfl, Nat.le_of_ble_eq_true rfl⟩, ⟨rfl, rfl⟩, Nat.le_of_ble_eq_true rfl, Nat.le_of_ble_eq_true rfl⟩ rfl hl.1 rfl (Nat.le_of_ble_eq_true rfl) dX9_lies_83 (fun H locs hR hS hE1 z_q32 => ?_)
        have hE := hE.tr hE1
        have t_r0 := hE1.at t_r0 (by decide)
        refine lv_aload_n C.x C.b dX9_lies_86 rfl (lv_at hl 0 rfl) ?_
        obtain ⟨g33, hf⟩ := gd_e hf
        refine r_getr C hR t_r0 fl_X9_33 (by decide) (nz_e g33) dX9_lies_87 (fun tq34 => ?_)
        have tg33 := okO tq34 rfl
        refine lv_iload_n C.x C.b dX9_lies_90 rfl (lv_at hl 1 rfl) ?_
        obtain ⟨q35, h_q35, hf⟩ := bd_e hf
        refine r_callV (As := [.int x1]) (rest := []) C hR hS tg33 rfl mk_X0_firstCell cl_X9_161 (k_X0_firstCell tg33 h_q35) ⟨⟨Nat.le_of_ble_eq_true rfl, Nat.le_of_ble_eq_true rfl⟩, ⟨rfl, rfl⟩, Nat.le_of_ble_eq_true rfl, Nat.le_of_ble_eq_true rfl⟩ rfl hl.1 rfl (Nat.le_of_ble_eq_true rfl) dX9_lies_91 (fun H locs hR hS hE1 z_q35 => ?_)
        have hf := so_e hf
        subst hf
        exact r_iret C hr hlk hR hE hS dX9_lies_94
      · have hf := it_f hf c6
        refine lv_iconst (v := (-1 : Int32)) C.x C.b dX9_lies_21 (by decide) ?_
        have hf := so_e hf
        subst hf
        exact r_iret C hr hlk hR hE hS dX9_lies_22

def rm_X9_clears : Room := { frames := 5, cells := 0, slots := 0, locals := 109 }
def P_X9_clears_65 (G : Gt) (l : Launch) (p : Program) (e : Env) (s : State) (m : MethodId) (args : Array Value) (below : List Frame) (meth : Method) (c : Code) (h0 : Hp) (out : (Int32 × Hp)) (r0 : Nat) (x1 : Int32) (k : Hp → Int32 → Int32 → Int32 → Option (Int32 × Hp)) : Prop := ∀ (H : Heap) (locs : List Loc) (ls : Array Slot) (h : Hp) (x2 : Int32) (x3 : Int32) (x4 : Int32), k h x2 x3 x4 = some out → Ext h0 h → Rel G h H → va_S (AA G.2.2) s.heap H locs → hpT h r0 = (1, 9) → lv_has ls 5 [(0, .ref (G.2.2 + r0)), (1, .int x1), (2, .int x2), (3, .int x3), (4, .int x4)] → W p l e rm_X9_clears s m args below meth c H locs 0 0 (MQ below (Qm G h0 out.2 (some (.int out.1)) 0) args s 0 0 (AA G.2.2)) (F0 m 65 ls [])
def P_X9_clears_32 (G : Gt) (l : Launch) (p : Program) (e : Env) (s : State) (m : MethodId) (args : Array Value) (below : List Frame) (meth : Method) (c : Code) (h0 : Hp) (out : (Int32 × Hp)) (r0 : Nat) (x1 : Int32) (k : Hp → Int32 → Int32 → Int32 → Option (Int32 × Hp)) : Prop := ∀ (H : Heap) (locs : List Loc) (ls : Array Slot) (h : Hp) (x2 : Int32) (x3 : Int32) (x4 : Int32), k h x2 x3 x4 = some out → Ext h0 h → Rel G h H → va_S (AA G.2.2) s.heap H locs → hpT h r0 = (1, 9) → lv_has ls 5 [(0, .ref (G.2.2 + r0)), (1, .int x1), (2, .int x2), (3, .int x3), (4, .int x4)] → W p l e rm_X9_clears s m args below meth c H locs 0 0 (MQ below (Qm G h0 out.2 (some (.int out.1)) 0) args s 0 0 (AA G.2.2)) (F0 m 32 ls [])
set_option maxRecDepth 100000 in
set_option maxHeartbeats 4000000 in
theorem w_X9_clears_65 {G : Gt} {l : Launch} {p : Program} {e : Env} {s : State} {m : MethodId} {args : Array Value} {below : List Frame} {meth : Method} {c : Code}  {h0 : Hp} {out : (Int32 × Hp)} {r0 : Nat} {x1 : Int32} {k32 : Hp → Int32 → Int32 → Int32 → Option (Int32 × Hp)} (C : Cx G p m c cX9_clears 5 s args RX9) (hr : meth.sig.returnType = some .int) (hlk : meth.locks = false)  (hk32 : P_X9_clears_32 G l p e s m args below meth c h0 out r0 x1 k32) : P_X9_clears_65 G l p e s m args below meth c h0 out r0 x1 (f_X9_clears_65 r0 x1 k32) := by
  intro H locs ls h x2 x3 x4 hf hE hR hS t_r0 hl
  rw [f_X9_clears_65] at hf
  refine lv_aload_n C.x C.b dX9_clears_65 rfl (lv_at hl 0 rfl) ?_
  obtain ⟨g23, hf⟩ := gd_e hf
  refine r_getr C hR t_r0 fl_X9_33 (by decide) (nz_e g23) dX9_clears_66 (fun tq24 => ?_)
  have tg23 := okO tq24 rfl
  refine lv_aload_n C.x C.b dX9_clears_69 rfl (lv_at hl 0 rfl) ?_
  obtain ⟨g25, hf⟩ := gd_e hf
  refine r_getr C hR t_r0 fl_X9_50 (by decide) (nz_e g25) dX9_clears_70 (fun tq26 => ?_)
  have tg25 := okO tq26 rfl
  obtain ⟨q27, h_q27, hf⟩ := bd_e hf
  refine r_callV (As := [.ref (G.2.2 + (hpR h r0 8))]) (rest := []) C hR hS tg23 rfl mk_X0_goBy cl_X9_298 (k_X0_goBy tg23 tg25 h_q27) ⟨⟨Nat.le_of_ble_eq_true rfl, Nat.le_of_ble_eq_true rfl⟩, ⟨rfl, rfl⟩, Nat.le_of_ble_eq_true rfl, Nat.le_of_ble_eq_true rfl⟩ rfl hl.1 rfl (Nat.le_of_ble_eq_true rfl) dX9_clears_73 (fun H locs hR hS hE1 z_q27 => ?_)
  have hE := hE.tr hE1
  have t_r0 := hE1.at t_r0 (by decide)
  refine lv_pop C.x C.b dX9_clears_76 rfl ?_
  obtain ⟨v28, e_v28⟩ : ∃ y : Int32, y = x4 + (1 : Int32) := ⟨_, rfl⟩
  have hf := lt_e hf e_v28
  refine lv_iinc (v := v28) (lv' := [(4, .int v28), (0, .ref (G.2.2 + r0)), (1, .int x1), (2, .int x2), (3, .int x3)]) C.x C.b dX9_clears_77 hl (k := 4) rfl (by rw [e_v28]; rfl) (by decide) rfl (fun ls hl => ?_)
  refine lv_goto (tgt := 32) C.x C.b dX9_clears_80 (by decide) ?_
  exact hk32 _ _ _ _ _ _ _ hf hE hR hS t_r0 (lv_sub hl [1, 2, 3, 4, 0] rfl)
set_option maxRecDepth 100000 in
set_option maxHeartbeats 4000000 in
theorem w_X9_clears_32 {G : Gt} {l : Launch} {p : Program} {e : Env} {s : State} {m : MethodId} {args : Array Value} {below : List Frame} {meth : Method} {c : Code}  {h0 : Hp} {out : (Int32 × Hp)} {r0 : Nat} {x1 : Int32}  (C : Cx G p m c cX9_clears 5 s args RX9) (hr : meth.sig.returnType = some .int) (hlk : meth.locks = false)   (n : Nat) : P_X9_clears_32 G l p e s m args below meth c h0 out r0 x1 (f_X9_clears_32 r0 x1 n) := by
  induction n with
  | zero => intro H locs ls h x2 x3 x4 hf hE hR hS t_r0 hl; cases hf
  | succ n hk32 =>
    intro H locs ls h x2 x3 x4 hf hE hR hS t_r0 hl
    rw [f_X9_clears_32] at hf
    obtain ⟨k32, e_k32⟩ : ∃ y, y = f_X9_clears_32 r0 x1 n := ⟨_, rfl⟩
    have hf := lt_e hf e_k32
    rw [← e_k32] at hk32
    refine lv_iload C.x C.b dX9_clears_32 (lv_at hl 4 rfl) ?_
    refine lv_bipush (v := (100 : Int32)) C.x C.b dX9_clears_34 (by decide) ?_
    refine lv_icmp_ge (tgt := 83) C.x C.b dX9_clears_36 (by decide) (fun c9 => ?_) (fun c9 => ?_)
    · have hf := it_t hf c9
      refine lv_iload_n C.x C.b dX9_clears_83 rfl (lv_at hl 2 rfl) ?_
      refine lv_bipush (v := (-2 : Int32)) C.x C.b dX9_clears_84 (by decide) ?_
      refine lv_icmp_eq (tgt := 105) C.x C.b dX9_clears_86 (by decide) (fun c10 => ?_) (fun c10 => ?_)
      · have hf := it_t hf c10
        refine lv_iload_n C.x C.b dX9_clears_105 rfl (lv_at hl 2 rfl) ?_
        have hf := so_e hf
        subst hf
        exact r_iret C hr hlk hR hE hS dX9_clears_106
      · have hf := it_f hf c10
        refine lv_aload_n C.x C.b dX9_clears_89 rfl (lv_at hl 0 rfl) ?_
        obtain ⟨g11, hf⟩ := gd_e hf
        refine r_getr C hR t_r0 fl_X9_19 (by decide) (nz_e g11) dX9_clears_90 (fun tq12 => ?_)
        have tg11 := okO tq12 rfl
        obtain ⟨q13, h_q13, hf⟩ := bd_e hf
        refine r_callV (As := []) (rest := []) C hR hS tg11 rfl mk_X7_start cl_X9_220 (k_X7_start tg11 h_q13) ⟨⟨Nat.le_of_ble_eq_true rfl, Nat.le_of_ble_eq_true rfl⟩, ⟨rfl, rfl⟩, Nat.le_of_ble_eq_true rfl, Nat.le_of_ble_eq_true rfl⟩ rfl hl.1 rfl (Nat.le_of_ble_eq_true rfl) dX9_clears_93 (fun H locs hR hS hE1 z_q13 => ?_)
        have hE := hE.tr hE1
        have t_r0 := hE1.at t_r0 (by decide)
        refine lv_aload_n C.x C.b dX9_clears_96 rfl (lv_at hl 0 rfl) ?_
        obtain ⟨g14, hf⟩ := gd_e hf
        refine r_getr C hR t_r0 fl_X9_19 (by decide) (nz_e g14) dX9_clears_97 (fun tq15 => ?_)
        have tg14 := okO tq15 rfl
        refine lv_iload_n C.x C.b dX9_clears_100 rfl (lv_at hl 3 rfl) ?_
        refine lv_i2l C.x C.b dX9_clears_101 rfl ?_
        obtain ⟨q16, h_q16, hf⟩ := bd_e hf
        refine r_callV (As := [.long (x3.toInt64)]) (rest := []) C hR hS tg14 rfl mk_X7_add cl_X9_223 (k_X7_add tg14 h_q16) ⟨⟨Nat.le_of_ble_eq_true rfl, Nat.le_of_ble_eq_true rfl⟩, ⟨rfl, rfl⟩, Nat.le_of_ble_eq_true rfl, Nat.le_of_ble_eq_true rfl⟩ rfl hl.1 rfl (Nat.le_of_ble_eq_true rfl) dX9_clears_102 (fun H locs hR hS hE1 z_q16 => ?_)
        have hE := hE.tr hE1
        have t_r0 := hE1.at t_r0 (by decide)
        refine lv_iload_n C.x C.b dX9_clears_105 rfl (lv_at hl 2 rfl) ?_
        have hf := so_e hf
        subst hf
        exact r_iret C hr hlk hR hE hS dX9_clears_106
    · have hf := it_f hf c9
      refine lv_aload_n C.x C.b dX9_clears_39 rfl (lv_at hl 0 rfl) ?_
      obtain ⟨g17, hf⟩ := gd_e hf
      refine r_getr C hR t_r0 fl_X9_33 (by decide) (nz_e g17) dX9_clears_40 (fun tq18 => ?_)
      have tg17 := okO tq18 rfl
      refine lv_iload_n C.x C.b dX9_clears_43 rfl (lv_at hl 1 rfl) ?_
      obtain ⟨q19, h_q19, hf⟩ := bd_e hf
      refine r_callV (As := [.int x1]) (rest := []) C hR hS tg17 rfl mk_X0_onOver cl_X9_189 (k_X0_onOver tg17 h_q19) ⟨⟨Nat.le_of_ble_eq_true rfl, Nat.le_of_ble_eq_true rfl⟩, ⟨rfl, rfl⟩, Nat.le_of_ble_eq_true rfl, Nat.le_of_ble_eq_true rfl⟩ rfl hl.1 rfl (Nat.le_of_ble_eq_true rfl) dX9_clears_44 (fun H locs hR hS hE1 z_q19 => ?_)
      refine lv_if_eq (tgt := 56) C.x C.b dX9_clears_47 (by decide) (fun c20 => ?_) (fun c20 => ?_)
      · have hf := it_t hf c20
        refine lv_iload_n C.x C.b dX9_clears_56 rfl (lv_at hl 2 rfl) ?_
        refine lv_bipush (v := (-2 : Int32)) C.x C.b dX9_clears_57 (by decide) ?_
        refine lv_icmp_ne (tgt := 65) C.x C.b dX9_clears_59 (by decide) (fun c21 => ?_) (fun c21 => ?_)
        · simp only [if_neg c21] at hf
          exact w_X9_clears_65 C hr hlk hk32 _ _ _ _ _ _ _ hf hE hR hS t_r0 (lv_sub hl [0, 1, 2, 3, 4] rfl)
        · simp only [if_pos c21] at hf
          refine lv_iload C.x C.b dX9_clears_62 (lv_at hl 4 rfl) ?_
          refine lv_istore_n (lv' := [(2, .int x4), (0, .ref (G.2.2 + r0)), (1, .int x1), (3, .int x3), (4, .int x4)]) C.x C.b dX9_clears_64 rfl hl (by decide) rfl (fun ls hl => ?_)
          exact w_X9_clears_65 C hr hlk hk32 _ _ _ _ _ _ _ hf hE hR hS t_r0 (lv_sub hl [1, 2, 0, 3, 4] rfl)
      · have hf := it_f hf c20
        obtain ⟨v22, e_v22⟩ : ∃ y : Int32, y = x3 + (1 : Int32) := ⟨_, rfl⟩
        have hf := lt_e hf e_v22
        refine lv_iinc (v := v22) (lv' := [(3, .int v22), (0, .ref (G.2.2 + r0)), (1, .int x1), (2, .int x2), (4, .int x4)]) C.x C.b dX9_clears_50 hl (k := 3) rfl (by rw [e_v22]; rfl) (by decide) rfl (fun ls hl => ?_)
        refine lv_goto (tgt := 65) C.x C.b dX9_clears_53 (by decide) ?_
        exact w_X9_clears_65 C hr hlk hk32 _ _ _ _ _ _ _ hf hE hR hS t_r0 (lv_sub hl [1, 2, 3, 0, 4] rfl)
set_option maxRecDepth 100000 in
set_option maxHeartbeats 4000000 in
theorem k_X9_clears {G : Gt} {l : Launch}  {h : Hp} {r0 : Nat} {x1 : Int32} {out : (Int32 × Hp)} (t_r0 : hpT h r0 = (1, 9))  (hf : f_X9_clears  h r0 x1 = some out) : Mt G l yX9_clears cX9_clears 5 (some .int) rm_X9_clears [.ref (G.2.2 + r0), .int x1] h (some (.int out.1)) out.2 0 0 0 := by
  refine r_met (by decide +kernel) (Nat.le_of_ble_eq_true rfl) ?_
  intro p e s m args below meth c ls C hr hlk hnm hR hS hl
  have hE : Ext h h := Ext.rf
  have hl : lv_has ls 5 [(0, .ref (G.2.2 + r0)), (1, .int x1)] := hl
  rw [f_X9_clears] at hf
  refine lv_aload_n C.x C.b dX9_clears_0 rfl (lv_at hl 0 rfl) ?_
  obtain ⟨g1, hf⟩ := gd_e hf
  refine r_getr C hR t_r0 fl_X9_26 (by decide) (nz_e g1) dX9_clears_1 (fun tq2 => ?_)
  have tg1 := okO tq2 rfl
  refine lv_iload_n C.x C.b dX9_clears_4 rfl (lv_at hl 1 rfl) ?_
  obtain ⟨q3, h_q3, hf⟩ := bd_e hf
  refine r_callV (As := [.int x1]) (rest := []) C hR hS tg1 rfl mk_X0_hasCell cl_X9_186 (k_X0_hasCell tg1 h_q3) ⟨⟨Nat.le_of_ble_eq_true rfl, Nat.le_of_ble_eq_true rfl⟩, ⟨rfl, rfl⟩, Nat.le_of_ble_eq_true rfl, Nat.le_of_ble_eq_true rfl⟩ rfl hl.1 rfl (Nat.le_of_ble_eq_true rfl) dX9_clears_5 (fun H locs hR hS hE1 z_q3 => ?_)
  have z_q3 := z_q3 _ rfl
  refine lv_if_ne (tgt := 13) C.x C.b dX9_clears_8 (by decide) (fun c4 => ?_) (fun c4 => ?_)
  · have hf := it_f hf c4
    refine lv_bipush (v := (-2 : Int32)) C.x C.b dX9_clears_13 (by decide) ?_
    refine lv_istore_n (lv' := [(2, .int (-2 : Int32)), (0, .ref (G.2.2 + r0)), (1, .int x1)]) C.x C.b dX9_clears_15 rfl hl (by decide) rfl (fun ls hl => ?_)
    refine lv_iconst (v := (0 : Int32)) C.x C.b dX9_clears_16 (by decide) ?_
    refine lv_istore_n (lv' := [(3, .int (0 : Int32)), (2, .int (-2 : Int32)), (0, .ref (G.2.2 + r0)), (1, .int x1)]) C.x C.b dX9_clears_17 rfl hl (by decide) rfl (fun ls hl => ?_)
    refine lv_aload_n C.x C.b dX9_clears_18 rfl (lv_at hl 2 rfl) ?_
    obtain ⟨g5, hf⟩ := gd_e hf
    refine r_getr C hR t_r0 fl_X9_33 (by decide) (nz_e g5) dX9_clears_19 (fun tq6 => ?_)
    have tg5 := okO tq6 rfl
    refine lv_aload_n C.x C.b dX9_clears_22 rfl (lv_at hl 2 rfl) ?_
    refine r_getr C hR t_r0 fl_X9_26 (by decide) (nz_e g1) dX9_clears_23 (fun tq7 => ?_)
    obtain ⟨q8, h_q8, hf⟩ := bd_e hf
    refine r_callV (As := [.ref (G.2.2 + (hpR h r0 2))]) (rest := []) C hR hS tg5 rfl mk_X0_copy cl_X9_134 (k_X0_copy tg5 tg1 h_q8) ⟨⟨Nat.le_of_ble_eq_true rfl, Nat.le_of_ble_eq_true rfl⟩, ⟨rfl, rfl⟩, Nat.le_of_ble_eq_true rfl, Nat.le_of_ble_eq_true rfl⟩ rfl hl.1 rfl (Nat.le_of_ble_eq_true rfl) dX9_clears_26 (fun H locs hR hS hE1 z_q8 => ?_)
    have hE := hE.tr hE1
    have t_r0 := hE1.at t_r0 (by decide)
    refine lv_iconst (v := (0 : Int32)) C.x C.b dX9_clears_29 (by decide) ?_
    refine lv_istore (lv' := [(4, .int (0 : Int32)), (3, .int (0 : Int32)), (2, .int (-2 : Int32)), (0, .ref (G.2.2 + r0)), (1, .int x1)]) C.x C.b dX9_clears_30 hl (by decide) rfl (fun ls hl => ?_)
    exact w_X9_clears_32 C hr hlk FU _ _ _ _ _ _ _ hf hE hR hS t_r0 (lv_sub hl [3, 4, 2, 1, 0] rfl)
  · have hf := it_t hf c4
    refine lv_iconst (v := (-1 : Int32)) C.x C.b dX9_clears_11 (by decide) ?_
    have hf := so_e hf
    subst hf
    exact r_iret C hr hlk hR hE hS dX9_clears_12

def rm_X9_room : Room := { frames := 6, cells := 0, slots := 0, locals := 134 }
def P_X9_room_63 (G : Gt) (l : Launch) (p : Program) (e : Env) (s : State) (m : MethodId) (args : Array Value) (below : List Frame) (meth : Method) (c : Code) (h0 : Hp) (out : (Int32 × Hp)) (r0 : Nat) (x1 : Int32) (x2 : Int32) (k : Hp → Int32 → Int32 → Int32 → Option (Int32 × Hp)) : Prop := ∀ (H : Heap) (locs : List Loc) (ls : Array Slot) (h : Hp) (x3 : Int32) (x4 : Int32) (x5 : Int32), k h x3 x4 x5 = some out → Ext h0 h → Rel G h H → va_S (AA G.2.2) s.heap H locs → hpT h r0 = (1, 9) → lv_has ls 6 [(0, .ref (G.2.2 + r0)), (1, .int x1), (2, .int x2), (3, .int x3), (4, .int x4), (5, .int x5)] → W p l e rm_X9_room s m args below meth c H locs 0 0 (MQ below (Qm G h0 out.2 (some (.int out.1)) 0) args s 0 0 (AA G.2.2)) (F0 m 63 ls [])
def P_X9_room_34 (G : Gt) (l : Launch) (p : Program) (e : Env) (s : State) (m : MethodId) (args : Array Value) (below : List Frame) (meth : Method) (c : Code) (h0 : Hp) (out : (Int32 × Hp)) (r0 : Nat) (x1 : Int32) (x2 : Int32) (k : Hp → Int32 → Int32 → Int32 → Option (Int32 × Hp)) : Prop := ∀ (H : Heap) (locs : List Loc) (ls : Array Slot) (h : Hp) (x3 : Int32) (x4 : Int32) (x5 : Int32), k h x3 x4 x5 = some out → Ext h0 h → Rel G h H → va_S (AA G.2.2) s.heap H locs → hpT h r0 = (1, 9) → lv_has ls 6 [(0, .ref (G.2.2 + r0)), (1, .int x1), (2, .int x2), (3, .int x3), (4, .int x4), (5, .int x5)] → W p l e rm_X9_room s m args below meth c H locs 0 0 (MQ below (Qm G h0 out.2 (some (.int out.1)) 0) args s 0 0 (AA G.2.2)) (F0 m 34 ls [])
set_option maxRecDepth 100000 in
set_option maxHeartbeats 4000000 in
theorem w_X9_room_63 {G : Gt} {l : Launch} {p : Program} {e : Env} {s : State} {m : MethodId} {args : Array Value} {below : List Frame} {meth : Method} {c : Code}  {h0 : Hp} {out : (Int32 × Hp)} {r0 : Nat} {x1 : Int32} {x2 : Int32} {k34 : Hp → Int32 → Int32 → Int32 → Option (Int32 × Hp)} (C : Cx G p m c cX9_room 6 s args RX9) (hr : meth.sig.returnType = some .int) (hlk : meth.locks = false)  (hk34 : P_X9_room_34 G l p e s m args below meth c h0 out r0 x1 x2 k34) : P_X9_room_63 G l p e s m args below meth c h0 out r0 x1 x2 (f_X9_room_63 r0 x1 x2 k34) := by
  intro H locs ls h x3 x4 x5 hf hE hR hS t_r0 hl
  rw [f_X9_room_63] at hf
  obtain ⟨v21, e_v21⟩ : ∃ y : Int32, y = x5 + (1 : Int32) := ⟨_, rfl⟩
  have hf := lt_e hf e_v21
  refine lv_iinc (v := v21) (lv' := [(5, .int v21), (0, .ref (G.2.2 + r0)), (1, .int x1), (2, .int x2), (3, .int x3), (4, .int x4)]) C.x C.b dX9_room_63 hl (k := 5) rfl (by rw [e_v21]; rfl) (by decide) rfl (fun ls hl => ?_)
  refine lv_goto (tgt := 34) C.x C.b dX9_room_66 (by decide) ?_
  exact hk34 _ _ _ _ _ _ _ hf hE hR hS t_r0 (lv_sub hl [1, 2, 3, 4, 5, 0] rfl)
set_option maxRecDepth 100000 in
set_option maxHeartbeats 4000000 in
theorem w_X9_room_34 {G : Gt} {l : Launch} {p : Program} {e : Env} {s : State} {m : MethodId} {args : Array Value} {below : List Frame} {meth : Method} {c : Code}  {h0 : Hp} {out : (Int32 × Hp)} {r0 : Nat} {x1 : Int32} {x2 : Int32}  (C : Cx G p m c cX9_room 6 s args RX9) (hr : meth.sig.returnType = some .int) (hlk : meth.locks = false)   (n : Nat) : P_X9_room_34 G l p e s m args below meth c h0 out r0 x1 x2 (f_X9_room_34 r0 x1 x2 n) := by
  induction n with
  | zero => intro H locs ls h x3 x4 x5 hf hE hR hS t_r0 hl; cases hf
  | succ n hk34 =>
    intro H locs ls h x3 x4 x5 hf hE hR hS t_r0 hl
    rw [f_X9_room_34] at hf
    obtain ⟨k34, e_k34⟩ : ∃ y, y = f_X9_room_34 r0 x1 x2 n := ⟨_, rfl⟩
    have hf := lt_e hf e_k34
    rw [← e_k34] at hk34
    refine lv_iload C.x C.b dX9_room_34 (lv_at hl 5 rfl) ?_
    refine lv_aload_n C.x C.b dX9_room_36 rfl (lv_at hl 0 rfl) ?_
    obtain ⟨g7, hf⟩ := gd_e hf
    refine r_getr C hR t_r0 fl_X9_26 (by decide) (nz_e g7) dX9_room_37 (fun tq8 => ?_)
    have tg7 := okO tq8 rfl
    obtain ⟨q9, h_q9, hf⟩ := bd_e hf
    refine r_callV (As := []) (rest := [.int x5]) C hR hS tg7 rfl mk_X0_cells cl_X9_118 (k_X0_cells tg7 h_q9) ⟨⟨Nat.le_of_ble_eq_true rfl, Nat.le_of_ble_eq_true rfl⟩, ⟨rfl, rfl⟩, Nat.le_of_ble_eq_true rfl, Nat.le_of_ble_eq_true rfl⟩ rfl hl.1 rfl (Nat.le_of_ble_eq_true rfl) dX9_room_40 (fun H locs hR hS hE1 z_q9 => ?_)
    refine lv_icmp_ge (tgt := 69) C.x C.b dX9_room_43 (by decide) (fun c10 => ?_) (fun c10 => ?_)
    · have hf := it_t hf c10
      refine lv_aload_n C.x C.b dX9_room_69 rfl (lv_at hl 0 rfl) ?_
      obtain ⟨g11, hf⟩ := gd_e hf
      refine r_getr C hR t_r0 fl_X9_19 (by decide) (nz_e g11) dX9_room_70 (fun tq12 => ?_)
      have tg11 := okO tq12 rfl
      obtain ⟨q13, h_q13, hf⟩ := bd_e hf
      refine r_callV (As := []) (rest := []) C hR hS tg11 rfl mk_X7_start cl_X9_220 (k_X7_start tg11 h_q13) ⟨⟨Nat.le_of_ble_eq_true rfl, Nat.le_of_ble_eq_true rfl⟩, ⟨rfl, rfl⟩, Nat.le_of_ble_eq_true rfl, Nat.le_of_ble_eq_true rfl⟩ rfl hl.1 rfl (Nat.le_of_ble_eq_true rfl) dX9_room_73 (fun H locs hR hS hE1 z_q13 => ?_)
      have hE := hE.tr hE1
      have t_r0 := hE1.at t_r0 (by decide)
      refine lv_aload_n C.x C.b dX9_room_76 rfl (lv_at hl 0 rfl) ?_
      obtain ⟨g14, hf⟩ := gd_e hf
      refine r_getr C hR t_r0 fl_X9_19 (by decide) (nz_e g14) dX9_room_77 (fun tq15 => ?_)
      have tg14 := okO tq15 rfl
      refine lv_iload C.x C.b dX9_room_80 (lv_at hl 4 rfl) ?_
      refine lv_i2l C.x C.b dX9_room_82 rfl ?_
      obtain ⟨q16, h_q16, hf⟩ := bd_e hf
      refine r_callV (As := [.long (x4.toInt64)]) (rest := []) C hR hS tg14 rfl mk_X7_add cl_X9_223 (k_X7_add tg14 h_q16) ⟨⟨Nat.le_of_ble_eq_true rfl, Nat.le_of_ble_eq_true rfl⟩, ⟨rfl, rfl⟩, Nat.le_of_ble_eq_true rfl, Nat.le_of_ble_eq_true rfl⟩ rfl hl.1 rfl (Nat.le_of_ble_eq_true rfl) dX9_room_83 (fun H locs hR hS hE1 z_q16 => ?_)
      have hE := hE.tr hE1
      have t_r0 := hE1.at t_r0 (by decide)
      refine lv_iload_n C.x C.b dX9_room_86 rfl (lv_at hl 3 rfl) ?_
      have hf := so_e hf
      subst hf
      exact r_iret C hr hlk hR hE hS dX9_room_87
    · have hf := it_f hf c10
      refine lv_aload_n C.x C.b dX9_room_46 rfl (lv_at hl 0 rfl) ?_
      refine r_getr C hR t_r0 fl_X9_26 (by decide) (nz_e g7) dX9_room_47 (fun tq17 => ?_)
      refine lv_iload C.x C.b dX9_room_50 (lv_at hl 5 rfl) ?_
      refine lv_iload_n C.x C.b dX9_room_52 rfl (lv_at hl 1 rfl) ?_
      refine lv_iload_n C.x C.b dX9_room_53 rfl (lv_at hl 2 rfl) ?_
      obtain ⟨q18, h_q18, hf⟩ := bd_e hf
      refine r_callV (As := [.int x5, .int x1, .int x2]) (rest := []) C hR hS tg7 rfl mk_X0_isRoom cl_X9_311 (k_X0_isRoom tg7 h_q18) ⟨⟨Nat.le_of_ble_eq_true rfl, Nat.le_of_ble_eq_true rfl⟩, ⟨rfl, rfl⟩, Nat.le_of_ble_eq_true rfl, Nat.le_of_ble_eq_true rfl⟩ rfl hl.1 rfl (Nat.le_of_ble_eq_true rfl) dX9_room_54 (fun H locs hR hS hE1 z_q18 => ?_)
      have z_q18 := z_q18 _ rfl
      refine lv_if_eq (tgt := 63) C.x C.b dX9_room_57 (by decide) (fun c19 => ?_) (fun c19 => ?_)
      · have hf := it_t hf c19
        exact w_X9_room_63 C hr hlk hk34 _ _ _ _ _ _ _ hf hE hR hS t_r0 (lv_sub hl [0, 1, 2, 3, 4, 5] rfl)
      · have hf := it_f hf c19
        obtain ⟨v20, e_v20⟩ : ∃ y : Int32, y = x4 + (1 : Int32) := ⟨_, rfl⟩
        have hf := lt_e hf e_v20
        refine lv_iinc (v := v20) (lv' := [(4, .int v20), (0, .ref (G.2.2 + r0)), (1, .int x1), (2, .int x2), (3, .int x3), (5, .int x5)]) C.x C.b dX9_room_60 hl (k := 4) rfl (by rw [e_v20]; rfl) (by decide) rfl (fun ls hl => ?_)
        exact w_X9_room_63 C hr hlk hk34 _ _ _ _ _ _ _ hf hE hR hS t_r0 (lv_sub hl [1, 2, 3, 4, 0, 5] rfl)
set_option maxRecDepth 100000 in
set_option maxHeartbeats 4000000 in
theorem k_X9_room {G : Gt} {l : Launch}  {h : Hp} {r0 : Nat} {x1 : Int32} {x2 : Int32} {out : (Int32 × Hp)} (t_r0 : hpT h r0 = (1, 9))  (hf : f_X9_room  h r0 x1 x2 = some out) : Mt G l yX9_room cX9_room 6 (some .int) rm_X9_room [.ref (G.2.2 + r0), .int x1, .int x2] h (some (.int out.1)) out.2 0 0 0 := by
  refine r_met (by decide +kernel) (Nat.le_of_ble_eq_true rfl) ?_
  intro p e s m args below meth c ls C hr hlk hnm hR hS hl
  have hE : Ext h h := Ext.rf
  have hl : lv_has ls 6 [(0, .ref (G.2.2 + r0)), (1, .int x1), (2, .int x2)] := hl
  rw [f_X9_room] at hf
  refine lv_iload_n C.x C.b dX9_room_0 rfl (lv_at hl 1 rfl) ?_
  refine lv_iload_n C.x C.b dX9_room_1 rfl (lv_at hl 2 rfl) ?_
  obtain ⟨q1, h_q1, hf⟩ := bd_e hf
  refine r_callS (As := [.int x1, .int x2]) (rest := []) C hR hS mk_X9_areSides cl_X9_305 (k_X9_areSides h_q1) ⟨⟨Nat.le_of_ble_eq_true rfl, Nat.le_of_ble_eq_true rfl⟩, ⟨rfl, rfl⟩, Nat.le_of_ble_eq_true rfl, Nat.le_of_ble_eq_true rfl⟩ rfl hl.1 rfl (Nat.le_of_ble_eq_true rfl) dX9_room_2 (fun H locs hR hS hE1 z_q1 => ?_)
  have z_q1 := z_q1 _ rfl
  refine lv_if_ne (tgt := 10) C.x C.b dX9_room_5 (by decide) (fun c2 => ?_) (fun c2 => ?_)
  · have hf := it_f hf c2
    refine lv_aload_n C.x C.b dX9_room_10 rfl (lv_at hl 0 rfl) ?_
    obtain ⟨g3, hf⟩ := gd_e hf
    refine r_getr C hR t_r0 fl_X9_26 (by decide) (nz_e g3) dX9_room_11 (fun tq4 => ?_)
    have tg3 := okO tq4 rfl
    refine lv_iload_n C.x C.b dX9_room_14 rfl (lv_at hl 1 rfl) ?_
    refine lv_iload_n C.x C.b dX9_room_15 rfl (lv_at hl 2 rfl) ?_
    obtain ⟨q5, h_q5, hf⟩ := bd_e hf
    refine r_callV (As := [.int x1, .int x2]) (rest := []) C hR hS tg3 rfl mk_X0_firstRoom cl_X9_308 (k_X0_firstRoom tg3 h_q5) ⟨⟨Nat.le_of_ble_eq_true rfl, Nat.le_of_ble_eq_true rfl⟩, ⟨rfl, rfl⟩, Nat.le_of_ble_eq_true rfl, Nat.le_of_ble_eq_true rfl⟩ rfl hl.1 rfl (Nat.le_of_ble_eq_true rfl) dX9_room_16 (fun H locs hR hS hE1 z_q5 => ?_)
    refine lv_istore_n (lv' := [(3, .int q5), (0, .ref (G.2.2 + r0)), (1, .int x1), (2, .int x2)]) C.x C.b dX9_room_19 rfl hl (by decide) rfl (fun ls hl => ?_)
    refine lv_iload_n C.x C.b dX9_room_20 rfl (lv_at hl 0 rfl) ?_
    refine lv_iconst (v := (-1 : Int32)) C.x C.b dX9_room_21 (by decide) ?_
    refine lv_icmp_ne (tgt := 28) C.x C.b dX9_room_22 (by decide) (fun c6 => ?_) (fun c6 => ?_)
    · have hf := it_f hf c6
      refine lv_iconst (v := (0 : Int32)) C.x C.b dX9_room_28 (by decide) ?_
      refine lv_istore (lv' := [(4, .int (0 : Int32)), (3, .int q5), (0, .ref (G.2.2 + r0)), (1, .int x1), (2, .int x2)]) C.x C.b dX9_room_29 hl (by decide) rfl (fun ls hl => ?_)
      refine lv_iload_n C.x C.b dX9_room_31 rfl (lv_at hl 1 rfl) ?_
      refine lv_istore (lv' := [(5, .int q5), (4, .int (0 : Int32)), (3, .int q5), (0, .ref (G.2.2 + r0)), (1, .int x1), (2, .int x2)]) C.x C.b dX9_room_32 hl (by decide) rfl (fun ls hl => ?_)
      exact w_X9_room_34 C hr hlk FU _ _ _ _ _ _ _ hf hE hR hS t_r0 (lv_sub hl [3, 4, 5, 2, 1, 0] rfl)
    · have hf := it_t hf c6
      refine lv_bipush (v := (-2 : Int32)) C.x C.b dX9_room_25 (by decide) ?_
      have hf := so_e hf
      subst hf
      exact r_iret C hr hlk hR hE hS dX9_room_27
  · have hf := it_t hf c2
    refine lv_iconst (v := (-1 : Int32)) C.x C.b dX9_room_8 (by decide) ?_
    have hf := so_e hf
    subst hf
    exact r_iret C hr hlk hR hE hS dX9_room_9

def rm_X9_when : Room := { frames := 6, cells := 0, slots := 0, locals := 134 }
def P_X9_when_23 (G : Gt) (l : Launch) (p : Program) (e : Env) (s : State) (m : MethodId) (args : Array Value) (below : List Frame) (meth : Method) (c : Code) (h0 : Hp) (out : (Int32 × Hp)) (r0 : Nat) (x1 : Int32) (x2 : Int32) (k : Hp → Int32 → Option (Int32 × Hp)) : Prop := ∀ (H : Heap) (locs : List Loc) (ls : Array Slot) (h : Hp) (x3 : Int32), k h x3 = some out → Ext h0 h → Rel G h H → va_S (AA G.2.2) s.heap H locs → hpT h r0 = (1, 9) → lv_has ls 5 [(0, .ref (G.2.2 + r0)), (1, .int x1), (2, .int x2), (3, .int x3)] → W p l e rm_X9_when s m args below meth c H locs 0 0 (MQ below (Qm G h0 out.2 (some (.int out.1)) 0) args s 0 0 (AA G.2.2)) (F0 m 23 ls [])
set_option maxRecDepth 100000 in
set_option maxHeartbeats 4000000 in
theorem w_X9_when_23 {G : Gt} {l : Launch} {p : Program} {e : Env} {s : State} {m : MethodId} {args : Array Value} {below : List Frame} {meth : Method} {c : Code}  {h0 : Hp} {out : (Int32 × Hp)} {r0 : Nat} {x1 : Int32} {x2 : Int32}  (C : Cx G p m c cX9_when 5 s args RX9) (hr : meth.sig.returnType = some .int) (hlk : meth.locks = false)   (n : Nat) : P_X9_when_23 G l p e s m args below meth c h0 out r0 x1 x2 (f_X9_when_23 r0 x1 x2 n) := by
  induction n with
  | zero => intro H locs ls h x3 hf hE hR hS t_r0 hl; cases hf
  | succ n hk23 =>
    intro H locs ls h x3 hf hE hR hS t_r0 hl
    rw [f_X9_when_23] at hf
    obtain ⟨k23, e_k23⟩ : ∃ y, y = f_X9_when_23 r0 x1 x2 n := ⟨_, rfl⟩
    have hf := lt_e hf e_k23
    rw [← e_k23] at hk23
    refine lv_iload_n C.x C.b dX9_when_23 rfl (lv_at hl 3 rfl) ?_
    refine lv_bipush (v := (100 : Int32)) C.x C.b dX9_when_24 (by decide) ?_
    refine lv_icmp_ge (tgt := 83) C.x C.b dX9_when_26 (by decide) (fun c8 => ?_) (fun c8 => ?_)
    · have hf := it_t hf c8
      refine lv_bipush (v := (-2 : Int32)) C.x C.b dX9_when_83 (by decide) ?_
      have hf := so_e hf
      subst hf
      exact r_iret C hr hlk hR hE hS dX9_when_85
    · have hf := it_f hf c8
      refine lv_aload_n C.x C.b dX9_when_29 rfl (lv_at hl 0 rfl) ?_
      obtain ⟨g9, hf⟩ := gd_e hf
      refine r_getr C hR t_r0 fl_X9_33 (by decide) (nz_e g9) dX9_when_30 (fun tq10 => ?_)
      have tg9 := okO tq10 rfl
      refine lv_iload_n C.x C.b dX9_when_33 rfl (lv_at hl 1 rfl) ?_
      refine lv_iload_n C.x C.b dX9_when_34 rfl (lv_at hl 2 rfl) ?_
      obtain ⟨q11, h_q11, hf⟩ := bd_e hf
      refine r_callV (As := [.int x1, .int x2]) (rest := []) C hR hS tg9 rfl mk_X0_firstRoom cl_X9_308 (k_X0_firstRoom tg9 h_q11) ⟨⟨Nat.le_of_ble_eq_true rfl, Nat.le_of_ble_eq_true rfl⟩, ⟨rfl, rfl⟩, Nat.le_of_ble_eq_true rfl, Nat.le_of_ble_eq_true rfl⟩ rfl hl.1 rfl (Nat.le_of_ble_eq_true rfl) dX9_when_35 (fun H locs hR hS hE1 z_q11 => ?_)
      refine lv_istore (lv' := [(4, .int q11), (0, .ref (G.2.2 + r0)), (1, .int x1), (2, .int x2), (3, .int x3)]) C.x C.b dX9_when_38 hl (by decide) rfl (fun ls hl => ?_)
      refine lv_iload C.x C.b dX9_when_40 (lv_at hl 0 rfl) ?_
      refine lv_iconst (v := (-1 : Int32)) C.x C.b dX9_when_42 (by decide) ?_
      refine lv_icmp_eq (tgt := 65) C.x C.b dX9_when_43 (by decide) (fun c12 => ?_) (fun c12 => ?_)
      · have hf := it_t hf c12
        refine lv_aload_n C.x C.b dX9_when_65 rfl (lv_at hl 1 rfl) ?_
        refine r_getr C hR t_r0 fl_X9_33 (by decide) (nz_e g9) dX9_when_66 (fun tq13 => ?_)
        refine lv_aload_n C.x C.b dX9_when_69 rfl (lv_at hl 1 rfl) ?_
        obtain ⟨g14, hf⟩ := gd_e hf
        refine r_getr C hR t_r0 fl_X9_50 (by decide) (nz_e g14) dX9_when_70 (fun tq15 => ?_)
        have tg14 := okO tq15 rfl
        obtain ⟨q16, h_q16, hf⟩ := bd_e hf
        refine r_callV (As := [.ref (G.2.2 + (hpR h r0 8))]) (rest := []) C hR hS tg9 rfl mk_X0_goBy cl_X9_298 (k_X0_goBy tg9 tg14 h_q16) ⟨⟨Nat.le_of_ble_eq_true rfl, Nat.le_of_ble_eq_true rfl⟩, ⟨rfl, rfl⟩, Nat.le_of_ble_eq_true rfl, Nat.le_of_ble_eq_true rfl⟩ rfl hl.1 rfl (Nat.le_of_ble_eq_true rfl) dX9_when_73 (fun H locs hR hS hE1 z_q16 => ?_)
        have hE := hE.tr hE1
        have t_r0 := hE1.at t_r0 (by decide)
        refine lv_pop C.x C.b dX9_when_76 rfl ?_
        obtain ⟨v17, e_v17⟩ : ∃ y : Int32, y = x3 + (1 : Int32) := ⟨_, rfl⟩
        have hf := lt_e hf e_v17
        refine lv_iinc (v := v17) (lv' := [(3, .int v17), (4, .int q11), (0, .ref (G.2.2 + r0)), (1, .int x1), (2, .int x2)]) C.x C.b dX9_when_77 hl (k := 4) rfl (by rw [e_v17]; rfl) (by decide) rfl (fun ls hl => ?_)
        refine lv_goto (tgt := 23) C.x C.b dX9_when_80 (by decide) ?_
        exact hk23 _ _ _ _ _ hf hE hR hS t_r0 (lv_sub hl [2, 3, 4, 0] rfl)
      · have hf := it_f hf c12
        refine lv_aload_n C.x C.b dX9_when_46 rfl (lv_at hl 1 rfl) ?_
        obtain ⟨g18, hf⟩ := gd_e hf
        refine r_getr C hR t_r0 fl_X9_19 (by decide) (nz_e g18) dX9_when_47 (fun tq19 => ?_)
        have tg18 := okO tq19 rfl
        obtain ⟨q20, h_q20, hf⟩ := bd_e hf
        refine r_callV (As := []) (rest := []) C hR hS tg18 rfl mk_X7_start cl_X9_220 (k_X7_start tg18 h_q20) ⟨⟨Nat.le_of_ble_eq_true rfl, Nat.le_of_ble_eq_true rfl⟩, ⟨rfl, rfl⟩, Nat.le_of_ble_eq_true rfl, Nat.le_of_ble_eq_true rfl⟩ rfl hl.1 rfl (Nat.le_of_ble_eq_true rfl) dX9_when_50 (fun H locs hR hS hE1 z_q20 => ?_)
        have hE := hE.tr hE1
        have t_r0 := hE1.at t_r0 (by decide)
        refine lv_aload_n C.x C.b dX9_when_53 rfl (lv_at hl 1 rfl) ?_
        obtain ⟨g21, hf⟩ := gd_e hf
        refine r_getr C hR t_r0 fl_X9_19 (by decide) (nz_e g21) dX9_when_54 (fun tq22 => ?_)
        have tg21 := okO tq22 rfl
        refine lv_iload C.x C.b dX9_when_57 (lv_at hl 0 rfl) ?_
        refine lv_i2l C.x C.b dX9_when_59 rfl ?_
        obtain ⟨q23, h_q23, hf⟩ := bd_e hf
        refine r_callV (As := [.long (q11.toInt64)]) (rest := []) C hR hS tg21 rfl mk_X7_add cl_X9_223 (k_X7_add tg21 h_q23) ⟨⟨Nat.le_of_ble_eq_true rfl, Nat.le_of_ble_eq_true rfl⟩, ⟨rfl, rfl⟩, Nat.le_of_ble_eq_true rfl, Nat.le_of_ble_eq_true rfl⟩ rfl hl.1 rfl (Nat.le_of_ble_eq_true rfl) dX9_when_60 (fun H locs hR hS hE1 z_q23 => ?_)
        have hE := hE.tr hE1
        have t_r0 := hE1.at t_r0 (by decide)
        refine lv_iload_n C.x C.b dX9_when_63 rfl (lv_at hl 4 rfl) ?_
        have hf := so_e hf
        subst hf
        exact r_iret C hr hlk hR hE hS dX9_when_64
set_option maxRecDepth 100000 in
set_option maxHeartbeats 4000000 in
theorem k_X9_when {G : Gt} {l : Launch}  {h : Hp} {r0 : Nat} {x1 : Int32} {x2 : Int32} {out : (Int32 × Hp)} (t_r0 : hpT h r0 = (1, 9))  (hf : f_X9_when  h r0 x1 x2 = some out) : Mt G l yX9_when cX9_when 5 (some .int) rm_X9_when [.ref (G.2.2 + r0), .int x1, .int x2] h (some (.int out.1)) out.2 0 0 0 := by
  refine r_met (by decide +kernel) (Nat.le_of_ble_eq_true rfl) ?_
  intro p e s m args below meth c ls C hr hlk hnm hR hS hl
  have hE : Ext h h := Ext.rf
  have hl : lv_has ls 5 [(0, .ref (G.2.2 + r0)), (1, .int x1), (2, .int x2)] := hl
  rw [f_X9_when] at hf
  refine lv_iload_n C.x C.b dX9_when_0 rfl (lv_at hl 1 rfl) ?_
  refine lv_iload_n C.x C.b dX9_when_1 rfl (lv_at hl 2 rfl) ?_
  obtain ⟨q1, h_q1, hf⟩ := bd_e hf
  refine r_callS (As := [.int x1, .int x2]) (rest := []) C hR hS mk_X9_areSides cl_X9_305 (k_X9_areSides h_q1) ⟨⟨Nat.le_of_ble_eq_true rfl, Nat.le_of_ble_eq_true rfl⟩, ⟨rfl, rfl⟩, Nat.le_of_ble_eq_true rfl, Nat.le_of_ble_eq_true rfl⟩ rfl hl.1 rfl (Nat.le_of_ble_eq_true rfl) dX9_when_2 (fun H locs hR hS hE1 z_q1 => ?_)
  have z_q1 := z_q1 _ rfl
  refine lv_if_ne (tgt := 10) C.x C.b dX9_when_5 (by decide) (fun c2 => ?_) (fun c2 => ?_)
  · have hf := it_f hf c2
    refine lv_aload_n C.x C.b dX9_when_10 rfl (lv_at hl 0 rfl) ?_
    obtain ⟨g3, hf⟩ := gd_e hf
    refine r_getr C hR t_r0 fl_X9_33 (by decide) (nz_e g3) dX9_when_11 (fun tq4 => ?_)
    have tg3 := okO tq4 rfl
    refine lv_aload_n C.x C.b dX9_when_14 rfl (lv_at hl 0 rfl) ?_
    obtain ⟨g5, hf⟩ := gd_e hf
    refine r_getr C hR t_r0 fl_X9_26 (by decide) (nz_e g5) dX9_when_15 (fun tq6 => ?_)
    have tg5 := okO tq6 rfl
    obtain ⟨q7, h_q7, hf⟩ := bd_e hf
    refine r_callV (As := [.ref (G.2.2 + (hpR h r0 2))]) (rest := []) C hR hS tg3 rfl mk_X0_copy cl_X9_134 (k_X0_copy tg3 tg5 h_q7) ⟨⟨Nat.le_of_ble_eq_true rfl, Nat.le_of_ble_eq_true rfl⟩, ⟨rfl, rfl⟩, Nat.le_of_ble_eq_true rfl, Nat.le_of_ble_eq_true rfl⟩ rfl hl.1 rfl (Nat.le_of_ble_eq_true rfl) dX9_when_18 (fun H locs hR hS hE1 z_q7 => ?_)
    have hE := hE.tr hE1
    have t_r0 := hE1.at t_r0 (by decide)
    refine lv_iconst (v := (0 : Int32)) C.x C.b dX9_when_21 (by decide) ?_
    refine lv_istore_n (lv' := [(3, .int (0 : Int32)), (0, .ref (G.2.2 + r0)), (1, .int x1), (2, .int x2)]) C.x C.b dX9_when_22 rfl hl (by decide) rfl (fun ls hl => ?_)
    exact w_X9_when_23 C hr hlk FU _ _ _ _ _ hf hE hR hS t_r0 (lv_sub hl [1, 2, 3, 0] rfl)
  · have hf := it_t hf c2
    refine lv_iconst (v := (-1 : Int32)) C.x C.b dX9_when_8 (by decide) ?_
    have hf := so_e hf
    subst hf
    exact r_iret C hr hlk hR hE hS dX9_when_9

def rm_X9_least : Room := { frames := 4, cells := 0, slots := 0, locals := 88 }
def P_X9_least_74 (G : Gt) (l : Launch) (p : Program) (e : Env) (s : State) (m : MethodId) (args : Array Value) (below : List Frame) (meth : Method) (c : Code) (h0 : Hp) (out : (Int32 × Hp)) (r0 : Nat) (x1 : Int32) (x2 : Int32) (k : Hp → Int32 → Int32 → Int32 → Option (Int32 × Hp)) : Prop := ∀ (H : Heap) (locs : List Loc) (ls : Array Slot) (h : Hp) (x3 : Int32) (x4 : Int32) (x5 : Int32), k h x3 x4 x5 = some out → Ext h0 h → Rel G h H → va_S (AA G.2.2) s.heap H locs → hpT h r0 = (1, 9) → lv_has ls 7 [(0, .ref (G.2.2 + r0)), (1, .int x1), (2, .int x2), (3, .int x3), (4, .int x4), (5, .int x5)] → W p l e rm_X9_least s m args below meth c H locs 0 0 (MQ below (Qm G h0 out.2 (some (.int out.1)) 0) args s 0 0 (AA G.2.2)) (F0 m 74 ls [])
def P_X9_least_21 (G : Gt) (l : Launch) (p : Program) (e : Env) (s : State) (m : MethodId) (args : Array Value) (below : List Frame) (meth : Method) (c : Code) (h0 : Hp) (out : (Int32 × Hp)) (r0 : Nat) (x1 : Int32) (x2 : Int32) (k : Hp → Int32 → Int32 → Int32 → Option (Int32 × Hp)) : Prop := ∀ (H : Heap) (locs : List Loc) (ls : Array Slot) (h : Hp) (x3 : Int32) (x4 : Int32) (x5 : Int32), k h x3 x4 x5 = some out → Ext h0 h → Rel G h H → va_S (AA G.2.2) s.heap H locs → hpT h r0 = (1, 9) → lv_has ls 7 [(0, .ref (G.2.2 + r0)), (1, .int x1), (2, .int x2), (3, .int x3), (4, .int x4), (5, .int x5)] → W p l e rm_X9_least s m args below meth c H locs 0 0 (MQ below (Qm G h0 out.2 (some (.int out.1)) 0) args s 0 0 (AA G.2.2)) (F0 m 21 ls [])
set_option maxRecDepth 100000 in
set_option maxHeartbeats 4000000 in
theorem w_X9_least_74 {G : Gt} {l : Launch} {p : Program} {e : Env} {s : State} {m : MethodId} {args : Array Value} {below : List Frame} {meth : Method} {c : Code}  {h0 : Hp} {out : (Int32 × Hp)} {r0 : Nat} {x1 : Int32} {x2 : Int32} {k21 : Hp → Int32 → Int32 → Int32 → Option (Int32 × Hp)} (C : Cx G p m c cX9_least 7 s args RX9) (hr : meth.sig.returnType = some .int) (hlk : meth.locks = false)  (hk21 : P_X9_least_21 G l p e s m args below meth c h0 out r0 x1 x2 k21) : P_X9_least_74 G l p e s m args below meth c h0 out r0 x1 x2 (f_X9_least_74 r0 x1 x2 k21) := by
  intro H locs ls h x3 x4 x5 hf hE hR hS t_r0 hl
  rw [f_X9_least_74] at hf
  obtain ⟨v26, e_v26⟩ : ∃ y : Int32, y = x5 + (1 : Int32) := ⟨_, rfl⟩
  have hf := lt_e hf e_v26
  refine lv_iinc (v := v26) (lv' := [(5, .int v26), (0, .ref (G.2.2 + r0)), (1, .int x1), (2, .int x2), (3, .int x3), (4, .int x4)]) C.x C.b dX9_least_74 hl (k := 5) rfl (by rw [e_v26]; rfl) (by decide) rfl (fun ls hl => ?_)
  refine lv_goto (tgt := 21) C.x C.b dX9_least_77 (by decide) ?_
  exact hk21 _ _ _ _ _ _ _ hf hE hR hS t_r0 (lv_sub hl [1, 2, 3, 4, 5, 0] rfl)
set_option maxRecDepth 100000 in
set_option maxHeartbeats 4000000 in
theorem w_X9_least_21 {G : Gt} {l : Launch} {p : Program} {e : Env} {s : State} {m : MethodId} {args : Array Value} {below : List Frame} {meth : Method} {c : Code}  {h0 : Hp} {out : (Int32 × Hp)} {r0 : Nat} {x1 : Int32} {x2 : Int32}  (C : Cx G p m c cX9_least 7 s args RX9) (hr : meth.sig.returnType = some .int) (hlk : meth.locks = false)   (n : Nat) : P_X9_least_21 G l p e s m args below meth c h0 out r0 x1 x2 (f_X9_least_21 r0 x1 x2 n) := by
  induction n with
  | zero => intro H locs ls h x3 x4 x5 hf hE hR hS t_r0 hl; cases hf
  | succ n hk21 =>
    intro H locs ls h x3 x4 x5 hf hE hR hS t_r0 hl
    rw [f_X9_least_21] at hf
    obtain ⟨k21, e_k21⟩ : ∃ y, y = f_X9_least_21 r0 x1 x2 n := ⟨_, rfl⟩
    have hf := lt_e hf e_k21
    rw [← e_k21] at hk21
    refine lv_iload C.x C.b dX9_least_21 (lv_at hl 5 rfl) ?_
    refine lv_aload_n C.x C.b dX9_least_23 rfl (lv_at hl 0 rfl) ?_
    obtain ⟨g3, hf⟩ := gd_e hf
    refine r_getr C hR t_r0 fl_X9_26 (by decide) (nz_e g3) dX9_least_24 (fun tq4 => ?_)
    have tg3 := okO tq4 rfl
    obtain ⟨q5, h_q5, hf⟩ := bd_e hf
    refine r_callV (As := []) (rest := [.int x5]) C hR hS tg3 rfl mk_X0_cells cl_X9_118 (k_X0_cells tg3 h_q5) ⟨⟨Nat.le_of_ble_eq_true rfl, Nat.le_of_ble_eq_true rfl⟩, ⟨rfl, rfl⟩, Nat.le_of_ble_eq_true rfl, Nat.le_of_ble_eq_true rfl⟩ rfl hl.1 rfl (Nat.le_of_ble_eq_true rfl) dX9_least_27 (fun H locs hR hS hE1 z_q5 => ?_)
    refine lv_icmp_ge (tgt := 80) C.x C.b dX9_least_30 (by decide) (fun c6 => ?_) (fun c6 => ?_)
    · have hf := it_t hf c6
      refine lv_iload_n C.x C.b dX9_least_80 rfl (lv_at hl 3 rfl) ?_
      refine lv_bipush (v := (-2 : Int32)) C.x C.b dX9_least_81 (by decide) ?_
      refine lv_icmp_eq (tgt := 121) C.x C.b dX9_least_83 (by decide) (fun c7 => ?_) (fun c7 => ?_)
      · have hf := it_t hf c7
        refine lv_iload_n C.x C.b dX9_least_121 rfl (lv_at hl 3 rfl) ?_
        have hf := so_e hf
        subst hf
        exact r_iret C hr hlk hR hE hS dX9_least_122
      · have hf := it_f hf c7
        refine lv_aload_n C.x C.b dX9_least_86 rfl (lv_at hl 0 rfl) ?_
        obtain ⟨g8, hf⟩ := gd_e hf
        refine r_getr C hR t_r0 fl_X9_19 (by decide) (nz_e g8) dX9_least_87 (fun tq9 => ?_)
        have tg8 := okO tq9 rfl
        obtain ⟨q10, h_q10, hf⟩ := bd_e hf
        refine r_callV (As := []) (rest := []) C hR hS tg8 rfl mk_X7_start cl_X9_220 (k_X7_start tg8 h_q10) ⟨⟨Nat.le_of_ble_eq_true rfl, Nat.le_of_ble_eq_true rfl⟩, ⟨rfl, rfl⟩, Nat.le_of_ble_eq_true rfl, Nat.le_of_ble_eq_true rfl⟩ rfl hl.1 rfl (Nat.le_of_ble_eq_true rfl) dX9_least_90 (fun H locs hR hS hE1 z_q10 => ?_)
        have hE := hE.tr hE1
        have t_r0 := hE1.at t_r0 (by decide)
        refine lv_aload_n C.x C.b dX9_least_93 rfl (lv_at hl 0 rfl) ?_
        obtain ⟨g11, hf⟩ := gd_e hf
        refine r_getr C hR t_r0 fl_X9_19 (by decide) (nz_e g11) dX9_least_94 (fun tq12 => ?_)
        have tg11 := okO tq12 rfl
        refine lv_iload C.x C.b dX9_least_97 (lv_at hl 4 rfl) ?_
        refine lv_i2l C.x C.b dX9_least_99 rfl ?_
        obtain ⟨q13, h_q13, hf⟩ := bd_e hf
        refine r_callV (As := [.long (x4.toInt64)]) (rest := []) C hR hS tg11 rfl mk_X7_add cl_X9_223 (k_X7_add tg11 h_q13) ⟨⟨Nat.le_of_ble_eq_true rfl, Nat.le_of_ble_eq_true rfl⟩, ⟨rfl, rfl⟩, Nat.le_of_ble_eq_true rfl, Nat.le_of_ble_eq_true rfl⟩ rfl hl.1 rfl (Nat.le_of_ble_eq_true rfl) dX9_least_100 (fun H locs hR hS hE1 z_q13 => ?_)
        have hE := hE.tr hE1
        have t_r0 := hE1.at t_r0 (by decide)
        refine lv_aload_n C.x C.b dX9_least_103 rfl (lv_at hl 0 rfl) ?_
        obtain ⟨g14, hf⟩ := gd_e hf
        refine r_getr C hR t_r0 fl_X9_19 (by decide) (nz_e g14) dX9_least_104 (fun tq15 => ?_)
        have tg14 := okO tq15 rfl
        refine lv_aload_n C.x C.b dX9_least_107 rfl (lv_at hl 0 rfl) ?_
        obtain ⟨g16, hf⟩ := gd_e hf
        refine r_getr C hR t_r0 fl_X9_26 (by decide) (nz_e g16) dX9_least_108 (fun tq17 => ?_)
        have tg16 := okO tq17 rfl
        refine lv_iload_n C.x C.b dX9_least_111 rfl (lv_at hl 3 rfl) ?_
        refine lv_iload_n C.x C.b dX9_least_112 rfl (lv_at hl 1 rfl) ?_
        refine lv_iload_n C.x C.b dX9_least_113 rfl (lv_at hl 2 rfl) ?_
        obtain ⟨q18, h_q18, hf⟩ := bd_e hf
        refine r_callV (As := [.int x3, .int x1, .int x2]) (rest := [.ref (G.2.2 + (hpR q13 r0 1))]) C hR hS tg16 rfl mk_X0_onUnder cl_X9_323 (k_X0_onUnder tg16 h_q18) ⟨⟨Nat.le_of_ble_eq_true rfl, Nat.le_of_ble_eq_true rfl⟩, ⟨rfl, rfl⟩, Nat.le_of_ble_eq_true rfl, Nat.le_of_ble_eq_true rfl⟩ rfl hl.1 rfl (Nat.le_of_ble_eq_true rfl) dX9_least_114 (fun H locs hR hS hE1 z_q18 => ?_)
        refine lv_i2l C.x C.b dX9_least_117 rfl ?_
        obtain ⟨q19, h_q19, hf⟩ := bd_e hf
        refine r_callV (As := [.long (q18.toInt64)]) (rest := []) C hR hS tg14 rfl mk_X7_add cl_X9_223 (k_X7_add tg14 h_q19) ⟨⟨Nat.le_of_ble_eq_true rfl, Nat.le_of_ble_eq_true rfl⟩, ⟨rfl, rfl⟩, Nat.le_of_ble_eq_true rfl, Nat.le_of_ble_eq_true rfl⟩ rfl hl.1 rfl (Nat.le_of_ble_eq_true rfl) dX9_least_118 (fun H locs hR hS hE1 z_q19 => ?_)
        have hE := hE.tr hE1
        have t_r0 := hE1.at t_r0 (by decide)
        refine lv_iload_n C.x C.b dX9_least_121 rfl (lv_at hl 3 rfl) ?_
        have hf := so_e hf
        subst hf
        exact r_iret C hr hlk hR hE hS dX9_least_122
    · have hf := it_f hf c6
      refine lv_aload_n C.x C.b dX9_least_33 rfl (lv_at hl 0 rfl) ?_
      refine r_getr C hR t_r0 fl_X9_26 (by decide) (nz_e g3) dX9_least_34 (fun tq20 => ?_)
      refine lv_iload C.x C.b dX9_least_37 (lv_at hl 5 rfl) ?_
      refine lv_iload_n C.x C.b dX9_least_39 rfl (lv_at hl 1 rfl) ?_
      refine lv_iload_n C.x C.b dX9_least_40 rfl (lv_at hl 2 rfl) ?_
      obtain ⟨q21, h_q21, hf⟩ := bd_e hf
      refine r_callV (As := [.int x5, .int x1, .int x2]) (rest := []) C hR hS tg3 rfl mk_X0_holds cl_X9_316 (k_X0_holds tg3 h_q21) ⟨⟨Nat.le_of_ble_eq_true rfl, Nat.le_of_ble_eq_true rfl⟩, ⟨rfl, rfl⟩, Nat.le_of_ble_eq_true rfl, Nat.le_of_ble_eq_true rfl⟩ rfl hl.1 rfl (Nat.le_of_ble_eq_true rfl) dX9_least_41 (fun H locs hR hS hE1 z_q21 => ?_)
      have z_q21 := z_q21 _ rfl
      refine lv_if_eq (tgt := 74) C.x C.b dX9_least_44 (by decide) (fun c22 => ?_) (fun c22 => ?_)
      · have hf := it_t hf c22
        exact w_X9_least_74 C hr hlk hk21 _ _ _ _ _ _ _ hf hE hR hS t_r0 (lv_sub hl [0, 1, 2, 3, 4, 5] rfl)
      · have hf := it_f hf c22
        refine lv_aload_n C.x C.b dX9_least_47 rfl (lv_at hl 0 rfl) ?_
        refine r_getr C hR t_r0 fl_X9_26 (by decide) (nz_e g3) dX9_least_48 (fun tq23 => ?_)
        refine lv_iload C.x C.b dX9_least_51 (lv_at hl 5 rfl) ?_
        refine lv_iload_n C.x C.b dX9_least_53 rfl (lv_at hl 1 rfl) ?_
        refine lv_iload_n C.x C.b dX9_least_54 rfl (lv_at hl 2 rfl) ?_
        obtain ⟨q24, h_q24, hf⟩ := bd_e hf
        refine r_callV (As := [.int x5, .int x1, .int x2]) (rest := []) C hR hS tg3 rfl mk_X0_strengthUnder cl_X9_319 (k_X0_strengthUnder tg3 h_q24) ⟨⟨Nat.le_of_ble_eq_true rfl, Nat.le_of_ble_eq_true rfl⟩, ⟨rfl, rfl⟩, Nat.le_of_ble_eq_true rfl, Nat.le_of_ble_eq_true rfl⟩ rfl hl.1 rfl (Nat.le_of_ble_eq_true rfl) dX9_least_55 (fun H locs hR hS hE1 z_q24 => ?_)
        refine lv_istore (lv' := [(6, .int q24), (0, .ref (G.2.2 + r0)), (1, .int x1), (2, .int x2), (3, .int x3), (4, .int x4), (5, .int x5)]) C.x C.b dX9_least_58 hl (by decide) rfl (fun ls hl => ?_)
        refine lv_iload C.x C.b dX9_least_60 (lv_at hl 0 rfl) ?_
        refine lv_iload C.x C.b dX9_least_62 (lv_at hl 5 rfl) ?_
        refine lv_icmp_ge (tgt := 74) C.x C.b dX9_least_64 (by decide) (fun c25 => ?_) (fun c25 => ?_)
        · simp only [if_pos c25] at hf
          exact w_X9_least_74 C hr hlk hk21 _ _ _ _ _ _ _ hf hE hR hS t_r0 (lv_sub hl [1, 2, 3, 4, 5, 6] rfl)
        · simp only [if_neg c25] at hf
          refine lv_iload C.x C.b dX9_least_67 (lv_at hl 0 rfl) ?_
          refine lv_istore (lv' := [(4, .int q24), (6, .int q24), (0, .ref (G.2.2 + r0)), (1, .int x1), (2, .int x2), (3, .int x3), (5, .int x5)]) C.x C.b dX9_least_69 hl (by decide) rfl (fun ls hl => ?_)
          refine lv_iload C.x C.b dX9_least_71 (lv_at hl 6 rfl) ?_
          refine lv_istore_n (lv' := [(3, .int x5), (4, .int q24), (6, .int q24), (0, .ref (G.2.2 + r0)), (1, .int x1), (2, .int x2), (5, .int x5)]) C.x C.b dX9_least_73 rfl hl (by decide) rfl (fun ls hl => ?_)
          exact w_X9_least_74 C hr hlk hk21 _ _ _ _ _ _ _ hf hE hR hS t_r0 (lv_sub hl [3, 4, 5, 0, 1, 6] rfl)
set_option maxRecDepth 100000 in
set_option maxHeartbeats 4000000 in
theorem k_X9_least {G : Gt} {l : Launch}  {h : Hp} {r0 : Nat} {x1 : Int32} {x2 : Int32} {out : (Int32 × Hp)} (t_r0 : hpT h r0 = (1, 9))  (hf : f_X9_least  h r0 x1 x2 = some out) : Mt G l yX9_least cX9_least 7 (some .int) rm_X9_least [.ref (G.2.2 + r0), .int x1, .int x2] h (some (.int out.1)) out.2 0 0 0 := by
  refine r_met (by decide +kernel) (Nat.le_of_ble_eq_true rfl) ?_
  intro p e s m args below meth c ls C hr hlk hnm hR hS hl
  have hE : Ext h h := Ext.rf
  have hl : lv_has ls 7 [(0, .ref (G.2.2 + r0)), (1, .int x1), (2, .int x2)] := hl
  rw [f_X9_least] at hf
  refine lv_iload_n C.x C.b dX9_least_0 rfl (lv_at hl 1 rfl) ?_
  refine lv_iload_n C.x C.b dX9_least_1 rfl (lv_at hl 2 rfl) ?_
  obtain ⟨q1, h_q1, hf⟩ := bd_e hf
  refine r_callS (As := [.int x1, .int x2]) (rest := []) C hR hS mk_X9_areSides cl_X9_305 (k_X9_areSides h_q1) ⟨⟨Nat.le_of_ble_eq_true rfl, Nat.le_of_ble_eq_true rfl⟩, ⟨rfl, rfl⟩, Nat.le_of_ble_eq_true rfl, Nat.le_of_ble_eq_true rfl⟩ rfl hl.1 rfl (Nat.le_of_ble_eq_true rfl) dX9_least_2 (fun H locs hR hS hE1 z_q1 => ?_)
  have z_q1 := z_q1 _ rfl
  refine lv_if_ne (tgt := 10) C.x C.b dX9_least_5 (by decide) (fun c2 => ?_) (fun c2 => ?_)
  · have hf := it_f hf c2
    refine lv_bipush (v := (-2 : Int32)) C.x C.b dX9_least_10 (by decide) ?_
    refine lv_istore_n (lv' := [(3, .int (-2 : Int32)), (0, .ref (G.2.2 + r0)), (1, .int x1), (2, .int x2)]) C.x C.b dX9_least_12 rfl hl (by decide) rfl (fun ls hl => ?_)
    refine lv_ldcw C.x C.b C.ow (C.ts _ lk_X9_315) dX9_least_13 ?_
    refine lv_istore (lv' := [(4, .int (2147483647 : Int32)), (3, .int (-2 : Int32)), (0, .ref (G.2.2 + r0)), (1, .int x1), (2, .int x2)]) C.x C.b dX9_least_16 hl (by decide) rfl (fun ls hl => ?_)
    refine lv_iconst (v := (0 : Int32)) C.x C.b dX9_least_18 (by decide) ?_
    refine lv_istore (lv' := [(5, .int (0 : Int32)), (4, .int (2147483647 : Int32)), (3, .int (-2 : Int32)), (0, .ref (G.2.2 + r0)), (1, .int x1), (2, .int x2)]) C.x C.b dX9_least_19 hl (by decide) rfl (fun ls hl => ?_)
    exact w_X9_least_21 C hr hlk FU _ _ _ _ _ _ _ hf hE hR hS t_r0 (lv_sub hl [3, 4, 5, 2, 1, 0] rfl)
  · have hf := it_t hf c2
    refine lv_iconst (v := (-1 : Int32)) C.x C.b dX9_least_8 (by decide) ?_
    have hf := so_e hf
    subst hf
    exact r_iret C hr hlk hR hE hS dX9_least_9

def rm_X9_largest : Room := { frames := 5, cells := 0, slots := 0, locals := 111 }
def P_X9_largest_112 (G : Gt) (l : Launch) (p : Program) (e : Env) (s : State) (m : MethodId) (args : Array Value) (below : List Frame) (meth : Method) (c : Code) (h0 : Hp) (out : (Int32 × Hp)) (r0 : Nat) (k : Hp → Int32 → Int32 → Int32 → Int32 → Option (Int32 × Hp)) : Prop := ∀ (H : Heap) (locs : List Loc) (ls : Array Slot) (h : Hp) (x1 : Int32) (x2 : Int32) (x3 : Int32) (x4 : Int32), k h x1 x2 x3 x4 = some out → Ext h0 h → Rel G h H → va_S (AA G.2.2) s.heap H locs → hpT h r0 = (1, 9) → lv_has ls 5 [(0, .ref (G.2.2 + r0)), (1, .int x1), (2, .int x2), (3, .int x3), (4, .int x4)] → W p l e rm_X9_largest s m args below meth c H locs 0 0 (MQ below (Qm G h0 out.2 (some (.int out.1)) 0) args s 0 0 (AA G.2.2)) (F0 m 112 ls [])
def P_X9_largest_38 (G : Gt) (l : Launch) (p : Program) (e : Env) (s : State) (m : MethodId) (args : Array Value) (below : List Frame) (meth : Method) (c : Code) (h0 : Hp) (out : (Int32 × Hp)) (r0 : Nat) (k : Hp → Int32 → Int32 → Int32 → Int32 → Option (Int32 × Hp)) : Prop := ∀ (H : Heap) (locs : List Loc) (ls : Array Slot) (h : Hp) (x1 : Int32) (x2 : Int32) (x3 : Int32) (x4 : Int32), k h x1 x2 x3 x4 = some out → Ext h0 h → Rel G h H → va_S (AA G.2.2) s.heap H locs → hpT h r0 = (1, 9) → lv_has ls 5 [(0, .ref (G.2.2 + r0)), (1, .int x1), (2, .int x2), (3, .int x3), (4, .int x4)] → W p l e rm_X9_largest s m args below meth c H locs 0 0 (MQ below (Qm G h0 out.2 (some (.int out.1)) 0) args s 0 0 (AA G.2.2)) (F0 m 38 ls [])
def P_X9_largest_24 (G : Gt) (l : Launch) (p : Program) (e : Env) (s : State) (m : MethodId) (args : Array Value) (below : List Frame) (meth : Method) (c : Code) (h0 : Hp) (out : (Int32 × Hp)) (r0 : Nat) (k : Hp → Int32 → Int32 → Int32 → Option (Int32 × Hp)) : Prop := ∀ (H : Heap) (locs : List Loc) (ls : Array Slot) (h : Hp) (x1 : Int32) (x2 : Int32) (x3 : Int32), k h x1 x2 x3 = some out → Ext h0 h → Rel G h H → va_S (AA G.2.2) s.heap H locs → hpT h r0 = (1, 9) → lv_has ls 5 [(0, .ref (G.2.2 + r0)), (1, .int x1), (2, .int x2), (3, .int x3)] → W p l e rm_X9_largest s m args below meth c H locs 0 0 (MQ below (Qm G h0 out.2 (some (.int out.1)) 0) args s 0 0 (AA G.2.2)) (F0 m 24 ls [])
def P_X9_largest_11 (G : Gt) (l : Launch) (p : Program) (e : Env) (s : State) (m : MethodId) (args : Array Value) (below : List Frame) (meth : Method) (c : Code) (h0 : Hp) (out : (Int32 × Hp)) (r0 : Nat) (k : Hp → Int32 → Int32 → Option (Int32 × Hp)) : Prop := ∀ (H : Heap) (locs : List Loc) (ls : Array Slot) (h : Hp) (x1 : Int32) (x2 : Int32), k h x1 x2 = some out → Ext h0 h → Rel G h H → va_S (AA G.2.2) s.heap H locs → hpT h r0 = (1, 9) → lv_has ls 5 [(0, .ref (G.2.2 + r0)), (1, .int x1), (2, .int x2)] → W p l e rm_X9_largest s m args below meth c H locs 0 0 (MQ below (Qm G h0 out.2 (some (.int out.1)) 0) args s 0 0 (AA G.2.2)) (F0 m 11 ls [])
set_option maxRecDepth 100000 in
set_option maxHeartbeats 4000000 in
theorem w_X9_largest_112 {G : Gt} {l : Launch} {p : Program} {e : Env} {s : State} {m : MethodId} {args : Array Value} {below : List Frame} {meth : Method} {c : Code}  {h0 : Hp} {out : (Int32 × Hp)} {r0 : Nat} {k11 : Hp → Int32 → Int32 → Option (Int32 × Hp)} {k24 : Hp → Int32 → Int32 → Int32 → Option (Int32 × Hp)} {k38 : Hp → Int32 → Int32 → Int32 → Int32 → Option (Int32 × Hp)} (C : Cx G p m c cX9_largest 5 s args RX9) (hr : meth.sig.returnType = some .int) (hlk : meth.locks = false)  (hk11 : P_X9_largest_11 G l p e s m args below meth c h0 out r0 k11) (hk24 : P_X9_largest_24 G l p e s m args below meth c h0 out r0 k24) (hk38 : P_X9_largest_38 G l p e s m args below meth c h0 out r0 k38) : P_X9_largest_112 G l p e s m args below meth c h0 out r0 (f_X9_largest_112 r0 k11 k24 k38) := by
  intro H locs ls h x1 x2 x3 x4 hf hE hR hS t_r0 hl
  rw [f_X9_largest_112] at hf
  obtain ⟨v33, e_v33⟩ : ∃ y : Int32, y = x4 + (1 : Int32) := ⟨_, rfl⟩
  have hf := lt_e hf e_v33
  refine lv_iinc (v := v33) (lv' := [(4, .int v33), (0, .ref (G.2.2 + r0)), (1, .int x1), (2, .int x2), (3, .int x3)]) C.x C.b dX9_largest_112 hl (k := 4) rfl (by rw [e_v33]; rfl) (by decide) rfl (fun ls hl => ?_)
  refine lv_goto (tgt := 38) C.x C.b dX9_largest_115 (by decide) ?_
  exact hk38 _ _ _ _ _ _ _ _ hf hE hR hS t_r0 (lv_sub hl [1, 2, 3, 4, 0] rfl)
set_option maxRecDepth 100000 in
set_option maxHeartbeats 4000000 in
theorem w_X9_largest_38 {G : Gt} {l : Launch} {p : Program} {e : Env} {s : State} {m : MethodId} {args : Array Value} {below : List Frame} {meth : Method} {c : Code}  {h0 : Hp} {out : (Int32 × Hp)} {r0 : Nat} {k11 : Hp → Int32 → Int32 → Option (Int32 × Hp)} {k24 : Hp → Int32 → Int32 → Int32 → Option (Int32 × Hp)} (C : Cx G p m c cX9_largest 5 s args RX9) (hr : meth.sig.returnType = some .int) (hlk : meth.locks = false)  (hk11 : P_X9_largest_11 G l p e s m args below meth c h0 out r0 k11) (hk24 : P_X9_largest_24 G l p e s m args below meth c h0 out r0 k24) (n : Nat) : P_X9_largest_38 G l p e s m args below meth c h0 out r0 (f_X9_largest_38 r0 k11 k24 n) := by
  induction n with
  | zero => intro H locs ls h x1 x2 x3 x4 hf hE hR hS t_r0 hl; cases hf
  | succ n hk38 =>
    intro H locs ls h x1 x2 x3 x4 hf hE hR hS t_r0 hl
    rw [f_X9_largest_38] at hf
    obtain ⟨k38, e_k38⟩ : ∃ y, y = f_X9_largest_38 r0 k11 k24 n := ⟨_, rfl⟩
    have hf := lt_e hf e_k38
    rw [← e_k38] at hk38
    refine lv_iload C.x C.b dX9_largest_38 (lv_at hl 4 rfl) ?_
    refine lv_aload_n C.x C.b dX9_largest_40 rfl (lv_at hl 0 rfl) ?_
    obtain ⟨g12, hf⟩ := gd_e hf
    refine r_getr C hR t_r0 fl_X9_26 (by decide) (nz_e g12) dX9_largest_41 (fun tq13 => ?_)
    have tg12 := okO tq13 rfl
    refine r_geti C hR tg12 fl_X9_329 rfl dX9_largest_44 ?_
    refine lv_icmp_gt (tgt := 118) C.x C.b dX9_largest_47 (by decide) (fun c14 => ?_) (fun c14 => ?_)
    · have hf := it_t hf c14
      obtain ⟨v15, e_v15⟩ : ∃ y : Int32, y = x3 + (1 : Int32) := ⟨_, rfl⟩
      have hf := lt_e hf e_v15
      refine lv_iinc (v := v15) (lv' := [(3, .int v15), (0, .ref (G.2.2 + r0)), (1, .int x1), (2, .int x2), (4, .int x4)]) C.x C.b dX9_largest_118 hl (k := 3) rfl (by rw [e_v15]; rfl) (by decide) rfl (fun ls hl => ?_)
      refine lv_goto (tgt := 24) C.x C.b dX9_largest_121 (by decide) ?_
      exact hk24 _ _ _ _ _ _ _ hf hE hR hS t_r0 (lv_sub hl [1, 2, 3, 0] rfl)
    · have hf := it_f hf c14
      refine lv_iload_n C.x C.b dX9_largest_50 rfl (lv_at hl 3 rfl) ?_
      refine lv_iload C.x C.b dX9_largest_51 (lv_at hl 4 rfl) ?_
      refine lv_imul C.x C.b dX9_largest_53 ?_
      refine lv_iload_n C.x C.b dX9_largest_54 rfl (lv_at hl 1 rfl) ?_
      refine lv_icmp_le (tgt := 112) C.x C.b dX9_largest_55 (by decide) (fun c16 => ?_) (fun c16 => ?_)
      · have hf := it_t hf c16
        exact w_X9_largest_112 C hr hlk hk11 hk24 hk38 _ _ _ _ _ _ _ _ hf hE hR hS t_r0 (lv_sub hl [0, 1, 2, 3, 4] rfl)
      · have hf := it_f hf c16
        refine lv_aload_n C.x C.b dX9_largest_58 rfl (lv_at hl 0 rfl) ?_
        refine r_getr C hR t_r0 fl_X9_26 (by decide) (nz_e g12) dX9_largest_59 (fun tq17 => ?_)
        refine lv_iload_n C.x C.b dX9_largest_62 rfl (lv_at hl 2 rfl) ?_
        refine lv_iload_n C.x C.b dX9_largest_63 rfl (lv_at hl 3 rfl) ?_
        refine lv_iload C.x C.b dX9_largest_64 (lv_at hl 4 rfl) ?_
        obtain ⟨q18, h_q18, hf⟩ := bd_e hf
        refine r_callV (As := [.int x2, .int x3, .int x4]) (rest := []) C hR hS tg12 rfl mk_X0_isRoom cl_X9_311 (k_X0_isRoom tg12 h_q18) ⟨⟨Nat.le_of_ble_eq_true rfl, Nat.le_of_ble_eq_true rfl⟩, ⟨rfl, rfl⟩, Nat.le_of_ble_eq_true rfl, Nat.le_of_ble_eq_true rfl⟩ rfl hl.1 rfl (Nat.le_of_ble_eq_true rfl) dX9_largest_66 (fun H locs hR hS hE1 z_q18 => ?_)
        have z_q18 := z_q18 _ rfl
        refine lv_if_eq (tgt := 112) C.x C.b dX9_largest_69 (by decide) (fun c19 => ?_) (fun c19 => ?_)
        · have hf := it_t hf c19
          exact w_X9_largest_112 C hr hlk hk11 hk24 hk38 _ _ _ _ _ _ _ _ hf hE hR hS t_r0 (lv_sub hl [0, 1, 2, 3, 4] rfl)
        · have hf := it_f hf c19
          refine lv_iload_n C.x C.b dX9_largest_72 rfl (lv_at hl 3 rfl) ?_
          refine lv_iload C.x C.b dX9_largest_73 (lv_at hl 4 rfl) ?_
          refine lv_imul C.x C.b dX9_largest_75 ?_
          refine lv_topi (fun v20 e_v20 => ?_)
          have hf := lt_e hf e_v20
          refine lv_istore_n (lv' := [(1, .int v20), (0, .ref (G.2.2 + r0)), (2, .int x2), (3, .int x3), (4, .int x4)]) C.x C.b dX9_largest_76 rfl hl (by decide) rfl (fun ls hl => ?_)
          refine lv_aload_n C.x C.b dX9_largest_77 rfl (lv_at hl 1 rfl) ?_
          obtain ⟨g21, hf⟩ := gd_e hf
          refine r_getr C hR t_r0 fl_X9_19 (by decide) (nz_e g21) dX9_largest_78 (fun tq22 => ?_)
          have tg21 := okO tq22 rfl
          obtain ⟨q23, h_q23, hf⟩ := bd_e hf
          refine r_callV (As := []) (rest := []) C hR hS tg21 rfl mk_X7_start cl_X9_220 (k_X7_start tg21 h_q23) ⟨⟨Nat.le_of_ble_eq_true rfl, Nat.le_of_ble_eq_true rfl⟩, ⟨rfl, rfl⟩, Nat.le_of_ble_eq_true rfl, Nat.le_of_ble_eq_true rfl⟩ rfl hl.1 rfl (Nat.le_of_ble_eq_true rfl) dX9_largest_81 (fun H locs hR hS hE1 z_q23 => ?_)
          have hE := hE.tr hE1
          have t_r0 := hE1.at t_r0 (by decide)
          refine lv_aload_n C.x C.b dX9_largest_84 rfl (lv_at hl 1 rfl) ?_
          obtain ⟨g24, hf⟩ := gd_e hf
          refine r_getr C hR t_r0 fl_X9_19 (by decide) (nz_e g24) dX9_largest_85 (fun tq25 => ?_)
          have tg24 := okO tq25 rfl
          refine lv_iload_n C.x C.b dX9_largest_88 rfl (lv_at hl 2 rfl) ?_
          refine lv_i2l C.x C.b dX9_largest_89 rfl ?_
          obtain ⟨q26, h_q26, hf⟩ := bd_e hf
          refine r_callV (As := [.long (x2.toInt64)]) (rest := []) C hR hS tg24 rfl mk_X7_add cl_X9_223 (k_X7_add tg24 h_q26) ⟨⟨Nat.le_of_ble_eq_true rfl, Nat.le_of_ble_eq_true rfl⟩, ⟨rfl, rfl⟩, Nat.le_of_ble_eq_true rfl, Nat.le_of_ble_eq_true rfl⟩ rfl hl.1 rfl (Nat.le_of_ble_eq_true rfl) dX9_largest_90 (fun H locs hR hS hE1 z_q26 => ?_)
          have hE := hE.tr hE1
          have t_r0 := hE1.at t_r0 (by decide)
          refine lv_aload_n C.x C.b dX9_largest_93 rfl (lv_at hl 1 rfl) ?_
          obtain ⟨g27, hf⟩ := gd_e hf
          refine r_getr C hR t_r0 fl_X9_19 (by decide) (nz_e g27) dX9_largest_94 (fun tq28 => ?_)
          have tg27 := okO tq28 rfl
          refine lv_iload_n C.x C.b dX9_largest_97 rfl (lv_at hl 3 rfl) ?_
          refine lv_i2l C.x C.b dX9_largest_98 rfl ?_
          obtain ⟨q29, h_q29, hf⟩ := bd_e hf
          refine r_callV (As := [.long (x3.toInt64)]) (rest := []) C hR hS tg27 rfl mk_X7_add cl_X9_223 (k_X7_add tg27 h_q29) ⟨⟨Nat.le_of_ble_eq_true rfl, Nat.le_of_ble_eq_true rfl⟩, ⟨rfl, rfl⟩, Nat.le_of_ble_eq_true rfl, Nat.le_of_ble_eq_true rfl⟩ rfl hl.1 rfl (Nat.le_of_ble_eq_true rfl) dX9_largest_99 (fun H locs hR hS hE1 z_q29 => ?_)
          have hE := hE.tr hE1
          have t_r0 := hE1.at t_r0 (by decide)
          refine lv_aload_n C.x C.b dX9_largest_102 rfl (lv_at hl 1 rfl) ?_
          obtain ⟨g30, hf⟩ := gd_e hf
          refine r_getr C hR t_r0 fl_X9_19 (by decide) (nz_e g30) dX9_largest_103 (fun tq31 => ?_)
          have tg30 := okO tq31 rfl
          refine lv_iload C.x C.b dX9_largest_106 (lv_at hl 4 rfl) ?_
          refine lv_i2l C.x C.b dX9_largest_108 rfl ?_
          obtain ⟨q32, h_q32, hf⟩ := bd_e hf
          refine r_callV (As := [.long (x4.toInt64)]) (rest := []) C hR hS tg30 rfl mk_X7_add cl_X9_223 (k_X7_add tg30 h_q32) ⟨⟨Nat.le_of_ble_eq_true rfl, Nat.le_of_ble_eq_true rfl⟩, ⟨rfl, rfl⟩, Nat.le_of_ble_eq_true rfl, Nat.le_of_ble_eq_true rfl⟩ rfl hl.1 rfl (Nat.le_of_ble_eq_true rfl) dX9_largest_109 (fun H locs hR hS hE1 z_q32 => ?_)
          have hE := hE.tr hE1
          have t_r0 := hE1.at t_r0 (by decide)
          exact w_X9_largest_112 C hr hlk hk11 hk24 hk38 _ _ _ _ _ _ _ _ hf hE hR hS t_r0 (lv_sub hl [1, 0, 2, 3, 4] rfl)
set_option maxRecDepth 100000 in
set_option maxHeartbeats 4000000 in
theorem w_X9_largest_24 {G : Gt} {l : Launch} {p : Program} {e : Env} {s : State} {m : MethodId} {args : Array Value} {below : List Frame} {meth : Method} {c : Code}  {h0 : Hp} {out : (Int32 × Hp)} {r0 : Nat} {k11 : Hp → Int32 → Int32 → Option (Int32 × Hp)} (C : Cx G p m c cX9_largest 5 s args RX9) (hr : meth.sig.returnType = some .int) (hlk : meth.locks = false)  (hk11 : P_X9_largest_11 G l p e s m args below meth c h0 out r0 k11) (n : Nat) : P_X9_largest_24 G l p e s m args below meth c h0 out r0 (f_X9_largest_24 r0 k11 n) := by
  induction n with
  | zero => intro H locs ls h x1 x2 x3 hf hE hR hS t_r0 hl; cases hf
  | succ n hk24 =>
    intro H locs ls h x1 x2 x3 hf hE hR hS t_r0 hl
    rw [f_X9_largest_24] at hf
    obtain ⟨k24, e_k24⟩ : ∃ y, y = f_X9_largest_24 r0 k11 n := ⟨_, rfl⟩
    have hf := lt_e hf e_k24
    rw [← e_k24] at hk24
    refine lv_iload_n C.x C.b dX9_largest_24 rfl (lv_at hl 3 rfl) ?_
    refine lv_aload_n C.x C.b dX9_largest_25 rfl (lv_at hl 0 rfl) ?_
    obtain ⟨g8, hf⟩ := gd_e hf
    refine r_getr C hR t_r0 fl_X9_26 (by decide) (nz_e g8) dX9_largest_26 (fun tq9 => ?_)
    have tg8 := okO tq9 rfl
    refine r_geti C hR tg8 fl_X9_326 rfl dX9_largest_29 ?_
    refine lv_icmp_gt (tgt := 124) C.x C.b dX9_largest_32 (by decide) (fun c10 => ?_) (fun c10 => ?_)
    · have hf := it_t hf c10
      obtain ⟨v11, e_v11⟩ : ∃ y : Int32, y = x2 + (1 : Int32) := ⟨_, rfl⟩
      have hf := lt_e hf e_v11
      refine lv_iinc (v := v11) (lv' := [(2, .int v11), (0, .ref (G.2.2 + r0)), (1, .int x1), (3, .int x3)]) C.x C.b dX9_largest_124 hl (k := 2) rfl (by rw [e_v11]; rfl) (by decide) rfl (fun ls hl => ?_)
      refine lv_goto (tgt := 11) C.x C.b dX9_largest_127 (by decide) ?_
      exact hk11 _ _ _ _ _ _ hf hE hR hS t_r0 (lv_sub hl [1, 2, 0] rfl)
    · have hf := it_f hf c10
      refine lv_iconst (v := (1 : Int32)) C.x C.b dX9_largest_35 (by decide) ?_
      refine lv_istore (lv' := [(4, .int (1 : Int32)), (0, .ref (G.2.2 + r0)), (1, .int x1), (2, .int x2), (3, .int x3)]) C.x C.b dX9_largest_36 hl (by decide) rfl (fun ls hl => ?_)
      exact w_X9_largest_38 C hr hlk hk11 hk24 FU _ _ _ _ _ _ _ _ hf hE hR hS t_r0 (lv_sub hl [1, 2, 3, 4, 0] rfl)
set_option maxRecDepth 100000 in
set_option maxHeartbeats 4000000 in
theorem w_X9_largest_11 {G : Gt} {l : Launch} {p : Program} {e : Env} {s : State} {m : MethodId} {args : Array Value} {below : List Frame} {meth : Method} {c : Code}  {h0 : Hp} {out : (Int32 × Hp)} {r0 : Nat}  (C : Cx G p m c cX9_largest 5 s args RX9) (hr : meth.sig.returnType = some .int) (hlk : meth.locks = false)   (n : Nat) : P_X9_largest_11 G l p e s m args below meth c h0 out r0 (f_X9_largest_11 r0 n) := by
  induction n with
  | zero => intro H locs ls h x1 x2 hf hE hR hS t_r0 hl; cases hf
  | succ n hk11 =>
    intro H locs ls h x1 x2 hf hE hR hS t_r0 hl
    rw [f_X9_largest_11] at hf
    obtain ⟨k11, e_k11⟩ : ∃ y, y = f_X9_largest_11 r0 n := ⟨_, rfl⟩
    have hf := lt_e hf e_k11
    rw [← e_k11] at hk11
    refine lv_iload_n C.x C.b dX9_largest_11 rfl (lv_at hl 2 rfl) ?_
    refine lv_aload_n C.x C.b dX9_largest_12 rfl (lv_at hl 0 rfl) ?_
    obtain ⟨g4, hf⟩ := gd_e hf
    refine r_getr C hR t_r0 fl_X9_26 (by decide) (nz_e g4) dX9_largest_13 (fun tq5 => ?_)
    have tg4 := okO tq5 rfl
    obtain ⟨q6, h_q6, hf⟩ := bd_e hf
    refine r_callV (As := []) (rest := [.int x2]) C hR hS tg4 rfl mk_X0_cells cl_X9_118 (k_X0_cells tg4 h_q6) ⟨⟨Nat.le_of_ble_eq_true rfl, Nat.le_of_ble_eq_true rfl⟩, ⟨rfl, rfl⟩, Nat.le_of_ble_eq_true rfl, Nat.le_of_ble_eq_true rfl⟩ rfl hl.1 rfl (Nat.le_of_ble_eq_true rfl) dX9_largest_16 (fun H locs hR hS hE1 z_q6 => ?_)
    refine lv_icmp_ge (tgt := 130) C.x C.b dX9_largest_19 (by decide) (fun c7 => ?_) (fun c7 => ?_)
    · have hf := it_t hf c7
      refine lv_iload_n C.x C.b dX9_largest_130 rfl (lv_at hl 1 rfl) ?_
      have hf := so_e hf
      subst hf
      exact r_iret C hr hlk hR hE hS dX9_largest_131
    · have hf := it_f hf c7
      refine lv_iconst (v := (1 : Int32)) C.x C.b dX9_largest_22 (by decide) ?_
      refine lv_istore_n (lv' := [(3, .int (1 : Int32)), (0, .ref (G.2.2 + r0)), (1, .int x1), (2, .int x2)]) C.x C.b dX9_largest_23 rfl hl (by decide) rfl (fun ls hl => ?_)
      exact w_X9_largest_24 C hr hlk hk11 FU _ _ _ _ _ _ _ hf hE hR hS t_r0 (lv_sub hl [1, 2, 3, 0] rfl)
set_option maxRecDepth 100000 in
set_option maxHeartbeats 4000000 in
theorem k_X9_largest {G : Gt} {l : Launch}  {h : Hp} {r0 : Nat} {out : (Int32 × Hp)} (t_r0 : hpT h r0 = (1, 9))  (hf : f_X9_largest  h r0 = some out) : Mt G l yX9_largest cX9_largest 5 (some .int) rm_X9_largest [.ref (G.2.2 + r0)] h (some (.int out.1)) out.2 0 0 0 := by
  refine r_met (by decide +kernel) (Nat.le_of_ble_eq_true rfl) ?_
  intro p e s m args below meth c ls C hr hlk hnm hR hS hl
  have hE : Ext h h := Ext.rf
  have hl : lv_has ls 5 [(0, .ref (G.2.2 + r0))] := hl
  rw [f_X9_largest] at hf
  refine lv_iconst (v := (0 : Int32)) C.x C.b dX9_largest_0 (by decide) ?_
  refine lv_istore_n (lv' := [(1, .int (0 : Int32)), (0, .ref (G.2.2 + r0))]) C.x C.b dX9_largest_1 rfl hl (by decide) rfl (fun ls hl => ?_)
  refine lv_aload_n C.x C.b dX9_largest_2 rfl (lv_at hl 1 rfl) ?_
  obtain ⟨g1, hf⟩ := gd_e hf
  refine r_getr C hR t_r0 fl_X9_19 (by decide) (nz_e g1) dX9_largest_3 (fun tq2 => ?_)
  have tg1 := okO tq2 rfl
  obtain ⟨q3, h_q3, hf⟩ := bd_e hf
  refine r_callV (As := []) (rest := []) C hR hS tg1 rfl mk_X7_start cl_X9_220 (k_X7_start tg1 h_q3) ⟨⟨Nat.le_of_ble_eq_true rfl, Nat.le_of_ble_eq_true rfl⟩, ⟨rfl, rfl⟩, Nat.le_of_ble_eq_true rfl, Nat.le_of_ble_eq_true rfl⟩ rfl hl.1 rfl (Nat.le_of_ble_eq_true rfl) dX9_largest_6 (fun H locs hR hS hE1 z_q3 => ?_)
  have hE := hE.tr hE1
  have t_r0 := hE1.at t_r0 (by decide)
  refine lv_iconst (v := (0 : Int32)) C.x C.b dX9_largest_9 (by decide) ?_
  refine lv_istore_n (lv' := [(2, .int (0 : Int32)), (1, .int (0 : Int32)), (0, .ref (G.2.2 + r0))]) C.x C.b dX9_largest_10 rfl hl (by decide) rfl (fun ls hl => ?_)
  exact w_X9_largest_11 C hr hlk FU _ _ _ _ _ _ hf hE hR hS t_r0 (lv_sub hl [2, 1, 0] rfl)

