def rm_X0_strengthOfAll : Room := { frames := 0, cells := 0, slots := 0, locals := 0 }
def P_X0_strengthOfAll_4 (G : Gt) (l : Launch) (p : Program) (e : Env) (s : State) (m : MethodId) (args : Array Value) (below : List Frame) (meth : Method) (c : Code) (h : Hp) (out : Int32) (r0 : Nat) (k : Int32 → Int32 → Option Int32) : Prop := ∀ (H : Heap) (locs : List Loc) (ls : Array Slot) (x1 : Int32) (x2 : Int32), k x1 x2 = some out → Rel G h H → va_S (AA G.2.2) s.heap H locs → hpT h r0 = (1, 0) → lv_has ls 3 [(0, .ref (G.2.2 + r0)), (1, .int x1), (2, .int x2)] → W p l e rm_X0_strengthOfAll s m args below meth c H locs 0 0 (MQ below (Qm G h h (some (.int out)) 0) args s 0 0 (AA G.2.2)) (F0 m 4 ls [])
set_option maxRecDepth 100000 in
set_option maxHeartbeats 4000000 in
theorem w_X0_strengthOfAll_4 {G : Gt} {l : Launch} {p : Program} {e : Env} {s : State} {m : MethodId} {args : Array Value} {below : List Frame} {meth : Method} {c : Code}  {h : Hp} {out : Int32} {r0 : Nat}  (C : Cx G p m c cX0_strengthOfAll 3 s args RX0) (hr : meth.sig.returnType = some .int) (hlk : meth.locks = false)   (n : Nat) : P_X0_strengthOfAll_4 G l p e s m args below meth c h out r0 (f_X0_strengthOfAll_4 h r0 n) := by
  induction n with
  | zero => intro H locs ls x1 x2 hf hR hS t_r0 hl; cases hf
  | succ n hk4 =>
    intro H locs ls x1 x2 hf hR hS t_r0 hl
    rw [f_X0_strengthOfAll_4] at hf
    obtain ⟨k4, e_k4⟩ : ∃ y, y = f_X0_strengthOfAll_4 h r0 n := ⟨_, rfl⟩
    have hf := lt_e hf e_k4
    rw [← e_k4] at hk4
    refine lv_iload_n C.x C.b dX0_strengthOfAll_4 rfl (lv_at hl 2 rfl) ?_
    refine lv_aload_n C.x C.b dX0_strengthOfAll_5 rfl (lv_at hl 0 rfl) ?_
    refine r_geti C hR t_r0 fl_X0_40 rfl dX0_strengthOfAll_6 ?_
    refine lv_icmp_ge (tgt := 27) C.x C.b dX0_strengthOfAll_9 (by decide) (fun c1 => ?_) (fun c1 => ?_)
    · have hf := it_t hf c1
      refine lv_iload_n C.x C.b dX0_strengthOfAll_27 rfl (lv_at hl 1 rfl) ?_
      have hf := so_e hf
      subst hf
      exact r_iret C hr hlk hR Ext.rf hS dX0_strengthOfAll_28
    · have hf := it_f hf c1
      refine lv_iload_n C.x C.b dX0_strengthOfAll_12 rfl (lv_at hl 1 rfl) ?_
      refine lv_aload_n C.x C.b dX0_strengthOfAll_13 rfl (lv_at hl 0 rfl) ?_
      obtain ⟨g2, hf⟩ := gd_e hf
      refine r_getr C hR t_r0 fl_X0_31 (by decide) (nz_e g2) dX0_strengthOfAll_14 (fun tq3 => ?_)
      have tg2 := okA tq3 rfl
      refine lv_iload_n C.x C.b dX0_strengthOfAll_17 rfl (lv_at hl 2 rfl) ?_
      obtain ⟨g4, hf⟩ := gd_e hf
      refine r_iald C hR tg2 g4 dX0_strengthOfAll_18 ?_
      refine lv_iadd C.x C.b dX0_strengthOfAll_19 ?_
      refine lv_topi (fun v5 e_v5 => ?_)
      have hf := lt_e hf e_v5
      refine lv_istore_n (lv' := [(1, .int v5), (0, .ref (G.2.2 + r0)), (2, .int x2)]) C.x C.b dX0_strengthOfAll_20 rfl hl (by decide) rfl (fun ls hl => ?_)
      obtain ⟨v6, e_v6⟩ : ∃ y : Int32, y = x2 + (1 : Int32) := ⟨_, rfl⟩
      have hf := lt_e hf e_v6
      refine lv_iinc (v := v6) (lv' := [(2, .int v6), (1, .int v5), (0, .ref (G.2.2 + r0))]) C.x C.b dX0_strengthOfAll_21 hl (k := 2) rfl (by rw [e_v6]; rfl) (by decide) rfl (fun ls hl => ?_)
      refine lv_goto (tgt := 4) C.x C.b dX0_strengthOfAll_24 (by decide) ?_
      exact hk4 _ _ _ _ _ hf hR hS t_r0 (lv_sub hl [2, 1, 0] rfl)
set_option maxRecDepth 100000 in
set_option maxHeartbeats 4000000 in
theorem k_X0_strengthOfAll {G : Gt} {l : Launch}  {h : Hp} {r0 : Nat} {out : Int32} (t_r0 : hpT h r0 = (1, 0))  (hf : f_X0_strengthOfAll  h r0 = some out) : Mt G l yX0_strengthOfAll cX0_strengthOfAll 3 (some .int) rm_X0_strengthOfAll [.ref (G.2.2 + r0)] h (some (.int out)) h 0 0 0 := by
  refine r_met (by decide +kernel) (Nat.le_of_ble_eq_true rfl) ?_
  intro p e s m args below meth c ls C hr hlk hnm hR hS hl
  have hl : lv_has ls 3 [(0, .ref (G.2.2 + r0))] := hl
  rw [f_X0_strengthOfAll] at hf
  refine lv_iconst (v := (0 : Int32)) C.x C.b dX0_strengthOfAll_0 (by decide) ?_
  refine lv_istore_n (lv' := [(1, .int (0 : Int32)), (0, .ref (G.2.2 + r0))]) C.x C.b dX0_strengthOfAll_1 rfl hl (by decide) rfl (fun ls hl => ?_)
  refine lv_iconst (v := (0 : Int32)) C.x C.b dX0_strengthOfAll_2 (by decide) ?_
  refine lv_istore_n (lv' := [(2, .int (0 : Int32)), (1, .int (0 : Int32)), (0, .ref (G.2.2 + r0))]) C.x C.b dX0_strengthOfAll_3 rfl hl (by decide) rfl (fun ls hl => ?_)
  exact w_X0_strengthOfAll_4 C hr hlk FU _ _ _ _ _ hf hR hS t_r0 (lv_sub hl [2, 1, 0] rfl)

def rm_X0_common : Room := { frames := 1, cells := 0, slots := 0, locals := 15 }
set_option maxRecDepth 100000 in
set_option maxHeartbeats 4000000 in
theorem k_X0_common {G : Gt} {l : Launch}  {h : Hp} {r0 : Nat} {x1 : Int32} {x2 : Int32} {x3 : Int32} {x4 : Int32} {out : Int32} (t_r0 : hpT h r0 = (1, 0))  (hf : f_X0_common  h r0 x1 x2 x3 x4 = some out) : Mt G l yX0_common cX0_common 5 (some .int) rm_X0_common [.ref (G.2.2 + r0), .int x1, .int x2, .int x3, .int x4] h (some (.int out)) h 0 0 0 := by
  refine r_met (by decide +kernel) (Nat.le_of_ble_eq_true rfl) ?_
  intro p e s m args below meth c ls C hr hlk hnm hR hS hl
  have hl : lv_has ls 5 [(0, .ref (G.2.2 + r0)), (1, .int x1), (2, .int x2), (3, .int x3), (4, .int x4)] := hl
  rw [f_X0_common] at hf
  refine lv_iconst (v := (0 : Int32)) C.x C.b dX0_common_0 (by decide) ?_
  refine lv_iload_n C.x C.b dX0_common_1 rfl (lv_at hl 1 rfl) ?_
  refine lv_iload_n C.x C.b dX0_common_2 rfl (lv_at hl 2 rfl) ?_
  refine lv_iadd C.x C.b dX0_common_3 ?_
  refine lv_iload_n C.x C.b dX0_common_4 rfl (lv_at hl 3 rfl) ?_
  refine lv_iload C.x C.b dX0_common_5 (lv_at hl 4 rfl) ?_
  refine lv_iadd C.x C.b dX0_common_7 ?_
  refine va_mmin C.x C.b (C.ml.trans hl.1.symm) C.ow (C.ts _ lk_X0_120) (C.ts _ lk_Mmin_s) (C.ts _ lk_Math) (C.ts _ lk_Mmin_c) (Nat.le_of_ble_eq_true rfl) (Nat.le_of_ble_eq_true rfl) (Nat.le_of_ble_eq_true rfl) (Nat.le_of_ble_eq_true rfl) dX0_common_8 ?_
  refine lv_topi (fun v1 e_v1 => ?_)
  have hf := lt_e hf e_v1
  refine lv_iload_n C.x C.b dX0_common_11 rfl (lv_at hl 1 rfl) ?_
  refine lv_iload_n C.x C.b dX0_common_12 rfl (lv_at hl 3 rfl) ?_
  refine va_mmax C.x C.b (C.ml.trans hl.1.symm) C.ow (C.ts _ lk_X0_125) (C.ts _ lk_Mmax_s) (C.ts _ lk_Math) (C.ts _ lk_Mmax_c) (Nat.le_of_ble_eq_true rfl) (Nat.le_of_ble_eq_true rfl) (Nat.le_of_ble_eq_true rfl) (Nat.le_of_ble_eq_true rfl) dX0_common_13 ?_
  refine lv_topi (fun v2 e_v2 => ?_)
  have hf := lt_e hf e_v2
  refine lv_isub C.x C.b dX0_common_16 ?_
  refine va_mmax C.x C.b (C.ml.trans hl.1.symm) C.ow (C.ts _ lk_X0_125) (C.ts _ lk_Mmax_s) (C.ts _ lk_Math) (C.ts _ lk_Mmax_c) (Nat.le_of_ble_eq_true rfl) (Nat.le_of_ble_eq_true rfl) (Nat.le_of_ble_eq_true rfl) (Nat.le_of_ble_eq_true rfl) dX0_common_17 ?_
  refine lv_topi (fun v3 e_v3 => ?_)
  have hf := lt_e hf e_v3
  have hf := so_e hf
  subst hf
  exact r_iret C hr hlk hR Ext.rf hS dX0_common_20

def rm_X0_commonCells : Room := { frames := 2, cells := 0, slots := 0, locals := 39 }
set_option maxRecDepth 100000 in
set_option maxHeartbeats 4000000 in
theorem k_X0_commonCells {G : Gt} {l : Launch}  {h : Hp} {r0 : Nat} {x1 : Int32} {x2 : Int32} {x3 : Int32} {x4 : Int32} {out : Int32} (t_r0 : hpT h r0 = (1, 0))  (hf : f_X0_commonCells  h r0 x1 x2 x3 x4 = some out) : Mt G l yX0_commonCells cX0_commonCells 5 (some .int) rm_X0_commonCells [.ref (G.2.2 + r0), .int x1, .int x2, .int x3, .int x4] h (some (.int out)) h 0 0 0 := by
  refine r_met (by decide +kernel) (Nat.le_of_ble_eq_true rfl) ?_
  intro p e s m args below meth c ls C hr hlk hnm hR hS hl
  have hl : lv_has ls 5 [(0, .ref (G.2.2 + r0)), (1, .int x1), (2, .int x2), (3, .int x3), (4, .int x4)] := hl
  rw [f_X0_commonCells] at hf
  refine lv_aload_n C.x C.b dX0_commonCells_0 rfl (lv_at hl 0 rfl) ?_
  refine lv_aload_n C.x C.b dX0_commonCells_1 rfl (lv_at hl 0 rfl) ?_
  obtain ⟨g1, hf⟩ := gd_e hf
  refine r_getr C hR t_r0 fl_X0_18 (by decide) (nz_e g1) dX0_commonCells_2 (fun tq2 => ?_)
  have tg1 := okA tq2 rfl
  refine lv_iload_n C.x C.b dX0_commonCells_5 rfl (lv_at hl 1 rfl) ?_
  obtain ⟨g3, hf⟩ := gd_e hf
  refine r_iald C hR tg1 g3 dX0_commonCells_6 ?_
  refine lv_aload_n C.x C.b dX0_commonCells_7 rfl (lv_at hl 0 rfl) ?_
  obtain ⟨g4, hf⟩ := gd_e hf
  refine r_getr C hR t_r0 fl_X0_25 (by decide) (nz_e g4) dX0_commonCells_8 (fun tq5 => ?_)
  have tg4 := okA tq5 rfl
  refine lv_iload_n C.x C.b dX0_commonCells_11 rfl (lv_at hl 1 rfl) ?_
  obtain ⟨g6, hf⟩ := gd_e hf
  refine r_iald C hR tg4 g6 dX0_commonCells_12 ?_
  refine lv_aload_n C.x C.b dX0_commonCells_13 rfl (lv_at hl 0 rfl) ?_
  refine lv_iload_n C.x C.b dX0_commonCells_14 rfl (lv_at hl 2 rfl) ?_
  obtain ⟨q7, h_q7, hf⟩ := bd_e hf
  refine r_callV (As := [.int x2]) (rest := [.int (hpI h (hpR h r0 7) (ix x1)), .int (hpI h (hpR h r0 5) (ix x1)), .ref (G.2.2 + r0)]) C hR hS t_r0 rfl mk_X0_rowOf cl_X0_59 (k_X0_rowOf t_r0 h_q7) ⟨⟨Nat.le_of_ble_eq_true rfl, Nat.le_of_ble_eq_true rfl⟩, ⟨rfl, rfl⟩, Nat.le_of_ble_eq_true rfl, Nat.le_of_ble_eq_true rfl⟩ rfl hl.1 rfl (Nat.le_of_ble_eq_true rfl) dX0_commonCells_15 (fun H locs hR hS hE1 z_q7 => ?_)
  refine lv_iload_n C.x C.b dX0_commonCells_18 rfl (lv_at hl 3 rfl) ?_
  obtain ⟨q8, h_q8, hf⟩ := bd_e hf
  refine r_callV (As := [.int (hpI h (hpR h r0 5) (ix x1)), .int (hpI h (hpR h r0 7) (ix x1)), .int q7, .int x3]) (rest := []) C hR hS t_r0 rfl mk_X0_common cl_X0_128 (k_X0_common t_r0 h_q8) ⟨⟨Nat.le_of_ble_eq_true rfl, Nat.le_of_ble_eq_true rfl⟩, ⟨rfl, rfl⟩, Nat.le_of_ble_eq_true rfl, Nat.le_of_ble_eq_true rfl⟩ rfl hl.1 rfl (Nat.le_of_ble_eq_true rfl) dX0_commonCells_19 (fun H locs hR hS hE1 z_q8 => ?_)
  refine lv_aload_n C.x C.b dX0_commonCells_22 rfl (lv_at hl 0 rfl) ?_
  refine lv_aload_n C.x C.b dX0_commonCells_23 rfl (lv_at hl 0 rfl) ?_
  obtain ⟨g9, hf⟩ := gd_e hf
  refine r_getr C hR t_r0 fl_X0_22 (by decide) (nz_e g9) dX0_commonCells_24 (fun tq10 => ?_)
  have tg9 := okA tq10 rfl
  refine lv_iload_n C.x C.b dX0_commonCells_27 rfl (lv_at hl 1 rfl) ?_
  obtain ⟨g11, hf⟩ := gd_e hf
  refine r_iald C hR tg9 g11 dX0_commonCells_28 ?_
  refine lv_aload_n C.x C.b dX0_commonCells_29 rfl (lv_at hl 0 rfl) ?_
  obtain ⟨g12, hf⟩ := gd_e hf
  refine r_getr C hR t_r0 fl_X0_28 (by decide) (nz_e g12) dX0_commonCells_30 (fun tq13 => ?_)
  have tg12 := okA tq13 rfl
  refine lv_iload_n C.x C.b dX0_commonCells_33 rfl (lv_at hl 1 rfl) ?_
  obtain ⟨g14, hf⟩ := gd_e hf
  refine r_iald C hR tg12 g14 dX0_commonCells_34 ?_
  refine lv_aload_n C.x C.b dX0_commonCells_35 rfl (lv_at hl 0 rfl) ?_
  refine lv_iload_n C.x C.b dX0_commonCells_36 rfl (lv_at hl 2 rfl) ?_
  obtain ⟨q15, h_q15, hf⟩ := bd_e hf
  refine r_callV (As := [.int x2]) (rest := [.int (hpI h (hpR h r0 8) (ix x1)), .int (hpI h (hpR h r0 6) (ix x1)), .ref (G.2.2 + r0), .int q8]) C hR hS t_r0 rfl mk_X0_columnOf cl_X0_63 (k_X0_columnOf t_r0 h_q15) ⟨⟨Nat.le_of_ble_eq_true rfl, Nat.le_of_ble_eq_true rfl⟩, ⟨rfl, rfl⟩, Nat.le_of_ble_eq_true rfl, Nat.le_of_ble_eq_true rfl⟩ rfl hl.1 rfl (Nat.le_of_ble_eq_true rfl) dX0_commonCells_37 (fun H locs hR hS hE1 z_q15 => ?_)
  refine lv_iload C.x C.b dX0_commonCells_40 (lv_at hl 4 rfl) ?_
  obtain ⟨q16, h_q16, hf⟩ := bd_e hf
  refine r_callV (As := [.int (hpI h (hpR h r0 6) (ix x1)), .int (hpI h (hpR h r0 8) (ix x1)), .int q15, .int x4]) (rest := [.int q8]) C hR hS t_r0 rfl mk_X0_common cl_X0_128 (k_X0_common t_r0 h_q16) ⟨⟨Nat.le_of_ble_eq_true rfl, Nat.le_of_ble_eq_true rfl⟩, ⟨rfl, rfl⟩, Nat.le_of_ble_eq_true rfl, Nat.le_of_ble_eq_true rfl⟩ rfl hl.1 rfl (Nat.le_of_ble_eq_true rfl) dX0_commonCells_42 (fun H locs hR hS hE1 z_q16 => ?_)
  refine lv_imul C.x C.b dX0_commonCells_45 ?_
  have hf := so_e hf
  subst hf
  exact r_iret C hr hlk hR Ext.rf hS dX0_commonCells_46

def rm_X0_onUnder : Room := { frames := 3, cells := 0, slots := 0, locals := 63 }
def P_X0_onUnder_46 (G : Gt) (l : Launch) (p : Program) (e : Env) (s : State) (m : MethodId) (args : Array Value) (below : List Frame) (meth : Method) (c : Code) (h : Hp) (out : Int32) (r0 : Nat) (x1 : Int32) (x2 : Int32) (x3 : Int32) (k : Int32 → Int32 → Option Int32) : Prop := ∀ (H : Heap) (locs : List Loc) (ls : Array Slot) (x4 : Int32) (x5 : Int32), k x4 x5 = some out → Rel G h H → va_S (AA G.2.2) s.heap H locs → hpT h r0 = (1, 0) → lv_has ls 6 [(0, .ref (G.2.2 + r0)), (1, .int x1), (2, .int x2), (3, .int x3), (4, .int x4), (5, .int x5)] → W p l e rm_X0_onUnder s m args below meth c H locs 0 0 (MQ below (Qm G h h (some (.int out)) 0) args s 0 0 (AA G.2.2)) (F0 m 46 ls [])
def P_X0_onUnder_6 (G : Gt) (l : Launch) (p : Program) (e : Env) (s : State) (m : MethodId) (args : Array Value) (below : List Frame) (meth : Method) (c : Code) (h : Hp) (out : Int32) (r0 : Nat) (x1 : Int32) (x2 : Int32) (x3 : Int32) (k : Int32 → Int32 → Option Int32) : Prop := ∀ (H : Heap) (locs : List Loc) (ls : Array Slot) (x4 : Int32) (x5 : Int32), k x4 x5 = some out → Rel G h H → va_S (AA G.2.2) s.heap H locs → hpT h r0 = (1, 0) → lv_has ls 6 [(0, .ref (G.2.2 + r0)), (1, .int x1), (2, .int x2), (3, .int x3), (4, .int x4), (5, .int x5)] → W p l e rm_X0_onUnder s m args below meth c H locs 0 0 (MQ below (Qm G h h (some (.int out)) 0) args s 0 0 (AA G.2.2)) (F0 m 6 ls [])
set_option maxRecDepth 100000 in
set_option maxHeartbeats 4000000 in
theorem w_X0_onUnder_46 {G : Gt} {l : Launch} {p : Program} {e : Env} {s : State} {m : MethodId} {args : Array Value} {below : List Frame} {meth : Method} {c : Code}  {h : Hp} {out : Int32} {r0 : Nat} {x1 : Int32} {x2 : Int32} {x3 : Int32} {k6 : Int32 → Int32 → Option Int32} (C : Cx G p m c cX0_onUnder 6 s args RX0) (hr : meth.sig.returnType = some .int) (hlk : meth.locks = false)  (hk6 : P_X0_onUnder_6 G l p e s m args below meth c h out r0 x1 x2 x3 k6) : P_X0_onUnder_46 G l p e s m args below meth c h out r0 x1 x2 x3 (f_X0_onUnder_46 h r0 x1 x2 x3 k6) := by
  intro H locs ls x4 x5 hf hR hS t_r0 hl
  rw [f_X0_onUnder_46] at hf
  obtain ⟨v10, e_v10⟩ : ∃ y : Int32, y = x5 + (1 : Int32) := ⟨_, rfl⟩
  have hf := lt_e hf e_v10
  refine lv_iinc (v := v10) (lv' := [(5, .int v10), (0, .ref (G.2.2 + r0)), (1, .int x1), (2, .int x2), (3, .int x3), (4, .int x4)]) C.x C.b dX0_onUnder_46 hl (k := 5) rfl (by rw [e_v10]; rfl) (by decide) rfl (fun ls hl => ?_)
  refine lv_goto (tgt := 6) C.x C.b dX0_onUnder_49 (by decide) ?_
  exact hk6 _ _ _ _ _ hf hR hS t_r0 (lv_sub hl [1, 2, 3, 4, 5, 0] rfl)
set_option maxRecDepth 100000 in
set_option maxHeartbeats 4000000 in
theorem w_X0_onUnder_6 {G : Gt} {l : Launch} {p : Program} {e : Env} {s : State} {m : MethodId} {args : Array Value} {below : List Frame} {meth : Method} {c : Code}  {h : Hp} {out : Int32} {r0 : Nat} {x1 : Int32} {x2 : Int32} {x3 : Int32}  (C : Cx G p m c cX0_onUnder 6 s args RX0) (hr : meth.sig.returnType = some .int) (hlk : meth.locks = false)   (n : Nat) : P_X0_onUnder_6 G l p e s m args below meth c h out r0 x1 x2 x3 (f_X0_onUnder_6 h r0 x1 x2 x3 n) := by
  induction n with
  | zero => intro H locs ls x4 x5 hf hR hS t_r0 hl; cases hf
  | succ n hk6 =>
    intro H locs ls x4 x5 hf hR hS t_r0 hl
    rw [f_X0_onUnder_6] at hf
    obtain ⟨k6, e_k6⟩ : ∃ y, y = f_X0_onUnder_6 h r0 x1 x2 x3 n := ⟨_, rfl⟩
    have hf := lt_e hf e_k6
    rw [← e_k6] at hk6
    refine lv_iload C.x C.b dX0_onUnder_6 (lv_at hl 5 rfl) ?_
    refine lv_aload_n C.x C.b dX0_onUnder_8 rfl (lv_at hl 0 rfl) ?_
    refine r_geti C hR t_r0 fl_X0_40 rfl dX0_onUnder_9 ?_
    refine lv_icmp_ge (tgt := 52) C.x C.b dX0_onUnder_12 (by decide) (fun c1 => ?_) (fun c1 => ?_)
    · have hf := it_t hf c1
      refine lv_iload C.x C.b dX0_onUnder_52 (lv_at hl 4 rfl) ?_
      have hf := so_e hf
      subst hf
      exact r_iret C hr hlk hR Ext.rf hS dX0_onUnder_54
    · have hf := it_f hf c1
      refine lv_aload_n C.x C.b dX0_onUnder_15 rfl (lv_at hl 0 rfl) ?_
      obtain ⟨g2, hf⟩ := gd_e hf
      refine r_getr C hR t_r0 fl_X0_31 (by decide) (nz_e g2) dX0_onUnder_16 (fun tq3 => ?_)
      have tg2 := okA tq3 rfl
      refine lv_iload C.x C.b dX0_onUnder_19 (lv_at hl 5 rfl) ?_
      obtain ⟨g4, hf⟩ := gd_e hf
      refine r_iald C hR tg2 g4 dX0_onUnder_21 ?_
      refine lv_if_le (tgt := 46) C.x C.b dX0_onUnder_22 (by decide) (fun c5 => ?_) (fun c5 => ?_)
      · have hf := it_t hf c5
        exact w_X0_onUnder_46 C hr hlk hk6 _ _ _ _ _ hf hR hS t_r0 (lv_sub hl [0, 1, 2, 3, 4, 5] rfl)
      · have hf := it_f hf c5
        refine lv_aload_n C.x C.b dX0_onUnder_25 rfl (lv_at hl 0 rfl) ?_
        refine lv_iload C.x C.b dX0_onUnder_26 (lv_at hl 5 rfl) ?_
        refine lv_iload_n C.x C.b dX0_onUnder_28 rfl (lv_at hl 1 rfl) ?_
        refine lv_iload_n C.x C.b dX0_onUnder_29 rfl (lv_at hl 2 rfl) ?_
        refine lv_iload_n C.x C.b dX0_onUnder_30 rfl (lv_at hl 3 rfl) ?_
        obtain ⟨q6, h_q6, hf⟩ := bd_e hf
        refine r_callV (As := [.int x5, .int x1, .int x2, .int x3]) (rest := []) C hR hS t_r0 rfl mk_X0_commonCells cl_X0_132 (k_X0_commonCells t_r0 h_q6) ⟨⟨Nat.le_of_ble_eq_true rfl, Nat.le_of_ble_eq_true rfl⟩, ⟨rfl, rfl⟩, Nat.le_of_ble_eq_true rfl, Nat.le_of_ble_eq_true rfl⟩ rfl hl.1 rfl (Nat.le_of_ble_eq_true rfl) dX0_onUnder_31 (fun H locs hR hS hE1 z_q6 => ?_)
        refine lv_if_le (tgt := 46) C.x C.b dX0_onUnder_34 (by decide) (fun c7 => ?_) (fun c7 => ?_)
        · have hf := it_t hf c7
          exact w_X0_onUnder_46 C hr hlk hk6 _ _ _ _ _ hf hR hS t_r0 (lv_sub hl [0, 1, 2, 3, 4, 5] rfl)
        · have hf := it_f hf c7
          refine lv_iload C.x C.b dX0_onUnder_37 (lv_at hl 4 rfl) ?_
          refine lv_iconst (v := (1 : Int32)) C.x C.b dX0_onUnder_39 (by decide) ?_
          refine lv_iload C.x C.b dX0_onUnder_40 (lv_at hl 5 rfl) ?_
          refine lv_ishl C.x C.b dX0_onUnder_42 ?_
          refine lv_topi (fun v8 e_v8 => ?_)
          have hf := lt_e hf e_v8
          refine lv_ior C.x C.b dX0_onUnder_43 ?_
          refine lv_topi (fun v9 e_v9 => ?_)
          have hf := lt_e hf e_v9
          refine lv_istore (lv' := [(4, .int v9), (0, .ref (G.2.2 + r0)), (1, .int x1), (2, .int x2), (3, .int x3), (5, .int x5)]) C.x C.b dX0_onUnder_44 hl (by decide) rfl (fun ls hl => ?_)
          exact w_X0_onUnder_46 C hr hlk hk6 _ _ _ _ _ hf hR hS t_r0 (lv_sub hl [1, 2, 3, 4, 0, 5] rfl)
set_option maxRecDepth 100000 in
set_option maxHeartbeats 4000000 in
theorem k_X0_onUnder {G : Gt} {l : Launch}  {h : Hp} {r0 : Nat} {x1 : Int32} {x2 : Int32} {x3 : Int32} {out : Int32} (t_r0 : hpT h r0 = (1, 0))  (hf : f_X0_onUnder  h r0 x1 x2 x3 = some out) : Mt G l yX0_onUnder cX0_onUnder 6 (some .int) rm_X0_onUnder [.ref (G.2.2 + r0), .int x1, .int x2, .int x3] h (some (.int out)) h 0 0 0 := by
  refine r_met (by decide +kernel) (Nat.le_of_ble_eq_true rfl) ?_
  intro p e s m args below meth c ls C hr hlk hnm hR hS hl
  have hl : lv_has ls 6 [(0, .ref (G.2.2 + r0)), (1, .int x1), (2, .int x2), (3, .int x3)] := hl
  rw [f_X0_onUnder] at hf
  refine lv_iconst (v := (0 : Int32)) C.x C.b dX0_onUnder_0 (by decide) ?_
  refine lv_istore (lv' := [(4, .int (0 : Int32)), (0, .ref (G.2.2 + r0)), (1, .int x1), (2, .int x2), (3, .int x3)]) C.x C.b dX0_onUnder_1 hl (by decide) rfl (fun ls hl => ?_)
  refine lv_iconst (v := (0 : Int32)) C.x C.b dX0_onUnder_3 (by decide) ?_
  refine lv_istore (lv' := [(5, .int (0 : Int32)), (4, .int (0 : Int32)), (0, .ref (G.2.2 + r0)), (1, .int x1), (2, .int x2), (3, .int x3)]) C.x C.b dX0_onUnder_4 hl (by decide) rfl (fun ls hl => ?_)
  exact w_X0_onUnder_6 C hr hlk FU _ _ _ _ _ hf hR hS t_r0 (lv_sub hl [2, 3, 4, 5, 1, 0] rfl)

def rm_X0_onOver : Room := { frames := 4, cells := 0, slots := 0, locals := 88 }
set_option maxRecDepth 100000 in
set_option maxHeartbeats 4000000 in
theorem k_X0_onOver {G : Gt} {l : Launch}  {h : Hp} {r0 : Nat} {x1 : Int32} {out : Int32} (t_r0 : hpT h r0 = (1, 0))  (hf : f_X0_onOver  h r0 x1 = some out) : Mt G l yX0_onOver cX0_onOver 2 (some .int) rm_X0_onOver [.ref (G.2.2 + r0), .int x1] h (some (.int out)) h 0 0 0 := by
  refine r_met (by decide +kernel) (Nat.le_of_ble_eq_true rfl) ?_
  intro p e s m args below meth c ls C hr hlk hnm hR hS hl
  have hl : lv_has ls 2 [(0, .ref (G.2.2 + r0)), (1, .int x1)] := hl
  rw [f_X0_onOver] at hf
  refine lv_aload_n C.x C.b dX0_onOver_0 rfl (lv_at hl 0 rfl) ?_
  refine lv_iload_n C.x C.b dX0_onOver_1 rfl (lv_at hl 1 rfl) ?_
  refine lv_iconst (v := (1 : Int32)) C.x C.b dX0_onOver_2 (by decide) ?_
  refine lv_iconst (v := (1 : Int32)) C.x C.b dX0_onOver_3 (by decide) ?_
  obtain ⟨q1, h_q1, hf⟩ := bd_e hf
  refine r_callV (As := [.int x1, .int (1 : Int32), .int (1 : Int32)]) (rest := []) C hR hS t_r0 rfl mk_X0_onUnder cl_X0_98 (k_X0_onUnder t_r0 h_q1) ⟨⟨Nat.le_of_ble_eq_true rfl, Nat.le_of_ble_eq_true rfl⟩, ⟨rfl, rfl⟩, Nat.le_of_ble_eq_true rfl, Nat.le_of_ble_eq_true rfl⟩ rfl hl.1 rfl (Nat.le_of_ble_eq_true rfl) dX0_onOver_4 (fun H locs hR hS hE1 z_q1 => ?_)
  have hf := so_e hf
  subst hf
  exact r_iret C hr hlk hR Ext.rf hS dX0_onOver_7

def rm_X0_strengthUnder : Room := { frames := 3, cells := 0, slots := 0, locals := 63 }
def P_X0_strengthUnder_6 (G : Gt) (l : Launch) (p : Program) (e : Env) (s : State) (m : MethodId) (args : Array Value) (below : List Frame) (meth : Method) (c : Code) (h : Hp) (out : Int32) (r0 : Nat) (x1 : Int32) (x2 : Int32) (x3 : Int32) (k : Int32 → Int32 → Option Int32) : Prop := ∀ (H : Heap) (locs : List Loc) (ls : Array Slot) (x4 : Int32) (x5 : Int32), k x4 x5 = some out → Rel G h H → va_S (AA G.2.2) s.heap H locs → hpT h r0 = (1, 0) → lv_has ls 6 [(0, .ref (G.2.2 + r0)), (1, .int x1), (2, .int x2), (3, .int x3), (4, .int x4), (5, .int x5)] → W p l e rm_X0_strengthUnder s m args below meth c H locs 0 0 (MQ below (Qm G h h (some (.int out)) 0) args s 0 0 (AA G.2.2)) (F0 m 6 ls [])
set_option maxRecDepth 100000 in
set_option maxHeartbeats 4000000 in
theorem w_X0_strengthUnder_6 {G : Gt} {l : Launch} {p : Program} {e : Env} {s : State} {m : MethodId} {args : Array Value} {below : List Frame} {meth : Method} {c : Code}  {h : Hp} {out : Int32} {r0 : Nat} {x1 : Int32} {x2 : Int32} {x3 : Int32}  (C : Cx G p m c cX0_strengthUnder 6 s args RX0) (hr : meth.sig.returnType = some .int) (hlk : meth.locks = false)   (n : Nat) : P_X0_strengthUnder_6 G l p e s m args below meth c h out r0 x1 x2 x3 (f_X0_strengthUnder_6 h r0 x1 x2 x3 n) := by
  induction n with
  | zero => intro H locs ls x4 x5 hf hR hS t_r0 hl; cases hf
  | succ n hk6 =>
    intro H locs ls x4 x5 hf hR hS t_r0 hl
    rw [f_X0_strengthUnder_6] at hf
    obtain ⟨k6, e_k6⟩ : ∃ y, y = f_X0_strengthUnder_6 h r0 x1 x2 x3 n := ⟨_, rfl⟩
    have hf := lt_e hf e_k6
    rw [← e_k6] at hk6
    refine lv_iload C.x C.b dX0_strengthUnder_6 (lv_at hl 5 rfl) ?_
    refine lv_aload_n C.x C.b dX0_strengthUnder_8 rfl (lv_at hl 0 rfl) ?_
    refine r_geti C hR t_r0 fl_X0_40 rfl dX0_strengthUnder_9 ?_
    refine lv_icmp_ge (tgt := 43) C.x C.b dX0_strengthUnder_12 (by decide) (fun c1 => ?_) (fun c1 => ?_)
    · have hf := it_t hf c1
      refine lv_iload C.x C.b dX0_strengthUnder_43 (lv_at hl 4 rfl) ?_
      have hf := so_e hf
      subst hf
      exact r_iret C hr hlk hR Ext.rf hS dX0_strengthUnder_45
    · have hf := it_f hf c1
      refine lv_iload C.x C.b dX0_strengthUnder_15 (lv_at hl 4 rfl) ?_
      refine lv_aload_n C.x C.b dX0_strengthUnder_17 rfl (lv_at hl 0 rfl) ?_
      obtain ⟨g2, hf⟩ := gd_e hf
      refine r_getr C hR t_r0 fl_X0_31 (by decide) (nz_e g2) dX0_strengthUnder_18 (fun tq3 => ?_)
      have tg2 := okA tq3 rfl
      refine lv_iload C.x C.b dX0_strengthUnder_21 (lv_at hl 5 rfl) ?_
      obtain ⟨g4, hf⟩ := gd_e hf
      refine r_iald C hR tg2 g4 dX0_strengthUnder_23 ?_
      refine lv_aload_n C.x C.b dX0_strengthUnder_24 rfl (lv_at hl 0 rfl) ?_
      refine lv_iload C.x C.b dX0_strengthUnder_25 (lv_at hl 5 rfl) ?_
      refine lv_iload_n C.x C.b dX0_strengthUnder_27 rfl (lv_at hl 1 rfl) ?_
      refine lv_iload_n C.x C.b dX0_strengthUnder_28 rfl (lv_at hl 2 rfl) ?_
      refine lv_iload_n C.x C.b dX0_strengthUnder_29 rfl (lv_at hl 3 rfl) ?_
      obtain ⟨q5, h_q5, hf⟩ := bd_e hf
      refine r_callV (As := [.int x5, .int x1, .int x2, .int x3]) (rest := [.int (hpI h (hpR h r0 9) (ix x5)), .int x4]) C hR hS t_r0 rfl mk_X0_commonCells cl_X0_132 (k_X0_commonCells t_r0 h_q5) ⟨⟨Nat.le_of_ble_eq_true rfl, Nat.le_of_ble_eq_true rfl⟩, ⟨rfl, rfl⟩, Nat.le_of_ble_eq_true rfl, Nat.le_of_ble_eq_true rfl⟩ rfl hl.1 rfl (Nat.le_of_ble_eq_true rfl) dX0_strengthUnder_30 (fun H locs hR hS hE1 z_q5 => ?_)
      refine lv_imul C.x C.b dX0_strengthUnder_33 ?_
      refine lv_iadd C.x C.b dX0_strengthUnder_34 ?_
      refine lv_topi (fun v6 e_v6 => ?_)
      have hf := lt_e hf e_v6
      refine lv_istore (lv' := [(4, .int v6), (0, .ref (G.2.2 + r0)), (1, .int x1), (2, .int x2), (3, .int x3), (5, .int x5)]) C.x C.b dX0_strengthUnder_35 hl (by decide) rfl (fun ls hl => ?_)
      obtain ⟨v7, e_v7⟩ : ∃ y : Int32, y = x5 + (1 : Int32) := ⟨_, rfl⟩
      have hf := lt_e hf e_v7
      refine lv_iinc (v := v7) (lv' := [(5, .int v7), (4, .int v6), (0, .ref (G.2.2 + r0)), (1, .int x1), (2, .int x2), (3, .int x3)]) C.x C.b dX0_strengthUnder_37 hl (k := 5) rfl (by rw [e_v7]; rfl) (by decide) rfl (fun ls hl => ?_)
      refine lv_goto (tgt := 6) C.x C.b dX0_strengthUnder_40 (by decide) ?_
      exact hk6 _ _ _ _ _ hf hR hS t_r0 (lv_sub hl [2, 3, 4, 5, 1, 0] rfl)
set_option maxRecDepth 100000 in
set_option maxHeartbeats 4000000 in
theorem k_X0_strengthUnder {G : Gt} {l : Launch}  {h : Hp} {r0 : Nat} {x1 : Int32} {x2 : Int32} {x3 : Int32} {out : Int32} (t_r0 : hpT h r0 = (1, 0))  (hf : f_X0_strengthUnder  h r0 x1 x2 x3 = some out) : Mt G l yX0_strengthUnder cX0_strengthUnder 6 (some .int) rm_X0_strengthUnder [.ref (G.2.2 + r0), .int x1, .int x2, .int x3] h (some (.int out)) h 0 0 0 := by
  refine r_met (by decide +kernel) (Nat.le_of_ble_eq_true rfl) ?_
  intro p e s m args below meth c ls C hr hlk hnm hR hS hl
  have hl : lv_has ls 6 [(0, .ref (G.2.2 + r0)), (1, .int x1), (2, .int x2), (3, .int x3)] := hl
  rw [f_X0_strengthUnder] at hf
  refine lv_iconst (v := (0 : Int32)) C.x C.b dX0_strengthUnder_0 (by decide) ?_
  refine lv_istore (lv' := [(4, .int (0 : Int32)), (0, .ref (G.2.2 + r0)), (1, .int x1), (2, .int x2), (3, .int x3)]) C.x C.b dX0_strengthUnder_1 hl (by decide) rfl (fun ls hl => ?_)
  refine lv_iconst (v := (0 : Int32)) C.x C.b dX0_strengthUnder_3 (by decide) ?_
  refine lv_istore (lv' := [(5, .int (0 : Int32)), (4, .int (0 : Int32)), (0, .ref (G.2.2 + r0)), (1, .int x1), (2, .int x2), (3, .int x3)]) C.x C.b dX0_strengthUnder_4 hl (by decide) rfl (fun ls hl => ?_)
  exact w_X0_strengthUnder_6 C hr hlk FU _ _ _ _ _ hf hR hS t_r0 (lv_sub hl [2, 3, 4, 5, 1, 0] rfl)

def rm_X0_strengthOver : Room := { frames := 4, cells := 0, slots := 0, locals := 88 }
set_option maxRecDepth 100000 in
set_option maxHeartbeats 4000000 in
theorem k_X0_strengthOver {G : Gt} {l : Launch}  {h : Hp} {r0 : Nat} {x1 : Int32} {out : Int32} (t_r0 : hpT h r0 = (1, 0))  (hf : f_X0_strengthOver  h r0 x1 = some out) : Mt G l yX0_strengthOver cX0_strengthOver 2 (some .int) rm_X0_strengthOver [.ref (G.2.2 + r0), .int x1] h (some (.int out)) h 0 0 0 := by
  refine r_met (by decide +kernel) (Nat.le_of_ble_eq_true rfl) ?_
  intro p e s m args below meth c ls C hr hlk hnm hR hS hl
  have hl : lv_has ls 2 [(0, .ref (G.2.2 + r0)), (1, .int x1)] := hl
  rw [f_X0_strengthOver] at hf
  refine lv_aload_n C.x C.b dX0_strengthOver_0 rfl (lv_at hl 0 rfl) ?_
  refine lv_iload_n C.x C.b dX0_strengthOver_1 rfl (lv_at hl 1 rfl) ?_
  refine lv_iconst (v := (1 : Int32)) C.x C.b dX0_strengthOver_2 (by decide) ?_
  refine lv_iconst (v := (1 : Int32)) C.x C.b dX0_strengthOver_3 (by decide) ?_
  obtain ⟨q1, h_q1, hf⟩ := bd_e hf
  refine r_callV (As := [.int x1, .int (1 : Int32), .int (1 : Int32)]) (rest := []) C hR hS t_r0 rfl mk_X0_strengthUnder cl_X0_102 (k_X0_strengthUnder t_r0 h_q1) ⟨⟨Nat.le_of_ble_eq_true rfl, Nat.le_of_ble_eq_true rfl⟩, ⟨rfl, rfl⟩, Nat.le_of_ble_eq_true rfl, Nat.le_of_ble_eq_true rfl⟩ rfl hl.1 rfl (Nat.le_of_ble_eq_true rfl) dX0_strengthOver_4 (fun H locs hR hS hE1 z_q1 => ?_)
  have hf := so_e hf
  subst hf
  exact r_iret C hr hlk hR Ext.rf hS dX0_strengthOver_7

def rm_X0_strongestOver : Room := { frames := 5, cells := 0, slots := 0, locals := 109 }
def P_X0_strongestOver_53 (G : Gt) (l : Launch) (p : Program) (e : Env) (s : State) (m : MethodId) (args : Array Value) (below : List Frame) (meth : Method) (c : Code) (h : Hp) (out : Int32) (r0 : Nat) (x1 : Int32) (k : Int32 → Int32 → Int32 → Option Int32) : Prop := ∀ (H : Heap) (locs : List Loc) (ls : Array Slot) (x2 : Int32) (x3 : Int32) (x4 : Int32), k x2 x3 x4 = some out → Rel G h H → va_S (AA G.2.2) s.heap H locs → hpT h r0 = (1, 0) → lv_has ls 5 [(0, .ref (G.2.2 + r0)), (1, .int x1), (2, .int x2), (3, .int x3), (4, .int x4)] → W p l e rm_X0_strongestOver s m args below meth c H locs 0 0 (MQ below (Qm G h h (some (.int out)) 0) args s 0 0 (AA G.2.2)) (F0 m 53 ls [])
def P_X0_strongestOver_50 (G : Gt) (l : Launch) (p : Program) (e : Env) (s : State) (m : MethodId) (args : Array Value) (below : List Frame) (meth : Method) (c : Code) (h : Hp) (out : Int32) (r0 : Nat) (x1 : Int32) (k : Int32 → Int32 → Option Int32) : Prop := ∀ (H : Heap) (locs : List Loc) (ls : Array Slot) (x2 : Int32) (x4 : Int32), k x2 x4 = some out → Rel G h H → va_S (AA G.2.2) s.heap H locs → hpT h r0 = (1, 0) → lv_has ls 5 [(0, .ref (G.2.2 + r0)), (1, .int x1), (2, .int x2), (4, .int x4)] → W p l e rm_X0_strongestOver s m args below meth c H locs 0 0 (MQ below (Qm G h h (some (.int out)) 0) args s 0 0 (AA G.2.2)) (F0 m 50 ls [])
def P_X0_strongestOver_11 (G : Gt) (l : Launch) (p : Program) (e : Env) (s : State) (m : MethodId) (args : Array Value) (below : List Frame) (meth : Method) (c : Code) (h : Hp) (out : Int32) (r0 : Nat) (x1 : Int32) (k : Int32 → Int32 → Int32 → Option Int32) : Prop := ∀ (H : Heap) (locs : List Loc) (ls : Array Slot) (x2 : Int32) (x3 : Int32) (x4 : Int32), k x2 x3 x4 = some out → Rel G h H → va_S (AA G.2.2) s.heap H locs → hpT h r0 = (1, 0) → lv_has ls 5 [(0, .ref (G.2.2 + r0)), (1, .int x1), (2, .int x2), (3, .int x3), (4, .int x4)] → W p l e rm_X0_strongestOver s m args below meth c H locs 0 0 (MQ below (Qm G h h (some (.int out)) 0) args s 0 0 (AA G.2.2)) (F0 m 11 ls [])
set_option maxRecDepth 100000 in
set_option maxHeartbeats 4000000 in
theorem w_X0_strongestOver_53 {G : Gt} {l : Launch} {p : Program} {e : Env} {s : State} {m : MethodId} {args : Array Value} {below : List Frame} {meth : Method} {c : Code}  {h : Hp} {out : Int32} {r0 : Nat} {x1 : Int32} {k11 : Int32 → Int32 → Int32 → Option Int32} (C : Cx G p m c cX0_strongestOver 5 s args RX0) (hr : meth.sig.returnType = some .int) (hlk : meth.locks = false)  (hk11 : P_X0_strongestOver_11 G l p e s m args below meth c h out r0 x1 k11) : P_X0_strongestOver_53 G l p e s m args below meth c h out r0 x1 (f_X0_strongestOver_53 h r0 x1 k11) := by
  intro H locs ls x2 x3 x4 hf hR hS t_r0 hl
  rw [f_X0_strongestOver_53] at hf
  obtain ⟨v12, e_v12⟩ : ∃ y : Int32, y = x4 + (1 : Int32) := ⟨_, rfl⟩
  have hf := lt_e hf e_v12
  refine lv_iinc (v := v12) (lv' := [(4, .int v12), (0, .ref (G.2.2 + r0)), (1, .int x1), (2, .int x2), (3, .int x3)]) C.x C.b dX0_strongestOver_53 hl (k := 4) rfl (by rw [e_v12]; rfl) (by decide) rfl (fun ls hl => ?_)
  refine lv_goto (tgt := 11) C.x C.b dX0_strongestOver_56 (by decide) ?_
  exact hk11 _ _ _ _ _ _ hf hR hS t_r0 (lv_sub hl [1, 2, 3, 4, 0] rfl)
set_option maxRecDepth 100000 in
set_option maxHeartbeats 4000000 in
theorem w_X0_strongestOver_50 {G : Gt} {l : Launch} {p : Program} {e : Env} {s : State} {m : MethodId} {args : Array Value} {below : List Frame} {meth : Method} {c : Code}  {h : Hp} {out : Int32} {r0 : Nat} {x1 : Int32} {k11 : Int32 → Int32 → Int32 → Option Int32} (C : Cx G p m c cX0_strongestOver 5 s args RX0) (hr : meth.sig.returnType = some .int) (hlk : meth.locks = false)  (hk11 : P_X0_strongestOver_11 G l p e s m args below meth c h out r0 x1 k11) : P_X0_strongestOver_50 G l p e s m args below meth c h out r0 x1 (f_X0_strongestOver_50 h r0 x1 k11) := by
  intro H locs ls x2 x4 hf hR hS t_r0 hl
  rw [f_X0_strongestOver_50] at hf
  refine lv_iload C.x C.b dX0_strongestOver_50 (lv_at hl 3 rfl) ?_
  refine lv_istore_n (lv' := [(3, .int x4), (0, .ref (G.2.2 + r0)), (1, .int x1), (2, .int x2), (4, .int x4)]) C.x C.b dX0_strongestOver_52 rfl hl (by decide) rfl (fun ls hl => ?_)
  exact w_X0_strongestOver_53 C hr hlk hk11 _ _ _ _ _ _ hf hR hS t_r0 (lv_sub hl [1, 2, 3, 0, 4] rfl)
set_option maxRecDepth 100000 in
set_option maxHeartbeats 4000000 in
theorem w_X0_strongestOver_11 {G : Gt} {l : Launch} {p : Program} {e : Env} {s : State} {m : MethodId} {args : Array Value} {below : List Frame} {meth : Method} {c : Code}  {h : Hp} {out : Int32} {r0 : Nat} {x1 : Int32}  (C : Cx G p m c cX0_strongestOver 5 s args RX0) (hr : meth.sig.returnType = some .int) (hlk : meth.locks = false)   (n : Nat) : P_X0_strongestOver_11 G l p e s m args below meth c h out r0 x1 (f_X0_strongestOver_11 h r0 x1 n) := by
  induction n with
  | zero => intro H locs ls x2 x3 x4 hf hR hS t_r0 hl; cases hf
  | succ n hk11 =>
    intro H locs ls x2 x3 x4 hf hR hS t_r0 hl
    rw [f_X0_strongestOver_11] at hf
    obtain ⟨k11, e_k11⟩ : ∃ y, y = f_X0_strongestOver_11 h r0 x1 n := ⟨_, rfl⟩
    have hf := lt_e hf e_k11
    rw [← e_k11] at hk11
    refine lv_iload C.x C.b dX0_strongestOver_11 (lv_at hl 4 rfl) ?_
    refine lv_aload_n C.x C.b dX0_strongestOver_13 rfl (lv_at hl 0 rfl) ?_
    refine r_geti C hR t_r0 fl_X0_40 rfl dX0_strongestOver_14 ?_
    refine lv_icmp_ge (tgt := 59) C.x C.b dX0_strongestOver_17 (by decide) (fun c2 => ?_) (fun c2 => ?_)
    · have hf := it_t hf c2
      refine lv_iload_n C.x C.b dX0_strongestOver_59 rfl (lv_at hl 3 rfl) ?_
      have hf := so_e hf
      subst hf
      exact r_iret C hr hlk hR Ext.rf hS dX0_strongestOver_60
    · have hf := it_f hf c2
      refine lv_iload_n C.x C.b dX0_strongestOver_20 rfl (lv_at hl 2 rfl) ?_
      refine lv_iload C.x C.b dX0_strongestOver_21 (lv_at hl 4 rfl) ?_
      obtain ⟨q3, h_q3, hf⟩ := bd_e hf
      refine r_callSN (As := [.int x2, .int x4]) (rest := []) C hR hS mk_X9_isIn cn_X0_84 (k_X9_isIn h_q3) ⟨⟨Nat.le_of_ble_eq_true rfl, Nat.le_of_ble_eq_true rfl⟩, ⟨rfl, rfl⟩, Nat.le_of_ble_eq_true rfl, Nat.le_of_ble_eq_true rfl⟩ rfl hl.1 rfl (Nat.le_of_ble_eq_true rfl) dX0_strongestOver_23 (fun H locs hR hS hE1 z_q3 => ?_)
      have z_q3 := z_q3 _ rfl
      refine lv_if_eq (tgt := 53) C.x C.b dX0_strongestOver_26 (by decide) (fun c4 => ?_) (fun c4 => ?_)
      · have hf := it_t hf c4
        exact w_X0_strongestOver_53 C hr hlk hk11 _ _ _ _ _ _ hf hR hS t_r0 (lv_sub hl [0, 1, 2, 3, 4] rfl)
      · have hf := it_f hf c4
        refine lv_iload_n C.x C.b dX0_strongestOver_29 rfl (lv_at hl 3 rfl) ?_
        refine lv_iconst (v := (-1 : Int32)) C.x C.b dX0_strongestOver_30 (by decide) ?_
        refine lv_icmp_eq (tgt := 50) C.x C.b dX0_strongestOver_31 (by decide) (fun c5 => ?_) (fun c5 => ?_)
        · have hf := it_t hf c5
          exact w_X0_strongestOver_50 C hr hlk hk11 _ _ _ _ _ hf hR hS t_r0 (lv_sub hl [0, 1, 2, 4] rfl)
        · have hf := it_f hf c5
          refine lv_aload_n C.x C.b dX0_strongestOver_34 rfl (lv_at hl 0 rfl) ?_
          obtain ⟨g6, hf⟩ := gd_e hf
          refine r_getr C hR t_r0 fl_X0_31 (by decide) (nz_e g6) dX0_strongestOver_35 (fun tq7 => ?_)
          have tg6 := okA tq7 rfl
          refine lv_iload C.x C.b dX0_strongestOver_38 (lv_at hl 4 rfl) ?_
          obtain ⟨g8, hf⟩ := gd_e hf
          refine r_iald C hR tg6 g8 dX0_strongestOver_40 ?_
          refine lv_aload_n C.x C.b dX0_strongestOver_41 rfl (lv_at hl 0 rfl) ?_
          refine r_getr C hR t_r0 fl_X0_31 (by decide) (nz_e g6) dX0_strongestOver_42 (fun tq9 => ?_)
          refine lv_iload_n C.x C.b dX0_strongestOver_45 rfl (lv_at hl 3 rfl) ?_
          obtain ⟨g10, hf⟩ := gd_e hf
          refine r_iald C hR tg6 g10 dX0_strongestOver_46 ?_
          refine lv_icmp_le (tgt := 53) C.x C.b dX0_strongestOver_47 (by decide) (fun c11 => ?_) (fun c11 => ?_)
          · have hf := it_t hf c11
            exact w_X0_strongestOver_53 C hr hlk hk11 _ _ _ _ _ _ hf hR hS t_r0 (lv_sub hl [0, 1, 2, 3, 4] rfl)
          · have hf := it_f hf c11
            exact w_X0_strongestOver_50 C hr hlk hk11 _ _ _ _ _ hf hR hS t_r0 (lv_sub hl [0, 1, 2, 4] rfl)
set_option maxRecDepth 100000 in
set_option maxHeartbeats 4000000 in
theorem k_X0_strongestOver {G : Gt} {l : Launch}  {h : Hp} {r0 : Nat} {x1 : Int32} {out : Int32} (t_r0 : hpT h r0 = (1, 0))  (hf : f_X0_strongestOver  h r0 x1 = some out) : Mt G l yX0_strongestOver cX0_strongestOver 5 (some .int) rm_X0_strongestOver [.ref (G.2.2 + r0), .int x1] h (some (.int out)) h 0 0 0 := by
  refine r_met (by decide +kernel) (Nat.le_of_ble_eq_true rfl) ?_
  intro p e s m args below meth c ls C hr hlk hnm hR hS hl
  have hl : lv_has ls 5 [(0, .ref (G.2.2 + r0)), (1, .int x1)] := hl
  rw [f_X0_strongestOver] at hf
  refine lv_aload_n C.x C.b dX0_strongestOver_0 rfl (lv_at hl 0 rfl) ?_
  refine lv_iload_n C.x C.b dX0_strongestOver_1 rfl (lv_at hl 1 rfl) ?_
  obtain ⟨q1, h_q1, hf⟩ := bd_e hf
  refine r_callV (As := [.int x1]) (rest := []) C hR hS t_r0 rfl mk_X0_onOver cl_X0_105 (k_X0_onOver t_r0 h_q1) ⟨⟨Nat.le_of_ble_eq_true rfl, Nat.le_of_ble_eq_true rfl⟩, ⟨rfl, rfl⟩, Nat.le_of_ble_eq_true rfl, Nat.le_of_ble_eq_true rfl⟩ rfl hl.1 rfl (Nat.le_of_ble_eq_true rfl) dX0_strongestOver_2 (fun H locs hR hS hE1 z_q1 => ?_)
  refine lv_istore_n (lv' := [(2, .int q1), (0, .ref (G.2.2 + r0)), (1, .int x1)]) C.x C.b dX0_strongestOver_5 rfl hl (by decide) rfl (fun ls hl => ?_)
  refine lv_iconst (v := (-1 : Int32)) C.x C.b dX0_strongestOver_6 (by decide) ?_
  refine lv_istore_n (lv' := [(3, .int (-1 : Int32)), (2, .int q1), (0, .ref (G.2.2 + r0)), (1, .int x1)]) C.x C.b dX0_strongestOver_7 rfl hl (by decide) rfl (fun ls hl => ?_)
  refine lv_iconst (v := (0 : Int32)) C.x C.b dX0_strongestOver_8 (by decide) ?_
  refine lv_istore (lv' := [(4, .int (0 : Int32)), (3, .int (-1 : Int32)), (2, .int q1), (0, .ref (G.2.2 + r0)), (1, .int x1)]) C.x C.b dX0_strongestOver_9 hl (by decide) rfl (fun ls hl => ?_)
  exact w_X0_strongestOver_11 C hr hlk FU _ _ _ _ _ _ hf hR hS t_r0 (lv_sub hl [3, 4, 2, 1, 0] rfl)

def rm_X0_sleptCells : Room := { frames := 5, cells := 0, slots := 0, locals := 109 }
def P_X0_sleptCells_26 (G : Gt) (l : Launch) (p : Program) (e : Env) (s : State) (m : MethodId) (args : Array Value) (below : List Frame) (meth : Method) (c : Code) (h : Hp) (out : Int64) (r0 : Nat) (k : Int64 → Int32 → Option Int64) : Prop := ∀ (H : Heap) (locs : List Loc) (ls : Array Slot) (y1 : Int64) (x3 : Int32), k y1 x3 = some out → Rel G h H → va_S (AA G.2.2) s.heap H locs → hpT h r0 = (1, 0) → lv_has ls 4 [(0, .ref (G.2.2 + r0)), (1, .long y1), (3, .int x3)] → W p l e rm_X0_sleptCells s m args below meth c H locs 0 0 (MQ below (Qm G h h (some (.long out)) 0) args s 0 0 (AA G.2.2)) (F0 m 26 ls [])
def P_X0_sleptCells_4 (G : Gt) (l : Launch) (p : Program) (e : Env) (s : State) (m : MethodId) (args : Array Value) (below : List Frame) (meth : Method) (c : Code) (h : Hp) (out : Int64) (r0 : Nat) (k : Int64 → Int32 → Option Int64) : Prop := ∀ (H : Heap) (locs : List Loc) (ls : Array Slot) (y1 : Int64) (x3 : Int32), k y1 x3 = some out → Rel G h H → va_S (AA G.2.2) s.heap H locs → hpT h r0 = (1, 0) → lv_has ls 4 [(0, .ref (G.2.2 + r0)), (1, .long y1), (3, .int x3)] → W p l e rm_X0_sleptCells s m args below meth c H locs 0 0 (MQ below (Qm G h h (some (.long out)) 0) args s 0 0 (AA G.2.2)) (F0 m 4 ls [])
set_option maxRecDepth 100000 in
set_option maxHeartbeats 4000000 in
theorem w_X0_sleptCells_26 {G : Gt} {l : Launch} {p : Program} {e : Env} {s : State} {m : MethodId} {args : Array Value} {below : List Frame} {meth : Method} {c : Code}  {h : Hp} {out : Int64} {r0 : Nat} {k4 : Int64 → Int32 → Option Int64} (C : Cx G p m c cX0_sleptCells 4 s args RX0) (hr : meth.sig.returnType = some .long) (hlk : meth.locks = false)  (hk4 : P_X0_sleptCells_4 G l p e s m args below meth c h out r0 k4) : P_X0_sleptCells_26 G l p e s m args below meth c h out r0 (f_X0_sleptCells_26 h r0 k4) := by
  intro H locs ls y1 x3 hf hR hS t_r0 hl
  rw [f_X0_sleptCells_26] at hf
  obtain ⟨v7, e_v7⟩ : ∃ y : Int32, y = x3 + (1 : Int32) := ⟨_, rfl⟩
  have hf := lt_e hf e_v7
  refine lv_iinc (v := v7) (lv' := [(3, .int v7), (0, .ref (G.2.2 + r0)), (1, .long y1)]) C.x C.b dX0_sleptCells_26 hl (k := 2) rfl (by rw [e_v7]; rfl) (by decide) rfl (fun ls hl => ?_)
  refine lv_goto (tgt := 4) C.x C.b dX0_sleptCells_29 (by decide) ?_
  exact hk4 _ _ _ _ _ hf hR hS t_r0 (lv_sub hl [1, 2, 0] rfl)
set_option maxRecDepth 100000 in
set_option maxHeartbeats 4000000 in
theorem w_X0_sleptCells_4 {G : Gt} {l : Launch} {p : Program} {e : Env} {s : State} {m : MethodId} {args : Array Value} {below : List Frame} {meth : Method} {c : Code}  {h : Hp} {out : Int64} {r0 : Nat}  (C : Cx G p m c cX0_sleptCells 4 s args RX0) (hr : meth.sig.returnType = some .long) (hlk : meth.locks = false)   (n : Nat) : P_X0_sleptCells_4 G l p e s m args below meth c h out r0 (f_X0_sleptCells_4 h r0 n) := by
  induction n with
  | zero => intro H locs ls y1 x3 hf hR hS t_r0 hl; cases hf
  | succ n hk4 =>
    intro H locs ls y1 x3 hf hR hS t_r0 hl
    rw [f_X0_sleptCells_4] at hf
    obtain ⟨k4, e_k4⟩ : ∃ y, y = f_X0_sleptCells_4 h r0 n := ⟨_, rfl⟩
    have hf := lt_e hf e_k4
    rw [← e_k4] at hk4
    refine lv_iload_n C.x C.b dX0_sleptCells_4 rfl (lv_at hl 2 rfl) ?_
    refine lv_aload_n C.x C.b dX0_sleptCells_5 rfl (lv_at hl 0 rfl) ?_
    obtain ⟨q1, h_q1, hf⟩ := bd_e hf
    refine r_callV (As := []) (rest := [.int x3]) C hR hS t_r0 rfl mk_X0_cells cl_X0_55 (k_X0_cells t_r0 h_q1) ⟨⟨Nat.le_of_ble_eq_true rfl, Nat.le_of_ble_eq_true rfl⟩, ⟨rfl, rfl⟩, Nat.le_of_ble_eq_true rfl, Nat.le_of_ble_eq_true rfl⟩ rfl hl.1 rfl (Nat.le_of_ble_eq_true rfl) dX0_sleptCells_6 (fun H locs hR hS hE1 z_q1 => ?_)
    refine lv_icmp_ge (tgt := 32) C.x C.b dX0_sleptCells_9 (by decide) (fun c2 => ?_) (fun c2 => ?_)
    · have hf := it_t hf c2
      refine lv_lload_n C.x C.b dX0_sleptCells_32 rfl (lv_at hl 1 rfl) ?_
      have hf := so_e hf
      subst hf
      exact r_lret C hr hlk hR Ext.rf hS dX0_sleptCells_33
    · have hf := it_f hf c2
      refine lv_aload_n C.x C.b dX0_sleptCells_12 rfl (lv_at hl 0 rfl) ?_
      refine lv_iload_n C.x C.b dX0_sleptCells_13 rfl (lv_at hl 2 rfl) ?_
      obtain ⟨q3, h_q3, hf⟩ := bd_e hf
      refine r_callV (As := [.int x3]) (rest := []) C hR hS t_r0 rfl mk_X0_onOver cl_X0_105 (k_X0_onOver t_r0 h_q3) ⟨⟨Nat.le_of_ble_eq_true rfl, Nat.le_of_ble_eq_true rfl⟩, ⟨rfl, rfl⟩, Nat.le_of_ble_eq_true rfl, Nat.le_of_ble_eq_true rfl⟩ rfl hl.1 rfl (Nat.le_of_ble_eq_true rfl) dX0_sleptCells_14 (fun H locs hR hS hE1 z_q3 => ?_)
      refine lv_if_eq (tgt := 26) C.x C.b dX0_sleptCells_17 (by decide) (fun c4 => ?_) (fun c4 => ?_)
      · have hf := it_t hf c4
        exact w_X0_sleptCells_26 C hr hlk hk4 _ _ _ _ _ hf hR hS t_r0 (lv_sub hl [0, 1, 2] rfl)
      · have hf := it_f hf c4
        refine lv_lload_n C.x C.b dX0_sleptCells_20 rfl (lv_at hl 1 rfl) ?_
        refine lv_lconst (v := (1 : Int64)) C.x C.b dX0_sleptCells_21 (by decide) ?_
        refine lv_iload_n C.x C.b dX0_sleptCells_22 rfl (lv_at hl 2 rfl) ?_
        refine lv_lshl C.x C.b dX0_sleptCells_23 rfl ?_
        refine lv_topl (fun v5 e_v5 => ?_)
        have hf := lt_e hf e_v5
        refine lv_lor C.x C.b dX0_sleptCells_24 ?_
        refine lv_topl (fun v6 e_v6 => ?_)
        have hf := lt_e hf e_v6
        refine lv_lstore_n (lv' := [(1, .long v6), (0, .ref (G.2.2 + r0)), (3, .int x3)]) C.x C.b dX0_sleptCells_25 rfl hl (by decide) rfl (fun ls hl => ?_)
        exact w_X0_sleptCells_26 C hr hlk hk4 _ _ _ _ _ hf hR hS t_r0 (lv_sub hl [1, 0, 2] rfl)
set_option maxRecDepth 100000 in
set_option maxHeartbeats 4000000 in
theorem k_X0_sleptCells {G : Gt} {l : Launch}  {h : Hp} {r0 : Nat} {out : Int64} (t_r0 : hpT h r0 = (1, 0))  (hf : f_X0_sleptCells  h r0 = some out) : Mt G l yX0_sleptCells cX0_sleptCells 4 (some .long) rm_X0_sleptCells [.ref (G.2.2 + r0)] h (some (.long out)) h 0 0 0 := by
  refine r_met (by decide +kernel) (Nat.le_of_ble_eq_true rfl) ?_
  intro p e s m args below meth c ls C hr hlk hnm hR hS hl
  have hl : lv_has ls 4 [(0, .ref (G.2.2 + r0))] := hl
  rw [f_X0_sleptCells] at hf
  refine lv_lconst (v := (0 : Int64)) C.x C.b dX0_sleptCells_0 (by decide) ?_
  refine lv_lstore_n (lv' := [(1, .long (0 : Int64)), (0, .ref (G.2.2 + r0))]) C.x C.b dX0_sleptCells_1 rfl hl (by decide) rfl (fun ls hl => ?_)
  refine lv_iconst (v := (0 : Int32)) C.x C.b dX0_sleptCells_2 (by decide) ?_
  refine lv_istore_n (lv' := [(3, .int (0 : Int32)), (1, .long (0 : Int64)), (0, .ref (G.2.2 + r0))]) C.x C.b dX0_sleptCells_3 rfl hl (by decide) rfl (fun ls hl => ?_)
  exact w_X0_sleptCells_4 C hr hlk FU _ _ _ _ _ hf hR hS t_r0 (lv_sub hl [2, 1, 0] rfl)

def rm_X0_isHidden : Room := { frames := 2, cells := 0, slots := 0, locals := 43 }
def P_X0_isHidden_51 (G : Gt) (l : Launch) (p : Program) (e : Env) (s : State) (m : MethodId) (args : Array Value) (below : List Frame) (meth : Method) (c : Code) (h : Hp) (out : Int32) (r0 : Nat) (x1 : Int32) (x2 : Int32) (k : Int32 → Option Int32) : Prop := ∀ (H : Heap) (locs : List Loc) (ls : Array Slot) (x3 : Int32), k x3 = some out → Rel G h H → va_S (AA G.2.2) s.heap H locs → hpT h r0 = (1, 0) → lv_has ls 4 [(0, .ref (G.2.2 + r0)), (1, .int x1), (2, .int x2), (3, .int x3)] → W p l e rm_X0_isHidden s m args below meth c H locs 0 0 (MQ below (Qm G h h (some (.int out)) 1) args s 0 0 (AA G.2.2)) (F0 m 51 ls [])
def P_X0_isHidden_2 (G : Gt) (l : Launch) (p : Program) (e : Env) (s : State) (m : MethodId) (args : Array Value) (below : List Frame) (meth : Method) (c : Code) (h : Hp) (out : Int32) (r0 : Nat) (x1 : Int32) (x2 : Int32) (k : Int32 → Option Int32) : Prop := ∀ (H : Heap) (locs : List Loc) (ls : Array Slot) (x3 : Int32), k x3 = some out → Rel G h H → va_S (AA G.2.2) s.heap H locs → hpT h r0 = (1, 0) → lv_has ls 4 [(0, .ref (G.2.2 + r0)), (1, .int x1), (2, .int x2), (3, .int x3)] → W p l e rm_X0_isHidden s m args below meth c H locs 0 0 (MQ below (Qm G h h (some (.int out)) 1) args s 0 0 (AA G.2.2)) (F0 m 2 ls [])
set_option maxRecDepth 100000 in
set_option maxHeartbeats 4000000 in
theorem w_X0_isHidden_51 {G : Gt} {l : Launch} {p : Program} {e : Env} {s : State} {m : MethodId} {args : Array Value} {below : List Frame} {meth : Method} {c : Code}  {h : Hp} {out : Int32} {r0 : Nat} {x1 : Int32} {x2 : Int32} {k2 : Int32 → Option Int32} (C : Cx G p m c cX0_isHidden 4 s args RX0) (hr : meth.sig.returnType = some .boolean) (hlk : meth.locks = false)  (hk2 : P_X0_isHidden_2 G l p e s m args below meth c h out r0 x1 x2 k2) : P_X0_isHidden_51 G l p e s m args below meth c h out r0 x1 x2 (f_X0_isHidden_51 h r0 x1 x2 k2) := by
  intro H locs ls x3 hf hR hS t_r0 hl
  rw [f_X0_isHidden_51] at hf
  obtain ⟨v16, e_v16⟩ : ∃ y : Int32, y = x3 + (1 : Int32) := ⟨_, rfl⟩
  have hf := lt_e hf e_v16
  refine lv_iinc (v := v16) (lv' := [(3, .int v16), (0, .ref (G.2.2 + r0)), (1, .int x1), (2, .int x2)]) C.x C.b dX0_isHidden_51 hl (k := 3) rfl (by rw [e_v16]; rfl) (by decide) rfl (fun ls hl => ?_)
  refine lv_goto (tgt := 2) C.x C.b dX0_isHidden_54 (by decide) ?_
  exact hk2 _ _ _ _ hf hR hS t_r0 (lv_sub hl [1, 2, 3, 0] rfl)
set_option maxRecDepth 100000 in
set_option maxHeartbeats 4000000 in
theorem w_X0_isHidden_2 {G : Gt} {l : Launch} {p : Program} {e : Env} {s : State} {m : MethodId} {args : Array Value} {below : List Frame} {meth : Method} {c : Code}  {h : Hp} {out : Int32} {r0 : Nat} {x1 : Int32} {x2 : Int32}  (C : Cx G p m c cX0_isHidden 4 s args RX0) (hr : meth.sig.returnType = some .boolean) (hlk : meth.locks = false)   (n : Nat) : P_X0_isHidden_2 G l p e s m args below meth c h out r0 x1 x2 (f_X0_isHidden_2 h r0 x1 x2 n) := by
  induction n with
  | zero => intro H locs ls x3 hf hR hS t_r0 hl; cases hf
  | succ n hk2 =>
    intro H locs ls x3 hf hR hS t_r0 hl
    rw [f_X0_isHidden_2] at hf
    obtain ⟨k2, e_k2⟩ : ∃ y, y = f_X0_isHidden_2 h r0 x1 x2 n := ⟨_, rfl⟩
    have hf := lt_e hf e_k2
    rw [← e_k2] at hk2
    refine lv_iload_n C.x C.b dX0_isHidden_2 rfl (lv_at hl 3 rfl) ?_
    refine lv_aload_n C.x C.b dX0_isHidden_3 rfl (lv_at hl 0 rfl) ?_
    refine r_geti C hR t_r0 fl_X0_40 rfl dX0_isHidden_4 ?_
    refine lv_icmp_ge (tgt := 57) C.x C.b dX0_isHidden_7 (by decide) (fun c1 => ?_) (fun c1 => ?_)
    · have hf := it_t hf c1
      refine lv_iconst (v := (0 : Int32)) C.x C.b dX0_isHidden_57 (by decide) ?_
      have hf := so_e hf
      subst hf
      exact r_zret C hr hlk hR Ext.rf hS z_0 dX0_isHidden_58
    · have hf := it_f hf c1
      refine lv_aload_n C.x C.b dX0_isHidden_10 rfl (lv_at hl 0 rfl) ?_
      refine lv_iload_n C.x C.b dX0_isHidden_11 rfl (lv_at hl 3 rfl) ?_
      refine lv_iload_n C.x C.b dX0_isHidden_12 rfl (lv_at hl 2 rfl) ?_
      obtain ⟨q2, h_q2, hf⟩ := bd_e hf
      refine r_callV (As := [.int x3, .int x2]) (rest := []) C hR hS t_r0 rfl mk_X0_isOverRow cl_X0_74 (k_X0_isOverRow t_r0 h_q2) ⟨⟨Nat.le_of_ble_eq_true rfl, Nat.le_of_ble_eq_true rfl⟩, ⟨rfl, rfl⟩, Nat.le_of_ble_eq_true rfl, Nat.le_of_ble_eq_true rfl⟩ rfl hl.1 rfl (Nat.le_of_ble_eq_true rfl) dX0_isHidden_13 (fun H locs hR hS hE1 z_q2 => ?_)
      have z_q2 := z_q2 _ rfl
      refine lv_if_eq (tgt := 51) C.x C.b dX0_isHidden_16 (by decide) (fun c3 => ?_) (fun c3 => ?_)
      · have hf := it_t hf c3
        exact w_X0_isHidden_51 C hr hlk hk2 _ _ _ _ hf hR hS t_r0 (lv_sub hl [0, 1, 2, 3] rfl)
      · have hf := it_f hf c3
        refine lv_aload_n C.x C.b dX0_isHidden_19 rfl (lv_at hl 0 rfl) ?_
        obtain ⟨g4, hf⟩ := gd_e hf
        refine r_getr C hR t_r0 fl_X0_22 (by decide) (nz_e g4) dX0_isHidden_20 (fun tq5 => ?_)
        have tg4 := okA tq5 rfl
        refine lv_iload_n C.x C.b dX0_isHidden_23 rfl (lv_at hl 3 rfl) ?_
        obtain ⟨g6, hf⟩ := gd_e hf
        refine r_iald C hR tg4 g6 dX0_isHidden_24 ?_
        refine lv_aload_n C.x C.b dX0_isHidden_25 rfl (lv_at hl 0 rfl) ?_
        refine r_getr C hR t_r0 fl_X0_22 (by decide) (nz_e g4) dX0_isHidden_26 (fun tq7 => ?_)
        refine lv_iload_n C.x C.b dX0_isHidden_29 rfl (lv_at hl 1 rfl) ?_
        obtain ⟨g8, hf⟩ := gd_e hf
        refine r_iald C hR tg4 g8 dX0_isHidden_30 ?_
        refine lv_icmp_ge (tgt := 51) C.x C.b dX0_isHidden_31 (by decide) (fun c9 => ?_) (fun c9 => ?_)
        · have hf := it_t hf c9
          exact w_X0_isHidden_51 C hr hlk hk2 _ _ _ _ hf hR hS t_r0 (lv_sub hl [0, 1, 2, 3] rfl)
        · have hf := it_f hf c9
          refine lv_aload_n C.x C.b dX0_isHidden_34 rfl (lv_at hl 0 rfl) ?_
          obtain ⟨g10, hf⟩ := gd_e hf
          refine r_getr C hR t_r0 fl_X0_31 (by decide) (nz_e g10) dX0_isHidden_35 (fun tq11 => ?_)
          have tg10 := okA tq11 rfl
          refine lv_iload_n C.x C.b dX0_isHidden_38 rfl (lv_at hl 3 rfl) ?_
          obtain ⟨g12, hf⟩ := gd_e hf
          refine r_iald C hR tg10 g12 dX0_isHidden_39 ?_
          refine lv_aload_n C.x C.b dX0_isHidden_40 rfl (lv_at hl 0 rfl) ?_
          refine r_getr C hR t_r0 fl_X0_31 (by decide) (nz_e g10) dX0_isHidden_41 (fun tq13 => ?_)
          refine lv_iload_n C.x C.b dX0_isHidden_44 rfl (lv_at hl 1 rfl) ?_
          obtain ⟨g14, hf⟩ := gd_e hf
          refine r_iald C hR tg10 g14 dX0_isHidden_45 ?_
          refine lv_icmp_le (tgt := 51) C.x C.b dX0_isHidden_46 (by decide) (fun c15 => ?_) (fun c15 => ?_)
          · have hf := it_t hf c15
            exact w_X0_isHidden_51 C hr hlk hk2 _ _ _ _ hf hR hS t_r0 (lv_sub hl [0, 1, 2, 3] rfl)
          · have hf := it_f hf c15
            refine lv_iconst (v := (1 : Int32)) C.x C.b dX0_isHidden_49 (by decide) ?_
            have hf := so_e hf
            subst hf
            exact r_zret C hr hlk hR Ext.rf hS z_1 dX0_isHidden_50
set_option maxRecDepth 100000 in
set_option maxHeartbeats 4000000 in
theorem k_X0_isHidden {G : Gt} {l : Launch}  {h : Hp} {r0 : Nat} {x1 : Int32} {x2 : Int32} {out : Int32} (t_r0 : hpT h r0 = (1, 0))  (hf : f_X0_isHidden  h r0 x1 x2 = some out) : Mt G l yX0_isHidden cX0_isHidden 4 (some .boolean) rm_X0_isHidden [.ref (G.2.2 + r0), .int x1, .int x2] h (some (.int out)) h 1 0 0 := by
  refine r_met (by decide +kernel) (Nat.le_of_ble_eq_true rfl) ?_
  intro p e s m args below meth c ls C hr hlk hnm hR hS hl
  have hl : lv_has ls 4 [(0, .ref (G.2.2 + r0)), (1, .int x1), (2, .int x2)] := hl
  rw [f_X0_isHidden] at hf
  refine lv_iconst (v := (0 : Int32)) C.x C.b dX0_isHidden_0 (by decide) ?_
  refine lv_istore_n (lv' := [(3, .int (0 : Int32)), (0, .ref (G.2.2 + r0)), (1, .int x1), (2, .int x2)]) C.x C.b dX0_isHidden_1 rfl hl (by decide) rfl (fun ls hl => ?_)
  exact w_X0_isHidden_2 C hr hlk FU _ _ _ _ hf hR hS t_r0 (lv_sub hl [1, 2, 3, 0] rfl)

def rm_X0_seenFrom : Room := { frames := 3, cells := 0, slots := 0, locals := 66 }
def P_X0_seenFrom_44 (G : Gt) (l : Launch) (p : Program) (e : Env) (s : State) (m : MethodId) (args : Array Value) (below : List Frame) (meth : Method) (c : Code) (h : Hp) (out : Int32) (r0 : Nat) (x1 : Int32) (k : Int32 → Int32 → Option Int32) : Prop := ∀ (H : Heap) (locs : List Loc) (ls : Array Slot) (x2 : Int32) (x3 : Int32), k x2 x3 = some out → Rel G h H → va_S (AA G.2.2) s.heap H locs → hpT h r0 = (1, 0) → lv_has ls 4 [(0, .ref (G.2.2 + r0)), (1, .int x1), (2, .int x2), (3, .int x3)] → W p l e rm_X0_seenFrom s m args below meth c H locs 0 0 (MQ below (Qm G h h (some (.int out)) 0) args s 0 0 (AA G.2.2)) (F0 m 44 ls [])
def P_X0_seenFrom_4 (G : Gt) (l : Launch) (p : Program) (e : Env) (s : State) (m : MethodId) (args : Array Value) (below : List Frame) (meth : Method) (c : Code) (h : Hp) (out : Int32) (r0 : Nat) (x1 : Int32) (k : Int32 → Int32 → Option Int32) : Prop := ∀ (H : Heap) (locs : List Loc) (ls : Array Slot) (x2 : Int32) (x3 : Int32), k x2 x3 = some out → Rel G h H → va_S (AA G.2.2) s.heap H locs → hpT h r0 = (1, 0) → lv_has ls 4 [(0, .ref (G.2.2 + r0)), (1, .int x1), (2, .int x2), (3, .int x3)] → W p l e rm_X0_seenFrom s m args below meth c H locs 0 0 (MQ below (Qm G h h (some (.int out)) 0) args s 0 0 (AA G.2.2)) (F0 m 4 ls [])
set_option maxRecDepth 100000 in
set_option maxHeartbeats 4000000 in
theorem w_X0_seenFrom_44 {G : Gt} {l : Launch} {p : Program} {e : Env} {s : State} {m : MethodId} {args : Array Value} {below : List Frame} {meth : Method} {c : Code}  {h : Hp} {out : Int32} {r0 : Nat} {x1 : Int32} {k4 : Int32 → Int32 → Option Int32} (C : Cx G p m c cX0_seenFrom 4 s args RX0) (hr : meth.sig.returnType = some .int) (hlk : meth.locks = false)  (hk4 : P_X0_seenFrom_4 G l p e s m args below meth c h out r0 x1 k4) : P_X0_seenFrom_44 G l p e s m args below meth c h out r0 x1 (f_X0_seenFrom_44 h r0 x1 k4) := by
  intro H locs ls x2 x3 hf hR hS t_r0 hl
  rw [f_X0_seenFrom_44] at hf
  obtain ⟨v10, e_v10⟩ : ∃ y : Int32, y = x3 + (1 : Int32) := ⟨_, rfl⟩
  have hf := lt_e hf e_v10
  refine lv_iinc (v := v10) (lv' := [(3, .int v10), (0, .ref (G.2.2 + r0)), (1, .int x1), (2, .int x2)]) C.x C.b dX0_seenFrom_44 hl (k := 3) rfl (by rw [e_v10]; rfl) (by decide) rfl (fun ls hl => ?_)
  refine lv_goto (tgt := 4) C.x C.b dX0_seenFrom_47 (by decide) ?_
  exact hk4 _ _ _ _ _ hf hR hS t_r0 (lv_sub hl [1, 2, 3, 0] rfl)
set_option maxRecDepth 100000 in
set_option maxHeartbeats 4000000 in
theorem w_X0_seenFrom_4 {G : Gt} {l : Launch} {p : Program} {e : Env} {s : State} {m : MethodId} {args : Array Value} {below : List Frame} {meth : Method} {c : Code}  {h : Hp} {out : Int32} {r0 : Nat} {x1 : Int32}  (C : Cx G p m c cX0_seenFrom 4 s args RX0) (hr : meth.sig.returnType = some .int) (hlk : meth.locks = false)   (n : Nat) : P_X0_seenFrom_4 G l p e s m args below meth c h out r0 x1 (f_X0_seenFrom_4 h r0 x1 n) := by
  induction n with
  | zero => intro H locs ls x2 x3 hf hR hS t_r0 hl; cases hf
  | succ n hk4 =>
    intro H locs ls x2 x3 hf hR hS t_r0 hl
    rw [f_X0_seenFrom_4] at hf
    obtain ⟨k4, e_k4⟩ : ∃ y, y = f_X0_seenFrom_4 h r0 x1 n := ⟨_, rfl⟩
    have hf := lt_e hf e_k4
    rw [← e_k4] at hk4
    refine lv_iload_n C.x C.b dX0_seenFrom_4 rfl (lv_at hl 3 rfl) ?_
    refine lv_aload_n C.x C.b dX0_seenFrom_5 rfl (lv_at hl 0 rfl) ?_
    refine r_geti C hR t_r0 fl_X0_40 rfl dX0_seenFrom_6 ?_
    refine lv_icmp_ge (tgt := 50) C.x C.b dX0_seenFrom_9 (by decide) (fun c1 => ?_) (fun c1 => ?_)
    · have hf := it_t hf c1
      refine lv_iload_n C.x C.b dX0_seenFrom_50 rfl (lv_at hl 2 rfl) ?_
      have hf := so_e hf
      subst hf
      exact r_iret C hr hlk hR Ext.rf hS dX0_seenFrom_51
    · have hf := it_f hf c1
      refine lv_aload_n C.x C.b dX0_seenFrom_12 rfl (lv_at hl 0 rfl) ?_
      refine lv_iload_n C.x C.b dX0_seenFrom_13 rfl (lv_at hl 3 rfl) ?_
      obtain ⟨q2, h_q2, hf⟩ := bd_e hf
      refine r_callV (As := [.int x3]) (rest := []) C hR hS t_r0 rfl mk_X0_isOn cl_X0_108 (k_X0_isOn t_r0 h_q2) ⟨⟨Nat.le_of_ble_eq_true rfl, Nat.le_of_ble_eq_true rfl⟩, ⟨rfl, rfl⟩, Nat.le_of_ble_eq_true rfl, Nat.le_of_ble_eq_true rfl⟩ rfl hl.1 rfl (Nat.le_of_ble_eq_true rfl) dX0_seenFrom_14 (fun H locs hR hS hE1 z_q2 => ?_)
      have z_q2 := z_q2 _ rfl
      refine lv_if_eq (tgt := 44) C.x C.b dX0_seenFrom_17 (by decide) (fun c3 => ?_) (fun c3 => ?_)
      · have hf := it_t hf c3
        exact w_X0_seenFrom_44 C hr hlk hk4 _ _ _ _ _ hf hR hS t_r0 (lv_sub hl [0, 1, 2, 3] rfl)
      · have hf := it_f hf c3
        refine lv_aload_n C.x C.b dX0_seenFrom_20 rfl (lv_at hl 0 rfl) ?_
        refine lv_iload_n C.x C.b dX0_seenFrom_21 rfl (lv_at hl 3 rfl) ?_
        refine lv_iload_n C.x C.b dX0_seenFrom_22 rfl (lv_at hl 1 rfl) ?_
        obtain ⟨q4, h_q4, hf⟩ := bd_e hf
        refine r_callV (As := [.int x3, .int x1]) (rest := []) C hR hS t_r0 rfl mk_X0_isOverRow cl_X0_74 (k_X0_isOverRow t_r0 h_q4) ⟨⟨Nat.le_of_ble_eq_true rfl, Nat.le_of_ble_eq_true rfl⟩, ⟨rfl, rfl⟩, Nat.le_of_ble_eq_true rfl, Nat.le_of_ble_eq_true rfl⟩ rfl hl.1 rfl (Nat.le_of_ble_eq_true rfl) dX0_seenFrom_23 (fun H locs hR hS hE1 z_q4 => ?_)
        have z_q4 := z_q4 _ rfl
        refine lv_if_eq (tgt := 44) C.x C.b dX0_seenFrom_26 (by decide) (fun c5 => ?_) (fun c5 => ?_)
        · have hf := it_t hf c5
          exact w_X0_seenFrom_44 C hr hlk hk4 _ _ _ _ _ hf hR hS t_r0 (lv_sub hl [0, 1, 2, 3] rfl)
        · have hf := it_f hf c5
          refine lv_aload_n C.x C.b dX0_seenFrom_29 rfl (lv_at hl 0 rfl) ?_
          refine lv_iload_n C.x C.b dX0_seenFrom_30 rfl (lv_at hl 3 rfl) ?_
          refine lv_iload_n C.x C.b dX0_seenFrom_31 rfl (lv_at hl 1 rfl) ?_
          obtain ⟨q6, h_q6, hf⟩ := bd_e hf
          refine r_callV (As := [.int x3, .int x1]) (rest := []) C hR hS t_r0 rfl mk_X0_isHidden cl_X0_111 (k_X0_isHidden t_r0 h_q6) ⟨⟨Nat.le_of_ble_eq_true rfl, Nat.le_of_ble_eq_true rfl⟩, ⟨rfl, rfl⟩, Nat.le_of_ble_eq_true rfl, Nat.le_of_ble_eq_true rfl⟩ rfl hl.1 rfl (Nat.le_of_ble_eq_true rfl) dX0_seenFrom_32 (fun H locs hR hS hE1 z_q6 => ?_)
          have z_q6 := z_q6 _ rfl
          refine lv_if_ne (tgt := 44) C.x C.b dX0_seenFrom_35 (by decide) (fun c7 => ?_) (fun c7 => ?_)
          · have hf := it_f hf c7
            exact w_X0_seenFrom_44 C hr hlk hk4 _ _ _ _ _ hf hR hS t_r0 (lv_sub hl [0, 1, 2, 3] rfl)
          · have hf := it_t hf c7
            refine lv_iload_n C.x C.b dX0_seenFrom_38 rfl (lv_at hl 2 rfl) ?_
            refine lv_iconst (v := (1 : Int32)) C.x C.b dX0_seenFrom_39 (by decide) ?_
            refine lv_iload_n C.x C.b dX0_seenFrom_40 rfl (lv_at hl 3 rfl) ?_
            refine lv_ishl C.x C.b dX0_seenFrom_41 ?_
            refine lv_topi (fun v8 e_v8 => ?_)
            have hf := lt_e hf e_v8
            refine lv_ior C.x C.b dX0_seenFrom_42 ?_
            refine lv_topi (fun v9 e_v9 => ?_)
            have hf := lt_e hf e_v9
            refine lv_istore_n (lv' := [(2, .int v9), (0, .ref (G.2.2 + r0)), (1, .int x1), (3, .int x3)]) C.x C.b dX0_seenFrom_43 rfl hl (by decide) rfl (fun ls hl => ?_)
            exact w_X0_seenFrom_44 C hr hlk hk4 _ _ _ _ _ hf hR hS t_r0 (lv_sub hl [1, 2, 0, 3] rfl)
set_option maxRecDepth 100000 in
set_option maxHeartbeats 4000000 in
theorem k_X0_seenFrom {G : Gt} {l : Launch}  {h : Hp} {r0 : Nat} {x1 : Int32} {out : Int32} (t_r0 : hpT h r0 = (1, 0))  (hf : f_X0_seenFrom  h r0 x1 = some out) : Mt G l yX0_seenFrom cX0_seenFrom 4 (some .int) rm_X0_seenFrom [.ref (G.2.2 + r0), .int x1] h (some (.int out)) h 0 0 0 := by
  refine r_met (by decide +kernel) (Nat.le_of_ble_eq_true rfl) ?_
  intro p e s m args below meth c ls C hr hlk hnm hR hS hl
  have hl : lv_has ls 4 [(0, .ref (G.2.2 + r0)), (1, .int x1)] := hl
  rw [f_X0_seenFrom] at hf
  refine lv_iconst (v := (0 : Int32)) C.x C.b dX0_seenFrom_0 (by decide) ?_
  refine lv_istore_n (lv' := [(2, .int (0 : Int32)), (0, .ref (G.2.2 + r0)), (1, .int x1)]) C.x C.b dX0_seenFrom_1 rfl hl (by decide) rfl (fun ls hl => ?_)
  refine lv_iconst (v := (0 : Int32)) C.x C.b dX0_seenFrom_2 (by decide) ?_
  refine lv_istore_n (lv' := [(3, .int (0 : Int32)), (2, .int (0 : Int32)), (0, .ref (G.2.2 + r0)), (1, .int x1)]) C.x C.b dX0_seenFrom_3 rfl hl (by decide) rfl (fun ls hl => ?_)
  exact w_X0_seenFrom_4 C hr hlk FU _ _ _ _ _ hf hR hS t_r0 (lv_sub hl [2, 3, 1, 0] rfl)

def rm_X0_seenFromRows : Room := { frames := 4, cells := 0, slots := 0, locals := 89 }
def P_X0_seenFromRows_28 (G : Gt) (l : Launch) (p : Program) (e : Env) (s : State) (m : MethodId) (args : Array Value) (below : List Frame) (meth : Method) (c : Code) (h : Hp) (out : Int32) (r0 : Nat) (x1 : Int32) (k : Int32 → Int32 → Option Int32) : Prop := ∀ (H : Heap) (locs : List Loc) (ls : Array Slot) (x2 : Int32) (x3 : Int32), k x2 x3 = some out → Rel G h H → va_S (AA G.2.2) s.heap H locs → hpT h r0 = (1, 0) → lv_has ls 4 [(0, .ref (G.2.2 + r0)), (1, .int x1), (2, .int x2), (3, .int x3)] → W p l e rm_X0_seenFromRows s m args below meth c H locs 0 0 (MQ below (Qm G h h (some (.int out)) 0) args s 0 0 (AA G.2.2)) (F0 m 28 ls [])
def P_X0_seenFromRows_4 (G : Gt) (l : Launch) (p : Program) (e : Env) (s : State) (m : MethodId) (args : Array Value) (below : List Frame) (meth : Method) (c : Code) (h : Hp) (out : Int32) (r0 : Nat) (x1 : Int32) (k : Int32 → Int32 → Option Int32) : Prop := ∀ (H : Heap) (locs : List Loc) (ls : Array Slot) (x2 : Int32) (x3 : Int32), k x2 x3 = some out → Rel G h H → va_S (AA G.2.2) s.heap H locs → hpT h r0 = (1, 0) → lv_has ls 4 [(0, .ref (G.2.2 + r0)), (1, .int x1), (2, .int x2), (3, .int x3)] → W p l e rm_X0_seenFromRows s m args below meth c H locs 0 0 (MQ below (Qm G h h (some (.int out)) 0) args s 0 0 (AA G.2.2)) (F0 m 4 ls [])
set_option maxRecDepth 100000 in
set_option maxHeartbeats 4000000 in
theorem w_X0_seenFromRows_28 {G : Gt} {l : Launch} {p : Program} {e : Env} {s : State} {m : MethodId} {args : Array Value} {below : List Frame} {meth : Method} {c : Code}  {h : Hp} {out : Int32} {r0 : Nat} {x1 : Int32} {k4 : Int32 → Int32 → Option Int32} (C : Cx G p m c cX0_seenFromRows 4 s args RX0) (hr : meth.sig.returnType = some .int) (hlk : meth.locks = false)  (hk4 : P_X0_seenFromRows_4 G l p e s m args below meth c h out r0 x1 k4) : P_X0_seenFromRows_28 G l p e s m args below meth c h out r0 x1 (f_X0_seenFromRows_28 h r0 x1 k4) := by
  intro H locs ls x2 x3 hf hR hS t_r0 hl
  rw [f_X0_seenFromRows_28] at hf
  obtain ⟨v6, e_v6⟩ : ∃ y : Int32, y = x3 + (1 : Int32) := ⟨_, rfl⟩
  have hf := lt_e hf e_v6
  refine lv_iinc (v := v6) (lv' := [(3, .int v6), (0, .ref (G.2.2 + r0)), (1, .int x1), (2, .int x2)]) C.x C.b dX0_seenFromRows_28 hl (k := 3) rfl (by rw [e_v6]; rfl) (by decide) rfl (fun ls hl => ?_)
  refine lv_goto (tgt := 4) C.x C.b dX0_seenFromRows_31 (by decide) ?_
  exact hk4 _ _ _ _ _ hf hR hS t_r0 (lv_sub hl [1, 2, 3, 0] rfl)
set_option maxRecDepth 100000 in
set_option maxHeartbeats 4000000 in
theorem w_X0_seenFromRows_4 {G : Gt} {l : Launch} {p : Program} {e : Env} {s : State} {m : MethodId} {args : Array Value} {below : List Frame} {meth : Method} {c : Code}  {h : Hp} {out : Int32} {r0 : Nat} {x1 : Int32}  (C : Cx G p m c cX0_seenFromRows 4 s args RX0) (hr : meth.sig.returnType = some .int) (hlk : meth.locks = false)   (n : Nat) : P_X0_seenFromRows_4 G l p e s m args below meth c h out r0 x1 (f_X0_seenFromRows_4 h r0 x1 n) := by
  induction n with
  | zero => intro H locs ls x2 x3 hf hR hS t_r0 hl; cases hf
  | succ n hk4 =>
    intro H locs ls x2 x3 hf hR hS t_r0 hl
    rw [f_X0_seenFromRows_4] at hf
    obtain ⟨k4, e_k4⟩ : ∃ y, y = f_X0_seenFromRows_4 h r0 x1 n := ⟨_, rfl⟩
    have hf := lt_e hf e_k4
    rw [← e_k4] at hk4
    refine lv_iload_n C.x C.b dX0_seenFromRows_4 rfl (lv_at hl 3 rfl) ?_
    refine lv_aload_n C.x C.b dX0_seenFromRows_5 rfl (lv_at hl 0 rfl) ?_
    refine r_geti C hR t_r0 fl_X0_9 rfl dX0_seenFromRows_6 ?_
    refine lv_icmp_ge (tgt := 34) C.x C.b dX0_seenFromRows_9 (by decide) (fun c1 => ?_) (fun c1 => ?_)
    · have hf := it_t hf c1
      refine lv_iload_n C.x C.b dX0_seenFromRows_34 rfl (lv_at hl 2 rfl) ?_
      have hf := so_e hf
      subst hf
      exact r_iret C hr hlk hR Ext.rf hS dX0_seenFromRows_35
    · have hf := it_f hf c1
      refine lv_iload_n C.x C.b dX0_seenFromRows_12 rfl (lv_at hl 1 rfl) ?_
      refine lv_iload_n C.x C.b dX0_seenFromRows_13 rfl (lv_at hl 3 rfl) ?_
      obtain ⟨q2, h_q2, hf⟩ := bd_e hf
      refine r_callSN (As := [.int x1, .int x3]) (rest := []) C hR hS mk_X9_isIn cn_X0_84 (k_X9_isIn h_q2) ⟨⟨Nat.le_of_ble_eq_true rfl, Nat.le_of_ble_eq_true rfl⟩, ⟨rfl, rfl⟩, Nat.le_of_ble_eq_true rfl, Nat.le_of_ble_eq_true rfl⟩ rfl hl.1 rfl (Nat.le_of_ble_eq_true rfl) dX0_seenFromRows_14 (fun H locs hR hS hE1 z_q2 => ?_)
      have z_q2 := z_q2 _ rfl
      refine lv_if_eq (tgt := 28) C.x C.b dX0_seenFromRows_17 (by decide) (fun c3 => ?_) (fun c3 => ?_)
      · have hf := it_t hf c3
        exact w_X0_seenFromRows_28 C hr hlk hk4 _ _ _ _ _ hf hR hS t_r0 (lv_sub hl [0, 1, 2, 3] rfl)
      · have hf := it_f hf c3
        refine lv_iload_n C.x C.b dX0_seenFromRows_20 rfl (lv_at hl 2 rfl) ?_
        refine lv_aload_n C.x C.b dX0_seenFromRows_21 rfl (lv_at hl 0 rfl) ?_
        refine lv_iload_n C.x C.b dX0_seenFromRows_22 rfl (lv_at hl 3 rfl) ?_
        obtain ⟨q4, h_q4, hf⟩ := bd_e hf
        refine r_callV (As := [.int x3]) (rest := [.int x2]) C hR hS t_r0 rfl mk_X0_seenFrom cl_X0_114 (k_X0_seenFrom t_r0 h_q4) ⟨⟨Nat.le_of_ble_eq_true rfl, Nat.le_of_ble_eq_true rfl⟩, ⟨rfl, rfl⟩, Nat.le_of_ble_eq_true rfl, Nat.le_of_ble_eq_true rfl⟩ rfl hl.1 rfl (Nat.le_of_ble_eq_true rfl) dX0_seenFromRows_23 (fun H locs hR hS hE1 z_q4 => ?_)
        refine lv_ior C.x C.b dX0_seenFromRows_26 ?_
        refine lv_topi (fun v5 e_v5 => ?_)
        have hf := lt_e hf e_v5
        refine lv_istore_n (lv' := [(2, .int v5), (0, .ref (G.2.2 + r0)), (1, .int x1), (3, .int x3)]) C.x C.b dX0_seenFromRows_27 rfl hl (by decide) rfl (fun ls hl => ?_)
        exact w_X0_seenFromRows_28 C hr hlk hk4 _ _ _ _ _ hf hR hS t_r0 (lv_sub hl [1, 2, 0, 3] rfl)
set_option maxRecDepth 100000 in
set_option maxHeartbeats 4000000 in
theorem k_X0_seenFromRows {G : Gt} {l : Launch}  {h : Hp} {r0 : Nat} {x1 : Int32} {out : Int32} (t_r0 : hpT h r0 = (1, 0))  (hf : f_X0_seenFromRows  h r0 x1 = some out) : Mt G l yX0_seenFromRows cX0_seenFromRows 4 (some .int) rm_X0_seenFromRows [.ref (G.2.2 + r0), .int x1] h (some (.int out)) h 0 0 0 := by
  refine r_met (by decide +kernel) (Nat.le_of_ble_eq_true rfl) ?_
  intro p e s m args below meth c ls C hr hlk hnm hR hS hl
  have hl : lv_has ls 4 [(0, .ref (G.2.2 + r0)), (1, .int x1)] := hl
  rw [f_X0_seenFromRows] at hf
  refine lv_iconst (v := (0 : Int32)) C.x C.b dX0_seenFromRows_0 (by decide) ?_
  refine lv_istore_n (lv' := [(2, .int (0 : Int32)), (0, .ref (G.2.2 + r0)), (1, .int x1)]) C.x C.b dX0_seenFromRows_1 rfl hl (by decide) rfl (fun ls hl => ?_)
  refine lv_iconst (v := (0 : Int32)) C.x C.b dX0_seenFromRows_2 (by decide) ?_
  refine lv_istore_n (lv' := [(3, .int (0 : Int32)), (2, .int (0 : Int32)), (0, .ref (G.2.2 + r0)), (1, .int x1)]) C.x C.b dX0_seenFromRows_3 rfl hl (by decide) rfl (fun ls hl => ?_)
  exact w_X0_seenFromRows_4 C hr hlk FU _ _ _ _ _ hf hR hS t_r0 (lv_sub hl [2, 3, 1, 0] rfl)

def rm_X0_holds : Room := { frames := 2, cells := 0, slots := 0, locals := 41 }
set_option maxRecDepth 100000 in
set_option maxHeartbeats 4000000 in
theorem k_X0_holds {G : Gt} {l : Launch}  {h : Hp} {r0 : Nat} {x1 : Int32} {x2 : Int32} {x3 : Int32} {out : Int32} (t_r0 : hpT h r0 = (1, 0))  (hf : f_X0_holds  h r0 x1 x2 x3 = some out) : Mt G l yX0_holds cX0_holds 4 (some .boolean) rm_X0_holds [.ref (G.2.2 + r0), .int x1, .int x2, .int x3] h (some (.int out)) h 1 0 0 := by
  refine r_met (by decide +kernel) (Nat.le_of_ble_eq_true rfl) ?_
  intro p e s m args below meth c ls C hr hlk hnm hR hS hl
  have hl : lv_has ls 4 [(0, .ref (G.2.2 + r0)), (1, .int x1), (2, .int x2), (3, .int x3)] := hl
  rw [f_X0_holds] at hf
  refine lv_aload_n C.x C.b dX0_holds_0 rfl (lv_at hl 0 rfl) ?_
  refine lv_iload_n C.x C.b dX0_holds_1 rfl (lv_at hl 1 rfl) ?_
  obtain ⟨q1, h_q1, hf⟩ := bd_e hf
  refine r_callV (As := [.int x1]) (rest := []) C hR hS t_r0 rfl mk_X0_hasCell cl_X0_117 (k_X0_hasCell t_r0 h_q1) ⟨⟨Nat.le_of_ble_eq_true rfl, Nat.le_of_ble_eq_true rfl⟩, ⟨rfl, rfl⟩, Nat.le_of_ble_eq_true rfl, Nat.le_of_ble_eq_true rfl⟩ rfl hl.1 rfl (Nat.le_of_ble_eq_true rfl) dX0_holds_2 (fun H locs hR hS hE1 z_q1 => ?_)
  have z_q1 := z_q1 _ rfl
  refine lv_if_eq (tgt := 40) C.x C.b dX0_holds_5 (by decide) (fun c2 => ?_) (fun c2 => ?_)
  · have hf := it_t hf c2
    refine lv_iconst (v := (0 : Int32)) C.x C.b dX0_holds_40 (by decide) ?_
    have hf := so_e hf
    subst hf
    exact r_zret C hr hlk hR Ext.rf hS z_0 dX0_holds_41
  · have hf := it_f hf c2
    refine lv_aload_n C.x C.b dX0_holds_8 rfl (lv_at hl 0 rfl) ?_
    refine lv_iload_n C.x C.b dX0_holds_9 rfl (lv_at hl 1 rfl) ?_
    obtain ⟨q3, h_q3, hf⟩ := bd_e hf
    refine r_callV (As := [.int x1]) (rest := []) C hR hS t_r0 rfl mk_X0_rowOf cl_X0_59 (k_X0_rowOf t_r0 h_q3) ⟨⟨Nat.le_of_ble_eq_true rfl, Nat.le_of_ble_eq_true rfl⟩, ⟨rfl, rfl⟩, Nat.le_of_ble_eq_true rfl, Nat.le_of_ble_eq_true rfl⟩ rfl hl.1 rfl (Nat.le_of_ble_eq_true rfl) dX0_holds_10 (fun H locs hR hS hE1 z_q3 => ?_)
    refine lv_iload_n C.x C.b dX0_holds_13 rfl (lv_at hl 2 rfl) ?_
    refine lv_iadd C.x C.b dX0_holds_14 ?_
    refine lv_aload_n C.x C.b dX0_holds_15 rfl (lv_at hl 0 rfl) ?_
    refine r_geti C hR t_r0 fl_X0_9 rfl dX0_holds_16 ?_
    refine lv_icmp_gt (tgt := 40) C.x C.b dX0_holds_19 (by decide) (fun c4 => ?_) (fun c4 => ?_)
    · have hf := it_t hf c4
      refine lv_iconst (v := (0 : Int32)) C.x C.b dX0_holds_40 (by decide) ?_
      have hf := so_e hf
      subst hf
      exact r_zret C hr hlk hR Ext.rf hS z_0 dX0_holds_41
    · have hf := it_f hf c4
      refine lv_aload_n C.x C.b dX0_holds_22 rfl (lv_at hl 0 rfl) ?_
      refine lv_iload_n C.x C.b dX0_holds_23 rfl (lv_at hl 1 rfl) ?_
      obtain ⟨q5, h_q5, hf⟩ := bd_e hf
      refine r_callV (As := [.int x1]) (rest := []) C hR hS t_r0 rfl mk_X0_columnOf cl_X0_63 (k_X0_columnOf t_r0 h_q5) ⟨⟨Nat.le_of_ble_eq_true rfl, Nat.le_of_ble_eq_true rfl⟩, ⟨rfl, rfl⟩, Nat.le_of_ble_eq_true rfl, Nat.le_of_ble_eq_true rfl⟩ rfl hl.1 rfl (Nat.le_of_ble_eq_true rfl) dX0_holds_24 (fun H locs hR hS hE1 z_q5 => ?_)
      refine lv_iload_n C.x C.b dX0_holds_27 rfl (lv_at hl 3 rfl) ?_
      refine lv_iadd C.x C.b dX0_holds_28 ?_
      refine lv_aload_n C.x C.b dX0_holds_29 rfl (lv_at hl 0 rfl) ?_
      refine r_geti C hR t_r0 fl_X0_15 rfl dX0_holds_30 ?_
      refine lv_icmp_gt (tgt := 40) C.x C.b dX0_holds_33 (by decide) (fun c6 => ?_) (fun c6 => ?_)
      · have hf := it_t hf c6
        refine lv_iconst (v := (0 : Int32)) C.x C.b dX0_holds_40 (by decide) ?_
        have hf := so_e hf
        subst hf
        exact r_zret C hr hlk hR Ext.rf hS z_0 dX0_holds_41
      · have hf := it_f hf c6
        refine lv_iconst (v := (1 : Int32)) C.x C.b dX0_holds_36 (by decide) ?_
        refine lv_goto (tgt := 41) C.x C.b dX0_holds_37 (by decide) ?_
        have hf := so_e hf
        subst hf
        exact r_zret C hr hlk hR Ext.rf hS z_1 dX0_holds_41

def rm_X0_isRoom : Room := { frames := 4, cells := 0, slots := 0, locals := 88 }
set_option maxRecDepth 100000 in
set_option maxHeartbeats 4000000 in
theorem k_X0_isRoom {G : Gt} {l : Launch}  {h : Hp} {r0 : Nat} {x1 : Int32} {x2 : Int32} {x3 : Int32} {out : Int32} (t_r0 : hpT h r0 = (1, 0))  (hf : f_X0_isRoom  h r0 x1 x2 x3 = some out) : Mt G l yX0_isRoom cX0_isRoom 4 (some .boolean) rm_X0_isRoom [.ref (G.2.2 + r0), .int x1, .int x2, .int x3] h (some (.int out)) h 1 0 0 := by
  refine r_met (by decide +kernel) (Nat.le_of_ble_eq_true rfl) ?_
  intro p e s m args below meth c ls C hr hlk hnm hR hS hl
  have hl : lv_has ls 4 [(0, .ref (G.2.2 + r0)), (1, .int x1), (2, .int x2), (3, .int x3)] := hl
  rw [f_X0_isRoom] at hf
  refine lv_aload_n C.x C.b dX0_isRoom_0 rfl (lv_at hl 0 rfl) ?_
  refine lv_iload_n C.x C.b dX0_isRoom_1 rfl (lv_at hl 1 rfl) ?_
  refine lv_iload_n C.x C.b dX0_isRoom_2 rfl (lv_at hl 2 rfl) ?_
  refine lv_iload_n C.x C.b dX0_isRoom_3 rfl (lv_at hl 3 rfl) ?_
  obtain ⟨q1, h_q1, hf⟩ := bd_e hf
  refine r_callV (As := [.int x1, .int x2, .int x3]) (rest := []) C hR hS t_r0 rfl mk_X0_holds cl_X0_135 (k_X0_holds t_r0 h_q1) ⟨⟨Nat.le_of_ble_eq_true rfl, Nat.le_of_ble_eq_true rfl⟩, ⟨rfl, rfl⟩, Nat.le_of_ble_eq_true rfl, Nat.le_of_ble_eq_true rfl⟩ rfl hl.1 rfl (Nat.le_of_ble_eq_true rfl) dX0_isRoom_4 (fun H locs hR hS hE1 z_q1 => ?_)
  have z_q1 := z_q1 _ rfl
  refine lv_if_eq (tgt := 24) C.x C.b dX0_isRoom_7 (by decide) (fun c2 => ?_) (fun c2 => ?_)
  · have hf := it_t hf c2
    refine lv_iconst (v := (0 : Int32)) C.x C.b dX0_isRoom_24 (by decide) ?_
    have hf := so_e hf
    subst hf
    exact r_zret C hr hlk hR Ext.rf hS z_0 dX0_isRoom_25
  · have hf := it_f hf c2
    refine lv_aload_n C.x C.b dX0_isRoom_10 rfl (lv_at hl 0 rfl) ?_
    refine lv_iload_n C.x C.b dX0_isRoom_11 rfl (lv_at hl 1 rfl) ?_
    refine lv_iload_n C.x C.b dX0_isRoom_12 rfl (lv_at hl 2 rfl) ?_
    refine lv_iload_n C.x C.b dX0_isRoom_13 rfl (lv_at hl 3 rfl) ?_
    obtain ⟨q3, h_q3, hf⟩ := bd_e hf
    refine r_callV (As := [.int x1, .int x2, .int x3]) (rest := []) C hR hS t_r0 rfl mk_X0_onUnder cl_X0_98 (k_X0_onUnder t_r0 h_q3) ⟨⟨Nat.le_of_ble_eq_true rfl, Nat.le_of_ble_eq_true rfl⟩, ⟨rfl, rfl⟩, Nat.le_of_ble_eq_true rfl, Nat.le_of_ble_eq_true rfl⟩ rfl hl.1 rfl (Nat.le_of_ble_eq_true rfl) dX0_isRoom_14 (fun H locs hR hS hE1 z_q3 => ?_)
    refine lv_if_ne (tgt := 24) C.x C.b dX0_isRoom_17 (by decide) (fun c4 => ?_) (fun c4 => ?_)
    · have hf := it_f hf c4
      refine lv_iconst (v := (0 : Int32)) C.x C.b dX0_isRoom_24 (by decide) ?_
      have hf := so_e hf
      subst hf
      exact r_zret C hr hlk hR Ext.rf hS z_0 dX0_isRoom_25
    · have hf := it_t hf c4
      refine lv_iconst (v := (1 : Int32)) C.x C.b dX0_isRoom_20 (by decide) ?_
      refine lv_goto (tgt := 25) C.x C.b dX0_isRoom_21 (by decide) ?_
      have hf := so_e hf
      subst hf
      exact r_zret C hr hlk hR Ext.rf hS z_1 dX0_isRoom_25

def rm_X0_firstRoom : Room := { frames := 5, cells := 0, slots := 0, locals := 111 }
def P_X0_firstRoom_2 (G : Gt) (l : Launch) (p : Program) (e : Env) (s : State) (m : MethodId) (args : Array Value) (below : List Frame) (meth : Method) (c : Code) (h : Hp) (out : Int32) (r0 : Nat) (x1 : Int32) (x2 : Int32) (k : Int32 → Option Int32) : Prop := ∀ (H : Heap) (locs : List Loc) (ls : Array Slot) (x3 : Int32), k x3 = some out → Rel G h H → va_S (AA G.2.2) s.heap H locs → hpT h r0 = (1, 0) → lv_has ls 4 [(0, .ref (G.2.2 + r0)), (1, .int x1), (2, .int x2), (3, .int x3)] → W p l e rm_X0_firstRoom s m args below meth c H locs 0 0 (MQ below (Qm G h h (some (.int out)) 0) args s 0 0 (AA G.2.2)) (F0 m 2 ls [])
set_option maxRecDepth 100000 in
set_option maxHeartbeats 4000000 in
theorem w_X0_firstRoom_2 {G : Gt} {l : Launch} {p : Program} {e : Env} {s : State} {m : MethodId} {args : Array Value} {below : List Frame} {meth : Method} {c : Code}  {h : Hp} {out : Int32} {r0 : Nat} {x1 : Int32} {x2 : Int32}  (C : Cx G p m c cX0_firstRoom 4 s args RX0) (hr : meth.sig.returnType = some .int) (hlk : meth.locks = false)   (n : Nat) : P_X0_firstRoom_2 G l p e s m args below meth c h out r0 x1 x2 (f_X0_firstRoom_2 h r0 x1 x2 n) := by
  induction n with
  | zero => intro H locs ls x3 hf hR hS t_r0 hl; cases hf
  | succ n hk2 =>
    intro H locs ls x3 hf hR hS t_r0 hl
    rw [f_X0_firstRoom_2] at hf
    obtain ⟨k2, e_k2⟩ : ∃ y, y = f_X0_firstRoom_2 h r0 x1 x2 n := ⟨_, rfl⟩
    have hf := lt_e hf e_k2
    rw [← e_k2] at hk2
    refine lv_iload_n C.x C.b dX0_firstRoom_2 rfl (lv_at hl 3 rfl) ?_
    refine lv_aload_n C.x C.b dX0_firstRoom_3 rfl (lv_at hl 0 rfl) ?_
    obtain ⟨q1, h_q1, hf⟩ := bd_e hf
    refine r_callV (As := []) (rest := [.int x3]) C hR hS t_r0 rfl mk_X0_cells cl_X0_55 (k_X0_cells t_r0 h_q1) ⟨⟨Nat.le_of_ble_eq_true rfl, Nat.le_of_ble_eq_true rfl⟩, ⟨rfl, rfl⟩, Nat.le_of_ble_eq_true rfl, Nat.le_of_ble_eq_true rfl⟩ rfl hl.1 rfl (Nat.le_of_ble_eq_true rfl) dX0_firstRoom_4 (fun H locs hR hS hE1 z_q1 => ?_)
    refine lv_icmp_ge (tgt := 28) C.x C.b dX0_firstRoom_7 (by decide) (fun c2 => ?_) (fun c2 => ?_)
    · have hf := it_t hf c2
      refine lv_iconst (v := (-1 : Int32)) C.x C.b dX0_firstRoom_28 (by decide) ?_
      have hf := so_e hf
      subst hf
      exact r_iret C hr hlk hR Ext.rf hS dX0_firstRoom_29
    · have hf := it_f hf c2
      refine lv_aload_n C.x C.b dX0_firstRoom_10 rfl (lv_at hl 0 rfl) ?_
      refine lv_iload_n C.x C.b dX0_firstRoom_11 rfl (lv_at hl 3 rfl) ?_
      refine lv_iload_n C.x C.b dX0_firstRoom_12 rfl (lv_at hl 1 rfl) ?_
      refine lv_iload_n C.x C.b dX0_firstRoom_13 rfl (lv_at hl 2 rfl) ?_
      obtain ⟨q3, h_q3, hf⟩ := bd_e hf
      refine r_callV (As := [.int x3, .int x1, .int x2]) (rest := []) C hR hS t_r0 rfl mk_X0_isRoom cl_X0_139 (k_X0_isRoom t_r0 h_q3) ⟨⟨Nat.le_of_ble_eq_true rfl, Nat.le_of_ble_eq_true rfl⟩, ⟨rfl, rfl⟩, Nat.le_of_ble_eq_true rfl, Nat.le_of_ble_eq_true rfl⟩ rfl hl.1 rfl (Nat.le_of_ble_eq_true rfl) dX0_firstRoom_14 (fun H locs hR hS hE1 z_q3 => ?_)
      have z_q3 := z_q3 _ rfl
      refine lv_if_eq (tgt := 22) C.x C.b dX0_firstRoom_17 (by decide) (fun c4 => ?_) (fun c4 => ?_)
      · have hf := it_t hf c4
        obtain ⟨v5, e_v5⟩ : ∃ y : Int32, y = x3 + (1 : Int32) := ⟨_, rfl⟩
        have hf := lt_e hf e_v5
        refine lv_iinc (v := v5) (lv' := [(3, .int v5), (0, .ref (G.2.2 + r0)), (1, .int x1), (2, .int x2)]) C.x C.b dX0_firstRoom_22 hl (k := 3) rfl (by rw [e_v5]; rfl) (by decide) rfl (fun ls hl => ?_)
        refine lv_goto (tgt := 2) C.x C.b dX0_firstRoom_25 (by decide) ?_
        exact hk2 _ _ _ _ hf hR hS t_r0 (lv_sub hl [1, 2, 3, 0] rfl)
      · have hf := it_f hf c4
        refine lv_iload_n C.x C.b dX0_firstRoom_20 rfl (lv_at hl 3 rfl) ?_
        have hf := so_e hf
        subst hf
        exact r_iret C hr hlk hR Ext.rf hS dX0_firstRoom_21
set_option maxRecDepth 100000 in
set_option maxHeartbeats 4000000 in
theorem k_X0_firstRoom {G : Gt} {l : Launch}  {h : Hp} {r0 : Nat} {x1 : Int32} {x2 : Int32} {out : Int32} (t_r0 : hpT h r0 = (1, 0))  (hf : f_X0_firstRoom  h r0 x1 x2 = some out) : Mt G l yX0_firstRoom cX0_firstRoom 4 (some .int) rm_X0_firstRoom [.ref (G.2.2 + r0), .int x1, .int x2] h (some (.int out)) h 0 0 0 := by
  refine r_met (by decide +kernel) (Nat.le_of_ble_eq_true rfl) ?_
  intro p e s m args below meth c ls C hr hlk hnm hR hS hl
  have hl : lv_has ls 4 [(0, .ref (G.2.2 + r0)), (1, .int x1), (2, .int x2)] := hl
  rw [f_X0_firstRoom] at hf
  refine lv_iconst (v := (0 : Int32)) C.x C.b dX0_firstRoom_0 (by decide) ?_
  refine lv_istore_n (lv' := [(3, .int (0 : Int32)), (0, .ref (G.2.2 + r0)), (1, .int x1), (2, .int x2)]) C.x C.b dX0_firstRoom_1 rfl hl (by decide) rfl (fun ls hl => ?_)
  exact w_X0_firstRoom_2 C hr hlk FU _ _ _ _ hf hR hS t_r0 (lv_sub hl [1, 2, 3, 0] rfl)

def rm_X4_push : Room := { frames := 0, cells := 0, slots := 0, locals := 0 }
set_option maxRecDepth 100000 in
set_option maxHeartbeats 4000000 in
theorem k_X4_push {G : Gt} {l : Launch}  {h : Hp} {r0 : Nat} {x1 : Int32} {out : Hp} (t_r0 : hpT h r0 = (1, 4))  (hf : f_X4_push  h r0 x1 = some out) : Mt G l yX4_push cX4_push 2 (none) rm_X4_push [.ref (G.2.2 + r0), .int x1] h (none) out 0 0 0 := by
  refine r_met (by decide +kernel) (Nat.le_of_ble_eq_true rfl) ?_
  intro p e s m args below meth c ls C hr hlk hnm hR hS hl
  have hE : Ext h h := Ext.rf
  have hl : lv_has ls 2 [(0, .ref (G.2.2 + r0)), (1, .int x1)] := hl
  rw [f_X4_push] at hf
  refine lv_aload_n C.x C.b dX4_push_0 rfl (lv_at hl 0 rfl) ?_
  refine r_geti C hR t_r0 fl_X4_63 rfl dX4_push_1 ?_
  refine lv_aload_n C.x C.b dX4_push_4 rfl (lv_at hl 0 rfl) ?_
  obtain ⟨g1, hf⟩ := gd_e hf
  refine r_getr C hR t_r0 fl_X4_15 (by decide) (nz_e g1) dX4_push_5 (fun tq2 => ?_)
  have tg1 := okA tq2 rfl
  refine r_alen C hR (Or.inl tg1) dX4_push_8 ?_
  refine lv_icmp_ge (tgt := 32) C.x C.b dX4_push_9 (by decide) (fun c3 => ?_) (fun c3 => ?_)
  · have hf := it_t hf c3
    have hf := so_e hf
    subst hf
    exact r_vret C hr hlk hR hE hS dX4_push_32
  · have hf := it_f hf c3
    refine lv_aload_n C.x C.b dX4_push_12 rfl (lv_at hl 0 rfl) ?_
    refine r_getr C hR t_r0 fl_X4_15 (by decide) (nz_e g1) dX4_push_13 (fun tq4 => ?_)
    refine lv_aload_n C.x C.b dX4_push_16 rfl (lv_at hl 0 rfl) ?_
    refine r_geti C hR t_r0 fl_X4_63 rfl dX4_push_17 ?_
    refine lv_iload_n C.x C.b dX4_push_20 rfl (lv_at hl 1 rfl) ?_
    obtain ⟨g5, hf⟩ := gd_e hf
    refine r_iast C hR hS tg1 g5 dX4_push_21 (fun H locs hR hS => ?_)
    obtain ⟨h6, e_h6⟩ : ∃ y, y = upI h (hpR h r0 1) (ix (hpI h r0 4)) x1 := ⟨_, rfl⟩
    rw [← e_h6] at hR
    have hf := lt_e hf e_h6
    have hE := eI e_h6 hE
    have t_r0 := tI e_h6 t_r0
    refine lv_aload_n C.x C.b dX4_push_22 rfl (lv_at hl 0 rfl) ?_
    refine lv_dup C.x C.b dX4_push_23 rfl ?_
    refine r_geti C hR t_r0 fl_X4_63 rfl dX4_push_24 ?_
    refine lv_iconst (v := (1 : Int32)) C.x C.b dX4_push_27 (by decide) ?_
    refine lv_iadd C.x C.b dX4_push_28 ?_
    refine r_puti C hR hS t_r0 fl_X4_63 fp_X4_4_4 rfl dX4_push_29 (fun H locs hR hS => ?_)
    obtain ⟨h7, e_h7⟩ : ∃ y, y = upI h6 r0 4 ((hpI h6 r0 4) + (1 : Int32)) := ⟨_, rfl⟩
    rw [← e_h7] at hR
    have hf := lt_e hf e_h7
    have hE := eI e_h7 hE
    have t_r0 := tI e_h7 t_r0
    have hf := so_e hf
    subst hf
    exact r_vret C hr hlk hR hE hS dX4_push_32

def rm_X4_pop : Room := { frames := 0, cells := 0, slots := 0, locals := 0 }
set_option maxRecDepth 100000 in
set_option maxHeartbeats 4000000 in
theorem k_X4_pop {G : Gt} {l : Launch}  {h : Hp} {r0 : Nat} {out : (Int32 × Hp)} (t_r0 : hpT h r0 = (1, 4))  (hf : f_X4_pop  h r0 = some out) : Mt G l yX4_pop cX4_pop 1 (some .int) rm_X4_pop [.ref (G.2.2 + r0)] h (some (.int out.1)) out.2 0 0 0 := by
  refine r_met (by decide +kernel) (Nat.le_of_ble_eq_true rfl) ?_
  intro p e s m args below meth c ls C hr hlk hnm hR hS hl
  have hE : Ext h h := Ext.rf
  have hl : lv_has ls 1 [(0, .ref (G.2.2 + r0))] := hl
  rw [f_X4_pop] at hf
  refine lv_aload_n C.x C.b dX4_pop_0 rfl (lv_at hl 0 rfl) ?_
  refine r_geti C hR t_r0 fl_X4_63 rfl dX4_pop_1 ?_
  refine lv_if_gt (tgt := 9) C.x C.b dX4_pop_4 (by decide) (fun c1 => ?_) (fun c1 => ?_)
  · have hf := it_t hf c1
    refine lv_aload_n C.x C.b dX4_pop_9 rfl (lv_at hl 0 rfl) ?_
    refine lv_dup C.x C.b dX4_pop_10 rfl ?_
    refine r_geti C hR t_r0 fl_X4_63 rfl dX4_pop_11 ?_
    refine lv_iconst (v := (1 : Int32)) C.x C.b dX4_pop_14 (by decide) ?_
    refine lv_isub C.x C.b dX4_pop_15 ?_
    refine r_puti C hR hS t_r0 fl_X4_63 fp_X4_4_4 rfl dX4_pop_16 (fun H locs hR hS => ?_)
    obtain ⟨h2, e_h2⟩ : ∃ y, y = upI h r0 4 ((hpI h r0 4) - (1 : Int32)) := ⟨_, rfl⟩
    rw [← e_h2] at hR
    have hf := lt_e hf e_h2
    have hE := eI e_h2 hE
    have t_r0 := tI e_h2 t_r0
    refine lv_aload_n C.x C.b dX4_pop_19 rfl (lv_at hl 0 rfl) ?_
    obtain ⟨g3, hf⟩ := gd_e hf
    refine r_getr C hR t_r0 fl_X4_15 (by decide) (nz_e g3) dX4_pop_20 (fun tq4 => ?_)
    have tg3 := okA tq4 rfl
    refine lv_aload_n C.x C.b dX4_pop_23 rfl (lv_at hl 0 rfl) ?_
    refine r_geti C hR t_r0 fl_X4_63 rfl dX4_pop_24 ?_
    obtain ⟨g5, hf⟩ := gd_e hf
    refine r_iald C hR tg3 g5 dX4_pop_27 ?_
    have hf := so_e hf
    subst hf
    exact r_iret C hr hlk hR hE hS dX4_pop_28
  · have hf := it_f hf c1
    refine lv_iconst (v := (0 : Int32)) C.x C.b dX4_pop_7 (by decide) ?_
    have hf := so_e hf
    subst hf
    exact r_iret C hr hlk hR hE hS dX4_pop_8

def rm_X4_isOperator : Room := { frames := 0, cells := 0, slots := 0, locals := 0 }
set_option maxRecDepth 100000 in
set_option maxHeartbeats 4000000 in
theorem k_X4_isOperator {G : Gt} {l : Launch}  {h : Hp} {x0 : Int32} {out : Int32}   (hf : f_X4_isOperator  h x0 = some out) : Mt G l yX4_isOperator cX4_isOperator 1 (some .boolean) rm_X4_isOperator [.int x0] h (some (.int out)) h 1 0 0 := by
  refine r_met (by decide +kernel) (Nat.le_of_ble_eq_true rfl) ?_
  intro p e s m args below meth c ls C hr hlk hnm hR hS hl
  have hl : lv_has ls 1 [(0, .int x0)] := hl
  rw [f_X4_isOperator] at hf
  refine lv_iload_n C.x C.b dX4_isOperator_0 rfl (lv_at hl 0 rfl) ?_
  by_cases c1_0 : x0 = (42 : Int32)
  · have hf := it_t hf c1_0
    refine lv_tableIn (tgt := 100) C.x C.b dX4_isOperator_1 (by rw [c1_0]; decide) (by rw [c1_0]; decide) (by rw [c1_0]; rfl) (by decide) ?_
    refine lv_iconst (v := (1 : Int32)) C.x C.b dX4_isOperator_100 (by decide) ?_
    have hf := so_e hf
    subst hf
    exact r_zret C hr hlk hR Ext.rf hS z_1 dX4_isOperator_101
  have hf := it_f hf c1_0
  by_cases c1_1 : x0 = (43 : Int32)
  · have hf := it_t hf c1_1
    refine lv_tableIn (tgt := 100) C.x C.b dX4_isOperator_1 (by rw [c1_1]; decide) (by rw [c1_1]; decide) (by rw [c1_1]; rfl) (by decide) ?_
    refine lv_iconst (v := (1 : Int32)) C.x C.b dX4_isOperator_100 (by decide) ?_
    have hf := so_e hf
    subst hf
    exact r_zret C hr hlk hR Ext.rf hS z_1 dX4_isOperator_101
  have hf := it_f hf c1_1
  by_cases c1_2 : x0 = (44 : Int32)
  · have hf := it_t hf c1_2
    refine lv_tableIn (tgt := 102) C.x C.b dX4_isOperator_1 (by rw [c1_2]; decide) (by rw [c1_2]; decide) (by rw [c1_2]; rfl) (by decide) ?_
    refine lv_iconst (v := (0 : Int32)) C.x C.b dX4_isOperator_102 (by decide) ?_
    have hf := so_e hf
    subst hf
    exact r_zret C hr hlk hR Ext.rf hS z_0 dX4_isOperator_103
  have hf := it_f hf c1_2
  by_cases c1_3 : x0 = (45 : Int32)
  · have hf := it_t hf c1_3
    refine lv_tableIn (tgt := 100) C.x C.b dX4_isOperator_1 (by rw [c1_3]; decide) (by rw [c1_3]; decide) (by rw [c1_3]; rfl) (by decide) ?_
    refine lv_iconst (v := (1 : Int32)) C.x C.b dX4_isOperator_100 (by decide) ?_
    have hf := so_e hf
    subst hf
    exact r_zret C hr hlk hR Ext.rf hS z_1 dX4_isOperator_101
  have hf := it_f hf c1_3
  by_cases c1_4 : x0 = (46 : Int32)
  · have hf := it_t hf c1_4
    refine lv_tableIn (tgt := 102) C.x C.b dX4_isOperator_1 (by rw [c1_4]; decide) (by rw [c1_4]; decide) (by rw [c1_4]; rfl) (by decide) ?_
    refine lv_iconst (v := (0 : Int32)) C.x C.b dX4_isOperator_102 (by decide) ?_
    have hf := so_e hf
    subst hf
    exact r_zret C hr hlk hR Ext.rf hS z_0 dX4_isOperator_103
  have hf := it_f hf c1_4
  by_cases c1_5 : x0 = (47 : Int32)
  · have hf := it_t hf c1_5
    refine lv_tableIn (tgt := 100) C.x C.b dX4_isOperator_1 (by rw [c1_5]; decide) (by rw [c1_5]; decide) (by rw [c1_5]; rfl) (by decide) ?_
    refine lv_iconst (v := (1 : Int32)) C.x C.b dX4_isOperator_100 (by decide) ?_
    have hf := so_e hf
    subst hf
    exact r_zret C hr hlk hR Ext.rf hS z_1 dX4_isOperator_101
  have hf := it_f hf c1_5
  by_cases c1_6 : x0 = (48 : Int32)
  · have hf := it_t hf c1_6
    refine lv_tableIn (tgt := 102) C.x C.b dX4_isOperator_1 (by rw [c1_6]; decide) (by rw [c1_6]; decide) (by rw [c1_6]; rfl) (by decide) ?_
    refine lv_iconst (v := (0 : Int32)) C.x C.b dX4_isOperator_102 (by decide) ?_
    have hf := so_e hf
    subst hf
    exact r_zret C hr hlk hR Ext.rf hS z_0 dX4_isOperator_103
  have hf := it_f hf c1_6
  by_cases c1_7 : x0 = (49 : Int32)
  · have hf := it_t hf c1_7
    refine lv_tableIn (tgt := 102) C.x C.b dX4_isOperator_1 (by rw [c1_7]; decide) (by rw [c1_7]; decide) (by rw [c1_7]; rfl) (by decide) ?_
    refine lv_iconst (v := (0 : Int32)) C.x C.b dX4_isOperator_102 (by decide) ?_
    have hf := so_e hf
    subst hf
    exact r_zret C hr hlk hR Ext.rf hS z_0 dX4_isOperator_103
  have hf := it_f hf c1_7
  by_cases c1_8 : x0 = (50 : Int32)
  · have hf := it_t hf c1_8
    refine lv_tableIn (tgt := 102) C.x C.b dX4_isOperator_1 (by rw [c1_8]; decide) (by rw [c1_8]; decide) (by rw [c1_8]; rfl) (by decide) ?_
    refine lv_iconst (v := (0 : Int32)) C.x C.b dX4_isOperator_102 (by decide) ?_
    have hf := so_e hf
    subst hf
    exact r_zret C hr hlk hR Ext.rf hS z_0 dX4_isOperator_103
  have hf := it_f hf c1_8
  by_cases c1_9 : x0 = (51 : Int32)
  · have hf := it_t hf c1_9
    refine lv_tableIn (tgt := 102) C.x C.b dX4_isOperator_1 (by rw [c1_9]; decide) (by rw [c1_9]; decide) (by rw [c1_9]; rfl) (by decide) ?_
    refine lv_iconst (v := (0 : Int32)) C.x C.b dX4_isOperator_102 (by decide) ?_
    have hf := so_e hf
    subst hf
    exact r_zret C hr hlk hR Ext.rf hS z_0 dX4_isOperator_103
  have hf := it_f hf c1_9
  by_cases c1_10 : x0 = (52 : Int32)
  · have hf := it_t hf c1_10
    refine lv_tableIn (tgt := 102) C.x C.b dX4_isOperator_1 (by rw [c1_10]; decide) (by rw [c1_10]; decide) (by rw [c1_10]; rfl) (by decide) ?_
    refine lv_iconst (v := (0 : Int32)) C.x C.b dX4_isOperator_102 (by decide) ?_
    have hf := so_e hf
    subst hf
    exact r_zret C hr hlk hR Ext.rf hS z_0 dX4_isOperator_103
  have hf := it_f hf c1_10
  by_cases c1_11 : x0 = (53 : Int32)
  · have hf := it_t hf c1_11
    refine lv_tableIn (tgt := 102) C.x C.b dX4_isOperator_1 (by rw [c1_11]; decide) (by rw [c1_11]; decide) (by rw [c1_11]; rfl) (by decide) ?_
    refine lv_iconst (v := (0 : Int32)) C.x C.b dX4_isOperator_102 (by decide) ?_
    have hf := so_e hf
    subst hf
    exact r_zret C hr hlk hR Ext.rf hS z_0 dX4_isOperator_103
  have hf := it_f hf c1_11
  by_cases c1_12 : x0 = (54 : Int32)
  · have hf := it_t hf c1_12
    refine lv_tableIn (tgt := 102) C.x C.b dX4_isOperator_1 (by rw [c1_12]; decide) (by rw [c1_12]; decide) (by rw [c1_12]; rfl) (by decide) ?_
    refine lv_iconst (v := (0 : Int32)) C.x C.b dX4_isOperator_102 (by decide) ?_
    have hf := so_e hf
    subst hf
    exact r_zret C hr hlk hR Ext.rf hS z_0 dX4_isOperator_103
  have hf := it_f hf c1_12
  by_cases c1_13 : x0 = (55 : Int32)
  · have hf := it_t hf c1_13
    refine lv_tableIn (tgt := 102) C.x C.b dX4_isOperator_1 (by rw [c1_13]; decide) (by rw [c1_13]; decide) (by rw [c1_13]; rfl) (by decide) ?_
    refine lv_iconst (v := (0 : Int32)) C.x C.b dX4_isOperator_102 (by decide) ?_
    have hf := so_e hf
    subst hf
    exact r_zret C hr hlk hR Ext.rf hS z_0 dX4_isOperator_103
  have hf := it_f hf c1_13
  by_cases c1_14 : x0 = (56 : Int32)
  · have hf := it_t hf c1_14
    refine lv_tableIn (tgt := 102) C.x C.b dX4_isOperator_1 (by rw [c1_14]; decide) (by rw [c1_14]; decide) (by rw [c1_14]; rfl) (by decide) ?_
    refine lv_iconst (v := (0 : Int32)) C.x C.b dX4_isOperator_102 (by decide) ?_
    have hf := so_e hf
    subst hf
    exact r_zret C hr hlk hR Ext.rf hS z_0 dX4_isOperator_103
  have hf := it_f hf c1_14
  by_cases c1_15 : x0 = (57 : Int32)
  · have hf := it_t hf c1_15
    refine lv_tableIn (tgt := 102) C.x C.b dX4_isOperator_1 (by rw [c1_15]; decide) (by rw [c1_15]; decide) (by rw [c1_15]; rfl) (by decide) ?_
    refine lv_iconst (v := (0 : Int32)) C.x C.b dX4_isOperator_102 (by decide) ?_
    have hf := so_e hf
    subst hf
    exact r_zret C hr hlk hR Ext.rf hS z_0 dX4_isOperator_103
  have hf := it_f hf c1_15
  by_cases c1_16 : x0 = (58 : Int32)
  · have hf := it_t hf c1_16
    refine lv_tableIn (tgt := 102) C.x C.b dX4_isOperator_1 (by rw [c1_16]; decide) (by rw [c1_16]; decide) (by rw [c1_16]; rfl) (by decide) ?_
    refine lv_iconst (v := (0 : Int32)) C.x C.b dX4_isOperator_102 (by decide) ?_
    have hf := so_e hf
    subst hf
    exact r_zret C hr hlk hR Ext.rf hS z_0 dX4_isOperator_103
  have hf := it_f hf c1_16
  by_cases c1_17 : x0 = (59 : Int32)
  · have hf := it_t hf c1_17
    refine lv_tableIn (tgt := 102) C.x C.b dX4_isOperator_1 (by rw [c1_17]; decide) (by rw [c1_17]; decide) (by rw [c1_17]; rfl) (by decide) ?_
    refine lv_iconst (v := (0 : Int32)) C.x C.b dX4_isOperator_102 (by decide) ?_
    have hf := so_e hf
    subst hf
    exact r_zret C hr hlk hR Ext.rf hS z_0 dX4_isOperator_103
  have hf := it_f hf c1_17
  by_cases c1_18 : x0 = (60 : Int32)
  · have hf := it_t hf c1_18
    refine lv_tableIn (tgt := 100) C.x C.b dX4_isOperator_1 (by rw [c1_18]; decide) (by rw [c1_18]; decide) (by rw [c1_18]; rfl) (by decide) ?_
    refine lv_iconst (v := (1 : Int32)) C.x C.b dX4_isOperator_100 (by decide) ?_
    have hf := so_e hf
    subst hf
    exact r_zret C hr hlk hR Ext.rf hS z_1 dX4_isOperator_101
  have hf := it_f hf c1_18
  by_cases c1_19 : x0 = (61 : Int32)
  · have hf := it_t hf c1_19
    refine lv_tableIn (tgt := 100) C.x C.b dX4_isOperator_1 (by rw [c1_19]; decide) (by rw [c1_19]; decide) (by rw [c1_19]; rfl) (by decide) ?_
    refine lv_iconst (v := (1 : Int32)) C.x C.b dX4_isOperator_100 (by decide) ?_
    have hf := so_e hf
    subst hf
    exact r_zret C hr hlk hR Ext.rf hS z_1 dX4_isOperator_101
  have hf := it_f hf c1_19
  by_cases c1_20 : x0 = (62 : Int32)
  · have hf := it_t hf c1_20
    refine lv_tableIn (tgt := 100) C.x C.b dX4_isOperator_1 (by rw [c1_20]; decide) (by rw [c1_20]; decide) (by rw [c1_20]; rfl) (by decide) ?_
    refine lv_iconst (v := (1 : Int32)) C.x C.b dX4_isOperator_100 (by decide) ?_
    have hf := so_e hf
    subst hf
    exact r_zret C hr hlk hR Ext.rf hS z_1 dX4_isOperator_101
  have hf := it_f hf c1_20
  refine lv_tableOut (tgt := 102) C.x C.b dX4_isOperator_1 (tb_out 21 (by decide) (fun j hj => match j, hj with | 0, _ => fun q => c1_0 (q.trans (by decide)) | 1, _ => fun q => c1_1 (q.trans (by decide)) | 2, _ => fun q => c1_2 (q.trans (by decide)) | 3, _ => fun q => c1_3 (q.trans (by decide)) | 4, _ => fun q => c1_4 (q.trans (by decide)) | 5, _ => fun q => c1_5 (q.trans (by decide)) | 6, _ => fun q => c1_6 (q.trans (by decide)) | 7, _ => fun q => c1_7 (q.trans (by decide)) | 8, _ => fun q => c1_8 (q.trans (by decide)) | 9, _ => fun q => c1_9 (q.trans (by decide)) | 10, _ => fun q => c1_10 (q.trans (by decide)) | 11, _ => fun q => c1_11 (q.trans (by decide)) | 12, _ => fun q => c1_12 (q.trans (by decide)) | 13, _ => fun q => c1_13 (q.trans (by decide)) | 14, _ => fun q => c1_14 (q.trans (by decide)) | 15, _ => fun q => c1_15 (q.trans (by decide)) | 16, _ => fun q => c1_16 (q.trans (by decide)) | 17, _ => fun q => c1_17 (q.trans (by decide)) | 18, _ => fun q => c1_18 (q.trans (by decide)) | 19, _ => fun q => c1_19 (q.trans (by decide)) | 20, _ => fun q => c1_20 (q.trans (by decide)) | n + 21, hn => absurd hn (by omega))) (by decide) ?_
  refine lv_iconst (v := (0 : Int32)) C.x C.b dX4_isOperator_102 (by decide) ?_
  have hf := so_e hf
  subst hf
  exact r_zret C hr hlk hR Ext.rf hS z_0 dX4_isOperator_103

def rm_X4_joined : Room := { frames := 0, cells := 0, slots := 0, locals := 0 }
set_option maxRecDepth 100000 in
set_option maxHeartbeats 4000000 in
theorem k_X4_joined {G : Gt} {l : Launch}  {h : Hp} {x0 : Int32} {x1 : Int32} {x2 : Int32} {out : Int32}   (hf : f_X4_joined  h x0 x1 x2 = some out) : Mt G l yX4_joined cX4_joined 3 (some .int) rm_X4_joined [.int x0, .int x1, .int x2] h (some (.int out)) h 0 0 0 := by
  refine r_met (by decide +kernel) (Nat.le_of_ble_eq_true rfl) ?_
  intro p e s m args below meth c ls C hr hlk hnm hR hS hl
  have hl : lv_has ls 3 [(0, .int x0), (1, .int x1), (2, .int x2)] := hl
  rw [f_X4_joined] at hf
  refine lv_iload_n C.x C.b dX4_joined_0 rfl (lv_at hl 0 rfl) ?_
  by_cases c6_0 : x0 = (42 : Int32)
  · have hf := it_t hf c6_0
    refine lv_lookup (tgt := 68) C.x C.b dX4_joined_1 rfl (by rw [c6_0] <;> rfl) (by decide) ?_
    refine lv_iload_n C.x C.b dX4_joined_68 rfl (lv_at hl 1 rfl) ?_
    refine lv_iload_n C.x C.b dX4_joined_69 rfl (lv_at hl 2 rfl) ?_
    refine lv_imul C.x C.b dX4_joined_70 ?_
    have hf := so_e hf
    subst hf
    exact r_iret C hr hlk hR Ext.rf hS dX4_joined_71
  have hf := it_f hf c6_0
  by_cases c6_1 : x0 = (43 : Int32)
  · have hf := it_t hf c6_1
    refine lv_lookup (tgt := 60) C.x C.b dX4_joined_1 rfl (by rw [c6_1] <;> rfl) (by decide) ?_
    refine lv_iload_n C.x C.b dX4_joined_60 rfl (lv_at hl 1 rfl) ?_
    refine lv_iload_n C.x C.b dX4_joined_61 rfl (lv_at hl 2 rfl) ?_
    refine lv_iadd C.x C.b dX4_joined_62 ?_
    have hf := so_e hf
    subst hf
    exact r_iret C hr hlk hR Ext.rf hS dX4_joined_63
  have hf := it_f hf c6_1
  by_cases c6_2 : x0 = (45 : Int32)
  · have hf := it_t hf c6_2
    refine lv_lookup (tgt := 64) C.x C.b dX4_joined_1 rfl (by rw [c6_2] <;> rfl) (by decide) ?_
    refine lv_iload_n C.x C.b dX4_joined_64 rfl (lv_at hl 1 rfl) ?_
    refine lv_iload_n C.x C.b dX4_joined_65 rfl (lv_at hl 2 rfl) ?_
    refine lv_isub C.x C.b dX4_joined_66 ?_
    have hf := so_e hf
    subst hf
    exact r_iret C hr hlk hR Ext.rf hS dX4_joined_67
  have hf := it_f hf c6_2
  by_cases c6_3 : x0 = (47 : Int32)
  · have hf := it_t hf c6_3
    refine lv_lookup (tgt := 72) C.x C.b dX4_joined_1 rfl (by rw [c6_3] <;> rfl) (by decide) ?_
    refine lv_iload_n C.x C.b dX4_joined_72 rfl (lv_at hl 2 rfl) ?_
    refine lv_if_ne (tgt := 80) C.x C.b dX4_joined_73 (by decide) (fun c1 => ?_) (fun c1 => ?_)
    · have hf := it_f hf c1
      refine lv_iload_n C.x C.b dX4_joined_80 rfl (lv_at hl 1 rfl) ?_
      refine lv_iload_n C.x C.b dX4_joined_81 rfl (lv_at hl 2 rfl) ?_
      obtain ⟨g2, hf⟩ := gd_e hf
      refine lv_idiv C.x C.b dX4_joined_82 (nz32_e g2) ?_
      have hf := so_e hf
      subst hf
      exact r_iret C hr hlk hR Ext.rf hS dX4_joined_83
    · have hf := it_t hf c1
      refine lv_iconst (v := (0 : Int32)) C.x C.b dX4_joined_76 (by decide) ?_
      refine lv_goto (tgt := 83) C.x C.b dX4_joined_77 (by decide) ?_
      have hf := so_e hf
      subst hf
      exact r_iret C hr hlk hR Ext.rf hS dX4_joined_83
  have hf := it_f hf c6_3
  by_cases c6_4 : x0 = (60 : Int32)
  · have hf := it_t hf c6_4
    refine lv_lookup (tgt := 84) C.x C.b dX4_joined_1 rfl (by rw [c6_4] <;> rfl) (by decide) ?_
    refine lv_iload_n C.x C.b dX4_joined_84 rfl (lv_at hl 1 rfl) ?_
    refine lv_iload_n C.x C.b dX4_joined_85 rfl (lv_at hl 2 rfl) ?_
    refine lv_icmp_ge (tgt := 93) C.x C.b dX4_joined_86 (by decide) (fun c3 => ?_) (fun c3 => ?_)
    · have hf := it_t hf c3
      refine lv_iconst (v := (0 : Int32)) C.x C.b dX4_joined_93 (by decide) ?_
      have hf := so_e hf
      subst hf
      exact r_iret C hr hlk hR Ext.rf hS dX4_joined_94
    · have hf := it_f hf c3
      refine lv_iconst (v := (1 : Int32)) C.x C.b dX4_joined_89 (by decide) ?_
      refine lv_goto (tgt := 94) C.x C.b dX4_joined_90 (by decide) ?_
      have hf := so_e hf
      subst hf
      exact r_iret C hr hlk hR Ext.rf hS dX4_joined_94
  have hf := it_f hf c6_4
  by_cases c6_5 : x0 = (62 : Int32)
  · have hf := it_t hf c6_5
    refine lv_lookup (tgt := 95) C.x C.b dX4_joined_1 rfl (by rw [c6_5] <;> rfl) (by decide) ?_
    refine lv_iload_n C.x C.b dX4_joined_95 rfl (lv_at hl 1 rfl) ?_
    refine lv_iload_n C.x C.b dX4_joined_96 rfl (lv_at hl 2 rfl) ?_
    refine lv_icmp_le (tgt := 104) C.x C.b dX4_joined_97 (by decide) (fun c4 => ?_) (fun c4 => ?_)
    · have hf := it_t hf c4
      refine lv_iconst (v := (0 : Int32)) C.x C.b dX4_joined_104 (by decide) ?_
      have hf := so_e hf
      subst hf
      exact r_iret C hr hlk hR Ext.rf hS dX4_joined_105
    · have hf := it_f hf c4
      refine lv_iconst (v := (1 : Int32)) C.x C.b dX4_joined_100 (by decide) ?_
      refine lv_goto (tgt := 105) C.x C.b dX4_joined_101 (by decide) ?_
      have hf := so_e hf
      subst hf
      exact r_iret C hr hlk hR Ext.rf hS dX4_joined_105
  have hf := it_f hf c6_5
  refine lv_lookup (tgt := 106) (off := 105) C.x C.b dX4_joined_1 rfl ((lv_osw c6_0 (by decide)).trans ((lv_osw c6_1 (by decide)).trans ((lv_osw c6_2 (by decide)).trans ((lv_osw c6_3 (by decide)).trans ((lv_osw c6_4 (by decide)).trans ((lv_osw c6_5 (by decide)).trans rfl)))))) (by decide) ?_
  refine lv_iload_n C.x C.b dX4_joined_106 rfl (lv_at hl 1 rfl) ?_
  refine lv_iload_n C.x C.b dX4_joined_107 rfl (lv_at hl 2 rfl) ?_
  refine lv_icmp_ne (tgt := 115) C.x C.b dX4_joined_108 (by decide) (fun c5 => ?_) (fun c5 => ?_)
  · have hf := it_f hf c5
    refine lv_iconst (v := (0 : Int32)) C.x C.b dX4_joined_115 (by decide) ?_
    have hf := so_e hf
    subst hf
    exact r_iret C hr hlk hR Ext.rf hS dX4_joined_116
  · have hf := it_t hf c5
    refine lv_iconst (v := (1 : Int32)) C.x C.b dX4_joined_111 (by decide) ?_
    refine lv_goto (tgt := 116) C.x C.b dX4_joined_112 (by decide) ?_
    have hf := so_e hf
    subst hf
    exact r_iret C hr hlk hR Ext.rf hS dX4_joined_116

