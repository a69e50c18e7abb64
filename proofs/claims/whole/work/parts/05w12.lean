def rm_X10_area : Room := { frames := 2, cells := 0, slots := 0, locals := 51 }
def P_X10_area_37 (G : Gt) (l : Launch) (p : Program) (e : Env) (s : State) (m : MethodId) (args : Array Value) (below : List Frame) (meth : Method) (c : Code) (h : Hp) (out : Int64) (r0 : Nat) (x1 : Int32) (x2 : Int32) (x3 : Int32) (k : Int64 → Int64 → Int32 → Option Int64) : Prop := ∀ (H : Heap) (locs : List Loc) (ls : Array Slot) (s0 : Int64) (s1 : Int64) (x6 : Int32), k s0 s1 x6 = some out → Rel G h H → va_S (AA G.2.2) s.heap H locs → hpT h r0 = (1, 10) → lv_has ls 7 [(0, .ref (G.2.2 + r0)), (1, .int x1), (2, .int x2), (3, .int x3), (6, .int x6)] → W p l e rm_X10_area s m args below meth c H locs 0 0 (MQ below (Qm G h h (some (.long out)) 0) args s 0 0 (AA G.2.2)) (F0 m 37 ls [.long s1, .long s0])
def P_X10_area_6 (G : Gt) (l : Launch) (p : Program) (e : Env) (s : State) (m : MethodId) (args : Array Value) (below : List Frame) (meth : Method) (c : Code) (h : Hp) (out : Int64) (r0 : Nat) (x1 : Int32) (x2 : Int32) (x3 : Int32) (k : Int64 → Int32 → Option Int64) : Prop := ∀ (H : Heap) (locs : List Loc) (ls : Array Slot) (y4 : Int64) (x6 : Int32), k y4 x6 = some out → Rel G h H → va_S (AA G.2.2) s.heap H locs → hpT h r0 = (1, 10) → lv_has ls 7 [(0, .ref (G.2.2 + r0)), (1, .int x1), (2, .int x2), (3, .int x3), (4, .long y4), (6, .int x6)] → W p l e rm_X10_area s m args below meth c H locs 0 0 (MQ below (Qm G h h (some (.long out)) 0) args s 0 0 (AA G.2.2)) (F0 m 6 ls [])
set_option maxRecDepth 100000 in
set_option maxHeartbeats 4000000 in
theorem w_X10_area_37 {G : Gt} {l : Launch} {p : Program} {e : Env} {s : State} {m : MethodId} {args : Array Value} {below : List Frame} {meth : Method} {c : Code}  {h : Hp} {out : Int64} {r0 : Nat} {x1 : Int32} {x2 : Int32} {x3 : Int32} {k6 : Int64 → Int32 → Option Int64} (C : Cx G p m c cX10_area 7 s args RX10) (hr : meth.sig.returnType = some .long) (hlk : meth.locks = false)  (hk6 : P_X10_area_6 G l p e s m args below meth c h out r0 x1 x2 x3 k6) : P_X10_area_37 G l p e s m args below meth c h out r0 x1 x2 x3 (f_X10_area_37 h r0 x1 x2 x3 k6) := by
  intro H locs ls s0 s1 x6 hf hR hS t_r0 hl
  rw [f_X10_area_37] at hf
  refine lv_lor C.x C.b dX10_area_37 ?_
  refine lv_topl (fun v6 e_v6 => ?_)
  have hf := lt_e hf e_v6
  refine lv_lstore (lv' := [(4, .long v6), (0, .ref (G.2.2 + r0)), (1, .int x1), (2, .int x2), (3, .int x3), (6, .int x6)]) C.x C.b dX10_area_38 hl (by decide) rfl (fun ls hl => ?_)
  obtain ⟨v7, e_v7⟩ : ∃ y : Int32, y = x6 + (1 : Int32) := ⟨_, rfl⟩
  have hf := lt_e hf e_v7
  refine lv_iinc (v := v7) (lv' := [(6, .int v7), (4, .long v6), (0, .ref (G.2.2 + r0)), (1, .int x1), (2, .int x2), (3, .int x3)]) C.x C.b dX10_area_40 hl (k := 5) rfl (by rw [e_v7]; rfl) (by decide) rfl (fun ls hl => ?_)
  refine lv_goto (tgt := 6) C.x C.b dX10_area_43 (by decide) ?_
  exact hk6 _ _ _ _ _ hf hR hS t_r0 (lv_sub hl [2, 3, 4, 5, 1, 0] rfl)
set_option maxRecDepth 100000 in
set_option maxHeartbeats 4000000 in
theorem w_X10_area_6 {G : Gt} {l : Launch} {p : Program} {e : Env} {s : State} {m : MethodId} {args : Array Value} {below : List Frame} {meth : Method} {c : Code}  {h : Hp} {out : Int64} {r0 : Nat} {x1 : Int32} {x2 : Int32} {x3 : Int32}  (C : Cx G p m c cX10_area 7 s args RX10) (hr : meth.sig.returnType = some .long) (hlk : meth.locks = false)   (n : Nat) : P_X10_area_6 G l p e s m args below meth c h out r0 x1 x2 x3 (f_X10_area_6 h r0 x1 x2 x3 n) := by
  induction n with
  | zero => intro H locs ls y4 x6 hf hR hS t_r0 hl; cases hf
  | succ n hk6 =>
    intro H locs ls y4 x6 hf hR hS t_r0 hl
    rw [f_X10_area_6] at hf
    obtain ⟨k6, e_k6⟩ : ∃ y, y = f_X10_area_6 h r0 x1 x2 x3 n := ⟨_, rfl⟩
    have hf := lt_e hf e_k6
    rw [← e_k6] at hk6
    refine lv_iload C.x C.b dX10_area_6 (lv_at hl 5 rfl) ?_
    refine lv_aload_n C.x C.b dX10_area_8 rfl (lv_at hl 0 rfl) ?_
    obtain ⟨q1, h_q1, hf⟩ := bd_e hf
    refine r_callV (As := []) (rest := [.int x6]) C hR hS t_r0 rfl mk_X10_cells cl_X10_113 (k_X10_cells t_r0 h_q1) ⟨⟨Nat.le_of_ble_eq_true rfl, Nat.le_of_ble_eq_true rfl⟩, ⟨rfl, rfl⟩, Nat.le_of_ble_eq_true rfl, Nat.le_of_ble_eq_true rfl⟩ rfl hl.1 rfl (Nat.le_of_ble_eq_true rfl) dX10_area_9 (fun H locs hR hS hE1 z_q1 => ?_)
    refine lv_icmp_ge (tgt := 46) C.x C.b dX10_area_12 (by decide) (fun c2 => ?_) (fun c2 => ?_)
    · have hf := it_t hf c2
      refine lv_lload C.x C.b dX10_area_46 (lv_at hl 4 rfl) ?_
      have hf := so_e hf
      subst hf
      exact r_lret C hr hlk hR Ext.rf hS dX10_area_48
    · have hf := it_f hf c2
      refine lv_lload C.x C.b dX10_area_15 (lv_at hl 4 rfl) ?_
      refine lv_aload_n C.x C.b dX10_area_17 rfl (lv_at hl 0 rfl) ?_
      refine lv_iload_n C.x C.b dX10_area_18 rfl (lv_at hl 1 rfl) ?_
      refine lv_iload_n C.x C.b dX10_area_19 rfl (lv_at hl 2 rfl) ?_
      refine lv_iload_n C.x C.b dX10_area_20 rfl (lv_at hl 3 rfl) ?_
      refine lv_iload C.x C.b dX10_area_21 (lv_at hl 5 rfl) ?_
      obtain ⟨q3, h_q3, hf⟩ := bd_e hf
      refine r_callV (As := [.int x1, .int x2, .int x3, .int x6]) (rest := [.long y4]) C hR hS t_r0 rfl mk_X10_isOver cl_X10_121 (k_X10_isOver t_r0 h_q3) ⟨⟨Nat.le_of_ble_eq_true rfl, Nat.le_of_ble_eq_true rfl⟩, ⟨rfl, rfl⟩, Nat.le_of_ble_eq_true rfl, Nat.le_of_ble_eq_true rfl⟩ rfl hl.1 rfl (Nat.le_of_ble_eq_true rfl) dX10_area_23 (fun H locs hR hS hE1 z_q3 => ?_)
      have z_q3 := z_q3 _ rfl
      refine lv_if_eq (tgt := 36) C.x C.b dX10_area_26 (by decide) (fun c4 => ?_) (fun c4 => ?_)
      · have hf := it_t hf c4
        refine lv_lconst (v := (0 : Int64)) C.x C.b dX10_area_36 (by decide) ?_
        exact w_X10_area_37 C hr hlk hk6 _ _ _ _ _ _ hf hR hS t_r0 (lv_sub hl [0, 1, 2, 3, 5] rfl)
      · have hf := it_f hf c4
        refine lv_lconst (v := (1 : Int64)) C.x C.b dX10_area_29 (by decide) ?_
        refine lv_iload C.x C.b dX10_area_30 (lv_at hl 5 rfl) ?_
        refine lv_lshl C.x C.b dX10_area_32 rfl ?_
        refine lv_topl (fun v5 e_v5 => ?_)
        have hf := lt_e hf e_v5
        refine lv_goto (tgt := 37) C.x C.b dX10_area_33 (by decide) ?_
        exact w_X10_area_37 C hr hlk hk6 _ _ _ _ _ _ hf hR hS t_r0 (lv_sub hl [0, 1, 2, 3, 5] rfl)
set_option maxRecDepth 100000 in
set_option maxHeartbeats 4000000 in
theorem k_X10_area {G : Gt} {l : Launch}  {h : Hp} {r0 : Nat} {x1 : Int32} {x2 : Int32} {x3 : Int32} {out : Int64} (t_r0 : hpT h r0 = (1, 10))  (hf : f_X10_area  h r0 x1 x2 x3 = some out) : Mt G l yX10_area cX10_area 7 (some .long) rm_X10_area [.ref (G.2.2 + r0), .int x1, .int x2, .int x3] h (some (.long out)) h 0 0 0 := by
  refine r_met (by decide +kernel) (Nat.le_of_ble_eq_true rfl) ?_
  intro p e s m args below meth c ls C hr hlk hnm hR hS hl
  have hl : lv_has ls 7 [(0, .ref (G.2.2 + r0)), (1, .int x1), (2, .int x2), (3, .int x3)] := hl
  rw [f_X10_area] at hf
  refine lv_lconst (v := (0 : Int64)) C.x C.b dX10_area_0 (by decide) ?_
  refine lv_lstore (lv' := [(4, .long (0 : Int64)), (0, .ref (G.2.2 + r0)), (1, .int x1), (2, .int x2), (3, .int x3)]) C.x C.b dX10_area_1 hl (by decide) rfl (fun ls hl => ?_)
  refine lv_iconst (v := (0 : Int32)) C.x C.b dX10_area_3 (by decide) ?_
  refine lv_istore (lv' := [(6, .int (0 : Int32)), (4, .long (0 : Int64)), (0, .ref (G.2.2 + r0)), (1, .int x1), (2, .int x2), (3, .int x3)]) C.x C.b dX10_area_4 hl (by decide) rfl (fun ls hl => ?_)
  exact w_X10_area_6 C hr hlk FU _ _ _ _ _ hf hR hS t_r0 (lv_sub hl [2, 3, 4, 5, 1, 0] rfl)

def rm_X10_areaOf : Room := { frames := 3, cells := 0, slots := 0, locals := 77 }
set_option maxRecDepth 100000 in
set_option maxHeartbeats 4000000 in
theorem k_X10_areaOf {G : Gt} {l : Launch}  {h : Hp} {r0 : Nat} {r1 : Nat} {x2 : Int32} {out : Int64} (t_r0 : hpT h r0 = (1, 10)) (t_r1 : (hpT h r1).1 = 2)  (hf : f_X10_areaOf  h r0 r1 x2 = some out) : Mt G l yX10_areaOf cX10_areaOf 3 (some .long) rm_X10_areaOf [.ref (G.2.2 + r0), .ref (G.2.2 + r1), .int x2] h (some (.long out)) h 0 0 0 := by
  refine r_met (by decide +kernel) (Nat.le_of_ble_eq_true rfl) ?_
  intro p e s m args below meth c ls C hr hlk hnm hR hS hl
  have hl : lv_has ls 3 [(0, .ref (G.2.2 + r0)), (1, .ref (G.2.2 + r1)), (2, .int x2)] := hl
  rw [f_X10_areaOf] at hf
  refine lv_aload_n C.x C.b dX10_areaOf_0 rfl (lv_at hl 0 rfl) ?_
  refine lv_aload_n C.x C.b dX10_areaOf_1 rfl (lv_at hl 1 rfl) ?_
  refine lv_iload_n C.x C.b dX10_areaOf_2 rfl (lv_at hl 2 rfl) ?_
  obtain ⟨g1, hf⟩ := gd_e hf
  refine r_iald C hR t_r1 g1 dX10_areaOf_3 ?_
  refine lv_aload_n C.x C.b dX10_areaOf_4 rfl (lv_at hl 1 rfl) ?_
  refine lv_bipush (v := (8 : Int32)) C.x C.b dX10_areaOf_5 (by decide) ?_
  refine lv_iload_n C.x C.b dX10_areaOf_7 rfl (lv_at hl 2 rfl) ?_
  refine lv_iadd C.x C.b dX10_areaOf_8 ?_
  obtain ⟨g2, hf⟩ := gd_e hf
  refine r_iald C hR t_r1 g2 dX10_areaOf_9 ?_
  refine lv_aload_n C.x C.b dX10_areaOf_10 rfl (lv_at hl 1 rfl) ?_
  refine lv_bipush (v := (16 : Int32)) C.x C.b dX10_areaOf_11 (by decide) ?_
  refine lv_iload_n C.x C.b dX10_areaOf_13 rfl (lv_at hl 2 rfl) ?_
  refine lv_iadd C.x C.b dX10_areaOf_14 ?_
  obtain ⟨g3, hf⟩ := gd_e hf
  refine r_iald C hR t_r1 g3 dX10_areaOf_15 ?_
  obtain ⟨q4, h_q4, hf⟩ := bd_e hf
  refine r_callV (As := [.int (hpI h r1 (ix x2)), .int (hpI h r1 (ix ((8 : Int32) + x2))), .int (hpI h r1 (ix ((16 : Int32) + x2)))]) (rest := []) C hR hS t_r0 rfl mk_X10_area cl_X10_125 (k_X10_area t_r0 h_q4) ⟨⟨Nat.le_of_ble_eq_true rfl, Nat.le_of_ble_eq_true rfl⟩, ⟨rfl, rfl⟩, Nat.le_of_ble_eq_true rfl, Nat.le_of_ble_eq_true rfl⟩ rfl hl.1 rfl (Nat.le_of_ble_eq_true rfl) dX10_areaOf_16 (fun H locs hR hS hE1 z_q4 => ?_)
  have hf := so_e hf
  subst hf
  exact r_lret C hr hlk hR Ext.rf hS dX10_areaOf_19

def rm_X10_on : Room := { frames := 1, cells := 0, slots := 0, locals := 21 }
def P_X10_on_28 (G : Gt) (l : Launch) (p : Program) (e : Env) (s : State) (m : MethodId) (args : Array Value) (below : List Frame) (meth : Method) (c : Code) (h : Hp) (out : Int32) (r0 : Nat) (k : Int32 → Int32 → Int32 → Option Int32) : Prop := ∀ (H : Heap) (locs : List Loc) (ls : Array Slot) (s0 : Int32) (s1 : Int32) (x2 : Int32), k s0 s1 x2 = some out → Rel G h H → va_S (AA G.2.2) s.heap H locs → (hpT h r0).1 = 2 → lv_has ls 3 [(0, .ref (G.2.2 + r0)), (2, .int x2)] → W p l e rm_X10_on s m args below meth c H locs 0 0 (MQ below (Qm G h h (some (.int out)) 0) args s 0 0 (AA G.2.2)) (F0 m 28 ls [.int s1, .int s0])
def P_X10_on_4 (G : Gt) (l : Launch) (p : Program) (e : Env) (s : State) (m : MethodId) (args : Array Value) (below : List Frame) (meth : Method) (c : Code) (h : Hp) (out : Int32) (r0 : Nat) (k : Int32 → Int32 → Option Int32) : Prop := ∀ (H : Heap) (locs : List Loc) (ls : Array Slot) (x1 : Int32) (x2 : Int32), k x1 x2 = some out → Rel G h H → va_S (AA G.2.2) s.heap H locs → (hpT h r0).1 = 2 → lv_has ls 3 [(0, .ref (G.2.2 + r0)), (1, .int x1), (2, .int x2)] → W p l e rm_X10_on s m args below meth c H locs 0 0 (MQ below (Qm G h h (some (.int out)) 0) args s 0 0 (AA G.2.2)) (F0 m 4 ls [])
set_option maxRecDepth 100000 in
set_option maxHeartbeats 4000000 in
theorem w_X10_on_28 {G : Gt} {l : Launch} {p : Program} {e : Env} {s : State} {m : MethodId} {args : Array Value} {below : List Frame} {meth : Method} {c : Code}  {h : Hp} {out : Int32} {r0 : Nat} {k4 : Int32 → Int32 → Option Int32} (C : Cx G p m c cX10_on 3 s args RX10) (hr : meth.sig.returnType = some .int) (hlk : meth.locks = false)  (hk4 : P_X10_on_4 G l p e s m args below meth c h out r0 k4) : P_X10_on_28 G l p e s m args below meth c h out r0 (f_X10_on_28 h r0 k4) := by
  intro H locs ls s0 s1 x2 hf hR hS t_r0 hl
  rw [f_X10_on_28] at hf
  refine lv_ior C.x C.b dX10_on_28 ?_
  refine lv_topi (fun v6 e_v6 => ?_)
  have hf := lt_e hf e_v6
  refine lv_istore_n (lv' := [(1, .int v6), (0, .ref (G.2.2 + r0)), (2, .int x2)]) C.x C.b dX10_on_29 rfl hl (by decide) rfl (fun ls hl => ?_)
  obtain ⟨v7, e_v7⟩ : ∃ y : Int32, y = x2 + (1 : Int32) := ⟨_, rfl⟩
  have hf := lt_e hf e_v7
  refine lv_iinc (v := v7) (lv' := [(2, .int v7), (1, .int v6), (0, .ref (G.2.2 + r0))]) C.x C.b dX10_on_30 hl (k := 2) rfl (by rw [e_v7]; rfl) (by decide) rfl (fun ls hl => ?_)
  refine lv_goto (tgt := 4) C.x C.b dX10_on_33 (by decide) ?_
  exact hk4 _ _ _ _ _ hf hR hS t_r0 (lv_sub hl [2, 1, 0] rfl)
set_option maxRecDepth 100000 in
set_option maxHeartbeats 4000000 in
theorem w_X10_on_4 {G : Gt} {l : Launch} {p : Program} {e : Env} {s : State} {m : MethodId} {args : Array Value} {below : List Frame} {meth : Method} {c : Code}  {h : Hp} {out : Int32} {r0 : Nat}  (C : Cx G p m c cX10_on 3 s args RX10) (hr : meth.sig.returnType = some .int) (hlk : meth.locks = false)   (n : Nat) : P_X10_on_4 G l p e s m args below meth c h out r0 (f_X10_on_4 h r0 n) := by
  induction n with
  | zero => intro H locs ls x1 x2 hf hR hS t_r0 hl; cases hf
  | succ n hk4 =>
    intro H locs ls x1 x2 hf hR hS t_r0 hl
    rw [f_X10_on_4] at hf
    obtain ⟨k4, e_k4⟩ : ∃ y, y = f_X10_on_4 h r0 n := ⟨_, rfl⟩
    have hf := lt_e hf e_k4
    rw [← e_k4] at hk4
    refine lv_iload_n C.x C.b dX10_on_4 rfl (lv_at hl 2 rfl) ?_
    refine lv_aload_n C.x C.b dX10_on_5 rfl (lv_at hl 0 rfl) ?_
    refine lv_bipush (v := (48 : Int32)) C.x C.b dX10_on_6 (by decide) ?_
    obtain ⟨g1, hf⟩ := gd_e hf
    refine r_iald C hR t_r0 g1 dX10_on_8 ?_
    refine lv_icmp_ge (tgt := 36) C.x C.b dX10_on_9 (by decide) (fun c2 => ?_) (fun c2 => ?_)
    · have hf := it_t hf c2
      refine lv_iload_n C.x C.b dX10_on_36 rfl (lv_at hl 1 rfl) ?_
      have hf := so_e hf
      subst hf
      exact r_iret C hr hlk hR Ext.rf hS dX10_on_37
    · have hf := it_f hf c2
      refine lv_iload_n C.x C.b dX10_on_12 rfl (lv_at hl 1 rfl) ?_
      refine lv_aload_n C.x C.b dX10_on_13 rfl (lv_at hl 0 rfl) ?_
      refine lv_iload_n C.x C.b dX10_on_14 rfl (lv_at hl 2 rfl) ?_
      obtain ⟨q3, h_q3, hf⟩ := bd_e hf
      refine r_callS (As := [.ref (G.2.2 + r0), .int x2]) (rest := [.int x1]) C hR hS mk_X10_isOn cl_X10_129 (k_X10_isOn t_r0 h_q3) ⟨⟨Nat.le_of_ble_eq_true rfl, Nat.le_of_ble_eq_true rfl⟩, ⟨rfl, rfl⟩, Nat.le_of_ble_eq_true rfl, Nat.le_of_ble_eq_true rfl⟩ rfl hl.1 rfl (Nat.le_of_ble_eq_true rfl) dX10_on_15 (fun H locs hR hS hE1 z_q3 => ?_)
      have z_q3 := z_q3 _ rfl
      refine lv_if_eq (tgt := 27) C.x C.b dX10_on_18 (by decide) (fun c4 => ?_) (fun c4 => ?_)
      · have hf := it_t hf c4
        refine lv_iconst (v := (0 : Int32)) C.x C.b dX10_on_27 (by decide) ?_
        exact w_X10_on_28 C hr hlk hk4 _ _ _ _ _ _ hf hR hS t_r0 (lv_sub hl [0, 2] rfl)
      · have hf := it_f hf c4
        refine lv_iconst (v := (1 : Int32)) C.x C.b dX10_on_21 (by decide) ?_
        refine lv_iload_n C.x C.b dX10_on_22 rfl (lv_at hl 2 rfl) ?_
        refine lv_ishl C.x C.b dX10_on_23 ?_
        refine lv_topi (fun v5 e_v5 => ?_)
        have hf := lt_e hf e_v5
        refine lv_goto (tgt := 28) C.x C.b dX10_on_24 (by decide) ?_
        exact w_X10_on_28 C hr hlk hk4 _ _ _ _ _ _ hf hR hS t_r0 (lv_sub hl [0, 2] rfl)
set_option maxRecDepth 100000 in
set_option maxHeartbeats 4000000 in
theorem k_X10_on {G : Gt} {l : Launch}  {h : Hp} {r0 : Nat} {out : Int32} (t_r0 : (hpT h r0).1 = 2)  (hf : f_X10_on  h r0 = some out) : Mt G l yX10_on cX10_on 3 (some .int) rm_X10_on [.ref (G.2.2 + r0)] h (some (.int out)) h 0 0 0 := by
  refine r_met (by decide +kernel) (Nat.le_of_ble_eq_true rfl) ?_
  intro p e s m args below meth c ls C hr hlk hnm hR hS hl
  have hl : lv_has ls 3 [(0, .ref (G.2.2 + r0))] := hl
  rw [f_X10_on] at hf
  refine lv_iconst (v := (0 : Int32)) C.x C.b dX10_on_0 (by decide) ?_
  refine lv_istore_n (lv' := [(1, .int (0 : Int32)), (0, .ref (G.2.2 + r0))]) C.x C.b dX10_on_1 rfl hl (by decide) rfl (fun ls hl => ?_)
  refine lv_iconst (v := (0 : Int32)) C.x C.b dX10_on_2 (by decide) ?_
  refine lv_istore_n (lv' := [(2, .int (0 : Int32)), (1, .int (0 : Int32)), (0, .ref (G.2.2 + r0))]) C.x C.b dX10_on_3 rfl hl (by decide) rfl (fun ls hl => ?_)
  exact w_X10_on_4 C hr hlk FU _ _ _ _ _ hf hR hS t_r0 (lv_sub hl [2, 1, 0] rfl)

def rm_X10_sumOf : Room := { frames := 0, cells := 0, slots := 0, locals := 0 }
def P_X10_sumOf_4 (G : Gt) (l : Launch) (p : Program) (e : Env) (s : State) (m : MethodId) (args : Array Value) (below : List Frame) (meth : Method) (c : Code) (h : Hp) (out : Int32) (r0 : Nat) (x1 : Int32) (k : Int32 → Int32 → Option Int32) : Prop := ∀ (H : Heap) (locs : List Loc) (ls : Array Slot) (x2 : Int32) (x3 : Int32), k x2 x3 = some out → Rel G h H → va_S (AA G.2.2) s.heap H locs → (hpT h r0).1 = 2 → lv_has ls 4 [(0, .ref (G.2.2 + r0)), (1, .int x1), (2, .int x2), (3, .int x3)] → W p l e rm_X10_sumOf s m args below meth c H locs 0 0 (MQ below (Qm G h h (some (.int out)) 0) args s 0 0 (AA G.2.2)) (F0 m 4 ls [])
set_option maxRecDepth 100000 in
set_option maxHeartbeats 4000000 in
theorem w_X10_sumOf_4 {G : Gt} {l : Launch} {p : Program} {e : Env} {s : State} {m : MethodId} {args : Array Value} {below : List Frame} {meth : Method} {c : Code}  {h : Hp} {out : Int32} {r0 : Nat} {x1 : Int32}  (C : Cx G p m c cX10_sumOf 4 s args RX10) (hr : meth.sig.returnType = some .int) (hlk : meth.locks = false)   (n : Nat) : P_X10_sumOf_4 G l p e s m args below meth c h out r0 x1 (f_X10_sumOf_4 h r0 x1 n) := by
  induction n with
  | zero => intro H locs ls x2 x3 hf hR hS t_r0 hl; cases hf
  | succ n hk4 =>
    intro H locs ls x2 x3 hf hR hS t_r0 hl
    rw [f_X10_sumOf_4] at hf
    obtain ⟨k4, e_k4⟩ : ∃ y, y = f_X10_sumOf_4 h r0 x1 n := ⟨_, rfl⟩
    have hf := lt_e hf e_k4
    rw [← e_k4] at hk4
    refine lv_iload_n C.x C.b dX10_sumOf_4 rfl (lv_at hl 3 rfl) ?_
    refine lv_aload_n C.x C.b dX10_sumOf_5 rfl (lv_at hl 0 rfl) ?_
    refine lv_bipush (v := (48 : Int32)) C.x C.b dX10_sumOf_6 (by decide) ?_
    obtain ⟨g1, hf⟩ := gd_e hf
    refine r_iald C hR t_r0 g1 dX10_sumOf_8 ?_
    refine lv_icmp_ge (tgt := 26) C.x C.b dX10_sumOf_9 (by decide) (fun c2 => ?_) (fun c2 => ?_)
    · have hf := it_t hf c2
      refine lv_iload_n C.x C.b dX10_sumOf_26 rfl (lv_at hl 2 rfl) ?_
      have hf := so_e hf
      subst hf
      exact r_iret C hr hlk hR Ext.rf hS dX10_sumOf_27
    · have hf := it_f hf c2
      refine lv_iload_n C.x C.b dX10_sumOf_12 rfl (lv_at hl 2 rfl) ?_
      refine lv_aload_n C.x C.b dX10_sumOf_13 rfl (lv_at hl 0 rfl) ?_
      refine lv_iload_n C.x C.b dX10_sumOf_14 rfl (lv_at hl 1 rfl) ?_
      refine lv_iload_n C.x C.b dX10_sumOf_15 rfl (lv_at hl 3 rfl) ?_
      refine lv_iadd C.x C.b dX10_sumOf_16 ?_
      obtain ⟨g3, hf⟩ := gd_e hf
      refine r_iald C hR t_r0 g3 dX10_sumOf_17 ?_
      refine lv_iadd C.x C.b dX10_sumOf_18 ?_
      refine lv_topi (fun v4 e_v4 => ?_)
      have hf := lt_e hf e_v4
      refine lv_istore_n (lv' := [(2, .int v4), (0, .ref (G.2.2 + r0)), (1, .int x1), (3, .int x3)]) C.x C.b dX10_sumOf_19 rfl hl (by decide) rfl (fun ls hl => ?_)
      obtain ⟨v5, e_v5⟩ : ∃ y : Int32, y = x3 + (1 : Int32) := ⟨_, rfl⟩
      have hf := lt_e hf e_v5
      refine lv_iinc (v := v5) (lv' := [(3, .int v5), (2, .int v4), (0, .ref (G.2.2 + r0)), (1, .int x1)]) C.x C.b dX10_sumOf_20 hl (k := 3) rfl (by rw [e_v5]; rfl) (by decide) rfl (fun ls hl => ?_)
      refine lv_goto (tgt := 4) C.x C.b dX10_sumOf_23 (by decide) ?_
      exact hk4 _ _ _ _ _ hf hR hS t_r0 (lv_sub hl [2, 3, 1, 0] rfl)
set_option maxRecDepth 100000 in
set_option maxHeartbeats 4000000 in
theorem k_X10_sumOf {G : Gt} {l : Launch}  {h : Hp} {r0 : Nat} {x1 : Int32} {out : Int32} (t_r0 : (hpT h r0).1 = 2)  (hf : f_X10_sumOf  h r0 x1 = some out) : Mt G l yX10_sumOf cX10_sumOf 4 (some .int) rm_X10_sumOf [.ref (G.2.2 + r0), .int x1] h (some (.int out)) h 0 0 0 := by
  refine r_met (by decide +kernel) (Nat.le_of_ble_eq_true rfl) ?_
  intro p e s m args below meth c ls C hr hlk hnm hR hS hl
  have hl : lv_has ls 4 [(0, .ref (G.2.2 + r0)), (1, .int x1)] := hl
  rw [f_X10_sumOf] at hf
  refine lv_iconst (v := (0 : Int32)) C.x C.b dX10_sumOf_0 (by decide) ?_
  refine lv_istore_n (lv' := [(2, .int (0 : Int32)), (0, .ref (G.2.2 + r0)), (1, .int x1)]) C.x C.b dX10_sumOf_1 rfl hl (by decide) rfl (fun ls hl => ?_)
  refine lv_iconst (v := (0 : Int32)) C.x C.b dX10_sumOf_2 (by decide) ?_
  refine lv_istore_n (lv' := [(3, .int (0 : Int32)), (2, .int (0 : Int32)), (0, .ref (G.2.2 + r0)), (1, .int x1)]) C.x C.b dX10_sumOf_3 rfl hl (by decide) rfl (fun ls hl => ?_)
  exact w_X10_sumOf_4 C hr hlk FU _ _ _ _ _ hf hR hS t_r0 (lv_sub hl [2, 3, 1, 0] rfl)

def rm_X10_campsOver : Room := { frames := 3, cells := 0, slots := 0, locals := 74 }
def P_X10_campsOver_43 (G : Gt) (l : Launch) (p : Program) (e : Env) (s : State) (m : MethodId) (args : Array Value) (below : List Frame) (meth : Method) (c : Code) (h : Hp) (out : Int32) (r0 : Nat) (r1 : Nat) (x2 : Int32) (k : Int32 → Int32 → Int32 → Option Int32) : Prop := ∀ (H : Heap) (locs : List Loc) (ls : Array Slot) (s0 : Int32) (s1 : Int32) (x4 : Int32), k s0 s1 x4 = some out → Rel G h H → va_S (AA G.2.2) s.heap H locs → hpT h r0 = (1, 10) → (hpT h r1).1 = 2 → lv_has ls 5 [(0, .ref (G.2.2 + r0)), (1, .ref (G.2.2 + r1)), (2, .int x2), (4, .int x4)] → W p l e rm_X10_campsOver s m args below meth c H locs 0 0 (MQ below (Qm G h h (some (.int out)) 0) args s 0 0 (AA G.2.2)) (F0 m 43 ls [.int s1, .int s0])
def P_X10_campsOver_42 (G : Gt) (l : Launch) (p : Program) (e : Env) (s : State) (m : MethodId) (args : Array Value) (below : List Frame) (meth : Method) (c : Code) (h : Hp) (out : Int32) (r0 : Nat) (r1 : Nat) (x2 : Int32) (k : Int32 → Int32 → Option Int32) : Prop := ∀ (H : Heap) (locs : List Loc) (ls : Array Slot) (s0 : Int32) (x4 : Int32), k s0 x4 = some out → Rel G h H → va_S (AA G.2.2) s.heap H locs → hpT h r0 = (1, 10) → (hpT h r1).1 = 2 → lv_has ls 5 [(0, .ref (G.2.2 + r0)), (1, .ref (G.2.2 + r1)), (2, .int x2), (4, .int x4)] → W p l e rm_X10_campsOver s m args below meth c H locs 0 0 (MQ below (Qm G h h (some (.int out)) 0) args s 0 0 (AA G.2.2)) (F0 m 42 ls [.int s0])
def P_X10_campsOver_5 (G : Gt) (l : Launch) (p : Program) (e : Env) (s : State) (m : MethodId) (args : Array Value) (below : List Frame) (meth : Method) (c : Code) (h : Hp) (out : Int32) (r0 : Nat) (r1 : Nat) (x2 : Int32) (k : Int32 → Int32 → Option Int32) : Prop := ∀ (H : Heap) (locs : List Loc) (ls : Array Slot) (x3 : Int32) (x4 : Int32), k x3 x4 = some out → Rel G h H → va_S (AA G.2.2) s.heap H locs → hpT h r0 = (1, 10) → (hpT h r1).1 = 2 → lv_has ls 5 [(0, .ref (G.2.2 + r0)), (1, .ref (G.2.2 + r1)), (2, .int x2), (3, .int x3), (4, .int x4)] → W p l e rm_X10_campsOver s m args below meth c H locs 0 0 (MQ below (Qm G h h (some (.int out)) 0) args s 0 0 (AA G.2.2)) (F0 m 5 ls [])
set_option maxRecDepth 100000 in
set_option maxHeartbeats 4000000 in
theorem w_X10_campsOver_43 {G : Gt} {l : Launch} {p : Program} {e : Env} {s : State} {m : MethodId} {args : Array Value} {below : List Frame} {meth : Method} {c : Code}  {h : Hp} {out : Int32} {r0 : Nat} {r1 : Nat} {x2 : Int32} {k5 : Int32 → Int32 → Option Int32} (C : Cx G p m c cX10_campsOver 5 s args RX10) (hr : meth.sig.returnType = some .int) (hlk : meth.locks = false)  (hk5 : P_X10_campsOver_5 G l p e s m args below meth c h out r0 r1 x2 k5) : P_X10_campsOver_43 G l p e s m args below meth c h out r0 r1 x2 (f_X10_campsOver_43 h r0 r1 x2 k5) := by
  intro H locs ls s0 s1 x4 hf hR hS t_r0 t_r1 hl
  rw [f_X10_campsOver_43] at hf
  refine lv_ior C.x C.b dX10_campsOver_43 ?_
  refine lv_topi (fun v8 e_v8 => ?_)
  have hf := lt_e hf e_v8
  refine lv_istore_n (lv' := [(3, .int v8), (0, .ref (G.2.2 + r0)), (1, .ref (G.2.2 + r1)), (2, .int x2), (4, .int x4)]) C.x C.b dX10_campsOver_44 rfl hl (by decide) rfl (fun ls hl => ?_)
  obtain ⟨v9, e_v9⟩ : ∃ y : Int32, y = x4 + (1 : Int32) := ⟨_, rfl⟩
  have hf := lt_e hf e_v9
  refine lv_iinc (v := v9) (lv' := [(4, .int v9), (3, .int v8), (0, .ref (G.2.2 + r0)), (1, .ref (G.2.2 + r1)), (2, .int x2)]) C.x C.b dX10_campsOver_45 hl (k := 4) rfl (by rw [e_v9]; rfl) (by decide) rfl (fun ls hl => ?_)
  refine lv_goto (tgt := 5) C.x C.b dX10_campsOver_48 (by decide) ?_
  exact hk5 _ _ _ _ _ hf hR hS t_r0 t_r1 (lv_sub hl [2, 3, 4, 1, 0] rfl)
set_option maxRecDepth 100000 in
set_option maxHeartbeats 4000000 in
theorem w_X10_campsOver_42 {G : Gt} {l : Launch} {p : Program} {e : Env} {s : State} {m : MethodId} {args : Array Value} {below : List Frame} {meth : Method} {c : Code}  {h : Hp} {out : Int32} {r0 : Nat} {r1 : Nat} {x2 : Int32} {k5 : Int32 → Int32 → Option Int32} (C : Cx G p m c cX10_campsOver 5 s args RX10) (hr : meth.sig.returnType = some .int) (hlk : meth.locks = false)  (hk5 : P_X10_campsOver_5 G l p e s m args below meth c h out r0 r1 x2 k5) : P_X10_campsOver_42 G l p e s m args below meth c h out r0 r1 x2 (f_X10_campsOver_42 h r0 r1 x2 k5) := by
  intro H locs ls s0 x4 hf hR hS t_r0 t_r1 hl
  rw [f_X10_campsOver_42] at hf
  refine lv_iconst (v := (0 : Int32)) C.x C.b dX10_campsOver_42 (by decide) ?_
  exact w_X10_campsOver_43 C hr hlk hk5 _ _ _ _ _ _ hf hR hS t_r0 t_r1 (lv_sub hl [0, 1, 2, 3] rfl)
set_option maxRecDepth 100000 in
set_option maxHeartbeats 4000000 in
theorem w_X10_campsOver_5 {G : Gt} {l : Launch} {p : Program} {e : Env} {s : State} {m : MethodId} {args : Array Value} {below : List Frame} {meth : Method} {c : Code}  {h : Hp} {out : Int32} {r0 : Nat} {r1 : Nat} {x2 : Int32}  (C : Cx G p m c cX10_campsOver 5 s args RX10) (hr : meth.sig.returnType = some .int) (hlk : meth.locks = false)   (n : Nat) : P_X10_campsOver_5 G l p e s m args below meth c h out r0 r1 x2 (f_X10_campsOver_5 h r0 r1 x2 n) := by
  induction n with
  | zero => intro H locs ls x3 x4 hf hR hS t_r0 t_r1 hl; cases hf
  | succ n hk5 =>
    intro H locs ls x3 x4 hf hR hS t_r0 t_r1 hl
    rw [f_X10_campsOver_5] at hf
    obtain ⟨k5, e_k5⟩ : ∃ y, y = f_X10_campsOver_5 h r0 r1 x2 n := ⟨_, rfl⟩
    have hf := lt_e hf e_k5
    rw [← e_k5] at hk5
    refine lv_iload C.x C.b dX10_campsOver_5 (lv_at hl 4 rfl) ?_
    refine lv_aload_n C.x C.b dX10_campsOver_7 rfl (lv_at hl 1 rfl) ?_
    refine lv_bipush (v := (48 : Int32)) C.x C.b dX10_campsOver_8 (by decide) ?_
    obtain ⟨g1, hf⟩ := gd_e hf
    refine r_iald C hR t_r1 g1 dX10_campsOver_10 ?_
    refine lv_icmp_ge (tgt := 51) C.x C.b dX10_campsOver_11 (by decide) (fun c2 => ?_) (fun c2 => ?_)
    · have hf := it_t hf c2
      refine lv_iload_n C.x C.b dX10_campsOver_51 rfl (lv_at hl 3 rfl) ?_
      have hf := so_e hf
      subst hf
      exact r_iret C hr hlk hR Ext.rf hS dX10_campsOver_52
    · have hf := it_f hf c2
      refine lv_iload_n C.x C.b dX10_campsOver_14 rfl (lv_at hl 3 rfl) ?_
      refine lv_aload_n C.x C.b dX10_campsOver_15 rfl (lv_at hl 1 rfl) ?_
      refine lv_iload C.x C.b dX10_campsOver_16 (lv_at hl 4 rfl) ?_
      obtain ⟨q3, h_q3, hf⟩ := bd_e hf
      refine r_callS (As := [.ref (G.2.2 + r1), .int x4]) (rest := [.int x3]) C hR hS mk_X10_isOn cl_X10_129 (k_X10_isOn t_r1 h_q3) ⟨⟨Nat.le_of_ble_eq_true rfl, Nat.le_of_ble_eq_true rfl⟩, ⟨rfl, rfl⟩, Nat.le_of_ble_eq_true rfl, Nat.le_of_ble_eq_true rfl⟩ rfl hl.1 rfl (Nat.le_of_ble_eq_true rfl) dX10_campsOver_18 (fun H locs hR hS hE1 z_q3 => ?_)
      have z_q3 := z_q3 _ rfl
      refine lv_if_eq (tgt := 42) C.x C.b dX10_campsOver_21 (by decide) (fun c4 => ?_) (fun c4 => ?_)
      · have hf := it_t hf c4
        exact w_X10_campsOver_42 C hr hlk hk5 _ _ _ _ _ hf hR hS t_r0 t_r1 (lv_sub hl [0, 1, 2, 4] rfl)
      · have hf := it_f hf c4
        refine lv_aload_n C.x C.b dX10_campsOver_24 rfl (lv_at hl 0 rfl) ?_
        refine lv_aload_n C.x C.b dX10_campsOver_25 rfl (lv_at hl 1 rfl) ?_
        refine lv_iload C.x C.b dX10_campsOver_26 (lv_at hl 4 rfl) ?_
        refine lv_iload_n C.x C.b dX10_campsOver_28 rfl (lv_at hl 2 rfl) ?_
        obtain ⟨q5, h_q5, hf⟩ := bd_e hf
        refine r_callV (As := [.ref (G.2.2 + r1), .int x4, .int x2]) (rest := [.int x3]) C hR hS t_r0 rfl mk_X10_isLyingOver cl_X10_133 (k_X10_isLyingOver t_r0 t_r1 h_q5) ⟨⟨Nat.le_of_ble_eq_true rfl, Nat.le_of_ble_eq_true rfl⟩, ⟨rfl, rfl⟩, Nat.le_of_ble_eq_true rfl, Nat.le_of_ble_eq_true rfl⟩ rfl hl.1 rfl (Nat.le_of_ble_eq_true rfl) dX10_campsOver_29 (fun H locs hR hS hE1 z_q5 => ?_)
        have z_q5 := z_q5 _ rfl
        refine lv_if_eq (tgt := 42) C.x C.b dX10_campsOver_32 (by decide) (fun c6 => ?_) (fun c6 => ?_)
        · have hf := it_t hf c6
          exact w_X10_campsOver_42 C hr hlk hk5 _ _ _ _ _ hf hR hS t_r0 t_r1 (lv_sub hl [0, 1, 2, 4] rfl)
        · have hf := it_f hf c6
          refine lv_iconst (v := (1 : Int32)) C.x C.b dX10_campsOver_35 (by decide) ?_
          refine lv_iload C.x C.b dX10_campsOver_36 (lv_at hl 4 rfl) ?_
          refine lv_ishl C.x C.b dX10_campsOver_38 ?_
          refine lv_topi (fun v7 e_v7 => ?_)
          have hf := lt_e hf e_v7
          refine lv_goto (tgt := 43) C.x C.b dX10_campsOver_39 (by decide) ?_
          exact w_X10_campsOver_43 C hr hlk hk5 _ _ _ _ _ _ hf hR hS t_r0 t_r1 (lv_sub hl [0, 1, 2, 4] rfl)
set_option maxRecDepth 100000 in
set_option maxHeartbeats 4000000 in
theorem k_X10_campsOver {G : Gt} {l : Launch}  {h : Hp} {r0 : Nat} {r1 : Nat} {x2 : Int32} {out : Int32} (t_r0 : hpT h r0 = (1, 10)) (t_r1 : (hpT h r1).1 = 2)  (hf : f_X10_campsOver  h r0 r1 x2 = some out) : Mt G l yX10_campsOver cX10_campsOver 5 (some .int) rm_X10_campsOver [.ref (G.2.2 + r0), .ref (G.2.2 + r1), .int x2] h (some (.int out)) h 0 0 0 := by
  refine r_met (by decide +kernel) (Nat.le_of_ble_eq_true rfl) ?_
  intro p e s m args below meth c ls C hr hlk hnm hR hS hl
  have hl : lv_has ls 5 [(0, .ref (G.2.2 + r0)), (1, .ref (G.2.2 + r1)), (2, .int x2)] := hl
  rw [f_X10_campsOver] at hf
  refine lv_iconst (v := (0 : Int32)) C.x C.b dX10_campsOver_0 (by decide) ?_
  refine lv_istore_n (lv' := [(3, .int (0 : Int32)), (0, .ref (G.2.2 + r0)), (1, .ref (G.2.2 + r1)), (2, .int x2)]) C.x C.b dX10_campsOver_1 rfl hl (by decide) rfl (fun ls hl => ?_)
  refine lv_iconst (v := (0 : Int32)) C.x C.b dX10_campsOver_2 (by decide) ?_
  refine lv_istore (lv' := [(4, .int (0 : Int32)), (3, .int (0 : Int32)), (0, .ref (G.2.2 + r0)), (1, .ref (G.2.2 + r1)), (2, .int x2)]) C.x C.b dX10_campsOver_3 hl (by decide) rfl (fun ls hl => ?_)
  exact w_X10_campsOver_5 C hr hlk FU _ _ _ _ _ hf hR hS t_r0 t_r1 (lv_sub hl [2, 3, 4, 1, 0] rfl)

def rm_X10_sleptBy : Room := { frames := 4, cells := 0, slots := 0, locals := 99 }
def P_X10_sleptBy_45 (G : Gt) (l : Launch) (p : Program) (e : Env) (s : State) (m : MethodId) (args : Array Value) (below : List Frame) (meth : Method) (c : Code) (h : Hp) (out : Int64) (r0 : Nat) (r1 : Nat) (x2 : Int32) (k : Int64 → Int64 → Int32 → Option Int64) : Prop := ∀ (H : Heap) (locs : List Loc) (ls : Array Slot) (s0 : Int64) (s1 : Int64) (x5 : Int32), k s0 s1 x5 = some out → Rel G h H → va_S (AA G.2.2) s.heap H locs → hpT h r0 = (1, 10) → (hpT h r1).1 = 2 → lv_has ls 6 [(0, .ref (G.2.2 + r0)), (1, .ref (G.2.2 + r1)), (2, .int x2), (5, .int x5)] → W p l e rm_X10_sleptBy s m args below meth c H locs 0 0 (MQ below (Qm G h h (some (.long out)) 0) args s 0 0 (AA G.2.2)) (F0 m 45 ls [.long s1, .long s0])
def P_X10_sleptBy_44 (G : Gt) (l : Launch) (p : Program) (e : Env) (s : State) (m : MethodId) (args : Array Value) (below : List Frame) (meth : Method) (c : Code) (h : Hp) (out : Int64) (r0 : Nat) (r1 : Nat) (x2 : Int32) (k : Int64 → Int32 → Option Int64) : Prop := ∀ (H : Heap) (locs : List Loc) (ls : Array Slot) (s0 : Int64) (x5 : Int32), k s0 x5 = some out → Rel G h H → va_S (AA G.2.2) s.heap H locs → hpT h r0 = (1, 10) → (hpT h r1).1 = 2 → lv_has ls 6 [(0, .ref (G.2.2 + r0)), (1, .ref (G.2.2 + r1)), (2, .int x2), (5, .int x5)] → W p l e rm_X10_sleptBy s m args below meth c H locs 0 0 (MQ below (Qm G h h (some (.long out)) 0) args s 0 0 (AA G.2.2)) (F0 m 44 ls [.long s0])
def P_X10_sleptBy_5 (G : Gt) (l : Launch) (p : Program) (e : Env) (s : State) (m : MethodId) (args : Array Value) (below : List Frame) (meth : Method) (c : Code) (h : Hp) (out : Int64) (r0 : Nat) (r1 : Nat) (x2 : Int32) (k : Int64 → Int32 → Option Int64) : Prop := ∀ (H : Heap) (locs : List Loc) (ls : Array Slot) (y3 : Int64) (x5 : Int32), k y3 x5 = some out → Rel G h H → va_S (AA G.2.2) s.heap H locs → hpT h r0 = (1, 10) → (hpT h r1).1 = 2 → lv_has ls 6 [(0, .ref (G.2.2 + r0)), (1, .ref (G.2.2 + r1)), (2, .int x2), (3, .long y3), (5, .int x5)] → W p l e rm_X10_sleptBy s m args below meth c H locs 0 0 (MQ below (Qm G h h (some (.long out)) 0) args s 0 0 (AA G.2.2)) (F0 m 5 ls [])
set_option maxRecDepth 100000 in
set_option maxHeartbeats 4000000 in
theorem w_X10_sleptBy_45 {G : Gt} {l : Launch} {p : Program} {e : Env} {s : State} {m : MethodId} {args : Array Value} {below : List Frame} {meth : Method} {c : Code}  {h : Hp} {out : Int64} {r0 : Nat} {r1 : Nat} {x2 : Int32} {k5 : Int64 → Int32 → Option Int64} (C : Cx G p m c cX10_sleptBy 6 s args RX10) (hr : meth.sig.returnType = some .long) (hlk : meth.locks = false)  (hk5 : P_X10_sleptBy_5 G l p e s m args below meth c h out r0 r1 x2 k5) : P_X10_sleptBy_45 G l p e s m args below meth c h out r0 r1 x2 (f_X10_sleptBy_45 h r0 r1 x2 k5) := by
  intro H locs ls s0 s1 x5 hf hR hS t_r0 t_r1 hl
  rw [f_X10_sleptBy_45] at hf
  refine lv_lor C.x C.b dX10_sleptBy_45 ?_
  refine lv_topl (fun v8 e_v8 => ?_)
  have hf := lt_e hf e_v8
  refine lv_lstore_n (lv' := [(3, .long v8), (0, .ref (G.2.2 + r0)), (1, .ref (G.2.2 + r1)), (2, .int x2), (5, .int x5)]) C.x C.b dX10_sleptBy_46 rfl hl (by decide) rfl (fun ls hl => ?_)
  obtain ⟨v9, e_v9⟩ : ∃ y : Int32, y = x5 + (1 : Int32) := ⟨_, rfl⟩
  have hf := lt_e hf e_v9
  refine lv_iinc (v := v9) (lv' := [(5, .int v9), (3, .long v8), (0, .ref (G.2.2 + r0)), (1, .ref (G.2.2 + r1)), (2, .int x2)]) C.x C.b dX10_sleptBy_47 hl (k := 4) rfl (by rw [e_v9]; rfl) (by decide) rfl (fun ls hl => ?_)
  refine lv_goto (tgt := 5) C.x C.b dX10_sleptBy_50 (by decide) ?_
  exact hk5 _ _ _ _ _ hf hR hS t_r0 t_r1 (lv_sub hl [2, 3, 4, 1, 0] rfl)
set_option maxRecDepth 100000 in
set_option maxHeartbeats 4000000 in
theorem w_X10_sleptBy_44 {G : Gt} {l : Launch} {p : Program} {e : Env} {s : State} {m : MethodId} {args : Array Value} {below : List Frame} {meth : Method} {c : Code}  {h : Hp} {out : Int64} {r0 : Nat} {r1 : Nat} {x2 : Int32} {k5 : Int64 → Int32 → Option Int64} (C : Cx G p m c cX10_sleptBy 6 s args RX10) (hr : meth.sig.returnType = some .long) (hlk : meth.locks = false)  (hk5 : P_X10_sleptBy_5 G l p e s m args below meth c h out r0 r1 x2 k5) : P_X10_sleptBy_44 G l p e s m args below meth c h out r0 r1 x2 (f_X10_sleptBy_44 h r0 r1 x2 k5) := by
  intro H locs ls s0 x5 hf hR hS t_r0 t_r1 hl
  rw [f_X10_sleptBy_44] at hf
  refine lv_lconst (v := (0 : Int64)) C.x C.b dX10_sleptBy_44 (by decide) ?_
  exact w_X10_sleptBy_45 C hr hlk hk5 _ _ _ _ _ _ hf hR hS t_r0 t_r1 (lv_sub hl [0, 1, 2, 3] rfl)
set_option maxRecDepth 100000 in
set_option maxHeartbeats 4000000 in
theorem w_X10_sleptBy_5 {G : Gt} {l : Launch} {p : Program} {e : Env} {s : State} {m : MethodId} {args : Array Value} {below : List Frame} {meth : Method} {c : Code}  {h : Hp} {out : Int64} {r0 : Nat} {r1 : Nat} {x2 : Int32}  (C : Cx G p m c cX10_sleptBy 6 s args RX10) (hr : meth.sig.returnType = some .long) (hlk : meth.locks = false)   (n : Nat) : P_X10_sleptBy_5 G l p e s m args below meth c h out r0 r1 x2 (f_X10_sleptBy_5 h r0 r1 x2 n) := by
  induction n with
  | zero => intro H locs ls y3 x5 hf hR hS t_r0 t_r1 hl; cases hf
  | succ n hk5 =>
    intro H locs ls y3 x5 hf hR hS t_r0 t_r1 hl
    rw [f_X10_sleptBy_5] at hf
    obtain ⟨k5, e_k5⟩ : ∃ y, y = f_X10_sleptBy_5 h r0 r1 x2 n := ⟨_, rfl⟩
    have hf := lt_e hf e_k5
    rw [← e_k5] at hk5
    refine lv_iload C.x C.b dX10_sleptBy_5 (lv_at hl 4 rfl) ?_
    refine lv_aload_n C.x C.b dX10_sleptBy_7 rfl (lv_at hl 1 rfl) ?_
    refine lv_bipush (v := (48 : Int32)) C.x C.b dX10_sleptBy_8 (by decide) ?_
    obtain ⟨g1, hf⟩ := gd_e hf
    refine r_iald C hR t_r1 g1 dX10_sleptBy_10 ?_
    refine lv_icmp_ge (tgt := 53) C.x C.b dX10_sleptBy_11 (by decide) (fun c2 => ?_) (fun c2 => ?_)
    · have hf := it_t hf c2
      refine lv_lload_n C.x C.b dX10_sleptBy_53 rfl (lv_at hl 3 rfl) ?_
      have hf := so_e hf
      subst hf
      exact r_lret C hr hlk hR Ext.rf hS dX10_sleptBy_54
    · have hf := it_f hf c2
      refine lv_lload_n C.x C.b dX10_sleptBy_14 rfl (lv_at hl 3 rfl) ?_
      refine lv_aload_n C.x C.b dX10_sleptBy_15 rfl (lv_at hl 1 rfl) ?_
      refine lv_iload C.x C.b dX10_sleptBy_16 (lv_at hl 4 rfl) ?_
      obtain ⟨q3, h_q3, hf⟩ := bd_e hf
      refine r_callS (As := [.ref (G.2.2 + r1), .int x5]) (rest := [.long y3]) C hR hS mk_X10_isOn cl_X10_129 (k_X10_isOn t_r1 h_q3) ⟨⟨Nat.le_of_ble_eq_true rfl, Nat.le_of_ble_eq_true rfl⟩, ⟨rfl, rfl⟩, Nat.le_of_ble_eq_true rfl, Nat.le_of_ble_eq_true rfl⟩ rfl hl.1 rfl (Nat.le_of_ble_eq_true rfl) dX10_sleptBy_18 (fun H locs hR hS hE1 z_q3 => ?_)
      have z_q3 := z_q3 _ rfl
      refine lv_if_eq (tgt := 44) C.x C.b dX10_sleptBy_21 (by decide) (fun c4 => ?_) (fun c4 => ?_)
      · have hf := it_t hf c4
        exact w_X10_sleptBy_44 C hr hlk hk5 _ _ _ _ _ hf hR hS t_r0 t_r1 (lv_sub hl [0, 1, 2, 4] rfl)
      · have hf := it_f hf c4
        refine lv_iload_n C.x C.b dX10_sleptBy_24 rfl (lv_at hl 2 rfl) ?_
        refine lv_i2l C.x C.b dX10_sleptBy_25 rfl ?_
        refine lv_iload C.x C.b dX10_sleptBy_26 (lv_at hl 4 rfl) ?_
        obtain ⟨q5, h_q5, hf⟩ := bd_e hf
        refine r_callS (As := [.long (x2.toInt64), .int x5]) (rest := [.long y3]) C hR hS mk_X10_has cl_X10_137 (k_X10_has h_q5) ⟨⟨Nat.le_of_ble_eq_true rfl, Nat.le_of_ble_eq_true rfl⟩, ⟨rfl, rfl⟩, Nat.le_of_ble_eq_true rfl, Nat.le_of_ble_eq_true rfl⟩ rfl hl.1 rfl (Nat.le_of_ble_eq_true rfl) dX10_sleptBy_28 (fun H locs hR hS hE1 z_q5 => ?_)
        have z_q5 := z_q5 _ rfl
        refine lv_if_eq (tgt := 44) C.x C.b dX10_sleptBy_31 (by decide) (fun c6 => ?_) (fun c6 => ?_)
        · have hf := it_t hf c6
          exact w_X10_sleptBy_44 C hr hlk hk5 _ _ _ _ _ hf hR hS t_r0 t_r1 (lv_sub hl [0, 1, 2, 4] rfl)
        · have hf := it_f hf c6
          refine lv_aload_n C.x C.b dX10_sleptBy_34 rfl (lv_at hl 0 rfl) ?_
          refine lv_aload_n C.x C.b dX10_sleptBy_35 rfl (lv_at hl 1 rfl) ?_
          refine lv_iload C.x C.b dX10_sleptBy_36 (lv_at hl 4 rfl) ?_
          obtain ⟨q7, h_q7, hf⟩ := bd_e hf
          refine r_callV (As := [.ref (G.2.2 + r1), .int x5]) (rest := [.long y3]) C hR hS t_r0 rfl mk_X10_areaOf cl_X10_141 (k_X10_areaOf t_r0 t_r1 h_q7) ⟨⟨Nat.le_of_ble_eq_true rfl, Nat.le_of_ble_eq_true rfl⟩, ⟨rfl, rfl⟩, Nat.le_of_ble_eq_true rfl, Nat.le_of_ble_eq_true rfl⟩ rfl hl.1 rfl (Nat.le_of_ble_eq_true rfl) dX10_sleptBy_38 (fun H locs hR hS hE1 z_q7 => ?_)
          refine lv_goto (tgt := 45) C.x C.b dX10_sleptBy_41 (by decide) ?_
          exact w_X10_sleptBy_45 C hr hlk hk5 _ _ _ _ _ _ hf hR hS t_r0 t_r1 (lv_sub hl [0, 1, 2, 4] rfl)
set_option maxRecDepth 100000 in
set_option maxHeartbeats 4000000 in
theorem k_X10_sleptBy {G : Gt} {l : Launch}  {h : Hp} {r0 : Nat} {r1 : Nat} {x2 : Int32} {out : Int64} (t_r0 : hpT h r0 = (1, 10)) (t_r1 : (hpT h r1).1 = 2)  (hf : f_X10_sleptBy  h r0 r1 x2 = some out) : Mt G l yX10_sleptBy cX10_sleptBy 6 (some .long) rm_X10_sleptBy [.ref (G.2.2 + r0), .ref (G.2.2 + r1), .int x2] h (some (.long out)) h 0 0 0 := by
  refine r_met (by decide +kernel) (Nat.le_of_ble_eq_true rfl) ?_
  intro p e s m args below meth c ls C hr hlk hnm hR hS hl
  have hl : lv_has ls 6 [(0, .ref (G.2.2 + r0)), (1, .ref (G.2.2 + r1)), (2, .int x2)] := hl
  rw [f_X10_sleptBy] at hf
  refine lv_lconst (v := (0 : Int64)) C.x C.b dX10_sleptBy_0 (by decide) ?_
  refine lv_lstore_n (lv' := [(3, .long (0 : Int64)), (0, .ref (G.2.2 + r0)), (1, .ref (G.2.2 + r1)), (2, .int x2)]) C.x C.b dX10_sleptBy_1 rfl hl (by decide) rfl (fun ls hl => ?_)
  refine lv_iconst (v := (0 : Int32)) C.x C.b dX10_sleptBy_2 (by decide) ?_
  refine lv_istore (lv' := [(5, .int (0 : Int32)), (3, .long (0 : Int64)), (0, .ref (G.2.2 + r0)), (1, .ref (G.2.2 + r1)), (2, .int x2)]) C.x C.b dX10_sleptBy_3 hl (by decide) rfl (fun ls hl => ?_)
  exact w_X10_sleptBy_5 C hr hlk FU _ _ _ _ _ hf hR hS t_r0 t_r1 (lv_sub hl [2, 3, 4, 1, 0] rfl)

def rm_X10_crossing : Room := { frames := 4, cells := 0, slots := 0, locals := 99 }
def P_X10_crossing_77 (G : Gt) (l : Launch) (p : Program) (e : Env) (s : State) (m : MethodId) (args : Array Value) (below : List Frame) (meth : Method) (c : Code) (h : Hp) (out : Int32) (r0 : Nat) (r1 : Nat) (x2 : Int32) (k : Int32 → Int32 → Int32 → Option Int32) : Prop := ∀ (H : Heap) (locs : List Loc) (ls : Array Slot) (s0 : Int32) (s1 : Int32) (x4 : Int32), k s0 s1 x4 = some out → Rel G h H → va_S (AA G.2.2) s.heap H locs → hpT h r0 = (1, 10) → (hpT h r1).1 = 2 → lv_has ls 6 [(0, .ref (G.2.2 + r0)), (1, .ref (G.2.2 + r1)), (2, .int x2), (4, .int x4)] → W p l e rm_X10_crossing s m args below meth c H locs 0 0 (MQ below (Qm G h h (some (.int out)) 0) args s 0 0 (AA G.2.2)) (F0 m 77 ls [.int s1, .int s0])
def P_X10_crossing_76 (G : Gt) (l : Launch) (p : Program) (e : Env) (s : State) (m : MethodId) (args : Array Value) (below : List Frame) (meth : Method) (c : Code) (h : Hp) (out : Int32) (r0 : Nat) (r1 : Nat) (x2 : Int32) (k : Int32 → Int32 → Option Int32) : Prop := ∀ (H : Heap) (locs : List Loc) (ls : Array Slot) (s0 : Int32) (x4 : Int32), k s0 x4 = some out → Rel G h H → va_S (AA G.2.2) s.heap H locs → hpT h r0 = (1, 10) → (hpT h r1).1 = 2 → lv_has ls 6 [(0, .ref (G.2.2 + r0)), (1, .ref (G.2.2 + r1)), (2, .int x2), (4, .int x4)] → W p l e rm_X10_crossing s m args below meth c H locs 0 0 (MQ below (Qm G h h (some (.int out)) 0) args s 0 0 (AA G.2.2)) (F0 m 76 ls [.int s0])
def P_X10_crossing_42 (G : Gt) (l : Launch) (p : Program) (e : Env) (s : State) (m : MethodId) (args : Array Value) (below : List Frame) (meth : Method) (c : Code) (h : Hp) (out : Int32) (r0 : Nat) (r1 : Nat) (x2 : Int32) (k : Int32 → Int32 → Int32 → Option Int32) : Prop := ∀ (H : Heap) (locs : List Loc) (ls : Array Slot) (s0 : Int32) (x3 : Int32) (x4 : Int32), k s0 x3 x4 = some out → Rel G h H → va_S (AA G.2.2) s.heap H locs → hpT h r0 = (1, 10) → (hpT h r1).1 = 2 → narrow .boolean (.int s0) = .int s0 → lv_has ls 6 [(0, .ref (G.2.2 + r0)), (1, .ref (G.2.2 + r1)), (2, .int x2), (3, .int x3), (4, .int x4)] → W p l e rm_X10_crossing s m args below meth c H locs 0 0 (MQ below (Qm G h h (some (.int out)) 0) args s 0 0 (AA G.2.2)) (F0 m 42 ls [.int s0])
def P_X10_crossing_41 (G : Gt) (l : Launch) (p : Program) (e : Env) (s : State) (m : MethodId) (args : Array Value) (below : List Frame) (meth : Method) (c : Code) (h : Hp) (out : Int32) (r0 : Nat) (r1 : Nat) (x2 : Int32) (k : Int32 → Int32 → Option Int32) : Prop := ∀ (H : Heap) (locs : List Loc) (ls : Array Slot) (x3 : Int32) (x4 : Int32), k x3 x4 = some out → Rel G h H → va_S (AA G.2.2) s.heap H locs → hpT h r0 = (1, 10) → (hpT h r1).1 = 2 → lv_has ls 6 [(0, .ref (G.2.2 + r0)), (1, .ref (G.2.2 + r1)), (2, .int x2), (3, .int x3), (4, .int x4)] → W p l e rm_X10_crossing s m args below meth c H locs 0 0 (MQ below (Qm G h h (some (.int out)) 0) args s 0 0 (AA G.2.2)) (F0 m 41 ls [])
def P_X10_crossing_5 (G : Gt) (l : Launch) (p : Program) (e : Env) (s : State) (m : MethodId) (args : Array Value) (below : List Frame) (meth : Method) (c : Code) (h : Hp) (out : Int32) (r0 : Nat) (r1 : Nat) (x2 : Int32) (k : Int32 → Int32 → Option Int32) : Prop := ∀ (H : Heap) (locs : List Loc) (ls : Array Slot) (x3 : Int32) (x4 : Int32), k x3 x4 = some out → Rel G h H → va_S (AA G.2.2) s.heap H locs → hpT h r0 = (1, 10) → (hpT h r1).1 = 2 → lv_has ls 6 [(0, .ref (G.2.2 + r0)), (1, .ref (G.2.2 + r1)), (2, .int x2), (3, .int x3), (4, .int x4)] → W p l e rm_X10_crossing s m args below meth c H locs 0 0 (MQ below (Qm G h h (some (.int out)) 0) args s 0 0 (AA G.2.2)) (F0 m 5 ls [])
set_option maxRecDepth 100000 in
set_option maxHeartbeats 4000000 in
theorem w_X10_crossing_77 {G : Gt} {l : Launch} {p : Program} {e : Env} {s : State} {m : MethodId} {args : Array Value} {below : List Frame} {meth : Method} {c : Code}  {h : Hp} {out : Int32} {r0 : Nat} {r1 : Nat} {x2 : Int32} {k5 : Int32 → Int32 → Option Int32} (C : Cx G p m c cX10_crossing 6 s args RX10) (hr : meth.sig.returnType = some .int) (hlk : meth.locks = false)  (hk5 : P_X10_crossing_5 G l p e s m args below meth c h out r0 r1 x2 k5) : P_X10_crossing_77 G l p e s m args below meth c h out r0 r1 x2 (f_X10_crossing_77 h r0 r1 x2 k5) := by
  intro H locs ls s0 s1 x4 hf hR hS t_r0 t_r1 hl
  rw [f_X10_crossing_77] at hf
  refine lv_ior C.x C.b dX10_crossing_77 ?_
  refine lv_topi (fun v13 e_v13 => ?_)
  have hf := lt_e hf e_v13
  refine lv_istore_n (lv' := [(3, .int v13), (0, .ref (G.2.2 + r0)), (1, .ref (G.2.2 + r1)), (2, .int x2), (4, .int x4)]) C.x C.b dX10_crossing_78 rfl hl (by decide) rfl (fun ls hl => ?_)
  obtain ⟨v14, e_v14⟩ : ∃ y : Int32, y = x4 + (1 : Int32) := ⟨_, rfl⟩
  have hf := lt_e hf e_v14
  refine lv_iinc (v := v14) (lv' := [(4, .int v14), (3, .int v13), (0, .ref (G.2.2 + r0)), (1, .ref (G.2.2 + r1)), (2, .int x2)]) C.x C.b dX10_crossing_79 hl (k := 4) rfl (by rw [e_v14]; rfl) (by decide) rfl (fun ls hl => ?_)
  refine lv_goto (tgt := 5) C.x C.b dX10_crossing_82 (by decide) ?_
  exact hk5 _ _ _ _ _ hf hR hS t_r0 t_r1 (lv_sub hl [2, 3, 4, 1, 0] rfl)
set_option maxRecDepth 100000 in
set_option maxHeartbeats 4000000 in
theorem w_X10_crossing_76 {G : Gt} {l : Launch} {p : Program} {e : Env} {s : State} {m : MethodId} {args : Array Value} {below : List Frame} {meth : Method} {c : Code}  {h : Hp} {out : Int32} {r0 : Nat} {r1 : Nat} {x2 : Int32} {k5 : Int32 → Int32 → Option Int32} (C : Cx G p m c cX10_crossing 6 s args RX10) (hr : meth.sig.returnType = some .int) (hlk : meth.locks = false)  (hk5 : P_X10_crossing_5 G l p e s m args below meth c h out r0 r1 x2 k5) : P_X10_crossing_76 G l p e s m args below meth c h out r0 r1 x2 (f_X10_crossing_76 h r0 r1 x2 k5) := by
  intro H locs ls s0 x4 hf hR hS t_r0 t_r1 hl
  rw [f_X10_crossing_76] at hf
  refine lv_iconst (v := (0 : Int32)) C.x C.b dX10_crossing_76 (by decide) ?_
  exact w_X10_crossing_77 C hr hlk hk5 _ _ _ _ _ _ hf hR hS t_r0 t_r1 (lv_sub hl [0, 1, 2, 3] rfl)
set_option maxRecDepth 100000 in
set_option maxHeartbeats 4000000 in
theorem w_X10_crossing_42 {G : Gt} {l : Launch} {p : Program} {e : Env} {s : State} {m : MethodId} {args : Array Value} {below : List Frame} {meth : Method} {c : Code}  {h : Hp} {out : Int32} {r0 : Nat} {r1 : Nat} {x2 : Int32} {k5 : Int32 → Int32 → Option Int32} (C : Cx G p m c cX10_crossing 6 s args RX10) (hr : meth.sig.returnType = some .int) (hlk : meth.locks = false)  (hk5 : P_X10_crossing_5 G l p e s m args below meth c h out r0 r1 x2 k5) : P_X10_crossing_42 G l p e s m args below meth c h out r0 r1 x2 (f_X10_crossing_42 h r0 r1 x2 k5) := by
  intro H locs ls s0 x3 x4 hf hR hS t_r0 t_r1 z_s0 hl
  rw [f_X10_crossing_42] at hf
  refine lv_istore (lv' := [(5, .int s0), (0, .ref (G.2.2 + r0)), (1, .ref (G.2.2 + r1)), (2, .int x2), (3, .int x3), (4, .int x4)]) C.x C.b dX10_crossing_42 hl (by decide) rfl (fun ls hl => ?_)
  refine lv_iload_n C.x C.b dX10_crossing_44 rfl (lv_at hl 4 rfl) ?_
  refine lv_iload C.x C.b dX10_crossing_45 (lv_at hl 0 rfl) ?_
  refine lv_if_eq (tgt := 76) C.x C.b dX10_crossing_47 (by decide) (fun c8 => ?_) (fun c8 => ?_)
  · have hf := it_t hf c8
    exact w_X10_crossing_76 C hr hlk hk5 _ _ _ _ _ hf hR hS t_r0 t_r1 (lv_sub hl [1, 2, 3, 5] rfl)
  · have hf := it_f hf c8
    refine lv_aload_n C.x C.b dX10_crossing_50 rfl (lv_at hl 1 rfl) ?_
    refine lv_aload_n C.x C.b dX10_crossing_51 rfl (lv_at hl 2 rfl) ?_
    refine lv_iload C.x C.b dX10_crossing_52 (lv_at hl 5 rfl) ?_
    obtain ⟨q9, h_q9, hf⟩ := bd_e hf
    refine r_callV (As := [.ref (G.2.2 + r1), .int x4]) (rest := [.int x3]) C hR hS t_r0 rfl mk_X10_areaOf cl_X10_141 (k_X10_areaOf t_r0 t_r1 h_q9) ⟨⟨Nat.le_of_ble_eq_true rfl, Nat.le_of_ble_eq_true rfl⟩, ⟨rfl, rfl⟩, Nat.le_of_ble_eq_true rfl, Nat.le_of_ble_eq_true rfl⟩ rfl hl.1 rfl (Nat.le_of_ble_eq_true rfl) dX10_crossing_54 (fun H locs hR hS hE1 z_q9 => ?_)
    refine lv_aload_n C.x C.b dX10_crossing_57 rfl (lv_at hl 1 rfl) ?_
    refine lv_aload_n C.x C.b dX10_crossing_58 rfl (lv_at hl 2 rfl) ?_
    refine lv_iload_n C.x C.b dX10_crossing_59 rfl (lv_at hl 3 rfl) ?_
    obtain ⟨q10, h_q10, hf⟩ := bd_e hf
    refine r_callV (As := [.ref (G.2.2 + r1), .int x2]) (rest := [.long q9, .int x3]) C hR hS t_r0 rfl mk_X10_areaOf cl_X10_141 (k_X10_areaOf t_r0 t_r1 h_q10) ⟨⟨Nat.le_of_ble_eq_true rfl, Nat.le_of_ble_eq_true rfl⟩, ⟨rfl, rfl⟩, Nat.le_of_ble_eq_true rfl, Nat.le_of_ble_eq_true rfl⟩ rfl hl.1 rfl (Nat.le_of_ble_eq_true rfl) dX10_crossing_60 (fun H locs hR hS hE1 z_q10 => ?_)
    refine lv_land C.x C.b dX10_crossing_63 ?_
    refine lv_lconst (v := (0 : Int64)) C.x C.b dX10_crossing_64 (by decide) ?_
    refine W.lcmp C.x C.b dX10_crossing_65 ?_
    refine lv_if_eq (tgt := 76) C.x C.b dX10_crossing_66 (by decide) (fun c11 => ?_) (fun c11 => ?_)
    · have hf := it_t hf c11
      exact w_X10_crossing_76 C hr hlk hk5 _ _ _ _ _ hf hR hS t_r0 t_r1 (lv_sub hl [1, 2, 3, 5] rfl)
    · have hf := it_f hf c11
      refine lv_iconst (v := (1 : Int32)) C.x C.b dX10_crossing_69 (by decide) ?_
      refine lv_iload C.x C.b dX10_crossing_70 (lv_at hl 5 rfl) ?_
      refine lv_ishl C.x C.b dX10_crossing_72 ?_
      refine lv_topi (fun v12 e_v12 => ?_)
      have hf := lt_e hf e_v12
      refine lv_goto (tgt := 77) C.x C.b dX10_crossing_73 (by decide) ?_
      exact w_X10_crossing_77 C hr hlk hk5 _ _ _ _ _ _ hf hR hS t_r0 t_r1 (lv_sub hl [1, 2, 3, 5] rfl)
set_option maxRecDepth 100000 in
set_option maxHeartbeats 4000000 in
theorem w_X10_crossing_41 {G : Gt} {l : Launch} {p : Program} {e : Env} {s : State} {m : MethodId} {args : Array Value} {below : List Frame} {meth : Method} {c : Code}  {h : Hp} {out : Int32} {r0 : Nat} {r1 : Nat} {x2 : Int32} {k5 : Int32 → Int32 → Option Int32} (C : Cx G p m c cX10_crossing 6 s args RX10) (hr : meth.sig.returnType = some .int) (hlk : meth.locks = false)  (hk5 : P_X10_crossing_5 G l p e s m args below meth c h out r0 r1 x2 k5) : P_X10_crossing_41 G l p e s m args below meth c h out r0 r1 x2 (f_X10_crossing_41 h r0 r1 x2 k5) := by
  intro H locs ls x3 x4 hf hR hS t_r0 t_r1 hl
  rw [f_X10_crossing_41] at hf
  refine lv_iconst (v := (0 : Int32)) C.x C.b dX10_crossing_41 (by decide) ?_
  exact w_X10_crossing_42 C hr hlk hk5 _ _ _ _ _ _ hf hR hS t_r0 t_r1 z_0 (lv_sub hl [0, 1, 2, 3, 4] rfl)
set_option maxRecDepth 100000 in
set_option maxHeartbeats 4000000 in
theorem w_X10_crossing_5 {G : Gt} {l : Launch} {p : Program} {e : Env} {s : State} {m : MethodId} {args : Array Value} {below : List Frame} {meth : Method} {c : Code}  {h : Hp} {out : Int32} {r0 : Nat} {r1 : Nat} {x2 : Int32}  (C : Cx G p m c cX10_crossing 6 s args RX10) (hr : meth.sig.returnType = some .int) (hlk : meth.locks = false)   (n : Nat) : P_X10_crossing_5 G l p e s m args below meth c h out r0 r1 x2 (f_X10_crossing_5 h r0 r1 x2 n) := by
  induction n with
  | zero => intro H locs ls x3 x4 hf hR hS t_r0 t_r1 hl; cases hf
  | succ n hk5 =>
    intro H locs ls x3 x4 hf hR hS t_r0 t_r1 hl
    rw [f_X10_crossing_5] at hf
    obtain ⟨k5, e_k5⟩ : ∃ y, y = f_X10_crossing_5 h r0 r1 x2 n := ⟨_, rfl⟩
    have hf := lt_e hf e_k5
    rw [← e_k5] at hk5
    refine lv_iload C.x C.b dX10_crossing_5 (lv_at hl 4 rfl) ?_
    refine lv_aload_n C.x C.b dX10_crossing_7 rfl (lv_at hl 1 rfl) ?_
    refine lv_bipush (v := (48 : Int32)) C.x C.b dX10_crossing_8 (by decide) ?_
    obtain ⟨g1, hf⟩ := gd_e hf
    refine r_iald C hR t_r1 g1 dX10_crossing_10 ?_
    refine lv_icmp_ge (tgt := 85) C.x C.b dX10_crossing_11 (by decide) (fun c2 => ?_) (fun c2 => ?_)
    · have hf := it_t hf c2
      refine lv_iload_n C.x C.b dX10_crossing_85 rfl (lv_at hl 3 rfl) ?_
      have hf := so_e hf
      subst hf
      exact r_iret C hr hlk hR Ext.rf hS dX10_crossing_86
    · have hf := it_f hf c2
      refine lv_iload C.x C.b dX10_crossing_14 (lv_at hl 4 rfl) ?_
      refine lv_iload_n C.x C.b dX10_crossing_16 rfl (lv_at hl 2 rfl) ?_
      refine lv_icmp_eq (tgt := 41) C.x C.b dX10_crossing_17 (by decide) (fun c3 => ?_) (fun c3 => ?_)
      · have hf := it_t hf c3
        exact w_X10_crossing_41 C hr hlk hk5 _ _ _ _ _ hf hR hS t_r0 t_r1 (lv_sub hl [0, 1, 2, 3, 4] rfl)
      · have hf := it_f hf c3
        refine lv_aload_n C.x C.b dX10_crossing_20 rfl (lv_at hl 1 rfl) ?_
        refine lv_iload C.x C.b dX10_crossing_21 (lv_at hl 4 rfl) ?_
        obtain ⟨q4, h_q4, hf⟩ := bd_e hf
        refine r_callS (As := [.ref (G.2.2 + r1), .int x4]) (rest := []) C hR hS mk_X10_isOn cl_X10_129 (k_X10_isOn t_r1 h_q4) ⟨⟨Nat.le_of_ble_eq_true rfl, Nat.le_of_ble_eq_true rfl⟩, ⟨rfl, rfl⟩, Nat.le_of_ble_eq_true rfl, Nat.le_of_ble_eq_true rfl⟩ rfl hl.1 rfl (Nat.le_of_ble_eq_true rfl) dX10_crossing_23 (fun H locs hR hS hE1 z_q4 => ?_)
        have z_q4 := z_q4 _ rfl
        refine lv_if_eq (tgt := 41) C.x C.b dX10_crossing_26 (by decide) (fun c5 => ?_) (fun c5 => ?_)
        · have hf := it_t hf c5
          exact w_X10_crossing_41 C hr hlk hk5 _ _ _ _ _ hf hR hS t_r0 t_r1 (lv_sub hl [0, 1, 2, 3, 4] rfl)
        · have hf := it_f hf c5
          refine lv_aload_n C.x C.b dX10_crossing_29 rfl (lv_at hl 1 rfl) ?_
          refine lv_iload_n C.x C.b dX10_crossing_30 rfl (lv_at hl 2 rfl) ?_
          obtain ⟨q6, h_q6, hf⟩ := bd_e hf
          refine r_callS (As := [.ref (G.2.2 + r1), .int x2]) (rest := []) C hR hS mk_X10_isOn cl_X10_129 (k_X10_isOn t_r1 h_q6) ⟨⟨Nat.le_of_ble_eq_true rfl, Nat.le_of_ble_eq_true rfl⟩, ⟨rfl, rfl⟩, Nat.le_of_ble_eq_true rfl, Nat.le_of_ble_eq_true rfl⟩ rfl hl.1 rfl (Nat.le_of_ble_eq_true rfl) dX10_crossing_31 (fun H locs hR hS hE1 z_q6 => ?_)
          have z_q6 := z_q6 _ rfl
          refine lv_if_eq (tgt := 41) C.x C.b dX10_crossing_34 (by decide) (fun c7 => ?_) (fun c7 => ?_)
          · have hf := it_t hf c7
            exact w_X10_crossing_41 C hr hlk hk5 _ _ _ _ _ hf hR hS t_r0 t_r1 (lv_sub hl [0, 1, 2, 3, 4] rfl)
          · have hf := it_f hf c7
            refine lv_iconst (v := (1 : Int32)) C.x C.b dX10_crossing_37 (by decide) ?_
            refine lv_goto (tgt := 42) C.x C.b dX10_crossing_38 (by decide) ?_
            exact w_X10_crossing_42 C hr hlk hk5 _ _ _ _ _ _ hf hR hS t_r0 t_r1 z_1 (lv_sub hl [0, 1, 2, 3, 4] rfl)
set_option maxRecDepth 100000 in
set_option maxHeartbeats 4000000 in
theorem k_X10_crossing {G : Gt} {l : Launch}  {h : Hp} {r0 : Nat} {r1 : Nat} {x2 : Int32} {out : Int32} (t_r0 : hpT h r0 = (1, 10)) (t_r1 : (hpT h r1).1 = 2)  (hf : f_X10_crossing  h r0 r1 x2 = some out) : Mt G l yX10_crossing cX10_crossing 6 (some .int) rm_X10_crossing [.ref (G.2.2 + r0), .ref (G.2.2 + r1), .int x2] h (some (.int out)) h 0 0 0 := by
  refine r_met (by decide +kernel) (Nat.le_of_ble_eq_true rfl) ?_
  intro p e s m args below meth c ls C hr hlk hnm hR hS hl
  have hl : lv_has ls 6 [(0, .ref (G.2.2 + r0)), (1, .ref (G.2.2 + r1)), (2, .int x2)] := hl
  rw [f_X10_crossing] at hf
  refine lv_iconst (v := (0 : Int32)) C.x C.b dX10_crossing_0 (by decide) ?_
  refine lv_istore_n (lv' := [(3, .int (0 : Int32)), (0, .ref (G.2.2 + r0)), (1, .ref (G.2.2 + r1)), (2, .int x2)]) C.x C.b dX10_crossing_1 rfl hl (by decide) rfl (fun ls hl => ?_)
  refine lv_iconst (v := (0 : Int32)) C.x C.b dX10_crossing_2 (by decide) ?_
  refine lv_istore (lv' := [(4, .int (0 : Int32)), (3, .int (0 : Int32)), (0, .ref (G.2.2 + r0)), (1, .ref (G.2.2 + r1)), (2, .int x2)]) C.x C.b dX10_crossing_3 hl (by decide) rfl (fun ls hl => ?_)
  exact w_X10_crossing_5 C hr hlk FU _ _ _ _ _ hf hR hS t_r0 t_r1 (lv_sub hl [2, 3, 4, 1, 0] rfl)

def rm_X10_strengthOn : Room := { frames := 3, cells := 0, slots := 0, locals := 74 }
def P_X10_strengthOn_37 (G : Gt) (l : Launch) (p : Program) (e : Env) (s : State) (m : MethodId) (args : Array Value) (below : List Frame) (meth : Method) (c : Code) (h : Hp) (out : Int32) (r0 : Nat) (r1 : Nat) (x2 : Int32) (k : Int32 → Int32 → Int32 → Option Int32) : Prop := ∀ (H : Heap) (locs : List Loc) (ls : Array Slot) (s0 : Int32) (s1 : Int32) (x4 : Int32), k s0 s1 x4 = some out → Rel G h H → va_S (AA G.2.2) s.heap H locs → hpT h r0 = (1, 10) → (hpT h r1).1 = 2 → lv_has ls 5 [(0, .ref (G.2.2 + r0)), (1, .ref (G.2.2 + r1)), (2, .int x2), (4, .int x4)] → W p l e rm_X10_strengthOn s m args below meth c H locs 0 0 (MQ below (Qm G h h (some (.int out)) 0) args s 0 0 (AA G.2.2)) (F0 m 37 ls [.int s1, .int s0])
def P_X10_strengthOn_5 (G : Gt) (l : Launch) (p : Program) (e : Env) (s : State) (m : MethodId) (args : Array Value) (below : List Frame) (meth : Method) (c : Code) (h : Hp) (out : Int32) (r0 : Nat) (r1 : Nat) (x2 : Int32) (k : Int32 → Int32 → Option Int32) : Prop := ∀ (H : Heap) (locs : List Loc) (ls : Array Slot) (x3 : Int32) (x4 : Int32), k x3 x4 = some out → Rel G h H → va_S (AA G.2.2) s.heap H locs → hpT h r0 = (1, 10) → (hpT h r1).1 = 2 → lv_has ls 5 [(0, .ref (G.2.2 + r0)), (1, .ref (G.2.2 + r1)), (2, .int x2), (3, .int x3), (4, .int x4)] → W p l e rm_X10_strengthOn s m args below meth c H locs 0 0 (MQ below (Qm G h h (some (.int out)) 0) args s 0 0 (AA G.2.2)) (F0 m 5 ls [])
set_option maxRecDepth 100000 in
set_option maxHeartbeats 4000000 in
theorem w_X10_strengthOn_37 {G : Gt} {l : Launch} {p : Program} {e : Env} {s : State} {m : MethodId} {args : Array Value} {below : List Frame} {meth : Method} {c : Code}  {h : Hp} {out : Int32} {r0 : Nat} {r1 : Nat} {x2 : Int32} {k5 : Int32 → Int32 → Option Int32} (C : Cx G p m c cX10_strengthOn 5 s args RX10) (hr : meth.sig.returnType = some .int) (hlk : meth.locks = false)  (hk5 : P_X10_strengthOn_5 G l p e s m args below meth c h out r0 r1 x2 k5) : P_X10_strengthOn_37 G l p e s m args below meth c h out r0 r1 x2 (f_X10_strengthOn_37 h r0 r1 x2 k5) := by
  intro H locs ls s0 s1 x4 hf hR hS t_r0 t_r1 hl
  rw [f_X10_strengthOn_37] at hf
  refine lv_iadd C.x C.b dX10_strengthOn_37 ?_
  refine lv_topi (fun v6 e_v6 => ?_)
  have hf := lt_e hf e_v6
  refine lv_istore_n (lv' := [(3, .int v6), (0, .ref (G.2.2 + r0)), (1, .ref (G.2.2 + r1)), (2, .int x2), (4, .int x4)]) C.x C.b dX10_strengthOn_38 rfl hl (by decide) rfl (fun ls hl => ?_)
  obtain ⟨v7, e_v7⟩ : ∃ y : Int32, y = x4 + (1 : Int32) := ⟨_, rfl⟩
  have hf := lt_e hf e_v7
  refine lv_iinc (v := v7) (lv' := [(4, .int v7), (3, .int v6), (0, .ref (G.2.2 + r0)), (1, .ref (G.2.2 + r1)), (2, .int x2)]) C.x C.b dX10_strengthOn_39 hl (k := 4) rfl (by rw [e_v7]; rfl) (by decide) rfl (fun ls hl => ?_)
  refine lv_goto (tgt := 5) C.x C.b dX10_strengthOn_42 (by decide) ?_
  exact hk5 _ _ _ _ _ hf hR hS t_r0 t_r1 (lv_sub hl [2, 3, 4, 1, 0] rfl)
set_option maxRecDepth 100000 in
set_option maxHeartbeats 4000000 in
theorem w_X10_strengthOn_5 {G : Gt} {l : Launch} {p : Program} {e : Env} {s : State} {m : MethodId} {args : Array Value} {below : List Frame} {meth : Method} {c : Code}  {h : Hp} {out : Int32} {r0 : Nat} {r1 : Nat} {x2 : Int32}  (C : Cx G p m c cX10_strengthOn 5 s args RX10) (hr : meth.sig.returnType = some .int) (hlk : meth.locks = false)   (n : Nat) : P_X10_strengthOn_5 G l p e s m args below meth c h out r0 r1 x2 (f_X10_strengthOn_5 h r0 r1 x2 n) := by
  induction n with
  | zero => intro H locs ls x3 x4 hf hR hS t_r0 t_r1 hl; cases hf
  | succ n hk5 =>
    intro H locs ls x3 x4 hf hR hS t_r0 t_r1 hl
    rw [f_X10_strengthOn_5] at hf
    obtain ⟨k5, e_k5⟩ : ∃ y, y = f_X10_strengthOn_5 h r0 r1 x2 n := ⟨_, rfl⟩
    have hf := lt_e hf e_k5
    rw [← e_k5] at hk5
    refine lv_iload C.x C.b dX10_strengthOn_5 (lv_at hl 4 rfl) ?_
    refine lv_aload_n C.x C.b dX10_strengthOn_7 rfl (lv_at hl 1 rfl) ?_
    refine lv_bipush (v := (48 : Int32)) C.x C.b dX10_strengthOn_8 (by decide) ?_
    obtain ⟨g1, hf⟩ := gd_e hf
    refine r_iald C hR t_r1 g1 dX10_strengthOn_10 ?_
    refine lv_icmp_ge (tgt := 45) C.x C.b dX10_strengthOn_11 (by decide) (fun c2 => ?_) (fun c2 => ?_)
    · have hf := it_t hf c2
      refine lv_iload_n C.x C.b dX10_strengthOn_45 rfl (lv_at hl 3 rfl) ?_
      have hf := so_e hf
      subst hf
      exact r_iret C hr hlk hR Ext.rf hS dX10_strengthOn_46
    · have hf := it_f hf c2
      refine lv_iload_n C.x C.b dX10_strengthOn_14 rfl (lv_at hl 3 rfl) ?_
      refine lv_aload_n C.x C.b dX10_strengthOn_15 rfl (lv_at hl 0 rfl) ?_
      refine lv_aload_n C.x C.b dX10_strengthOn_16 rfl (lv_at hl 1 rfl) ?_
      refine lv_iload C.x C.b dX10_strengthOn_17 (lv_at hl 4 rfl) ?_
      refine lv_iload_n C.x C.b dX10_strengthOn_19 rfl (lv_at hl 2 rfl) ?_
      obtain ⟨q3, h_q3, hf⟩ := bd_e hf
      refine r_callV (As := [.ref (G.2.2 + r1), .int x4, .int x2]) (rest := [.int x3]) C hR hS t_r0 rfl mk_X10_isLyingOver cl_X10_133 (k_X10_isLyingOver t_r0 t_r1 h_q3) ⟨⟨Nat.le_of_ble_eq_true rfl, Nat.le_of_ble_eq_true rfl⟩, ⟨rfl, rfl⟩, Nat.le_of_ble_eq_true rfl, Nat.le_of_ble_eq_true rfl⟩ rfl hl.1 rfl (Nat.le_of_ble_eq_true rfl) dX10_strengthOn_20 (fun H locs hR hS hE1 z_q3 => ?_)
      have z_q3 := z_q3 _ rfl
      refine lv_if_eq (tgt := 36) C.x C.b dX10_strengthOn_23 (by decide) (fun c4 => ?_) (fun c4 => ?_)
      · have hf := it_t hf c4
        refine lv_iconst (v := (0 : Int32)) C.x C.b dX10_strengthOn_36 (by decide) ?_
        exact w_X10_strengthOn_37 C hr hlk hk5 _ _ _ _ _ _ hf hR hS t_r0 t_r1 (lv_sub hl [0, 1, 2, 4] rfl)
      · have hf := it_f hf c4
        refine lv_aload_n C.x C.b dX10_strengthOn_26 rfl (lv_at hl 1 rfl) ?_
        refine lv_bipush (v := (24 : Int32)) C.x C.b dX10_strengthOn_27 (by decide) ?_
        refine lv_iload C.x C.b dX10_strengthOn_29 (lv_at hl 4 rfl) ?_
        refine lv_iadd C.x C.b dX10_strengthOn_31 ?_
        obtain ⟨g5, hf⟩ := gd_e hf
        refine r_iald C hR t_r1 g5 dX10_strengthOn_32 ?_
        refine lv_goto (tgt := 37) C.x C.b dX10_strengthOn_33 (by decide) ?_
        exact w_X10_strengthOn_37 C hr hlk hk5 _ _ _ _ _ _ hf hR hS t_r0 t_r1 (lv_sub hl [0, 1, 2, 4] rfl)
set_option maxRecDepth 100000 in
set_option maxHeartbeats 4000000 in
theorem k_X10_strengthOn {G : Gt} {l : Launch}  {h : Hp} {r0 : Nat} {r1 : Nat} {x2 : Int32} {out : Int32} (t_r0 : hpT h r0 = (1, 10)) (t_r1 : (hpT h r1).1 = 2)  (hf : f_X10_strengthOn  h r0 r1 x2 = some out) : Mt G l yX10_strengthOn cX10_strengthOn 5 (some .int) rm_X10_strengthOn [.ref (G.2.2 + r0), .ref (G.2.2 + r1), .int x2] h (some (.int out)) h 0 0 0 := by
  refine r_met (by decide +kernel) (Nat.le_of_ble_eq_true rfl) ?_
  intro p e s m args below meth c ls C hr hlk hnm hR hS hl
  have hl : lv_has ls 5 [(0, .ref (G.2.2 + r0)), (1, .ref (G.2.2 + r1)), (2, .int x2)] := hl
  rw [f_X10_strengthOn] at hf
  refine lv_iconst (v := (0 : Int32)) C.x C.b dX10_strengthOn_0 (by decide) ?_
  refine lv_istore_n (lv' := [(3, .int (0 : Int32)), (0, .ref (G.2.2 + r0)), (1, .ref (G.2.2 + r1)), (2, .int x2)]) C.x C.b dX10_strengthOn_1 rfl hl (by decide) rfl (fun ls hl => ?_)
  refine lv_iconst (v := (0 : Int32)) C.x C.b dX10_strengthOn_2 (by decide) ?_
  refine lv_istore (lv' := [(4, .int (0 : Int32)), (3, .int (0 : Int32)), (0, .ref (G.2.2 + r0)), (1, .ref (G.2.2 + r1)), (2, .int x2)]) C.x C.b dX10_strengthOn_3 hl (by decide) rfl (fun ls hl => ?_)
  exact w_X10_strengthOn_5 C hr hlk FU _ _ _ _ _ hf hR hS t_r0 t_r1 (lv_sub hl [2, 3, 4, 1, 0] rfl)

def rm_X10_sign : Room := { frames := 0, cells := 0, slots := 0, locals := 0 }
def P_X10_sign_18 (G : Gt) (l : Launch) (p : Program) (e : Env) (s : State) (m : MethodId) (args : Array Value) (below : List Frame) (meth : Method) (c : Code) (h0 : Hp) (out : (Int32 × Hp)) (r0 : Nat) (x1 : Int32) (k : Hp → Int32 → Option (Int32 × Hp)) : Prop := ∀ (H : Heap) (locs : List Loc) (ls : Array Slot) (h : Hp) (x2 : Int32), k h x2 = some out → Ext h0 h → Rel G h H → va_S (AA G.2.2) s.heap H locs → hpT h r0 = (1, 10) → lv_has ls 3 [(0, .ref (G.2.2 + r0)), (1, .int x1), (2, .int x2)] → W p l e rm_X10_sign s m args below meth c H locs 0 0 (MQ below (Qm G h0 out.2 (some (.int out.1)) 0) args s 0 0 (AA G.2.2)) (F0 m 18 ls [])
set_option maxRecDepth 100000 in
set_option maxHeartbeats 4000000 in
theorem w_X10_sign_18 {G : Gt} {l : Launch} {p : Program} {e : Env} {s : State} {m : MethodId} {args : Array Value} {below : List Frame} {meth : Method} {c : Code}  {h0 : Hp} {out : (Int32 × Hp)} {r0 : Nat} {x1 : Int32}  (C : Cx G p m c cX10_sign 3 s args RX10) (hr : meth.sig.returnType = some .int) (hlk : meth.locks = false)   (n : Nat) : P_X10_sign_18 G l p e s m args below meth c h0 out r0 x1 (f_X10_sign_18 r0 x1 n) := by
  induction n with
  | zero => intro H locs ls h x2 hf hE hR hS t_r0 hl; cases hf
  | succ n hk18 =>
    intro H locs ls h x2 hf hE hR hS t_r0 hl
    rw [f_X10_sign_18] at hf
    obtain ⟨k18, e_k18⟩ : ∃ y, y = f_X10_sign_18 r0 x1 n := ⟨_, rfl⟩
    have hf := lt_e hf e_k18
    rw [← e_k18] at hk18
    refine lv_iload_n C.x C.b dX10_sign_18 rfl (lv_at hl 2 rfl) ?_
    refine lv_iconst (v := (4 : Int32)) C.x C.b dX10_sign_19 (by decide) ?_
    refine lv_icmp_ge (tgt := 53) C.x C.b dX10_sign_20 (by decide) (fun c3 => ?_) (fun c3 => ?_)
    · have hf := it_t hf c3
      refine lv_aload_n C.x C.b dX10_sign_53 rfl (lv_at hl 0 rfl) ?_
      refine lv_dup C.x C.b dX10_sign_54 rfl ?_
      refine r_geti C hR t_r0 fl_X10_145 rfl dX10_sign_55 ?_
      refine lv_iconst (v := (4 : Int32)) C.x C.b dX10_sign_58 (by decide) ?_
      refine lv_iadd C.x C.b dX10_sign_59 ?_
      refine r_puti C hR hS t_r0 fl_X10_145 fp_X10_10_9 rfl dX10_sign_60 (fun H locs hR hS => ?_)
      obtain ⟨h4, e_h4⟩ : ∃ y, y = upI h r0 9 ((hpI h r0 9) + (4 : Int32)) := ⟨_, rfl⟩
      rw [← e_h4] at hR
      have hf := lt_e hf e_h4
      have hE := eI e_h4 hE
      have t_r0 := tI e_h4 t_r0
      refine lv_aload_n C.x C.b dX10_sign_63 rfl (lv_at hl 0 rfl) ?_
      refine r_geti C hR t_r0 fl_X10_145 rfl dX10_sign_64 ?_
      have hf := so_e hf
      subst hf
      exact r_iret C hr hlk hR hE hS dX10_sign_67
    · have hf := it_f hf c3
      refine lv_aload_n C.x C.b dX10_sign_23 rfl (lv_at hl 0 rfl) ?_
      obtain ⟨g5, hf⟩ := gd_e hf
      refine r_getr C hR t_r0 fl_X10_27 (by decide) (nz_e g5) dX10_sign_24 (fun tq6 => ?_)
      have tg5 := okA tq6 rfl
      refine lv_aload_n C.x C.b dX10_sign_27 rfl (lv_at hl 0 rfl) ?_
      refine r_geti C hR t_r0 fl_X10_145 rfl dX10_sign_28 ?_
      refine lv_iload_n C.x C.b dX10_sign_31 rfl (lv_at hl 2 rfl) ?_
      refine lv_iadd C.x C.b dX10_sign_32 ?_
      refine lv_iload_n C.x C.b dX10_sign_33 rfl (lv_at hl 1 rfl) ?_
      refine lv_bipush (v := (24 : Int32)) C.x C.b dX10_sign_34 (by decide) ?_
      refine lv_bipush (v := (8 : Int32)) C.x C.b dX10_sign_36 (by decide) ?_
      refine lv_iload_n C.x C.b dX10_sign_38 rfl (lv_at hl 2 rfl) ?_
      refine lv_imul C.x C.b dX10_sign_39 ?_
      refine lv_isub C.x C.b dX10_sign_40 ?_
      refine lv_ishr C.x C.b dX10_sign_41 ?_
      refine lv_topi (fun v7 e_v7 => ?_)
      have hf := lt_e hf e_v7
      refine lv_sipush (v := (255 : Int32)) C.x C.b dX10_sign_42 (by decide) ?_
      refine lv_iand C.x C.b dX10_sign_45 ?_
      obtain ⟨g8, hf⟩ := gd_e hf
      refine r_iast C hR hS tg5 g8 dX10_sign_46 (fun H locs hR hS => ?_)
      obtain ⟨h9, e_h9⟩ : ∃ y, y = upI h (hpR h r0 8) (ix ((hpI h r0 9) + x2)) (v7 &&& (255 : Int32)) := ⟨_, rfl⟩
      rw [← e_h9] at hR
      have hf := lt_e hf e_h9
      have hE := eI e_h9 hE
      have t_r0 := tI e_h9 t_r0
      obtain ⟨v10, e_v10⟩ : ∃ y : Int32, y = x2 + (1 : Int32) := ⟨_, rfl⟩
      have hf := lt_e hf e_v10
      refine lv_iinc (v := v10) (lv' := [(2, .int v10), (0, .ref (G.2.2 + r0)), (1, .int x1)]) C.x C.b dX10_sign_47 hl (k := 2) rfl (by rw [e_v10]; rfl) (by decide) rfl (fun ls hl => ?_)
      refine lv_goto (tgt := 18) C.x C.b dX10_sign_50 (by decide) ?_
      exact hk18 _ _ _ _ _ hf hE hR hS t_r0 (lv_sub hl [1, 2, 0] rfl)
set_option maxRecDepth 100000 in
set_option maxHeartbeats 4000000 in
theorem k_X10_sign {G : Gt} {l : Launch}  {h : Hp} {r0 : Nat} {x1 : Int32} {out : (Int32 × Hp)} (t_r0 : hpT h r0 = (1, 10))  (hf : f_X10_sign  h r0 x1 = some out) : Mt G l yX10_sign cX10_sign 3 (some .int) rm_X10_sign [.ref (G.2.2 + r0), .int x1] h (some (.int out.1)) out.2 0 0 0 := by
  refine r_met (by decide +kernel) (Nat.le_of_ble_eq_true rfl) ?_
  intro p e s m args below meth c ls C hr hlk hnm hR hS hl
  have hE : Ext h h := Ext.rf
  have hl : lv_has ls 3 [(0, .ref (G.2.2 + r0)), (1, .int x1)] := hl
  rw [f_X10_sign] at hf
  refine lv_aload_n C.x C.b dX10_sign_0 rfl (lv_at hl 0 rfl) ?_
  refine lv_iconst (v := (0 : Int32)) C.x C.b dX10_sign_1 (by decide) ?_
  refine r_puti C hR hS t_r0 fl_X10_103 fp_X10_10_0 rfl dX10_sign_2 (fun H locs hR hS => ?_)
  obtain ⟨h1, e_h1⟩ : ∃ y, y = upI h r0 0 (0 : Int32) := ⟨_, rfl⟩
  rw [← e_h1] at hR
  have hf := lt_e hf e_h1
  have hE := eI e_h1 hE
  have t_r0 := tI e_h1 t_r0
  refine lv_aload_n C.x C.b dX10_sign_5 rfl (lv_at hl 0 rfl) ?_
  refine r_geti C hR t_r0 fl_X10_145 rfl dX10_sign_6 ?_
  refine lv_bipush (v := (76 : Int32)) C.x C.b dX10_sign_9 (by decide) ?_
  refine lv_icmp_le (tgt := 16) C.x C.b dX10_sign_11 (by decide) (fun c2 => ?_) (fun c2 => ?_)
  · have hf := it_t hf c2
    refine lv_iconst (v := (0 : Int32)) C.x C.b dX10_sign_16 (by decide) ?_
    refine lv_istore_n (lv' := [(2, .int (0 : Int32)), (0, .ref (G.2.2 + r0)), (1, .int x1)]) C.x C.b dX10_sign_17 rfl hl (by decide) rfl (fun ls hl => ?_)
    exact w_X10_sign_18 C hr hlk FU _ _ _ _ _ hf hE hR hS t_r0 (lv_sub hl [1, 2, 0] rfl)
  · have hf := it_f hf c2
    refine lv_iconst (v := (-1 : Int32)) C.x C.b dX10_sign_14 (by decide) ?_
    have hf := so_e hf
    subst hf
    exact r_iret C hr hlk hR hE hS dX10_sign_15

def rm_X10_end : Room := { frames := 1, cells := 0, slots := 0, locals := 25 }
set_option maxRecDepth 100000 in
set_option maxHeartbeats 4000000 in
theorem k_X10_end {G : Gt} {l : Launch}  {h : Hp} {r0 : Nat} {x1 : Int32} {out : (Int32 × Hp)} (t_r0 : hpT h r0 = (1, 10))  (hf : f_X10_end  h r0 x1 = some out) : Mt G l yX10_end cX10_end 2 (some .boolean) rm_X10_end [.ref (G.2.2 + r0), .int x1] h (some (.int out.1)) out.2 1 0 0 := by
  refine r_met (by decide +kernel) (Nat.le_of_ble_eq_true rfl) ?_
  intro p e s m args below meth c ls C hr hlk hnm hR hS hl
  have hE : Ext h h := Ext.rf
  have hl : lv_has ls 2 [(0, .ref (G.2.2 + r0)), (1, .int x1)] := hl
  rw [f_X10_end] at hf
  refine lv_aload_n C.x C.b dX10_end_0 rfl (lv_at hl 0 rfl) ?_
  refine lv_iconst (v := (0 : Int32)) C.x C.b dX10_end_1 (by decide) ?_
  refine r_puti C hR hS t_r0 fl_X10_103 fp_X10_10_0 rfl dX10_end_2 (fun H locs hR hS => ?_)
  obtain ⟨h1, e_h1⟩ : ∃ y, y = upI h r0 0 (0 : Int32) := ⟨_, rfl⟩
  rw [← e_h1] at hR
  have hf := lt_e hf e_h1
  have hE := eI e_h1 hE
  have t_r0 := tI e_h1 t_r0
  refine lv_iload_n C.x C.b dX10_end_5 rfl (lv_at hl 1 rfl) ?_
  refine lv_i2l C.x C.b dX10_end_6 rfl ?_
  refine lv_lconst (v := (0 : Int64)) C.x C.b dX10_end_7 (by decide) ?_
  refine lv_aload_n C.x C.b dX10_end_8 rfl (lv_at hl 0 rfl) ?_
  refine r_geti C hR t_r0 fl_X10_145 rfl dX10_end_9 ?_
  refine lv_i2l C.x C.b dX10_end_12 rfl ?_
  obtain ⟨q2, h_q2, hf⟩ := bd_e hf
  refine r_callS (As := [.long (x1.toInt64), .long (0 : Int64), .long ((hpI h1 r0 9).toInt64)]) (rest := []) C hR hS mk_X10_in cl_X10_117 (k_X10_in h_q2) ⟨⟨Nat.le_of_ble_eq_true rfl, Nat.le_of_ble_eq_true rfl⟩, ⟨rfl, rfl⟩, Nat.le_of_ble_eq_true rfl, Nat.le_of_ble_eq_true rfl⟩ rfl hl.1 rfl (Nat.le_of_ble_eq_true rfl) dX10_end_13 (fun H locs hR hS hE1 z_q2 => ?_)
  have z_q2 := z_q2 _ rfl
  refine lv_if_ne (tgt := 21) C.x C.b dX10_end_16 (by decide) (fun c3 => ?_) (fun c3 => ?_)
  · have hf := it_f hf c3
    refine lv_aload_n C.x C.b dX10_end_21 rfl (lv_at hl 0 rfl) ?_
    refine lv_iload_n C.x C.b dX10_end_22 rfl (lv_at hl 1 rfl) ?_
    refine r_puti C hR hS t_r0 fl_X10_145 fp_X10_10_9 rfl dX10_end_23 (fun H locs hR hS => ?_)
    obtain ⟨h4, e_h4⟩ : ∃ y, y = upI h1 r0 9 x1 := ⟨_, rfl⟩
    rw [← e_h4] at hR
    have hf := lt_e hf e_h4
    have hE := eI e_h4 hE
    have t_r0 := tI e_h4 t_r0
    refine lv_iconst (v := (1 : Int32)) C.x C.b dX10_end_26 (by decide) ?_
    have hf := so_e hf
    subst hf
    exact r_zret C hr hlk hR hE hS z_1 dX10_end_27
  · have hf := it_t hf c3
    refine lv_iconst (v := (0 : Int32)) C.x C.b dX10_end_19 (by decide) ?_
    have hf := so_e hf
    subst hf
    exact r_zret C hr hlk hR hE hS z_0 dX10_end_20

def rm_X10_begins : Room := { frames := 1, cells := 0, slots := 0, locals := 14 }
set_option maxRecDepth 100000 in
set_option maxHeartbeats 4000000 in
theorem k_X10_begins {G : Gt} {l : Launch}  {h : Hp} {r0 : Nat} {x1 : Int32} {out : (Int32 × Hp)} (t_r0 : hpT h r0 = (1, 10))  (hf : f_X10_begins  h r0 x1 = some out) : Mt G l yX10_begins cX10_begins 3 (some .int) rm_X10_begins [.ref (G.2.2 + r0), .int x1] h (some (.int out.1)) out.2 0 0 0 := by
  refine r_met (by decide +kernel) (Nat.le_of_ble_eq_true rfl) ?_
  intro p e s m args below meth c ls C hr hlk hnm hR hS hl
  have hE : Ext h h := Ext.rf
  have hl : lv_has ls 3 [(0, .ref (G.2.2 + r0)), (1, .int x1)] := hl
  rw [f_X10_begins] at hf
  refine lv_aload_n C.x C.b dX10_begins_0 rfl (lv_at hl 0 rfl) ?_
  refine r_geti C hR t_r0 fl_X10_145 rfl dX10_begins_1 ?_
  refine lv_topi (fun v1 e_v1 => ?_)
  have hf := lt_e hf e_v1
  refine lv_istore_n (lv' := [(2, .int v1), (0, .ref (G.2.2 + r0)), (1, .int x1)]) C.x C.b dX10_begins_4 rfl hl (by decide) rfl (fun ls hl => ?_)
  refine lv_aload_n C.x C.b dX10_begins_5 rfl (lv_at hl 1 rfl) ?_
  refine lv_iconst (v := (0 : Int32)) C.x C.b dX10_begins_6 (by decide) ?_
  refine r_puti C hR hS t_r0 fl_X10_145 fp_X10_10_9 rfl dX10_begins_7 (fun H locs hR hS => ?_)
  obtain ⟨h2, e_h2⟩ : ∃ y, y = upI h r0 9 (0 : Int32) := ⟨_, rfl⟩
  rw [← e_h2] at hR
  have hf := lt_e hf e_h2
  have hE := eI e_h2 hE
  have t_r0 := tI e_h2 t_r0
  refine lv_aload_n C.x C.b dX10_begins_10 rfl (lv_at hl 1 rfl) ?_
  refine lv_iconst (v := (0 : Int32)) C.x C.b dX10_begins_11 (by decide) ?_
  refine r_puti C hR hS t_r0 fl_X10_148 fp_X10_10_10 rfl dX10_begins_12 (fun H locs hR hS => ?_)
  obtain ⟨h3, e_h3⟩ : ∃ y, y = upI h2 r0 10 (0 : Int32) := ⟨_, rfl⟩
  rw [← e_h3] at hR
  have hf := lt_e hf e_h3
  have hE := eI e_h3 hE
  have t_r0 := tI e_h3 t_r0
  refine lv_aload_n C.x C.b dX10_begins_15 rfl (lv_at hl 1 rfl) ?_
  refine lv_iconst (v := (0 : Int32)) C.x C.b dX10_begins_16 (by decide) ?_
  refine r_puti C hR hS t_r0 fl_X10_151 fp_X10_10_12 rfl dX10_begins_17 (fun H locs hR hS => ?_)
  obtain ⟨h4, e_h4⟩ : ∃ y, y = upI h3 r0 12 (0 : Int32) := ⟨_, rfl⟩
  rw [← e_h4] at hR
  have hf := lt_e hf e_h4
  have hE := eI e_h4 hE
  have t_r0 := tI e_h4 t_r0
  refine lv_aload_n C.x C.b dX10_begins_20 rfl (lv_at hl 1 rfl) ?_
  refine lv_iload_n C.x C.b dX10_begins_21 rfl (lv_at hl 0 rfl) ?_
  refine lv_iload_n C.x C.b dX10_begins_22 rfl (lv_at hl 2 rfl) ?_
  refine va_mmin C.x C.b (C.ml.trans hl.1.symm) C.ow (C.ts _ lk_X10_154) (C.ts _ lk_Mmin_s) (C.ts _ lk_Math) (C.ts _ lk_Mmin_c) (Nat.le_of_ble_eq_true rfl) (Nat.le_of_ble_eq_true rfl) (Nat.le_of_ble_eq_true rfl) (Nat.le_of_ble_eq_true rfl) dX10_begins_23 ?_
  refine lv_topi (fun v5 e_v5 => ?_)
  have hf := lt_e hf e_v5
  refine r_puti C hR hS t_r0 fl_X10_160 fp_X10_10_11 rfl dX10_begins_26 (fun H locs hR hS => ?_)
  obtain ⟨h6, e_h6⟩ : ∃ y, y = upI h4 r0 11 v5 := ⟨_, rfl⟩
  rw [← e_h6] at hR
  have hf := lt_e hf e_h6
  have hE := eI e_h6 hE
  have t_r0 := tI e_h6 t_r0
  refine lv_iload_n C.x C.b dX10_begins_29 rfl (lv_at hl 0 rfl) ?_
  have hf := so_e hf
  subst hf
  exact r_iret C hr hlk hR hE hS dX10_begins_30

def rm_X10_takes : Room := { frames := 1, cells := 0, slots := 0, locals := 20 }
def P_X10_takes_29 (G : Gt) (l : Launch) (p : Program) (e : Env) (s : State) (m : MethodId) (args : Array Value) (below : List Frame) (meth : Method) (c : Code) (h0 : Hp) (out : (Int32 × Hp)) (r0 : Nat) (x1 : Int32) (k : Hp → Int32 → Option (Int32 × Hp)) : Prop := ∀ (H : Heap) (locs : List Loc) (ls : Array Slot) (h : Hp) (s0 : Int32), k h s0 = some out → Ext h0 h → Rel G h H → va_S (AA G.2.2) s.heap H locs → hpT h r0 = (1, 10) → narrow .boolean (.int s0) = .int s0 → lv_has ls 3 [(0, .ref (G.2.2 + r0)), (1, .int x1)] → W p l e rm_X10_takes s m args below meth c H locs 0 0 (MQ below (Qm G h0 out.2 (some (.int out.1)) 1) args s 0 0 (AA G.2.2)) (F0 m 29 ls [.int s0])
def P_X10_takes_28 (G : Gt) (l : Launch) (p : Program) (e : Env) (s : State) (m : MethodId) (args : Array Value) (below : List Frame) (meth : Method) (c : Code) (h0 : Hp) (out : (Int32 × Hp)) (r0 : Nat) (x1 : Int32) (k : Hp → Option (Int32 × Hp)) : Prop := ∀ (H : Heap) (locs : List Loc) (ls : Array Slot) (h : Hp), k h = some out → Ext h0 h → Rel G h H → va_S (AA G.2.2) s.heap H locs → hpT h r0 = (1, 10) → lv_has ls 3 [(0, .ref (G.2.2 + r0)), (1, .int x1)] → W p l e rm_X10_takes s m args below meth c H locs 0 0 (MQ below (Qm G h0 out.2 (some (.int out.1)) 1) args s 0 0 (AA G.2.2)) (F0 m 28 ls [])
set_option maxRecDepth 100000 in
set_option maxHeartbeats 4000000 in
theorem w_X10_takes_29 {G : Gt} {l : Launch} {p : Program} {e : Env} {s : State} {m : MethodId} {args : Array Value} {below : List Frame} {meth : Method} {c : Code}  {h0 : Hp} {out : (Int32 × Hp)} {r0 : Nat} {x1 : Int32}  (C : Cx G p m c cX10_takes 3 s args RX10) (hr : meth.sig.returnType = some .boolean) (hlk : meth.locks = false)   : P_X10_takes_29 G l p e s m args below meth c h0 out r0 x1 (f_X10_takes_29 r0 x1) := by
  intro H locs ls h s0 hf hE hR hS t_r0 z_s0 hl
  rw [f_X10_takes_29] at hf
  refine lv_istore_n (lv' := [(2, .int s0), (0, .ref (G.2.2 + r0)), (1, .int x1)]) C.x C.b dX10_takes_29 rfl hl (by decide) rfl (fun ls hl => ?_)
  refine lv_aload_n C.x C.b dX10_takes_30 rfl (lv_at hl 1 rfl) ?_
  refine lv_dup C.x C.b dX10_takes_31 rfl ?_
  refine r_geti C hR t_r0 fl_X10_148 rfl dX10_takes_32 ?_
  refine lv_iload_n C.x C.b dX10_takes_35 rfl (lv_at hl 0 rfl) ?_
  obtain ⟨q6, h_q6, hf⟩ := bd_e hf
  refine r_callS (As := [.int s0]) (rest := [.int (hpI h r0 10), .ref (G.2.2 + r0)]) C hR hS mk_X10_flag cl_X10_163 (k_X10_flag h_q6) ⟨⟨Nat.le_of_ble_eq_true rfl, Nat.le_of_ble_eq_true rfl⟩, ⟨rfl, rfl⟩, Nat.le_of_ble_eq_true rfl, Nat.le_of_ble_eq_true rfl⟩ rfl hl.1 rfl (Nat.le_of_ble_eq_true rfl) dX10_takes_36 (fun H locs hR hS hE1 z_q6 => ?_)
  refine lv_iadd C.x C.b dX10_takes_39 ?_
  refine r_puti C hR hS t_r0 fl_X10_148 fp_X10_10_10 rfl dX10_takes_40 (fun H locs hR hS => ?_)
  obtain ⟨h7, e_h7⟩ : ∃ y, y = upI h r0 10 ((hpI h r0 10) + q6) := ⟨_, rfl⟩
  rw [← e_h7] at hR
  have hf := lt_e hf e_h7
  have hE := eI e_h7 hE
  have t_r0 := tI e_h7 t_r0
  refine lv_iload_n C.x C.b dX10_takes_43 rfl (lv_at hl 0 rfl) ?_
  have hf := so_e hf
  subst hf
  exact r_zret C hr hlk hR hE hS z_s0 dX10_takes_44
set_option maxRecDepth 100000 in
set_option maxHeartbeats 4000000 in
theorem w_X10_takes_28 {G : Gt} {l : Launch} {p : Program} {e : Env} {s : State} {m : MethodId} {args : Array Value} {below : List Frame} {meth : Method} {c : Code}  {h0 : Hp} {out : (Int32 × Hp)} {r0 : Nat} {x1 : Int32}  (C : Cx G p m c cX10_takes 3 s args RX10) (hr : meth.sig.returnType = some .boolean) (hlk : meth.locks = false)   : P_X10_takes_28 G l p e s m args below meth c h0 out r0 x1 (f_X10_takes_28 r0 x1) := by
  intro H locs ls h hf hE hR hS t_r0 hl
  rw [f_X10_takes_28] at hf
  refine lv_iconst (v := (0 : Int32)) C.x C.b dX10_takes_28 (by decide) ?_
  exact w_X10_takes_29 C hr hlk _ _ _ _ _ hf hE hR hS t_r0 z_0 (lv_sub hl [0, 1] rfl)
set_option maxRecDepth 100000 in
set_option maxHeartbeats 4000000 in
theorem k_X10_takes {G : Gt} {l : Launch}  {h : Hp} {r0 : Nat} {x1 : Int32} {out : (Int32 × Hp)} (t_r0 : hpT h r0 = (1, 10))  (hf : f_X10_takes  h r0 x1 = some out) : Mt G l yX10_takes cX10_takes 3 (some .boolean) rm_X10_takes [.ref (G.2.2 + r0), .int x1] h (some (.int out.1)) out.2 1 0 0 := by
  refine r_met (by decide +kernel) (Nat.le_of_ble_eq_true rfl) ?_
  intro p e s m args below meth c ls C hr hlk hnm hR hS hl
  have hE : Ext h h := Ext.rf
  have hl : lv_has ls 3 [(0, .ref (G.2.2 + r0)), (1, .int x1)] := hl
  rw [f_X10_takes] at hf
  refine lv_aload_n C.x C.b dX10_takes_0 rfl (lv_at hl 0 rfl) ?_
  refine r_geti C hR t_r0 fl_X10_148 rfl dX10_takes_1 ?_
  refine lv_aload_n C.x C.b dX10_takes_4 rfl (lv_at hl 0 rfl) ?_
  refine r_geti C hR t_r0 fl_X10_160 rfl dX10_takes_5 ?_
  refine lv_icmp_ge (tgt := 28) C.x C.b dX10_takes_8 (by decide) (fun c1 => ?_) (fun c1 => ?_)
  · have hf := it_t hf c1
    exact w_X10_takes_28 C hr hlk _ _ _ _ hf hE hR hS t_r0 (lv_sub hl [0, 1] rfl)
  · have hf := it_f hf c1
    refine lv_aload_n C.x C.b dX10_takes_11 rfl (lv_at hl 0 rfl) ?_
    obtain ⟨g2, hf⟩ := gd_e hf
    refine r_getr C hR t_r0 fl_X10_27 (by decide) (nz_e g2) dX10_takes_12 (fun tq3 => ?_)
    have tg2 := okA tq3 rfl
    refine lv_aload_n C.x C.b dX10_takes_15 rfl (lv_at hl 0 rfl) ?_
    refine r_geti C hR t_r0 fl_X10_148 rfl dX10_takes_16 ?_
    obtain ⟨g4, hf⟩ := gd_e hf
    refine r_iald C hR tg2 g4 dX10_takes_19 ?_
    refine lv_iload_n C.x C.b dX10_takes_20 rfl (lv_at hl 1 rfl) ?_
    refine lv_icmp_ne (tgt := 28) C.x C.b dX10_takes_21 (by decide) (fun c5 => ?_) (fun c5 => ?_)
    · have hf := it_f hf c5
      exact w_X10_takes_28 C hr hlk _ _ _ _ hf hE hR hS t_r0 (lv_sub hl [0, 1] rfl)
    · have hf := it_t hf c5
      refine lv_iconst (v := (1 : Int32)) C.x C.b dX10_takes_24 (by decide) ?_
      refine lv_goto (tgt := 29) C.x C.b dX10_takes_25 (by decide) ?_
      exact w_X10_takes_29 C hr hlk _ _ _ _ _ hf hE hR hS t_r0 z_1 (lv_sub hl [0, 1] rfl)

def rm_X10_isDigit : Room := { frames := 1, cells := 0, slots := 0, locals := 25 }
set_option maxRecDepth 100000 in
set_option maxHeartbeats 4000000 in
theorem k_X10_isDigit {G : Gt} {l : Launch}  {h : Hp} {r0 : Nat} {out : Int32} (t_r0 : hpT h r0 = (1, 10))  (hf : f_X10_isDigit  h r0 = some out) : Mt G l yX10_isDigit cX10_isDigit 1 (some .boolean) rm_X10_isDigit [.ref (G.2.2 + r0)] h (some (.int out)) h 1 0 0 := by
  refine r_met (by decide +kernel) (Nat.le_of_ble_eq_true rfl) ?_
  intro p e s m args below meth c ls C hr hlk hnm hR hS hl
  have hl : lv_has ls 1 [(0, .ref (G.2.2 + r0))] := hl
  rw [f_X10_isDigit] at hf
  refine lv_aload_n C.x C.b dX10_isDigit_0 rfl (lv_at hl 0 rfl) ?_
  refine r_geti C hR t_r0 fl_X10_148 rfl dX10_isDigit_1 ?_
  refine lv_aload_n C.x C.b dX10_isDigit_4 rfl (lv_at hl 0 rfl) ?_
  refine r_geti C hR t_r0 fl_X10_160 rfl dX10_isDigit_5 ?_
  refine lv_icmp_ge (tgt := 37) C.x C.b dX10_isDigit_8 (by decide) (fun c1 => ?_) (fun c1 => ?_)
  · have hf := it_t hf c1
    refine lv_iconst (v := (0 : Int32)) C.x C.b dX10_isDigit_37 (by decide) ?_
    have hf := so_e hf
    subst hf
    exact r_zret C hr hlk hR Ext.rf hS z_0 dX10_isDigit_38
  · have hf := it_f hf c1
    refine lv_aload_n C.x C.b dX10_isDigit_11 rfl (lv_at hl 0 rfl) ?_
    obtain ⟨g2, hf⟩ := gd_e hf
    refine r_getr C hR t_r0 fl_X10_27 (by decide) (nz_e g2) dX10_isDigit_12 (fun tq3 => ?_)
    have tg2 := okA tq3 rfl
    refine lv_aload_n C.x C.b dX10_isDigit_15 rfl (lv_at hl 0 rfl) ?_
    refine r_geti C hR t_r0 fl_X10_148 rfl dX10_isDigit_16 ?_
    obtain ⟨g4, hf⟩ := gd_e hf
    refine r_iald C hR tg2 g4 dX10_isDigit_19 ?_
    refine lv_i2l C.x C.b dX10_isDigit_20 rfl ?_
    refine lv_ldc2 C.x C.b C.ow (C.ts _ lk_X10_167) dX10_isDigit_21 ?_
    refine lv_ldc2 C.x C.b C.ow (C.ts _ lk_X10_169) dX10_isDigit_24 ?_
    obtain ⟨q5, h_q5, hf⟩ := bd_e hf
    refine r_callS (As := [.long ((hpI h (hpR h r0 8) (ix (hpI h r0 10))).toInt64), .long (48 : Int64), .long (57 : Int64)]) (rest := []) C hR hS mk_X10_in cl_X10_117 (k_X10_in h_q5) ⟨⟨Nat.le_of_ble_eq_true rfl, Nat.le_of_ble_eq_true rfl⟩, ⟨rfl, rfl⟩, Nat.le_of_ble_eq_true rfl, Nat.le_of_ble_eq_true rfl⟩ rfl hl.1 rfl (Nat.le_of_ble_eq_true rfl) dX10_isDigit_27 (fun H locs hR hS hE1 z_q5 => ?_)
    have z_q5 := z_q5 _ rfl
    refine lv_if_eq (tgt := 37) C.x C.b dX10_isDigit_30 (by decide) (fun c6 => ?_) (fun c6 => ?_)
    · have hf := it_t hf c6
      refine lv_iconst (v := (0 : Int32)) C.x C.b dX10_isDigit_37 (by decide) ?_
      have hf := so_e hf
      subst hf
      exact r_zret C hr hlk hR Ext.rf hS z_0 dX10_isDigit_38
    · have hf := it_f hf c6
      refine lv_iconst (v := (1 : Int32)) C.x C.b dX10_isDigit_33 (by decide) ?_
      refine lv_goto (tgt := 38) C.x C.b dX10_isDigit_34 (by decide) ?_
      have hf := so_e hf
      subst hf
      exact r_zret C hr hlk hR Ext.rf hS z_1 dX10_isDigit_38

def rm_X10_takesOf : Room := { frames := 4, cells := 0, slots := 0, locals := 120 }
def P_X10_takesOf_2 (G : Gt) (l : Launch) (p : Program) (e : Env) (s : State) (m : MethodId) (args : Array Value) (below : List Frame) (meth : Method) (c : Code) (h0 : Hp) (out : (Int32 × Hp)) (r0 : Nat) (u1 : Nat) (k : Hp → Int32 → Option (Int32 × Hp)) : Prop := ∀ (H : Heap) (locs : List Loc) (ls : Array Slot) (h : Hp) (x2 : Int32), k h x2 = some out → Ext h0 h → Rel G h H → va_S (AA G.2.2) s.heap H locs → hpT h r0 = (1, 10) → u1 < 5 → lv_has ls 3 [(0, .ref (G.2.2 + r0)), (1, .ref (adS G u1)), (2, .int x2)] → W p l e rm_X10_takesOf s m args below meth c H locs 0 0 (MQ below (Qm G h0 out.2 (some (.int out.1)) 0) args s 0 0 (AA G.2.2)) (F0 m 2 ls [])
set_option maxRecDepth 100000 in
set_option maxHeartbeats 4000000 in
theorem w_X10_takesOf_2 {G : Gt} {l : Launch} {p : Program} {e : Env} {s : State} {m : MethodId} {args : Array Value} {below : List Frame} {meth : Method} {c : Code}  {h0 : Hp} {out : (Int32 × Hp)} {r0 : Nat} {u1 : Nat}  (C : Cx G p m c cX10_takesOf 3 s args RX10) (hr : meth.sig.returnType = some .int) (hlk : meth.locks = false)   (n : Nat) : P_X10_takesOf_2 G l p e s m args below meth c h0 out r0 u1 (f_X10_takesOf_2 r0 u1 n) := by
  induction n with
  | zero => intro H locs ls h x2 hf hE hR hS t_r0 t_u1 hl; cases hf
  | succ n hk2 =>
    intro H locs ls h x2 hf hE hR hS t_r0 t_u1 hl
    rw [f_X10_takesOf_2] at hf
    obtain ⟨k2, e_k2⟩ : ∃ y, y = f_X10_takesOf_2 r0 u1 n := ⟨_, rfl⟩
    have hf := lt_e hf e_k2
    rw [← e_k2] at hk2
    refine lv_iload_n C.x C.b dX10_takesOf_2 rfl (lv_at hl 2 rfl) ?_
    refine lv_aload_n C.x C.b dX10_takesOf_3 rfl (lv_at hl 1 rfl) ?_
    refine r_slen C hR hS hl.1 t_u1 (Nat.le_of_ble_eq_true rfl) (Nat.le_of_ble_eq_true rfl) (Nat.le_of_ble_eq_true rfl) dX10_takesOf_4 ⟨Nat.le_of_ble_eq_true rfl, Nat.le_of_ble_eq_true rfl⟩ (fun H locs hR hS => ?_)
    refine lv_icmp_ge (tgt := 56) C.x C.b dX10_takesOf_7 (by decide) (fun c1 => ?_) (fun c1 => ?_)
    · have hf := it_t hf c1
      refine lv_iconst (v := (-1 : Int32)) C.x C.b dX10_takesOf_56 (by decide) ?_
      have hf := so_e hf
      subst hf
      exact r_iret C hr hlk hR hE hS dX10_takesOf_57
    · have hf := it_f hf c1
      refine lv_aload_n C.x C.b dX10_takesOf_10 rfl (lv_at hl 0 rfl) ?_
      refine r_geti C hR t_r0 fl_X10_148 rfl dX10_takesOf_11 ?_
      refine lv_aload_n C.x C.b dX10_takesOf_14 rfl (lv_at hl 0 rfl) ?_
      refine r_geti C hR t_r0 fl_X10_160 rfl dX10_takesOf_15 ?_
      refine lv_icmp_ge (tgt := 56) C.x C.b dX10_takesOf_18 (by decide) (fun c2 => ?_) (fun c2 => ?_)
      · have hf := it_t hf c2
        refine lv_iconst (v := (-1 : Int32)) C.x C.b dX10_takesOf_56 (by decide) ?_
        have hf := so_e hf
        subst hf
        exact r_iret C hr hlk hR hE hS dX10_takesOf_57
      · have hf := it_f hf c2
        refine lv_aload_n C.x C.b dX10_takesOf_21 rfl (lv_at hl 1 rfl) ?_
        refine lv_iload_n C.x C.b dX10_takesOf_22 rfl (lv_at hl 2 rfl) ?_
        obtain ⟨g3, hf⟩ := gd_e hf
        refine r_schar C hR hS hl.1 t_u1 g3 (Nat.le_of_ble_eq_true rfl) (Nat.le_of_ble_eq_true rfl) (Nat.le_of_ble_eq_true rfl) dX10_takesOf_23 ⟨Nat.le_of_ble_eq_true rfl, Nat.le_of_ble_eq_true rfl⟩ (fun H locs hR hS => ?_)
        refine lv_aload_n C.x C.b dX10_takesOf_26 rfl (lv_at hl 0 rfl) ?_
        obtain ⟨g4, hf⟩ := gd_e hf
        refine r_getr C hR t_r0 fl_X10_27 (by decide) (nz_e g4) dX10_takesOf_27 (fun tq5 => ?_)
        have tg4 := okA tq5 rfl
        refine lv_aload_n C.x C.b dX10_takesOf_30 rfl (lv_at hl 0 rfl) ?_
        refine r_geti C hR t_r0 fl_X10_148 rfl dX10_takesOf_31 ?_
        obtain ⟨g6, hf⟩ := gd_e hf
        refine r_iald C hR tg4 g6 dX10_takesOf_34 ?_
        refine lv_icmp_ne (tgt := 50) C.x C.b dX10_takesOf_35 (by decide) (fun c7 => ?_) (fun c7 => ?_)
        · have hf := it_f hf c7
          obtain ⟨v8, e_v8⟩ : ∃ y : Int32, y = x2 + (1 : Int32) := ⟨_, rfl⟩
          have hf := lt_e hf e_v8
          refine lv_iinc (v := v8) (lv' := [(2, .int v8), (0, .ref (G.2.2 + r0)), (1, .ref (adS G u1))]) C.x C.b dX10_takesOf_50 hl (k := 2) rfl (by rw [e_v8]; rfl) (by decide) rfl (fun ls hl => ?_)
          refine lv_goto (tgt := 2) C.x C.b dX10_takesOf_53 (by decide) ?_
          exact hk2 _ _ _ _ _ hf hE hR hS t_r0 t_u1 (lv_sub hl [1, 2, 0] rfl)
        · have hf := it_t hf c7
          refine lv_aload_n C.x C.b dX10_takesOf_38 rfl (lv_at hl 0 rfl) ?_
          refine lv_dup C.x C.b dX10_takesOf_39 rfl ?_
          refine r_geti C hR t_r0 fl_X10_148 rfl dX10_takesOf_40 ?_
          refine lv_iconst (v := (1 : Int32)) C.x C.b dX10_takesOf_43 (by decide) ?_
          refine lv_iadd C.x C.b dX10_takesOf_44 ?_
          refine r_puti C hR hS t_r0 fl_X10_148 fp_X10_10_10 rfl dX10_takesOf_45 (fun H locs hR hS => ?_)
          obtain ⟨h9, e_h9⟩ : ∃ y, y = upI h r0 10 ((hpI h r0 10) + (1 : Int32)) := ⟨_, rfl⟩
          rw [← e_h9] at hR
          have hf := lt_e hf e_h9
          have hE := eI e_h9 hE
          have t_r0 := tI e_h9 t_r0
          refine lv_iload_n C.x C.b dX10_takesOf_48 rfl (lv_at hl 2 rfl) ?_
          have hf := so_e hf
          subst hf
          exact r_iret C hr hlk hR hE hS dX10_takesOf_49
set_option maxRecDepth 100000 in
set_option maxHeartbeats 4000000 in
theorem k_X10_takesOf {G : Gt} {l : Launch}  {h : Hp} {r0 : Nat} {u1 : Nat} {out : (Int32 × Hp)} (t_r0 : hpT h r0 = (1, 10)) (t_u1 : u1 < 5)  (hf : f_X10_takesOf  h r0 u1 = some out) : Mt G l yX10_takesOf cX10_takesOf 3 (some .int) rm_X10_takesOf [.ref (G.2.2 + r0), .ref (adS G u1)] h (some (.int out.1)) out.2 0 0 0 := by
  refine r_met (by decide +kernel) (Nat.le_of_ble_eq_true rfl) ?_
  intro p e s m args below meth c ls C hr hlk hnm hR hS hl
  have hE : Ext h h := Ext.rf
  have hl : lv_has ls 3 [(0, .ref (G.2.2 + r0)), (1, .ref (adS G u1))] := hl
  rw [f_X10_takesOf] at hf
  refine lv_iconst (v := (0 : Int32)) C.x C.b dX10_takesOf_0 (by decide) ?_
  refine lv_istore_n (lv' := [(2, .int (0 : Int32)), (0, .ref (G.2.2 + r0)), (1, .ref (adS G u1))]) C.x C.b dX10_takesOf_1 rfl hl (by decide) rfl (fun ls hl => ?_)
  exact w_X10_takesOf_2 C hr hlk FU _ _ _ _ _ hf hE hR hS t_r0 t_u1 (lv_sub hl [1, 2, 0] rfl)

def rm_X10_number : Room := { frames := 2, cells := 0, slots := 0, locals := 45 }
def P_X10_number_13 (G : Gt) (l : Launch) (p : Program) (e : Env) (s : State) (m : MethodId) (args : Array Value) (below : List Frame) (meth : Method) (c : Code) (h0 : Hp) (out : (Int32 × Hp)) (r0 : Nat) (x1 : Int32) (k : Hp → Int32 → Int32 → Option (Int32 × Hp)) : Prop := ∀ (H : Heap) (locs : List Loc) (ls : Array Slot) (h : Hp) (x2 : Int32) (x3 : Int32), k h x2 x3 = some out → Ext h0 h → Rel G h H → va_S (AA G.2.2) s.heap H locs → hpT h r0 = (1, 10) → lv_has ls 4 [(0, .ref (G.2.2 + r0)), (1, .int x1), (2, .int x2), (3, .int x3)] → W p l e rm_X10_number s m args below meth c H locs 0 0 (MQ below (Qm G h0 out.2 (some (.int out.1)) 0) args s 0 0 (AA G.2.2)) (F0 m 13 ls [])
set_option maxRecDepth 100000 in
set_option maxHeartbeats 4000000 in
theorem w_X10_number_13 {G : Gt} {l : Launch} {p : Program} {e : Env} {s : State} {m : MethodId} {args : Array Value} {below : List Frame} {meth : Method} {c : Code}  {h0 : Hp} {out : (Int32 × Hp)} {r0 : Nat} {x1 : Int32}  (C : Cx G p m c cX10_number 4 s args RX10) (hr : meth.sig.returnType = some .int) (hlk : meth.locks = false)   (n : Nat) : P_X10_number_13 G l p e s m args below meth c h0 out r0 x1 (f_X10_number_13 r0 x1 n) := by
  induction n with
  | zero => intro H locs ls h x2 x3 hf hE hR hS t_r0 hl; cases hf
  | succ n hk13 =>
    intro H locs ls h x2 x3 hf hE hR hS t_r0 hl
    rw [f_X10_number_13] at hf
    obtain ⟨k13, e_k13⟩ : ∃ y, y = f_X10_number_13 r0 x1 n := ⟨_, rfl⟩
    have hf := lt_e hf e_k13
    rw [← e_k13] at hk13
    refine lv_iload_n C.x C.b dX10_number_13 rfl (lv_at hl 3 rfl) ?_
    refine lv_iload_n C.x C.b dX10_number_14 rfl (lv_at hl 1 rfl) ?_
    refine lv_icmp_ge (tgt := 59) C.x C.b dX10_number_15 (by decide) (fun c3 => ?_) (fun c3 => ?_)
    · have hf := it_t hf c3
      refine lv_iload_n C.x C.b dX10_number_59 rfl (lv_at hl 2 rfl) ?_
      have hf := so_e hf
      subst hf
      exact r_iret C hr hlk hR hE hS dX10_number_60
    · have hf := it_f hf c3
      refine lv_aload_n C.x C.b dX10_number_18 rfl (lv_at hl 0 rfl) ?_
      obtain ⟨q4, h_q4, hf⟩ := bd_e hf
      refine r_callV (As := []) (rest := []) C hR hS t_r0 rfl mk_X10_isDigit cl_X10_180 (k_X10_isDigit t_r0 h_q4) ⟨⟨Nat.le_of_ble_eq_true rfl, Nat.le_of_ble_eq_true rfl⟩, ⟨rfl, rfl⟩, Nat.le_of_ble_eq_true rfl, Nat.le_of_ble_eq_true rfl⟩ rfl hl.1 rfl (Nat.le_of_ble_eq_true rfl) dX10_number_19 (fun H locs hR hS hE1 z_q4 => ?_)
      have z_q4 := z_q4 _ rfl
      refine lv_if_eq (tgt := 59) C.x C.b dX10_number_22 (by decide) (fun c5 => ?_) (fun c5 => ?_)
      · have hf := it_t hf c5
        refine lv_iload_n C.x C.b dX10_number_59 rfl (lv_at hl 2 rfl) ?_
        have hf := so_e hf
        subst hf
        exact r_iret C hr hlk hR hE hS dX10_number_60
      · have hf := it_f hf c5
        refine lv_bipush (v := (10 : Int32)) C.x C.b dX10_number_25 (by decide) ?_
        refine lv_iload_n C.x C.b dX10_number_27 rfl (lv_at hl 2 rfl) ?_
        refine lv_imul C.x C.b dX10_number_28 ?_
        refine lv_aload_n C.x C.b dX10_number_29 rfl (lv_at hl 0 rfl) ?_
        obtain ⟨g6, hf⟩ := gd_e hf
        refine r_getr C hR t_r0 fl_X10_27 (by decide) (nz_e g6) dX10_number_30 (fun tq7 => ?_)
        have tg6 := okA tq7 rfl
        refine lv_aload_n C.x C.b dX10_number_33 rfl (lv_at hl 0 rfl) ?_
        refine r_geti C hR t_r0 fl_X10_148 rfl dX10_number_34 ?_
        obtain ⟨g8, hf⟩ := gd_e hf
        refine r_iald C hR tg6 g8 dX10_number_37 ?_
        refine lv_iadd C.x C.b dX10_number_38 ?_
        refine lv_bipush (v := (48 : Int32)) C.x C.b dX10_number_39 (by decide) ?_
        refine lv_isub C.x C.b dX10_number_41 ?_
        refine lv_topi (fun v9 e_v9 => ?_)
        have hf := lt_e hf e_v9
        refine lv_istore_n (lv' := [(2, .int v9), (0, .ref (G.2.2 + r0)), (1, .int x1), (3, .int x3)]) C.x C.b dX10_number_42 rfl hl (by decide) rfl (fun ls hl => ?_)
        refine lv_aload_n C.x C.b dX10_number_43 rfl (lv_at hl 1 rfl) ?_
        refine lv_dup C.x C.b dX10_number_44 rfl ?_
        refine r_geti C hR t_r0 fl_X10_148 rfl dX10_number_45 ?_
        refine lv_iconst (v := (1 : Int32)) C.x C.b dX10_number_48 (by decide) ?_
        refine lv_iadd C.x C.b dX10_number_49 ?_
        refine r_puti C hR hS t_r0 fl_X10_148 fp_X10_10_10 rfl dX10_number_50 (fun H locs hR hS => ?_)
        obtain ⟨h10, e_h10⟩ : ∃ y, y = upI h r0 10 ((hpI h r0 10) + (1 : Int32)) := ⟨_, rfl⟩
        rw [← e_h10] at hR
        have hf := lt_e hf e_h10
        have hE := eI e_h10 hE
        have t_r0 := tI e_h10 t_r0
        obtain ⟨v11, e_v11⟩ : ∃ y : Int32, y = x3 + (1 : Int32) := ⟨_, rfl⟩
        have hf := lt_e hf e_v11
        refine lv_iinc (v := v11) (lv' := [(3, .int v11), (2, .int v9), (0, .ref (G.2.2 + r0)), (1, .int x1)]) C.x C.b dX10_number_53 hl (k := 3) rfl (by rw [e_v11]; rfl) (by decide) rfl (fun ls hl => ?_)
        refine lv_goto (tgt := 13) C.x C.b dX10_number_56 (by decide) ?_
        exact hk13 _ _ _ _ _ _ hf hE hR hS t_r0 (lv_sub hl [2, 3, 1, 0] rfl)
set_option maxRecDepth 100000 in
set_option maxHeartbeats 4000000 in
theorem k_X10_number {G : Gt} {l : Launch}  {h : Hp} {r0 : Nat} {x1 : Int32} {out : (Int32 × Hp)} (t_r0 : hpT h r0 = (1, 10))  (hf : f_X10_number  h r0 x1 = some out) : Mt G l yX10_number cX10_number 4 (some .int) rm_X10_number [.ref (G.2.2 + r0), .int x1] h (some (.int out.1)) out.2 0 0 0 := by
  refine r_met (by decide +kernel) (Nat.le_of_ble_eq_true rfl) ?_
  intro p e s m args below meth c ls C hr hlk hnm hR hS hl
  have hE : Ext h h := Ext.rf
  have hl : lv_has ls 4 [(0, .ref (G.2.2 + r0)), (1, .int x1)] := hl
  rw [f_X10_number] at hf
  refine lv_aload_n C.x C.b dX10_number_0 rfl (lv_at hl 0 rfl) ?_
  obtain ⟨q1, h_q1, hf⟩ := bd_e hf
  refine r_callV (As := []) (rest := []) C hR hS t_r0 rfl mk_X10_isDigit cl_X10_180 (k_X10_isDigit t_r0 h_q1) ⟨⟨Nat.le_of_ble_eq_true rfl, Nat.le_of_ble_eq_true rfl⟩, ⟨rfl, rfl⟩, Nat.le_of_ble_eq_true rfl, Nat.le_of_ble_eq_true rfl⟩ rfl hl.1 rfl (Nat.le_of_ble_eq_true rfl) dX10_number_1 (fun H locs hR hS hE1 z_q1 => ?_)
  have z_q1 := z_q1 _ rfl
  refine lv_if_ne (tgt := 9) C.x C.b dX10_number_4 (by decide) (fun c2 => ?_) (fun c2 => ?_)
  · have hf := it_f hf c2
    refine lv_iconst (v := (0 : Int32)) C.x C.b dX10_number_9 (by decide) ?_
    refine lv_istore_n (lv' := [(2, .int (0 : Int32)), (0, .ref (G.2.2 + r0)), (1, .int x1)]) C.x C.b dX10_number_10 rfl hl (by decide) rfl (fun ls hl => ?_)
    refine lv_iconst (v := (0 : Int32)) C.x C.b dX10_number_11 (by decide) ?_
    refine lv_istore_n (lv' := [(3, .int (0 : Int32)), (2, .int (0 : Int32)), (0, .ref (G.2.2 + r0)), (1, .int x1)]) C.x C.b dX10_number_12 rfl hl (by decide) rfl (fun ls hl => ?_)
    exact w_X10_number_13 C hr hlk FU _ _ _ _ _ _ hf hE hR hS t_r0 (lv_sub hl [2, 3, 1, 0] rfl)
  · have hf := it_t hf c2
    refine lv_iconst (v := (-1 : Int32)) C.x C.b dX10_number_7 (by decide) ?_
    have hf := so_e hf
    subst hf
    exact r_iret C hr hlk hR hE hS dX10_number_8

def rm_X10_digitIn : Room := { frames := 1, cells := 0, slots := 0, locals := 25 }
set_option maxRecDepth 100000 in
set_option maxHeartbeats 4000000 in
theorem k_X10_digitIn {G : Gt} {l : Launch}  {h : Hp} {r0 : Nat} {x1 : Int32} {x2 : Int32} {out : (Int32 × Hp)} (t_r0 : hpT h r0 = (1, 10))  (hf : f_X10_digitIn  h r0 x1 x2 = some out) : Mt G l yX10_digitIn cX10_digitIn 3 (some .int) rm_X10_digitIn [.ref (G.2.2 + r0), .int x1, .int x2] h (some (.int out.1)) out.2 0 0 0 := by
  refine r_met (by decide +kernel) (Nat.le_of_ble_eq_true rfl) ?_
  intro p e s m args below meth c ls C hr hlk hnm hR hS hl
  have hE : Ext h h := Ext.rf
  have hl : lv_has ls 3 [(0, .ref (G.2.2 + r0)), (1, .int x1), (2, .int x2)] := hl
  rw [f_X10_digitIn] at hf
  refine lv_aload_n C.x C.b dX10_digitIn_0 rfl (lv_at hl 0 rfl) ?_
  refine r_geti C hR t_r0 fl_X10_148 rfl dX10_digitIn_1 ?_
  refine lv_aload_n C.x C.b dX10_digitIn_4 rfl (lv_at hl 0 rfl) ?_
  refine r_geti C hR t_r0 fl_X10_160 rfl dX10_digitIn_5 ?_
  refine lv_icmp_ge (tgt := 34) C.x C.b dX10_digitIn_8 (by decide) (fun c1 => ?_) (fun c1 => ?_)
  · have hf := it_t hf c1
    refine lv_iconst (v := (-1 : Int32)) C.x C.b dX10_digitIn_34 (by decide) ?_
    have hf := so_e hf
    subst hf
    exact r_iret C hr hlk hR hE hS dX10_digitIn_35
  · have hf := it_f hf c1
    refine lv_aload_n C.x C.b dX10_digitIn_11 rfl (lv_at hl 0 rfl) ?_
    obtain ⟨g2, hf⟩ := gd_e hf
    refine r_getr C hR t_r0 fl_X10_27 (by decide) (nz_e g2) dX10_digitIn_12 (fun tq3 => ?_)
    have tg2 := okA tq3 rfl
    refine lv_aload_n C.x C.b dX10_digitIn_15 rfl (lv_at hl 0 rfl) ?_
    refine r_geti C hR t_r0 fl_X10_148 rfl dX10_digitIn_16 ?_
    obtain ⟨g4, hf⟩ := gd_e hf
    refine r_iald C hR tg2 g4 dX10_digitIn_19 ?_
    refine lv_bipush (v := (48 : Int32)) C.x C.b dX10_digitIn_20 (by decide) ?_
    refine lv_isub C.x C.b dX10_digitIn_22 ?_
    refine lv_i2l C.x C.b dX10_digitIn_23 rfl ?_
    refine lv_iload_n C.x C.b dX10_digitIn_24 rfl (lv_at hl 1 rfl) ?_
    refine lv_i2l C.x C.b dX10_digitIn_25 rfl ?_
    refine lv_iload_n C.x C.b dX10_digitIn_26 rfl (lv_at hl 2 rfl) ?_
    refine lv_i2l C.x C.b dX10_digitIn_27 rfl ?_
    obtain ⟨q5, h_q5, hf⟩ := bd_e hf
    refine r_callS (As := [.long (((hpI h (hpR h r0 8) (ix (hpI h r0 10))) - (48 : Int32)).toInt64), .long (x1.toInt64), .long (x2.toInt64)]) (rest := []) C hR hS mk_X10_in cl_X10_117 (k_X10_in h_q5) ⟨⟨Nat.le_of_ble_eq_true rfl, Nat.le_of_ble_eq_true rfl⟩, ⟨rfl, rfl⟩, Nat.le_of_ble_eq_true rfl, Nat.le_of_ble_eq_true rfl⟩ rfl hl.1 rfl (Nat.le_of_ble_eq_true rfl) dX10_digitIn_28 (fun H locs hR hS hE1 z_q5 => ?_)
    have z_q5 := z_q5 _ rfl
    refine lv_if_ne (tgt := 36) C.x C.b dX10_digitIn_31 (by decide) (fun c6 => ?_) (fun c6 => ?_)
    · have hf := it_f hf c6
      refine lv_aload_n C.x C.b dX10_digitIn_36 rfl (lv_at hl 0 rfl) ?_
      refine lv_dup C.x C.b dX10_digitIn_37 rfl ?_
      refine r_geti C hR t_r0 fl_X10_148 rfl dX10_digitIn_38 ?_
      refine lv_iconst (v := (1 : Int32)) C.x C.b dX10_digitIn_41 (by decide) ?_
      refine lv_iadd C.x C.b dX10_digitIn_42 ?_
      refine r_puti C hR hS t_r0 fl_X10_148 fp_X10_10_10 rfl dX10_digitIn_43 (fun H locs hR hS => ?_)
      obtain ⟨h7, e_h7⟩ : ∃ y, y = upI h r0 10 ((hpI h r0 10) + (1 : Int32)) := ⟨_, rfl⟩
      rw [← e_h7] at hR
      have hf := lt_e hf e_h7
      have hE := eI e_h7 hE
      have t_r0 := tI e_h7 t_r0
      refine lv_aload_n C.x C.b dX10_digitIn_46 rfl (lv_at hl 0 rfl) ?_
      obtain ⟨g8, hf⟩ := gd_e hf
      refine r_getr C hR t_r0 fl_X10_27 (by decide) (nz_e g8) dX10_digitIn_47 (fun tq9 => ?_)
      have tg8 := okA tq9 rfl
      refine lv_aload_n C.x C.b dX10_digitIn_50 rfl (lv_at hl 0 rfl) ?_
      refine r_geti C hR t_r0 fl_X10_148 rfl dX10_digitIn_51 ?_
      refine lv_iconst (v := (1 : Int32)) C.x C.b dX10_digitIn_54 (by decide) ?_
      refine lv_isub C.x C.b dX10_digitIn_55 ?_
      obtain ⟨g10, hf⟩ := gd_e hf
      refine r_iald C hR tg8 g10 dX10_digitIn_56 ?_
      refine lv_bipush (v := (48 : Int32)) C.x C.b dX10_digitIn_57 (by decide) ?_
      refine lv_isub C.x C.b dX10_digitIn_59 ?_
      have hf := so_e hf
      subst hf
      exact r_iret C hr hlk hR hE hS dX10_digitIn_60
    · have hf := it_t hf c6
      refine lv_iconst (v := (-1 : Int32)) C.x C.b dX10_digitIn_34 (by decide) ?_
      have hf := so_e hf
      subst hf
      exact r_iret C hr hlk hR hE hS dX10_digitIn_35

def rm_X10_faultOf : Room := { frames := 0, cells := 0, slots := 0, locals := 0 }
def P_X10_faultOf_44 (G : Gt) (l : Launch) (p : Program) (e : Env) (s : State) (m : MethodId) (args : Array Value) (below : List Frame) (meth : Method) (c : Code) (h : Hp) (out : Int32) (r0 : Nat) (x1 : Int32) (x2 : Int32) (x3 : Int32) (k : Int32 → Option Int32) : Prop := ∀ (H : Heap) (locs : List Loc) (ls : Array Slot) (x4 : Int32), k x4 = some out → Rel G h H → va_S (AA G.2.2) s.heap H locs → hpT h r0 = (1, 10) → narrow .boolean (.int x4) = .int x4 → lv_has ls 5 [(0, .ref (G.2.2 + r0)), (1, .int x1), (2, .int x2), (3, .int x3), (4, .int x4)] → W p l e rm_X10_faultOf s m args below meth c H locs 0 0 (MQ below (Qm G h h (some (.int out)) 0) args s 0 0 (AA G.2.2)) (F0 m 44 ls [])
def P_X10_faultOf_40 (G : Gt) (l : Launch) (p : Program) (e : Env) (s : State) (m : MethodId) (args : Array Value) (below : List Frame) (meth : Method) (c : Code) (h : Hp) (out : Int32) (r0 : Nat) (x1 : Int32) (x2 : Int32) (x3 : Int32) (k : Option Int32) : Prop := ∀ (H : Heap) (locs : List Loc) (ls : Array Slot), k = some out → Rel G h H → va_S (AA G.2.2) s.heap H locs → hpT h r0 = (1, 10) → lv_has ls 5 [(0, .ref (G.2.2 + r0)), (1, .int x1), (2, .int x2), (3, .int x3)] → W p l e rm_X10_faultOf s m args below meth c H locs 0 0 (MQ below (Qm G h h (some (.int out)) 0) args s 0 0 (AA G.2.2)) (F0 m 40 ls [])
def P_X10_faultOf_20 (G : Gt) (l : Launch) (p : Program) (e : Env) (s : State) (m : MethodId) (args : Array Value) (below : List Frame) (meth : Method) (c : Code) (h : Hp) (out : Int32) (r0 : Nat) (x1 : Int32) (x2 : Int32) (x3 : Int32) (k : Int32 → Option Int32) : Prop := ∀ (H : Heap) (locs : List Loc) (ls : Array Slot) (s0 : Int32), k s0 = some out → Rel G h H → va_S (AA G.2.2) s.heap H locs → hpT h r0 = (1, 10) → narrow .boolean (.int s0) = .int s0 → lv_has ls 5 [(0, .ref (G.2.2 + r0)), (1, .int x1), (2, .int x2), (3, .int x3)] → W p l e rm_X10_faultOf s m args below meth c H locs 0 0 (MQ below (Qm G h h (some (.int out)) 0) args s 0 0 (AA G.2.2)) (F0 m 20 ls [.int s0])
def P_X10_faultOf_19 (G : Gt) (l : Launch) (p : Program) (e : Env) (s : State) (m : MethodId) (args : Array Value) (below : List Frame) (meth : Method) (c : Code) (h : Hp) (out : Int32) (r0 : Nat) (x1 : Int32) (x2 : Int32) (x3 : Int32) (k : Option Int32) : Prop := ∀ (H : Heap) (locs : List Loc) (ls : Array Slot), k = some out → Rel G h H → va_S (AA G.2.2) s.heap H locs → hpT h r0 = (1, 10) → lv_has ls 5 [(0, .ref (G.2.2 + r0)), (1, .int x1), (2, .int x2), (3, .int x3)] → W p l e rm_X10_faultOf s m args below meth c H locs 0 0 (MQ below (Qm G h h (some (.int out)) 0) args s 0 0 (AA G.2.2)) (F0 m 19 ls [])
set_option maxRecDepth 100000 in
set_option maxHeartbeats 4000000 in
theorem w_X10_faultOf_44 {G : Gt} {l : Launch} {p : Program} {e : Env} {s : State} {m : MethodId} {args : Array Value} {below : List Frame} {meth : Method} {c : Code}  {h : Hp} {out : Int32} {r0 : Nat} {x1 : Int32} {x2 : Int32} {x3 : Int32}  (C : Cx G p m c cX10_faultOf 5 s args RX10) (hr : meth.sig.returnType = some .int) (hlk : meth.locks = false)   : P_X10_faultOf_44 G l p e s m args below meth c h out r0 x1 x2 x3 (f_X10_faultOf_44 h r0 x1 x2 x3) := by
  intro H locs ls x4 hf hR hS t_r0 z_x4 hl
  rw [f_X10_faultOf_44] at hf
  refine lv_iload C.x C.b dX10_faultOf_44 (lv_at hl 4 rfl) ?_
  refine lv_if_eq (tgt := 53) C.x C.b dX10_faultOf_46 (by decide) (fun c6 => ?_) (fun c6 => ?_)
  · have hf := it_t hf c6
    refine lv_iconst (v := (-1 : Int32)) C.x C.b dX10_faultOf_53 (by decide) ?_
    refine lv_aload_n C.x C.b dX10_faultOf_54 rfl (lv_at hl 0 rfl) ?_
    refine r_geti C hR t_r0 fl_X10_148 rfl dX10_faultOf_55 ?_
    refine lv_isub C.x C.b dX10_faultOf_58 ?_
    have hf := so_e hf
    subst hf
    exact r_iret C hr hlk hR Ext.rf hS dX10_faultOf_59
  · have hf := it_f hf c6
    refine lv_iconst (v := (0 : Int32)) C.x C.b dX10_faultOf_49 (by decide) ?_
    refine lv_goto (tgt := 59) C.x C.b dX10_faultOf_50 (by decide) ?_
    have hf := so_e hf
    subst hf
    exact r_iret C hr hlk hR Ext.rf hS dX10_faultOf_59
set_option maxRecDepth 100000 in
set_option maxHeartbeats 4000000 in
theorem w_X10_faultOf_40 {G : Gt} {l : Launch} {p : Program} {e : Env} {s : State} {m : MethodId} {args : Array Value} {below : List Frame} {meth : Method} {c : Code}  {h : Hp} {out : Int32} {r0 : Nat} {x1 : Int32} {x2 : Int32} {x3 : Int32}  (C : Cx G p m c cX10_faultOf 5 s args RX10) (hr : meth.sig.returnType = some .int) (hlk : meth.locks = false)   : P_X10_faultOf_40 G l p e s m args below meth c h out r0 x1 x2 x3 (f_X10_faultOf_40 h r0 x1 x2 x3) := by
  intro H locs ls  hf hR hS t_r0 hl
  rw [f_X10_faultOf_40] at hf
  refine lv_iconst (v := (-1 : Int32)) C.x C.b dX10_faultOf_40 (by decide) ?_
  refine lv_iload_n C.x C.b dX10_faultOf_41 rfl (lv_at hl 2 rfl) ?_
  refine lv_isub C.x C.b dX10_faultOf_42 ?_
  have hf := so_e hf
  subst hf
  exact r_iret C hr hlk hR Ext.rf hS dX10_faultOf_43
set_option maxRecDepth 100000 in
set_option maxHeartbeats 4000000 in
theorem w_X10_faultOf_20 {G : Gt} {l : Launch} {p : Program} {e : Env} {s : State} {m : MethodId} {args : Array Value} {below : List Frame} {meth : Method} {c : Code}  {h : Hp} {out : Int32} {r0 : Nat} {x1 : Int32} {x2 : Int32} {x3 : Int32}  (C : Cx G p m c cX10_faultOf 5 s args RX10) (hr : meth.sig.returnType = some .int) (hlk : meth.locks = false)   : P_X10_faultOf_20 G l p e s m args below meth c h out r0 x1 x2 x3 (f_X10_faultOf_20 h r0 x1 x2 x3) := by
  intro H locs ls s0 hf hR hS t_r0 z_s0 hl
  rw [f_X10_faultOf_20] at hf
  refine lv_istore (lv' := [(4, .int s0), (0, .ref (G.2.2 + r0)), (1, .int x1), (2, .int x2), (3, .int x3)]) C.x C.b dX10_faultOf_20 hl (by decide) rfl (fun ls hl => ?_)
  refine lv_iload_n C.x C.b dX10_faultOf_22 rfl (lv_at hl 2 rfl) ?_
  refine lv_iload_n C.x C.b dX10_faultOf_23 rfl (lv_at hl 3 rfl) ?_
  refine lv_icmp_le (tgt := 44) C.x C.b dX10_faultOf_24 (by decide) (fun c3 => ?_) (fun c3 => ?_)
  · have hf := it_t hf c3
    exact w_X10_faultOf_44 C hr hlk _ _ _ _ hf hR hS t_r0 z_s0 (lv_sub hl [1, 2, 3, 4, 0] rfl)
  · have hf := it_f hf c3
    refine lv_iload C.x C.b dX10_faultOf_27 (lv_at hl 0 rfl) ?_
    refine lv_if_ne (tgt := 40) C.x C.b dX10_faultOf_29 (by decide) (fun c4 => ?_) (fun c4 => ?_)
    · have hf := it_f hf c4
      exact w_X10_faultOf_40 C hr hlk _ _ _ hf hR hS t_r0 (lv_sub hl [1, 2, 3, 4] rfl)
    · have hf := it_t hf c4
      refine lv_aload_n C.x C.b dX10_faultOf_32 rfl (lv_at hl 1 rfl) ?_
      refine r_geti C hR t_r0 fl_X10_148 rfl dX10_faultOf_33 ?_
      refine lv_iload_n C.x C.b dX10_faultOf_36 rfl (lv_at hl 3 rfl) ?_
      refine lv_icmp_lt (tgt := 44) C.x C.b dX10_faultOf_37 (by decide) (fun c5 => ?_) (fun c5 => ?_)
      · have hf := it_t hf c5
        exact w_X10_faultOf_44 C hr hlk _ _ _ _ hf hR hS t_r0 z_s0 (lv_sub hl [1, 2, 3, 4, 0] rfl)
      · have hf := it_f hf c5
        exact w_X10_faultOf_40 C hr hlk _ _ _ hf hR hS t_r0 (lv_sub hl [1, 2, 3, 4] rfl)
set_option maxRecDepth 100000 in
set_option maxHeartbeats 4000000 in
theorem w_X10_faultOf_19 {G : Gt} {l : Launch} {p : Program} {e : Env} {s : State} {m : MethodId} {args : Array Value} {below : List Frame} {meth : Method} {c : Code}  {h : Hp} {out : Int32} {r0 : Nat} {x1 : Int32} {x2 : Int32} {x3 : Int32}  (C : Cx G p m c cX10_faultOf 5 s args RX10) (hr : meth.sig.returnType = some .int) (hlk : meth.locks = false)   : P_X10_faultOf_19 G l p e s m args below meth c h out r0 x1 x2 x3 (f_X10_faultOf_19 h r0 x1 x2 x3) := by
  intro H locs ls  hf hR hS t_r0 hl
  rw [f_X10_faultOf_19] at hf
  refine lv_iconst (v := (0 : Int32)) C.x C.b dX10_faultOf_19 (by decide) ?_
  exact w_X10_faultOf_20 C hr hlk _ _ _ _ hf hR hS t_r0 z_0 (lv_sub hl [0, 1, 2, 3] rfl)
set_option maxRecDepth 100000 in
set_option maxHeartbeats 4000000 in
theorem k_X10_faultOf {G : Gt} {l : Launch}  {h : Hp} {r0 : Nat} {x1 : Int32} {x2 : Int32} {x3 : Int32} {out : Int32} (t_r0 : hpT h r0 = (1, 10))  (hf : f_X10_faultOf  h r0 x1 x2 x3 = some out) : Mt G l yX10_faultOf cX10_faultOf 5 (some .int) rm_X10_faultOf [.ref (G.2.2 + r0), .int x1, .int x2, .int x3] h (some (.int out)) h 0 0 0 := by
  refine r_met (by decide +kernel) (Nat.le_of_ble_eq_true rfl) ?_
  intro p e s m args below meth c ls C hr hlk hnm hR hS hl
  have hl : lv_has ls 5 [(0, .ref (G.2.2 + r0)), (1, .int x1), (2, .int x2), (3, .int x3)] := hl
  rw [f_X10_faultOf] at hf
  refine lv_iload_n C.x C.b dX10_faultOf_0 rfl (lv_at hl 3 rfl) ?_
  refine lv_if_eq (tgt := 19) C.x C.b dX10_faultOf_1 (by decide) (fun c1 => ?_) (fun c1 => ?_)
  · have hf := it_t hf c1
    exact w_X10_faultOf_19 C hr hlk _ _ _ hf hR hS t_r0 (lv_sub hl [0, 1, 2, 3] rfl)
  · have hf := it_f hf c1
    refine lv_aload_n C.x C.b dX10_faultOf_4 rfl (lv_at hl 0 rfl) ?_
    refine r_geti C hR t_r0 fl_X10_148 rfl dX10_faultOf_5 ?_
    refine lv_aload_n C.x C.b dX10_faultOf_8 rfl (lv_at hl 0 rfl) ?_
    refine r_geti C hR t_r0 fl_X10_160 rfl dX10_faultOf_9 ?_
    refine lv_icmp_ne (tgt := 19) C.x C.b dX10_faultOf_12 (by decide) (fun c2 => ?_) (fun c2 => ?_)
    · have hf := it_f hf c2
      exact w_X10_faultOf_19 C hr hlk _ _ _ hf hR hS t_r0 (lv_sub hl [0, 1, 2, 3] rfl)
    · have hf := it_t hf c2
      refine lv_iconst (v := (1 : Int32)) C.x C.b dX10_faultOf_15 (by decide) ?_
      refine lv_goto (tgt := 20) C.x C.b dX10_faultOf_16 (by decide) ?_
      exact w_X10_faultOf_20 C hr hlk _ _ _ _ hf hR hS t_r0 z_1 (lv_sub hl [0, 1, 2, 3] rfl)

def rm_X10_field : Room := { frames := 2, cells := 0, slots := 0, locals := 47 }
def P_X10_field_51 (G : Gt) (l : Launch) (p : Program) (e : Env) (s : State) (m : MethodId) (args : Array Value) (below : List Frame) (meth : Method) (c : Code) (h0 : Hp) (out : (Int32 × Hp)) (r0 : Nat) (k : Hp → Option (Int32 × Hp)) : Prop := ∀ (H : Heap) (locs : List Loc) (ls : Array Slot) (h : Hp), k h = some out → Ext h0 h → Rel G h H → va_S (AA G.2.2) s.heap H locs → hpT h r0 = (1, 10) → lv_has ls 3 [(0, .ref (G.2.2 + r0))] → W p l e rm_X10_field s m args below meth c H locs 0 0 (MQ below (Qm G h0 out.2 (some (.int out.1)) 0) args s 0 0 (AA G.2.2)) (F0 m 51 ls [])
def P_X10_field_35 (G : Gt) (l : Launch) (p : Program) (e : Env) (s : State) (m : MethodId) (args : Array Value) (below : List Frame) (meth : Method) (c : Code) (h0 : Hp) (out : (Int32 × Hp)) (r0 : Nat) (k : Hp → Int32 → Int32 → Option (Int32 × Hp)) : Prop := ∀ (H : Heap) (locs : List Loc) (ls : Array Slot) (h : Hp) (s0 : Int32) (x1 : Int32), k h s0 x1 = some out → Ext h0 h → Rel G h H → va_S (AA G.2.2) s.heap H locs → hpT h r0 = (1, 10) → lv_has ls 3 [(0, .ref (G.2.2 + r0)), (1, .int x1)] → W p l e rm_X10_field s m args below meth c H locs 0 0 (MQ below (Qm G h0 out.2 (some (.int out.1)) 0) args s 0 0 (AA G.2.2)) (F0 m 35 ls [.int s0])
set_option maxRecDepth 100000 in
set_option maxHeartbeats 4000000 in
theorem w_X10_field_51 {G : Gt} {l : Launch} {p : Program} {e : Env} {s : State} {m : MethodId} {args : Array Value} {below : List Frame} {meth : Method} {c : Code}  {h0 : Hp} {out : (Int32 × Hp)} {r0 : Nat}  (C : Cx G p m c cX10_field 3 s args RX10) (hr : meth.sig.returnType = some .int) (hlk : meth.locks = false)   : P_X10_field_51 G l p e s m args below meth c h0 out r0 (f_X10_field_51 r0) := by
  intro H locs ls h hf hE hR hS t_r0 hl
  rw [f_X10_field_51] at hf
  refine lv_iconst (v := (-1 : Int32)) C.x C.b dX10_field_51 (by decide) ?_
  refine lv_aload_n C.x C.b dX10_field_52 rfl (lv_at hl 0 rfl) ?_
  refine r_geti C hR t_r0 fl_X10_148 rfl dX10_field_53 ?_
  refine lv_isub C.x C.b dX10_field_56 ?_
  have hf := so_e hf
  subst hf
  exact r_iret C hr hlk hR hE hS dX10_field_57
set_option maxRecDepth 100000 in
set_option maxHeartbeats 4000000 in
theorem w_X10_field_35 {G : Gt} {l : Launch} {p : Program} {e : Env} {s : State} {m : MethodId} {args : Array Value} {below : List Frame} {meth : Method} {c : Code}  {h0 : Hp} {out : (Int32 × Hp)} {r0 : Nat}  (C : Cx G p m c cX10_field 3 s args RX10) (hr : meth.sig.returnType = some .int) (hlk : meth.locks = false)   : P_X10_field_35 G l p e s m args below meth c h0 out r0 (f_X10_field_35 r0) := by
  intro H locs ls h s0 x1 hf hE hR hS t_r0 hl
  rw [f_X10_field_35] at hf
  refine lv_istore_n (lv' := [(2, .int s0), (0, .ref (G.2.2 + r0)), (1, .int x1)]) C.x C.b dX10_field_35 rfl hl (by decide) rfl (fun ls hl => ?_)
  refine lv_iload_n C.x C.b dX10_field_36 rfl (lv_at hl 0 rfl) ?_
  refine lv_if_lt (tgt := 51) C.x C.b dX10_field_37 (by decide) (fun c6 => ?_) (fun c6 => ?_)
  · have hf := it_t hf c6
    exact w_X10_field_51 C hr hlk _ _ _ _ hf hE hR hS t_r0 (lv_sub hl [1] rfl)
  · have hf := it_f hf c6
    refine lv_aload_n C.x C.b dX10_field_40 rfl (lv_at hl 1 rfl) ?_
    refine r_geti C hR t_r0 fl_X10_148 rfl dX10_field_41 ?_
    refine lv_aload_n C.x C.b dX10_field_44 rfl (lv_at hl 1 rfl) ?_
    refine r_geti C hR t_r0 fl_X10_160 rfl dX10_field_45 ?_
    refine lv_icmp_ge (tgt := 58) C.x C.b dX10_field_48 (by decide) (fun c7 => ?_) (fun c7 => ?_)
    · have hf := it_t hf c7
      refine lv_aload_n C.x C.b dX10_field_58 rfl (lv_at hl 1 rfl) ?_
      refine lv_iload_n C.x C.b dX10_field_59 rfl (lv_at hl 2 rfl) ?_
      refine r_puti C hR hS t_r0 fl_X10_13 fp_X10_10_3 rfl dX10_field_60 (fun H locs hR hS => ?_)
      obtain ⟨h8, e_h8⟩ : ∃ y, y = upI h r0 3 x1 := ⟨_, rfl⟩
      rw [← e_h8] at hR
      have hf := lt_e hf e_h8
      have hE := eI e_h8 hE
      have t_r0 := tI e_h8 t_r0
      refine lv_aload_n C.x C.b dX10_field_63 rfl (lv_at hl 1 rfl) ?_
      refine lv_iload_n C.x C.b dX10_field_64 rfl (lv_at hl 0 rfl) ?_
      refine r_puti C hR hS t_r0 fl_X10_17 fp_X10_10_4 rfl dX10_field_65 (fun H locs hR hS => ?_)
      obtain ⟨h9, e_h9⟩ : ∃ y, y = upI h8 r0 4 s0 := ⟨_, rfl⟩
      rw [← e_h9] at hR
      have hf := lt_e hf e_h9
      have hE := eI e_h9 hE
      have t_r0 := tI e_h9 t_r0
      refine lv_aload_n C.x C.b dX10_field_68 rfl (lv_at hl 1 rfl) ?_
      obtain ⟨g10, hf⟩ := gd_e hf
      refine r_getr C hR t_r0 fl_X10_20 (by decide) (nz_e g10) dX10_field_69 (fun tq11 => ?_)
      have tg10 := okA tq11 rfl
      refine lv_bipush (v := (48 : Int32)) C.x C.b dX10_field_72 (by decide) ?_
      refine lv_iconst (v := (0 : Int32)) C.x C.b dX10_field_74 (by decide) ?_
      obtain ⟨g12, hf⟩ := gd_e hf
      refine r_iast C hR hS tg10 g12 dX10_field_75 (fun H locs hR hS => ?_)
      obtain ⟨h13, e_h13⟩ : ∃ y, y = upI h9 (hpR h9 r0 6) (ix (48 : Int32)) (0 : Int32) := ⟨_, rfl⟩
      rw [← e_h13] at hR
      have hf := lt_e hf e_h13
      have hE := eI e_h13 hE
      have t_r0 := tI e_h13 t_r0
      refine lv_aload_n C.x C.b dX10_field_76 rfl (lv_at hl 1 rfl) ?_
      obtain ⟨g14, hf⟩ := gd_e hf
      refine r_getr C hR t_r0 fl_X10_20 (by decide) (nz_e g14) dX10_field_77 (fun tq15 => ?_)
      have tg14 := okA tq15 rfl
      refine lv_bipush (v := (49 : Int32)) C.x C.b dX10_field_80 (by decide) ?_
      refine lv_iconst (v := (0 : Int32)) C.x C.b dX10_field_82 (by decide) ?_
      obtain ⟨g16, hf⟩ := gd_e hf
      refine r_iast C hR hS tg14 g16 dX10_field_83 (fun H locs hR hS => ?_)
      obtain ⟨h17, e_h17⟩ : ∃ y, y = upI h13 (hpR h13 r0 6) (ix (49 : Int32)) (0 : Int32) := ⟨_, rfl⟩
      rw [← e_h17] at hR
      have hf := lt_e hf e_h17
      have hE := eI e_h17 hE
      have t_r0 := tI e_h17 t_r0
      refine lv_aload_n C.x C.b dX10_field_84 rfl (lv_at hl 1 rfl) ?_
      obtain ⟨g18, hf⟩ := gd_e hf
      refine r_getr C hR t_r0 fl_X10_20 (by decide) (nz_e g18) dX10_field_85 (fun tq19 => ?_)
      have tg18 := okA tq19 rfl
      refine lv_bipush (v := (50 : Int32)) C.x C.b dX10_field_88 (by decide) ?_
      refine lv_iconst (v := (0 : Int32)) C.x C.b dX10_field_90 (by decide) ?_
      obtain ⟨g20, hf⟩ := gd_e hf
      refine r_iast C hR hS tg18 g20 dX10_field_91 (fun H locs hR hS => ?_)
      obtain ⟨h21, e_h21⟩ : ∃ y, y = upI h17 (hpR h17 r0 6) (ix (50 : Int32)) (0 : Int32) := ⟨_, rfl⟩
      rw [← e_h21] at hR
      have hf := lt_e hf e_h21
      have hE := eI e_h21 hE
      have t_r0 := tI e_h21 t_r0
      refine lv_aload_n C.x C.b dX10_field_92 rfl (lv_at hl 1 rfl) ?_
      refine lv_iconst (v := (0 : Int32)) C.x C.b dX10_field_93 (by decide) ?_
      refine r_puti C hR hS t_r0 fl_X10_191 fp_X10_10_22 rfl dX10_field_94 (fun H locs hR hS => ?_)
      obtain ⟨h22, e_h22⟩ : ∃ y, y = upI h21 r0 22 (0 : Int32) := ⟨_, rfl⟩
      rw [← e_h22] at hR
      have hf := lt_e hf e_h22
      have hE := eI e_h22 hE
      have t_r0 := tI e_h22 t_r0
      refine lv_aload_n C.x C.b dX10_field_97 rfl (lv_at hl 1 rfl) ?_
      refine lv_dup C.x C.b dX10_field_98 rfl ?_
      refine r_geti C hR t_r0 fl_X10_194 rfl dX10_field_99 ?_
      refine lv_iconst (v := (1 : Int32)) C.x C.b dX10_field_102 (by decide) ?_
      refine lv_iadd C.x C.b dX10_field_103 ?_
      refine r_puti C hR hS t_r0 fl_X10_194 fp_X10_10_5 rfl dX10_field_104 (fun H locs hR hS => ?_)
      obtain ⟨h23, e_h23⟩ : ∃ y, y = upI h22 r0 5 ((hpI h22 r0 5) + (1 : Int32)) := ⟨_, rfl⟩
      rw [← e_h23] at hR
      have hf := lt_e hf e_h23
      have hE := eI e_h23 hE
      have t_r0 := tI e_h23 t_r0
      refine lv_aload_n C.x C.b dX10_field_107 rfl (lv_at hl 1 rfl) ?_
      refine lv_iconst (v := (0 : Int32)) C.x C.b dX10_field_108 (by decide) ?_
      refine r_puti C hR hS t_r0 fl_X10_197 fp_X10_10_31 rfl dX10_field_109 (fun H locs hR hS => ?_)
      obtain ⟨h24, e_h24⟩ : ∃ y, y = upI h23 r0 31 (0 : Int32) := ⟨_, rfl⟩
      rw [← e_h24] at hR
      have hf := lt_e hf e_h24
      have hE := eI e_h24 hE
      have t_r0 := tI e_h24 t_r0
      refine lv_aload_n C.x C.b dX10_field_112 rfl (lv_at hl 1 rfl) ?_
      obtain ⟨q25, h_q25, hf⟩ := bd_e hf
      refine r_callV (As := []) (rest := []) C hR hS t_r0 rfl mk_X10_cells cl_X10_113 (k_X10_cells t_r0 h_q25) ⟨⟨Nat.le_of_ble_eq_true rfl, Nat.le_of_ble_eq_true rfl⟩, ⟨rfl, rfl⟩, Nat.le_of_ble_eq_true rfl, Nat.le_of_ble_eq_true rfl⟩ rfl hl.1 rfl (Nat.le_of_ble_eq_true rfl) dX10_field_113 (fun H locs hR hS hE1 z_q25 => ?_)
      have hf := so_e hf
      subst hf
      exact r_iret C hr hlk hR hE hS dX10_field_116
    · have hf := it_f hf c7
      exact w_X10_field_51 C hr hlk _ _ _ _ hf hE hR hS t_r0 (lv_sub hl [1] rfl)
set_option maxRecDepth 100000 in
set_option maxHeartbeats 4000000 in
theorem k_X10_field {G : Gt} {l : Launch}  {h : Hp} {r0 : Nat} {out : (Int32 × Hp)} (t_r0 : hpT h r0 = (1, 10))  (hf : f_X10_field  h r0 = some out) : Mt G l yX10_field cX10_field 3 (some .int) rm_X10_field [.ref (G.2.2 + r0)] h (some (.int out.1)) out.2 0 0 0 := by
  refine r_met (by decide +kernel) (Nat.le_of_ble_eq_true rfl) ?_
  intro p e s m args below meth c ls C hr hlk hnm hR hS hl
  have hE : Ext h h := Ext.rf
  have hl : lv_has ls 3 [(0, .ref (G.2.2 + r0))] := hl
  rw [f_X10_field] at hf
  refine lv_aload_n C.x C.b dX10_field_0 rfl (lv_at hl 0 rfl) ?_
  refine lv_iconst (v := (0 : Int32)) C.x C.b dX10_field_1 (by decide) ?_
  refine r_puti C hR hS t_r0 fl_X10_103 fp_X10_10_0 rfl dX10_field_2 (fun H locs hR hS => ?_)
  obtain ⟨h1, e_h1⟩ : ∃ y, y = upI h r0 0 (0 : Int32) := ⟨_, rfl⟩
  rw [← e_h1] at hR
  have hf := lt_e hf e_h1
  have hE := eI e_h1 hE
  have t_r0 := tI e_h1 t_r0
  refine lv_aload_n C.x C.b dX10_field_5 rfl (lv_at hl 0 rfl) ?_
  refine lv_bipush (v := (80 : Int32)) C.x C.b dX10_field_6 (by decide) ?_
  obtain ⟨q2, h_q2, hf⟩ := bd_e hf
  refine r_callV (As := [.int (80 : Int32)]) (rest := []) C hR hS t_r0 rfl mk_X10_begins cl_X10_184 (k_X10_begins t_r0 h_q2) ⟨⟨Nat.le_of_ble_eq_true rfl, Nat.le_of_ble_eq_true rfl⟩, ⟨rfl, rfl⟩, Nat.le_of_ble_eq_true rfl, Nat.le_of_ble_eq_true rfl⟩ rfl hl.1 rfl (Nat.le_of_ble_eq_true rfl) dX10_field_8 (fun H locs hR hS hE1 z_q2 => ?_)
  have hE := hE.tr hE1
  have t_r0 := hE1.at t_r0 (by decide)
  refine lv_pop C.x C.b dX10_field_11 rfl ?_
  refine lv_aload_n C.x C.b dX10_field_12 rfl (lv_at hl 0 rfl) ?_
  refine lv_iconst (v := (3 : Int32)) C.x C.b dX10_field_13 (by decide) ?_
  refine lv_bipush (v := (6 : Int32)) C.x C.b dX10_field_14 (by decide) ?_
  obtain ⟨q3, h_q3, hf⟩ := bd_e hf
  refine r_callV (As := [.int (3 : Int32), .int (6 : Int32)]) (rest := []) C hR hS t_r0 rfl mk_X10_digitIn cl_X10_188 (k_X10_digitIn t_r0 h_q3) ⟨⟨Nat.le_of_ble_eq_true rfl, Nat.le_of_ble_eq_true rfl⟩, ⟨rfl, rfl⟩, Nat.le_of_ble_eq_true rfl, Nat.le_of_ble_eq_true rfl⟩ rfl hl.1 rfl (Nat.le_of_ble_eq_true rfl) dX10_field_16 (fun H locs hR hS hE1 z_q3 => ?_)
  have hE := hE.tr hE1
  have t_r0 := hE1.at t_r0 (by decide)
  refine lv_istore_n (lv' := [(1, .int q3.1), (0, .ref (G.2.2 + r0))]) C.x C.b dX10_field_19 rfl hl (by decide) rfl (fun ls hl => ?_)
  refine lv_iload_n C.x C.b dX10_field_20 rfl (lv_at hl 0 rfl) ?_
  refine lv_if_ge (tgt := 28) C.x C.b dX10_field_21 (by decide) (fun c4 => ?_) (fun c4 => ?_)
  · have hf := it_t hf c4
    refine lv_aload_n C.x C.b dX10_field_28 rfl (lv_at hl 1 rfl) ?_
    refine lv_iconst (v := (3 : Int32)) C.x C.b dX10_field_29 (by decide) ?_
    refine lv_bipush (v := (6 : Int32)) C.x C.b dX10_field_30 (by decide) ?_
    obtain ⟨q5, h_q5, hf⟩ := bd_e hf
    refine r_callV (As := [.int (3 : Int32), .int (6 : Int32)]) (rest := []) C hR hS t_r0 rfl mk_X10_digitIn cl_X10_188 (k_X10_digitIn t_r0 h_q5) ⟨⟨Nat.le_of_ble_eq_true rfl, Nat.le_of_ble_eq_true rfl⟩, ⟨rfl, rfl⟩, Nat.le_of_ble_eq_true rfl, Nat.le_of_ble_eq_true rfl⟩ rfl hl.1 rfl (Nat.le_of_ble_eq_true rfl) dX10_field_32 (fun H locs hR hS hE1 z_q5 => ?_)
    have hE := hE.tr hE1
    have t_r0 := hE1.at t_r0 (by decide)
    exact w_X10_field_35 C hr hlk _ _ _ _ _ _ hf hE hR hS t_r0 (lv_sub hl [1, 0] rfl)
  · have hf := it_f hf c4
    refine lv_iconst (v := (-1 : Int32)) C.x C.b dX10_field_24 (by decide) ?_
    refine lv_goto (tgt := 35) C.x C.b dX10_field_25 (by decide) ?_
    exact w_X10_field_35 C hr hlk _ _ _ _ _ _ hf hE hR hS t_r0 (lv_sub hl [1, 0] rfl)

