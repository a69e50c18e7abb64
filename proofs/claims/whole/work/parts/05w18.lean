def rm_X10_laysYet : Room := { frames := 4, cells := 0, slots := 0, locals := 98 }
def P_X10_laysYet_47 (G : Gt) (l : Launch) (p : Program) (e : Env) (s : State) (m : MethodId) (args : Array Value) (below : List Frame) (meth : Method) (c : Code) (h0 : Hp) (out : Hp) (r0 : Nat) (x1 : Int32) (x2 : Int32) (k : Hp → Nat → Int32 → Int32 → Int32 → Int32 → Option Hp) : Prop := ∀ (H : Heap) (locs : List Loc) (ls : Array Slot) (h : Hp) (s0 : Nat) (s1 : Int32) (s2 : Int32) (x3 : Int32) (x4 : Int32), k h s0 s1 s2 x3 x4 = some out → Ext h0 h → Rel G h H → va_S (AA G.2.2) s.heap H locs → hpT h r0 = (1, 10) → (hpT h s0).1 = 2 → lv_has ls 9 [(0, .ref (G.2.2 + r0)), (1, .int x1), (2, .int x2), (3, .int x3), (4, .int x4)] → W p l e rm_X10_laysYet s m args below meth c H locs 0 0 (MQ below (Qm G h0 out (none) 0) args s 0 0 (AA G.2.2)) (F0 m 47 ls [.int s2, .int s1, .ref (G.2.2 + s0)])
def P_X10_laysYet_44 (G : Gt) (l : Launch) (p : Program) (e : Env) (s : State) (m : MethodId) (args : Array Value) (below : List Frame) (meth : Method) (c : Code) (h0 : Hp) (out : Hp) (r0 : Nat) (x1 : Int32) (x2 : Int32) (k : Hp → Nat → Int32 → Int32 → Int32 → Option Hp) : Prop := ∀ (H : Heap) (locs : List Loc) (ls : Array Slot) (h : Hp) (s0 : Nat) (s1 : Int32) (x3 : Int32) (x4 : Int32), k h s0 s1 x3 x4 = some out → Ext h0 h → Rel G h H → va_S (AA G.2.2) s.heap H locs → hpT h r0 = (1, 10) → (hpT h s0).1 = 2 → lv_has ls 9 [(0, .ref (G.2.2 + r0)), (1, .int x1), (2, .int x2), (3, .int x3), (4, .int x4)] → W p l e rm_X10_laysYet s m args below meth c H locs 0 0 (MQ below (Qm G h0 out (none) 0) args s 0 0 (AA G.2.2)) (F0 m 44 ls [.int s1, .ref (G.2.2 + s0)])
def P_X10_laysYet_13 (G : Gt) (l : Launch) (p : Program) (e : Env) (s : State) (m : MethodId) (args : Array Value) (below : List Frame) (meth : Method) (c : Code) (h0 : Hp) (out : Hp) (r0 : Nat) (x1 : Int32) (x2 : Int32) (k : Hp → Int32 → Int32 → Option Hp) : Prop := ∀ (H : Heap) (locs : List Loc) (ls : Array Slot) (h : Hp) (x3 : Int32) (x4 : Int32), k h x3 x4 = some out → Ext h0 h → Rel G h H → va_S (AA G.2.2) s.heap H locs → hpT h r0 = (1, 10) → lv_has ls 9 [(0, .ref (G.2.2 + r0)), (1, .int x1), (2, .int x2), (3, .int x3), (4, .int x4)] → W p l e rm_X10_laysYet s m args below meth c H locs 0 0 (MQ below (Qm G h0 out (none) 0) args s 0 0 (AA G.2.2)) (F0 m 13 ls [])
def P_X10_laysYet_196 (G : Gt) (l : Launch) (p : Program) (e : Env) (s : State) (m : MethodId) (args : Array Value) (below : List Frame) (meth : Method) (c : Code) (h0 : Hp) (out : Hp) (r0 : Nat) (x1 : Int32) (x2 : Int32) (k : Hp → Int32 → Int32 → Int32 → Int32 → Option Hp) : Prop := ∀ (H : Heap) (locs : List Loc) (ls : Array Slot) (h : Hp) (x3 : Int32) (x4 : Int32) (x5 : Int32) (x6 : Int32), k h x3 x4 x5 x6 = some out → Ext h0 h → Rel G h H → va_S (AA G.2.2) s.heap H locs → hpT h r0 = (1, 10) → narrow .boolean (.int x3) = .int x3 → lv_has ls 9 [(0, .ref (G.2.2 + r0)), (1, .int x1), (2, .int x2), (3, .int x3), (4, .int x4), (5, .int x5), (6, .int x6)] → W p l e rm_X10_laysYet s m args below meth c H locs 0 0 (MQ below (Qm G h0 out (none) 0) args s 0 0 (AA G.2.2)) (F0 m 196 ls [])
def P_X10_laysYet_161 (G : Gt) (l : Launch) (p : Program) (e : Env) (s : State) (m : MethodId) (args : Array Value) (below : List Frame) (meth : Method) (c : Code) (h0 : Hp) (out : Hp) (r0 : Nat) (x1 : Int32) (x2 : Int32) (k : Hp → Int32 → Int32 → Int32 → Int32 → Int32 → Option Hp) : Prop := ∀ (H : Heap) (locs : List Loc) (ls : Array Slot) (h : Hp) (s0 : Int32) (x3 : Int32) (x4 : Int32) (x5 : Int32) (x6 : Int32), k h s0 x3 x4 x5 x6 = some out → Ext h0 h → Rel G h H → va_S (AA G.2.2) s.heap H locs → hpT h r0 = (1, 10) → narrow .boolean (.int x3) = .int x3 → lv_has ls 9 [(0, .ref (G.2.2 + r0)), (1, .int x1), (2, .int x2), (3, .int x3), (4, .int x4), (5, .int x5), (6, .int x6)] → W p l e rm_X10_laysYet s m args below meth c H locs 0 0 (MQ below (Qm G h0 out (none) 0) args s 0 0 (AA G.2.2)) (F0 m 161 ls [.int s0])
def P_X10_laysYet_202 (G : Gt) (l : Launch) (p : Program) (e : Env) (s : State) (m : MethodId) (args : Array Value) (below : List Frame) (meth : Method) (c : Code) (h0 : Hp) (out : Hp) (r0 : Nat) (x1 : Int32) (x2 : Int32) (k : Hp → Int32 → Int32 → Int32 → Option Hp) : Prop := ∀ (H : Heap) (locs : List Loc) (ls : Array Slot) (h : Hp) (x3 : Int32) (x4 : Int32) (x5 : Int32), k h x3 x4 x5 = some out → Ext h0 h → Rel G h H → va_S (AA G.2.2) s.heap H locs → hpT h r0 = (1, 10) → narrow .boolean (.int x3) = .int x3 → lv_has ls 9 [(0, .ref (G.2.2 + r0)), (1, .int x1), (2, .int x2), (3, .int x3), (4, .int x4), (5, .int x5)] → W p l e rm_X10_laysYet s m args below meth c H locs 0 0 (MQ below (Qm G h0 out (none) 0) args s 0 0 (AA G.2.2)) (F0 m 202 ls [])
def P_X10_laysYet_92 (G : Gt) (l : Launch) (p : Program) (e : Env) (s : State) (m : MethodId) (args : Array Value) (below : List Frame) (meth : Method) (c : Code) (h0 : Hp) (out : Hp) (r0 : Nat) (x1 : Int32) (x2 : Int32) (k : Hp → Int32 → Int32 → Int32 → Int32 → Option Hp) : Prop := ∀ (H : Heap) (locs : List Loc) (ls : Array Slot) (h : Hp) (x3 : Int32) (x4 : Int32) (x5 : Int32) (x6 : Int32), k h x3 x4 x5 x6 = some out → Ext h0 h → Rel G h H → va_S (AA G.2.2) s.heap H locs → hpT h r0 = (1, 10) → narrow .boolean (.int x3) = .int x3 → lv_has ls 9 [(0, .ref (G.2.2 + r0)), (1, .int x1), (2, .int x2), (3, .int x3), (4, .int x4), (5, .int x5), (6, .int x6)] → W p l e rm_X10_laysYet s m args below meth c H locs 0 0 (MQ below (Qm G h0 out (none) 0) args s 0 0 (AA G.2.2)) (F0 m 92 ls [])
def P_X10_laysYet_83 (G : Gt) (l : Launch) (p : Program) (e : Env) (s : State) (m : MethodId) (args : Array Value) (below : List Frame) (meth : Method) (c : Code) (h0 : Hp) (out : Hp) (r0 : Nat) (x1 : Int32) (x2 : Int32) (k : Hp → Int32 → Int32 → Int32 → Option Hp) : Prop := ∀ (H : Heap) (locs : List Loc) (ls : Array Slot) (h : Hp) (x3 : Int32) (x4 : Int32) (x5 : Int32), k h x3 x4 x5 = some out → Ext h0 h → Rel G h H → va_S (AA G.2.2) s.heap H locs → hpT h r0 = (1, 10) → narrow .boolean (.int x3) = .int x3 → lv_has ls 9 [(0, .ref (G.2.2 + r0)), (1, .int x1), (2, .int x2), (3, .int x3), (4, .int x4), (5, .int x5)] → W p l e rm_X10_laysYet s m args below meth c H locs 0 0 (MQ below (Qm G h0 out (none) 0) args s 0 0 (AA G.2.2)) (F0 m 83 ls [])
def P_X10_laysYet_71 (G : Gt) (l : Launch) (p : Program) (e : Env) (s : State) (m : MethodId) (args : Array Value) (below : List Frame) (meth : Method) (c : Code) (h0 : Hp) (out : Hp) (r0 : Nat) (x1 : Int32) (x2 : Int32) (k : Hp → Int32 → Int32 → Option Hp) : Prop := ∀ (H : Heap) (locs : List Loc) (ls : Array Slot) (h : Hp) (x3 : Int32) (x4 : Int32), k h x3 x4 = some out → Ext h0 h → Rel G h H → va_S (AA G.2.2) s.heap H locs → hpT h r0 = (1, 10) → narrow .boolean (.int x3) = .int x3 → lv_has ls 9 [(0, .ref (G.2.2 + r0)), (1, .int x1), (2, .int x2), (3, .int x3), (4, .int x4)] → W p l e rm_X10_laysYet s m args below meth c H locs 0 0 (MQ below (Qm G h0 out (none) 0) args s 0 0 (AA G.2.2)) (F0 m 71 ls [])
def P_X10_laysYet_62 (G : Gt) (l : Launch) (p : Program) (e : Env) (s : State) (m : MethodId) (args : Array Value) (below : List Frame) (meth : Method) (c : Code) (h0 : Hp) (out : Hp) (r0 : Nat) (x1 : Int32) (x2 : Int32) (k : Hp → Int32 → Option Hp) : Prop := ∀ (H : Heap) (locs : List Loc) (ls : Array Slot) (h : Hp) (x3 : Int32), k h x3 = some out → Ext h0 h → Rel G h H → va_S (AA G.2.2) s.heap H locs → hpT h r0 = (1, 10) → narrow .boolean (.int x3) = .int x3 → lv_has ls 9 [(0, .ref (G.2.2 + r0)), (1, .int x1), (2, .int x2), (3, .int x3)] → W p l e rm_X10_laysYet s m args below meth c H locs 0 0 (MQ below (Qm G h0 out (none) 0) args s 0 0 (AA G.2.2)) (F0 m 62 ls [])
def P_X10_laysYet_2 (G : Gt) (l : Launch) (p : Program) (e : Env) (s : State) (m : MethodId) (args : Array Value) (below : List Frame) (meth : Method) (c : Code) (h0 : Hp) (out : Hp) (r0 : Nat) (x1 : Int32) (x2 : Int32) (k : Hp → Int32 → Option Hp) : Prop := ∀ (H : Heap) (locs : List Loc) (ls : Array Slot) (h : Hp) (x3 : Int32), k h x3 = some out → Ext h0 h → Rel G h H → va_S (AA G.2.2) s.heap H locs → hpT h r0 = (1, 10) → lv_has ls 9 [(0, .ref (G.2.2 + r0)), (1, .int x1), (2, .int x2), (3, .int x3)] → W p l e rm_X10_laysYet s m args below meth c H locs 0 0 (MQ below (Qm G h0 out (none) 0) args s 0 0 (AA G.2.2)) (F0 m 2 ls [])
set_option maxRecDepth 100000 in
set_option maxHeartbeats 4000000 in
theorem w_X10_laysYet_47 {G : Gt} {l : Launch} {p : Program} {e : Env} {s : State} {m : MethodId} {args : Array Value} {below : List Frame} {meth : Method} {c : Code}  {h0 : Hp} {out : Hp} {r0 : Nat} {x1 : Int32} {x2 : Int32} {k2 : Hp → Int32 → Option Hp} {k13 : Hp → Int32 → Int32 → Option Hp} (C : Cx G p m c cX10_laysYet 9 s args RX10) (hr : meth.sig.returnType = none) (hlk : meth.locks = false)  (hk2 : P_X10_laysYet_2 G l p e s m args below meth c h0 out r0 x1 x2 k2) (hk13 : P_X10_laysYet_13 G l p e s m args below meth c h0 out r0 x1 x2 k13) : P_X10_laysYet_47 G l p e s m args below meth c h0 out r0 x1 x2 (f_X10_laysYet_47 r0 x1 x2 k2 k13) := by
  intro H locs ls h s0 s1 s2 x3 x4 hf hE hR hS t_r0 t_s0 hl
  rw [f_X10_laysYet_47] at hf
  obtain ⟨g10, hf⟩ := gd_e hf
  refine r_iast C hR hS t_s0 g10 dX10_laysYet_47 (fun H locs hR hS => ?_)
  obtain ⟨h11, e_h11⟩ : ∃ y, y = upI h s0 (ix s1) s2 := ⟨_, rfl⟩
  rw [← e_h11] at hR
  have hf := lt_e hf e_h11
  have hE := eI e_h11 hE
  have t_r0 := tI e_h11 t_r0
  obtain ⟨v12, e_v12⟩ : ∃ y : Int32, y = x4 + (1 : Int32) := ⟨_, rfl⟩
  have hf := lt_e hf e_v12
  refine lv_iinc (v := v12) (lv' := [(4, .int v12), (0, .ref (G.2.2 + r0)), (1, .int x1), (2, .int x2), (3, .int x3)]) C.x C.b dX10_laysYet_48 hl (k := 4) rfl (by rw [e_v12]; rfl) (by decide) rfl (fun ls hl => ?_)
  refine lv_goto (tgt := 13) C.x C.b dX10_laysYet_51 (by decide) ?_
  exact hk13 _ _ _ _ _ _ hf hE hR hS t_r0 (lv_sub hl [1, 2, 3, 4, 0] rfl)
set_option maxRecDepth 100000 in
set_option maxHeartbeats 4000000 in
theorem w_X10_laysYet_44 {G : Gt} {l : Launch} {p : Program} {e : Env} {s : State} {m : MethodId} {args : Array Value} {below : List Frame} {meth : Method} {c : Code}  {h0 : Hp} {out : Hp} {r0 : Nat} {x1 : Int32} {x2 : Int32} {k2 : Hp → Int32 → Option Hp} {k13 : Hp → Int32 → Int32 → Option Hp} (C : Cx G p m c cX10_laysYet 9 s args RX10) (hr : meth.sig.returnType = none) (hlk : meth.locks = false)  (hk2 : P_X10_laysYet_2 G l p e s m args below meth c h0 out r0 x1 x2 k2) (hk13 : P_X10_laysYet_13 G l p e s m args below meth c h0 out r0 x1 x2 k13) : P_X10_laysYet_44 G l p e s m args below meth c h0 out r0 x1 x2 (f_X10_laysYet_44 r0 x1 x2 k2 k13) := by
  intro H locs ls h s0 s1 x3 x4 hf hE hR hS t_r0 t_s0 hl
  rw [f_X10_laysYet_44] at hf
  refine lv_ldcw C.x C.b C.ow (C.ts _ lk_X10_392) dX10_laysYet_44 ?_
  exact w_X10_laysYet_47 C hr hlk hk2 hk13 _ _ _ _ _ _ _ _ _ hf hE hR hS t_r0 t_s0 (lv_sub hl [0, 1, 2, 3, 4] rfl)
set_option maxRecDepth 100000 in
set_option maxHeartbeats 4000000 in
theorem w_X10_laysYet_13 {G : Gt} {l : Launch} {p : Program} {e : Env} {s : State} {m : MethodId} {args : Array Value} {below : List Frame} {meth : Method} {c : Code}  {h0 : Hp} {out : Hp} {r0 : Nat} {x1 : Int32} {x2 : Int32} {k2 : Hp → Int32 → Option Hp} (C : Cx G p m c cX10_laysYet 9 s args RX10) (hr : meth.sig.returnType = none) (hlk : meth.locks = false)  (hk2 : P_X10_laysYet_2 G l p e s m args below meth c h0 out r0 x1 x2 k2) (n : Nat) : P_X10_laysYet_13 G l p e s m args below meth c h0 out r0 x1 x2 (f_X10_laysYet_13 r0 x1 x2 k2 n) := by
  induction n with
  | zero => intro H locs ls h x3 x4 hf hE hR hS t_r0 hl; cases hf
  | succ n hk13 =>
    intro H locs ls h x3 x4 hf hE hR hS t_r0 hl
    rw [f_X10_laysYet_13] at hf
    obtain ⟨k13, e_k13⟩ : ∃ y, y = f_X10_laysYet_13 r0 x1 x2 k2 n := ⟨_, rfl⟩
    have hf := lt_e hf e_k13
    rw [← e_k13] at hk13
    refine lv_iload C.x C.b dX10_laysYet_13 (lv_at hl 4 rfl) ?_
    refine lv_iload_n C.x C.b dX10_laysYet_15 rfl (lv_at hl 2 rfl) ?_
    refine lv_icmp_gt (tgt := 54) C.x C.b dX10_laysYet_16 (by decide) (fun c3 => ?_) (fun c3 => ?_)
    · have hf := it_t hf c3
      obtain ⟨v4, e_v4⟩ : ∃ y : Int32, y = x3 + (1 : Int32) := ⟨_, rfl⟩
      have hf := lt_e hf e_v4
      refine lv_iinc (v := v4) (lv' := [(3, .int v4), (0, .ref (G.2.2 + r0)), (1, .int x1), (2, .int x2), (4, .int x4)]) C.x C.b dX10_laysYet_54 hl (k := 3) rfl (by rw [e_v4]; rfl) (by decide) rfl (fun ls hl => ?_)
      refine lv_goto (tgt := 2) C.x C.b dX10_laysYet_57 (by decide) ?_
      exact hk2 _ _ _ _ _ hf hE hR hS t_r0 (lv_sub hl [1, 2, 3, 0] rfl)
    · have hf := it_f hf c3
      refine lv_aload_n C.x C.b dX10_laysYet_19 rfl (lv_at hl 0 rfl) ?_
      obtain ⟨g5, hf⟩ := gd_e hf
      refine r_getr C hR t_r0 fl_X10_60 (by decide) (nz_e g5) dX10_laysYet_20 (fun tq6 => ?_)
      have tg5 := okA tq6 rfl
      refine lv_iload_n C.x C.b dX10_laysYet_23 rfl (lv_at hl 3 rfl) ?_
      refine lv_iload C.x C.b dX10_laysYet_24 (lv_at hl 4 rfl) ?_
      obtain ⟨q7, h_q7, hf⟩ := bd_e hf
      refine r_callS (As := [.int x3, .int x4]) (rest := [.ref (G.2.2 + (hpR h r0 29))]) C hR hS mk_X10_state cl_X10_396 (k_X10_state h_q7) ⟨⟨Nat.le_of_ble_eq_true rfl, Nat.le_of_ble_eq_true rfl⟩, ⟨rfl, rfl⟩, Nat.le_of_ble_eq_true rfl, Nat.le_of_ble_eq_true rfl⟩ rfl hl.1 rfl (Nat.le_of_ble_eq_true rfl) dX10_laysYet_26 (fun H locs hR hS hE1 z_q7 => ?_)
      refine lv_iload_n C.x C.b dX10_laysYet_29 rfl (lv_at hl 3 rfl) ?_
      refine lv_iload_n C.x C.b dX10_laysYet_30 rfl (lv_at hl 1 rfl) ?_
      refine lv_icmp_ne (tgt := 44) C.x C.b dX10_laysYet_31 (by decide) (fun c8 => ?_) (fun c8 => ?_)
      · have hf := it_f hf c8
        exact w_X10_laysYet_44 C hr hlk hk2 hk13 _ _ _ _ _ _ _ _ hf hE hR hS t_r0 tg5 (lv_sub hl [0, 1, 2, 3, 4] rfl)
      · have hf := it_t hf c8
        refine lv_iload C.x C.b dX10_laysYet_34 (lv_at hl 4 rfl) ?_
        refine lv_iload_n C.x C.b dX10_laysYet_36 rfl (lv_at hl 2 rfl) ?_
        refine lv_icmp_ne (tgt := 44) C.x C.b dX10_laysYet_37 (by decide) (fun c9 => ?_) (fun c9 => ?_)
        · have hf := it_f hf c9
          exact w_X10_laysYet_44 C hr hlk hk2 hk13 _ _ _ _ _ _ _ _ hf hE hR hS t_r0 tg5 (lv_sub hl [0, 1, 2, 3, 4] rfl)
        · have hf := it_t hf c9
          refine lv_iconst (v := (0 : Int32)) C.x C.b dX10_laysYet_40 (by decide) ?_
          refine lv_goto (tgt := 47) C.x C.b dX10_laysYet_41 (by decide) ?_
          exact w_X10_laysYet_47 C hr hlk hk2 hk13 _ _ _ _ _ _ _ _ _ hf hE hR hS t_r0 tg5 (lv_sub hl [0, 1, 2, 3, 4] rfl)
set_option maxRecDepth 100000 in
set_option maxHeartbeats 4000000 in
theorem w_X10_laysYet_196 {G : Gt} {l : Launch} {p : Program} {e : Env} {s : State} {m : MethodId} {args : Array Value} {below : List Frame} {meth : Method} {c : Code}  {h0 : Hp} {out : Hp} {r0 : Nat} {x1 : Int32} {x2 : Int32} {k62 : Hp → Int32 → Option Hp} {k71 : Hp → Int32 → Int32 → Option Hp} {k83 : Hp → Int32 → Int32 → Int32 → Option Hp} {k92 : Hp → Int32 → Int32 → Int32 → Int32 → Option Hp} (C : Cx G p m c cX10_laysYet 9 s args RX10) (hr : meth.sig.returnType = none) (hlk : meth.locks = false)  (hk62 : P_X10_laysYet_62 G l p e s m args below meth c h0 out r0 x1 x2 k62) (hk71 : P_X10_laysYet_71 G l p e s m args below meth c h0 out r0 x1 x2 k71) (hk83 : P_X10_laysYet_83 G l p e s m args below meth c h0 out r0 x1 x2 k83) (hk92 : P_X10_laysYet_92 G l p e s m args below meth c h0 out r0 x1 x2 k92) : P_X10_laysYet_196 G l p e s m args below meth c h0 out r0 x1 x2 (f_X10_laysYet_196 r0 x1 x2 k62 k71 k83 k92) := by
  intro H locs ls h x3 x4 x5 x6 hf hE hR hS t_r0 z_x3 hl
  rw [f_X10_laysYet_196] at hf
  obtain ⟨v41, e_v41⟩ : ∃ y : Int32, y = x6 + (1 : Int32) := ⟨_, rfl⟩
  have hf := lt_e hf e_v41
  refine lv_iinc (v := v41) (lv' := [(6, .int v41), (0, .ref (G.2.2 + r0)), (1, .int x1), (2, .int x2), (3, .int x3), (4, .int x4), (5, .int x5)]) C.x C.b dX10_laysYet_196 hl (k := 6) rfl (by rw [e_v41]; rfl) (by decide) rfl (fun ls hl => ?_)
  refine lv_goto (tgt := 92) C.x C.b dX10_laysYet_199 (by decide) ?_
  exact hk92 _ _ _ _ _ _ _ _ hf hE hR hS t_r0 z_x3 (lv_sub hl [1, 2, 3, 4, 5, 6, 0] rfl)
set_option maxRecDepth 100000 in
set_option maxHeartbeats 4000000 in
theorem w_X10_laysYet_161 {G : Gt} {l : Launch} {p : Program} {e : Env} {s : State} {m : MethodId} {args : Array Value} {below : List Frame} {meth : Method} {c : Code}  {h0 : Hp} {out : Hp} {r0 : Nat} {x1 : Int32} {x2 : Int32} {k62 : Hp → Int32 → Option Hp} {k71 : Hp → Int32 → Int32 → Option Hp} {k83 : Hp → Int32 → Int32 → Int32 → Option Hp} {k92 : Hp → Int32 → Int32 → Int32 → Int32 → Option Hp} (C : Cx G p m c cX10_laysYet 9 s args RX10) (hr : meth.sig.returnType = none) (hlk : meth.locks = false)  (hk62 : P_X10_laysYet_62 G l p e s m args below meth c h0 out r0 x1 x2 k62) (hk71 : P_X10_laysYet_71 G l p e s m args below meth c h0 out r0 x1 x2 k71) (hk83 : P_X10_laysYet_83 G l p e s m args below meth c h0 out r0 x1 x2 k83) (hk92 : P_X10_laysYet_92 G l p e s m args below meth c h0 out r0 x1 x2 k92) : P_X10_laysYet_161 G l p e s m args below meth c h0 out r0 x1 x2 (f_X10_laysYet_161 r0 x1 x2 k62 k71 k83 k92) := by
  intro H locs ls h s0 x3 x4 x5 x6 hf hE hR hS t_r0 z_x3 hl
  rw [f_X10_laysYet_161] at hf
  refine lv_istore (lv' := [(8, .int s0), (0, .ref (G.2.2 + r0)), (1, .int x1), (2, .int x2), (3, .int x3), (4, .int x4), (5, .int x5), (6, .int x6)]) C.x C.b dX10_laysYet_161 hl (by decide) rfl (fun ls hl => ?_)
  refine lv_iload C.x C.b dX10_laysYet_163 (lv_at hl 0 rfl) ?_
  refine lv_aload_n C.x C.b dX10_laysYet_165 rfl (lv_at hl 1 rfl) ?_
  obtain ⟨g32, hf⟩ := gd_e hf
  refine r_getr C hR t_r0 fl_X10_60 (by decide) (nz_e g32) dX10_laysYet_166 (fun tq33 => ?_)
  have tg32 := okA tq33 rfl
  refine lv_iload C.x C.b dX10_laysYet_169 (lv_at hl 5 rfl) ?_
  refine lv_iload C.x C.b dX10_laysYet_171 (lv_at hl 6 rfl) ?_
  obtain ⟨q34, h_q34, hf⟩ := bd_e hf
  refine r_callS (As := [.int x4, .int x5]) (rest := [.ref (G.2.2 + (hpR h r0 29)), .int s0]) C hR hS mk_X10_state cl_X10_396 (k_X10_state h_q34) ⟨⟨Nat.le_of_ble_eq_true rfl, Nat.le_of_ble_eq_true rfl⟩, ⟨rfl, rfl⟩, Nat.le_of_ble_eq_true rfl, Nat.le_of_ble_eq_true rfl⟩ rfl hl.1 rfl (Nat.le_of_ble_eq_true rfl) dX10_laysYet_173 (fun H locs hR hS hE1 z_q34 => ?_)
  obtain ⟨g35, hf⟩ := gd_e hf
  refine r_iald C hR tg32 g35 dX10_laysYet_176 ?_
  refine lv_icmp_ge (tgt := 196) C.x C.b dX10_laysYet_177 (by decide) (fun c36 => ?_) (fun c36 => ?_)
  · have hf := it_t hf c36
    exact w_X10_laysYet_196 C hr hlk hk62 hk71 hk83 hk92 _ _ _ _ _ _ _ _ hf hE hR hS t_r0 z_x3 (lv_sub hl [1, 2, 3, 4, 5, 6, 7] rfl)
  · have hf := it_f hf c36
    refine lv_aload_n C.x C.b dX10_laysYet_180 rfl (lv_at hl 1 rfl) ?_
    refine r_getr C hR t_r0 fl_X10_60 (by decide) (nz_e g32) dX10_laysYet_181 (fun tq37 => ?_)
    refine lv_iload C.x C.b dX10_laysYet_184 (lv_at hl 5 rfl) ?_
    refine lv_iload C.x C.b dX10_laysYet_186 (lv_at hl 6 rfl) ?_
    obtain ⟨q38, h_q38, hf⟩ := bd_e hf
    refine r_callS (As := [.int x4, .int x5]) (rest := [.ref (G.2.2 + (hpR h r0 29))]) C hR hS mk_X10_state cl_X10_396 (k_X10_state h_q38) ⟨⟨Nat.le_of_ble_eq_true rfl, Nat.le_of_ble_eq_true rfl⟩, ⟨rfl, rfl⟩, Nat.le_of_ble_eq_true rfl, Nat.le_of_ble_eq_true rfl⟩ rfl hl.1 rfl (Nat.le_of_ble_eq_true rfl) dX10_laysYet_188 (fun H locs hR hS hE1 z_q38 => ?_)
    refine lv_iload C.x C.b dX10_laysYet_191 (lv_at hl 0 rfl) ?_
    obtain ⟨g39, hf⟩ := gd_e hf
    refine r_iast C hR hS tg32 g39 dX10_laysYet_193 (fun H locs hR hS => ?_)
    obtain ⟨h40, e_h40⟩ : ∃ y, y = upI h (hpR h r0 29) (ix q38) s0 := ⟨_, rfl⟩
    rw [← e_h40] at hR
    have hf := lt_e hf e_h40
    have hE := eI e_h40 hE
    have t_r0 := tI e_h40 t_r0
    refine lv_iconst (v := (1 : Int32)) C.x C.b dX10_laysYet_194 (by decide) ?_
    refine lv_istore_n (lv' := [(3, .int (1 : Int32)), (8, .int s0), (0, .ref (G.2.2 + r0)), (1, .int x1), (2, .int x2), (4, .int x4), (5, .int x5), (6, .int x6)]) C.x C.b dX10_laysYet_195 rfl hl (by decide) rfl (fun ls hl => ?_)
    exact w_X10_laysYet_196 C hr hlk hk62 hk71 hk83 hk92 _ _ _ _ _ _ _ _ hf hE hR hS t_r0 z_1 (lv_sub hl [2, 3, 4, 0, 5, 6, 7] rfl)
set_option maxRecDepth 100000 in
set_option maxHeartbeats 4000000 in
theorem w_X10_laysYet_202 {G : Gt} {l : Launch} {p : Program} {e : Env} {s : State} {m : MethodId} {args : Array Value} {below : List Frame} {meth : Method} {c : Code}  {h0 : Hp} {out : Hp} {r0 : Nat} {x1 : Int32} {x2 : Int32} {k62 : Hp → Int32 → Option Hp} {k71 : Hp → Int32 → Int32 → Option Hp} {k83 : Hp → Int32 → Int32 → Int32 → Option Hp} (C : Cx G p m c cX10_laysYet 9 s args RX10) (hr : meth.sig.returnType = none) (hlk : meth.locks = false)  (hk62 : P_X10_laysYet_62 G l p e s m args below meth c h0 out r0 x1 x2 k62) (hk71 : P_X10_laysYet_71 G l p e s m args below meth c h0 out r0 x1 x2 k71) (hk83 : P_X10_laysYet_83 G l p e s m args below meth c h0 out r0 x1 x2 k83) : P_X10_laysYet_202 G l p e s m args below meth c h0 out r0 x1 x2 (f_X10_laysYet_202 r0 x1 x2 k62 k71 k83) := by
  intro H locs ls h x3 x4 x5 hf hE hR hS t_r0 z_x3 hl
  rw [f_X10_laysYet_202] at hf
  obtain ⟨v42, e_v42⟩ : ∃ y : Int32, y = x5 + (1 : Int32) := ⟨_, rfl⟩
  have hf := lt_e hf e_v42
  refine lv_iinc (v := v42) (lv' := [(5, .int v42), (0, .ref (G.2.2 + r0)), (1, .int x1), (2, .int x2), (3, .int x3), (4, .int x4)]) C.x C.b dX10_laysYet_202 hl (k := 5) rfl (by rw [e_v42]; rfl) (by decide) rfl (fun ls hl => ?_)
  refine lv_goto (tgt := 83) C.x C.b dX10_laysYet_205 (by decide) ?_
  exact hk83 _ _ _ _ _ _ _ hf hE hR hS t_r0 z_x3 (lv_sub hl [1, 2, 3, 4, 5, 0] rfl)
set_option maxRecDepth 100000 in
set_option maxHeartbeats 4000000 in
theorem w_X10_laysYet_92 {G : Gt} {l : Launch} {p : Program} {e : Env} {s : State} {m : MethodId} {args : Array Value} {below : List Frame} {meth : Method} {c : Code}  {h0 : Hp} {out : Hp} {r0 : Nat} {x1 : Int32} {x2 : Int32} {k62 : Hp → Int32 → Option Hp} {k71 : Hp → Int32 → Int32 → Option Hp} {k83 : Hp → Int32 → Int32 → Int32 → Option Hp} (C : Cx G p m c cX10_laysYet 9 s args RX10) (hr : meth.sig.returnType = none) (hlk : meth.locks = false)  (hk62 : P_X10_laysYet_62 G l p e s m args below meth c h0 out r0 x1 x2 k62) (hk71 : P_X10_laysYet_71 G l p e s m args below meth c h0 out r0 x1 x2 k71) (hk83 : P_X10_laysYet_83 G l p e s m args below meth c h0 out r0 x1 x2 k83) (n : Nat) : P_X10_laysYet_92 G l p e s m args below meth c h0 out r0 x1 x2 (f_X10_laysYet_92 r0 x1 x2 k62 k71 k83 n) := by
  induction n with
  | zero => intro H locs ls h x3 x4 x5 x6 hf hE hR hS t_r0 z_x3 hl; cases hf
  | succ n hk92 =>
    intro H locs ls h x3 x4 x5 x6 hf hE hR hS t_r0 z_x3 hl
    rw [f_X10_laysYet_92] at hf
    obtain ⟨k92, e_k92⟩ : ∃ y, y = f_X10_laysYet_92 r0 x1 x2 k62 k71 k83 n := ⟨_, rfl⟩
    have hf := lt_e hf e_k92
    rw [← e_k92] at hk92
    refine lv_iload C.x C.b dX10_laysYet_92 (lv_at hl 6 rfl) ?_
    refine lv_iconst (v := (4 : Int32)) C.x C.b dX10_laysYet_94 (by decide) ?_
    refine lv_icmp_ge (tgt := 202) C.x C.b dX10_laysYet_95 (by decide) (fun c18 => ?_) (fun c18 => ?_)
    · have hf := it_t hf c18
      exact w_X10_laysYet_202 C hr hlk hk62 hk71 hk83 _ _ _ _ _ _ _ hf hE hR hS t_r0 z_x3 (lv_sub hl [0, 1, 2, 3, 4, 5] rfl)
    · have hf := it_f hf c18
      refine lv_iload C.x C.b dX10_laysYet_98 (lv_at hl 5 rfl) ?_
      refine lv_iload_n C.x C.b dX10_laysYet_100 rfl (lv_at hl 2 rfl) ?_
      refine lv_iconst (v := (-1 : Int32)) C.x C.b dX10_laysYet_101 (by decide) ?_
      refine lv_ixor C.x C.b dX10_laysYet_102 ?_
      refine lv_iand C.x C.b dX10_laysYet_103 ?_
      refine lv_if_ne (tgt := 202) C.x C.b dX10_laysYet_104 (by decide) (fun c19 => ?_) (fun c19 => ?_)
      · have hf := it_f hf c19
        exact w_X10_laysYet_202 C hr hlk hk62 hk71 hk83 _ _ _ _ _ _ _ hf hE hR hS t_r0 z_x3 (lv_sub hl [0, 1, 2, 3, 4, 5] rfl)
      · have hf := it_t hf c19
        refine lv_aload_n C.x C.b dX10_laysYet_107 rfl (lv_at hl 0 rfl) ?_
        refine lv_iload C.x C.b dX10_laysYet_108 (lv_at hl 4 rfl) ?_
        refine lv_iload C.x C.b dX10_laysYet_110 (lv_at hl 6 rfl) ?_
        obtain ⟨q20, h_q20, hf⟩ := bd_e hf
        refine r_callV (As := [.int x4, .int x6]) (rest := []) C hR hS t_r0 rfl mk_X10_beside cl_X10_399 (k_X10_beside t_r0 h_q20) ⟨⟨Nat.le_of_ble_eq_true rfl, Nat.le_of_ble_eq_true rfl⟩, ⟨rfl, rfl⟩, Nat.le_of_ble_eq_true rfl, Nat.le_of_ble_eq_true rfl⟩ rfl hl.1 rfl (Nat.le_of_ble_eq_true rfl) dX10_laysYet_112 (fun H locs hR hS hE1 z_q20 => ?_)
        refine lv_istore (lv' := [(7, .int q20), (0, .ref (G.2.2 + r0)), (1, .int x1), (2, .int x2), (3, .int x3), (4, .int x4), (5, .int x5), (6, .int x6)]) C.x C.b dX10_laysYet_115 hl (by decide) rfl (fun ls hl => ?_)
        refine lv_iload C.x C.b dX10_laysYet_117 (lv_at hl 0 rfl) ?_
        refine lv_if_ge (tgt := 128) C.x C.b dX10_laysYet_119 (by decide) (fun c21 => ?_) (fun c21 => ?_)
        · have hf := it_t hf c21
          refine lv_aload_n C.x C.b dX10_laysYet_128 rfl (lv_at hl 1 rfl) ?_
          obtain ⟨g22, hf⟩ := gd_e hf
          refine r_getr C hR t_r0 fl_X10_60 (by decide) (nz_e g22) dX10_laysYet_129 (fun tq23 => ?_)
          have tg22 := okA tq23 rfl
          refine lv_iload C.x C.b dX10_laysYet_132 (lv_at hl 0 rfl) ?_
          refine lv_iload C.x C.b dX10_laysYet_134 (lv_at hl 6 rfl) ?_
          refine lv_aload_n C.x C.b dX10_laysYet_136 rfl (lv_at hl 1 rfl) ?_
          refine lv_aload_n C.x C.b dX10_laysYet_137 rfl (lv_at hl 1 rfl) ?_
          obtain ⟨g24, hf⟩ := gd_e hf
          refine r_getr C hR t_r0 fl_X10_20 (by decide) (nz_e g24) dX10_laysYet_138 (fun tq25 => ?_)
          have tg24 := okA tq25 rfl
          refine lv_iload C.x C.b dX10_laysYet_141 (lv_at hl 0 rfl) ?_
          obtain ⟨q26, h_q26, hf⟩ := bd_e hf
          refine r_callV (As := [.ref (G.2.2 + (hpR h r0 6)), .int q20]) (rest := [.int x5, .int q20, .ref (G.2.2 + (hpR h r0 29))]) C hR hS t_r0 rfl mk_X10_campsOver cl_X10_294 (k_X10_campsOver t_r0 tg24 h_q26) ⟨⟨Nat.le_of_ble_eq_true rfl, Nat.le_of_ble_eq_true rfl⟩, ⟨rfl, rfl⟩, Nat.le_of_ble_eq_true rfl, Nat.le_of_ble_eq_true rfl⟩ rfl hl.1 rfl (Nat.le_of_ble_eq_true rfl) dX10_laysYet_143 (fun H locs hR hS hE1 z_q26 => ?_)
          refine lv_iload_n C.x C.b dX10_laysYet_146 rfl (lv_at hl 3 rfl) ?_
          refine lv_iand C.x C.b dX10_laysYet_147 ?_
          refine lv_ior C.x C.b dX10_laysYet_148 ?_
          obtain ⟨q27, h_q27, hf⟩ := bd_e hf
          refine r_callS (As := [.int q20, .int (x5 ||| (q26 &&& x2))]) (rest := [.ref (G.2.2 + (hpR h r0 29))]) C hR hS mk_X10_state cl_X10_396 (k_X10_state h_q27) ⟨⟨Nat.le_of_ble_eq_true rfl, Nat.le_of_ble_eq_true rfl⟩, ⟨rfl, rfl⟩, Nat.le_of_ble_eq_true rfl, Nat.le_of_ble_eq_true rfl⟩ rfl hl.1 rfl (Nat.le_of_ble_eq_true rfl) dX10_laysYet_149 (fun H locs hR hS hE1 z_q27 => ?_)
          obtain ⟨g28, hf⟩ := gd_e hf
          refine r_iald C hR tg22 g28 dX10_laysYet_152 ?_
          refine lv_aload_n C.x C.b dX10_laysYet_153 rfl (lv_at hl 1 rfl) ?_
          obtain ⟨g29, hf⟩ := gd_e hf
          refine r_getr C hR t_r0 fl_X10_63 (by decide) (nz_e g29) dX10_laysYet_154 (fun tq30 => ?_)
          have tg29 := okA tq30 rfl
          refine lv_iload C.x C.b dX10_laysYet_157 (lv_at hl 0 rfl) ?_
          obtain ⟨g31, hf⟩ := gd_e hf
          refine r_iald C hR tg29 g31 dX10_laysYet_159 ?_
          refine lv_iadd C.x C.b dX10_laysYet_160 ?_
          exact w_X10_laysYet_161 C hr hlk hk62 hk71 hk83 hk92 _ _ _ _ _ _ _ _ _ hf hE hR hS t_r0 z_x3 (lv_sub hl [1, 2, 3, 4, 5, 6, 7] rfl)
        · have hf := it_f hf c21
          refine lv_ldcw C.x C.b C.ow (C.ts _ lk_X10_392) dX10_laysYet_122 ?_
          refine lv_goto (tgt := 161) C.x C.b dX10_laysYet_125 (by decide) ?_
          exact w_X10_laysYet_161 C hr hlk hk62 hk71 hk83 hk92 _ _ _ _ _ _ _ _ _ hf hE hR hS t_r0 z_x3 (lv_sub hl [1, 2, 3, 4, 5, 6, 7] rfl)
set_option maxRecDepth 100000 in
set_option maxHeartbeats 4000000 in
theorem w_X10_laysYet_83 {G : Gt} {l : Launch} {p : Program} {e : Env} {s : State} {m : MethodId} {args : Array Value} {below : List Frame} {meth : Method} {c : Code}  {h0 : Hp} {out : Hp} {r0 : Nat} {x1 : Int32} {x2 : Int32} {k62 : Hp → Int32 → Option Hp} {k71 : Hp → Int32 → Int32 → Option Hp} (C : Cx G p m c cX10_laysYet 9 s args RX10) (hr : meth.sig.returnType = none) (hlk : meth.locks = false)  (hk62 : P_X10_laysYet_62 G l p e s m args below meth c h0 out r0 x1 x2 k62) (hk71 : P_X10_laysYet_71 G l p e s m args below meth c h0 out r0 x1 x2 k71) (n : Nat) : P_X10_laysYet_83 G l p e s m args below meth c h0 out r0 x1 x2 (f_X10_laysYet_83 r0 x1 x2 k62 k71 n) := by
  induction n with
  | zero => intro H locs ls h x3 x4 x5 hf hE hR hS t_r0 z_x3 hl; cases hf
  | succ n hk83 =>
    intro H locs ls h x3 x4 x5 hf hE hR hS t_r0 z_x3 hl
    rw [f_X10_laysYet_83] at hf
    obtain ⟨k83, e_k83⟩ : ∃ y, y = f_X10_laysYet_83 r0 x1 x2 k62 k71 n := ⟨_, rfl⟩
    have hf := lt_e hf e_k83
    rw [← e_k83] at hk83
    refine lv_iload C.x C.b dX10_laysYet_83 (lv_at hl 5 rfl) ?_
    refine lv_iload_n C.x C.b dX10_laysYet_85 rfl (lv_at hl 2 rfl) ?_
    refine lv_icmp_gt (tgt := 208) C.x C.b dX10_laysYet_86 (by decide) (fun c16 => ?_) (fun c16 => ?_)
    · have hf := it_t hf c16
      obtain ⟨v17, e_v17⟩ : ∃ y : Int32, y = x4 + (1 : Int32) := ⟨_, rfl⟩
      have hf := lt_e hf e_v17
      refine lv_iinc (v := v17) (lv' := [(4, .int v17), (0, .ref (G.2.2 + r0)), (1, .int x1), (2, .int x2), (3, .int x3), (5, .int x5)]) C.x C.b dX10_laysYet_208 hl (k := 4) rfl (by rw [e_v17]; rfl) (by decide) rfl (fun ls hl => ?_)
      refine lv_goto (tgt := 71) C.x C.b dX10_laysYet_211 (by decide) ?_
      exact hk71 _ _ _ _ _ _ hf hE hR hS t_r0 z_x3 (lv_sub hl [1, 2, 3, 4, 0] rfl)
    · have hf := it_f hf c16
      refine lv_iconst (v := (0 : Int32)) C.x C.b dX10_laysYet_89 (by decide) ?_
      refine lv_istore (lv' := [(6, .int (0 : Int32)), (0, .ref (G.2.2 + r0)), (1, .int x1), (2, .int x2), (3, .int x3), (4, .int x4), (5, .int x5)]) C.x C.b dX10_laysYet_90 hl (by decide) rfl (fun ls hl => ?_)
      exact w_X10_laysYet_92 C hr hlk hk62 hk71 hk83 FU _ _ _ _ _ _ _ _ hf hE hR hS t_r0 z_x3 (lv_sub hl [1, 2, 3, 4, 5, 6, 0] rfl)
set_option maxRecDepth 100000 in
set_option maxHeartbeats 4000000 in
theorem w_X10_laysYet_71 {G : Gt} {l : Launch} {p : Program} {e : Env} {s : State} {m : MethodId} {args : Array Value} {below : List Frame} {meth : Method} {c : Code}  {h0 : Hp} {out : Hp} {r0 : Nat} {x1 : Int32} {x2 : Int32} {k62 : Hp → Int32 → Option Hp} (C : Cx G p m c cX10_laysYet 9 s args RX10) (hr : meth.sig.returnType = none) (hlk : meth.locks = false)  (hk62 : P_X10_laysYet_62 G l p e s m args below meth c h0 out r0 x1 x2 k62) (n : Nat) : P_X10_laysYet_71 G l p e s m args below meth c h0 out r0 x1 x2 (f_X10_laysYet_71 r0 x1 x2 k62 n) := by
  induction n with
  | zero => intro H locs ls h x3 x4 hf hE hR hS t_r0 z_x3 hl; cases hf
  | succ n hk71 =>
    intro H locs ls h x3 x4 hf hE hR hS t_r0 z_x3 hl
    rw [f_X10_laysYet_71] at hf
    obtain ⟨k71, e_k71⟩ : ∃ y, y = f_X10_laysYet_71 r0 x1 x2 k62 n := ⟨_, rfl⟩
    have hf := lt_e hf e_k71
    rw [← e_k71] at hk71
    refine lv_iload C.x C.b dX10_laysYet_71 (lv_at hl 4 rfl) ?_
    refine lv_aload_n C.x C.b dX10_laysYet_73 rfl (lv_at hl 0 rfl) ?_
    obtain ⟨q14, h_q14, hf⟩ := bd_e hf
    refine r_callV (As := []) (rest := [.int x4]) C hR hS t_r0 rfl mk_X10_cells cl_X10_113 (k_X10_cells t_r0 h_q14) ⟨⟨Nat.le_of_ble_eq_true rfl, Nat.le_of_ble_eq_true rfl⟩, ⟨rfl, rfl⟩, Nat.le_of_ble_eq_true rfl, Nat.le_of_ble_eq_true rfl⟩ rfl hl.1 rfl (Nat.le_of_ble_eq_true rfl) dX10_laysYet_74 (fun H locs hR hS hE1 z_q14 => ?_)
    refine lv_icmp_ge (tgt := 214) C.x C.b dX10_laysYet_77 (by decide) (fun c15 => ?_) (fun c15 => ?_)
    · have hf := it_t hf c15
      refine lv_goto (tgt := 62) C.x C.b dX10_laysYet_214 (by decide) ?_
      exact hk62 _ _ _ _ _ hf hE hR hS t_r0 z_x3 (lv_sub hl [0, 1, 2, 3] rfl)
    · have hf := it_f hf c15
      refine lv_iconst (v := (0 : Int32)) C.x C.b dX10_laysYet_80 (by decide) ?_
      refine lv_istore (lv' := [(5, .int (0 : Int32)), (0, .ref (G.2.2 + r0)), (1, .int x1), (2, .int x2), (3, .int x3), (4, .int x4)]) C.x C.b dX10_laysYet_81 hl (by decide) rfl (fun ls hl => ?_)
      exact w_X10_laysYet_83 C hr hlk hk62 hk71 FU _ _ _ _ _ _ _ hf hE hR hS t_r0 z_x3 (lv_sub hl [1, 2, 3, 4, 5, 0] rfl)
set_option maxRecDepth 100000 in
set_option maxHeartbeats 4000000 in
theorem w_X10_laysYet_62 {G : Gt} {l : Launch} {p : Program} {e : Env} {s : State} {m : MethodId} {args : Array Value} {below : List Frame} {meth : Method} {c : Code}  {h0 : Hp} {out : Hp} {r0 : Nat} {x1 : Int32} {x2 : Int32}  (C : Cx G p m c cX10_laysYet 9 s args RX10) (hr : meth.sig.returnType = none) (hlk : meth.locks = false)   (n : Nat) : P_X10_laysYet_62 G l p e s m args below meth c h0 out r0 x1 x2 (f_X10_laysYet_62 r0 x1 x2 n) := by
  induction n with
  | zero => intro H locs ls h x3 hf hE hR hS t_r0 z_x3 hl; cases hf
  | succ n hk62 =>
    intro H locs ls h x3 hf hE hR hS t_r0 z_x3 hl
    rw [f_X10_laysYet_62] at hf
    obtain ⟨k62, e_k62⟩ : ∃ y, y = f_X10_laysYet_62 r0 x1 x2 n := ⟨_, rfl⟩
    have hf := lt_e hf e_k62
    rw [← e_k62] at hk62
    refine lv_iload_n C.x C.b dX10_laysYet_62 rfl (lv_at hl 3 rfl) ?_
    refine lv_if_eq (tgt := 217) C.x C.b dX10_laysYet_63 (by decide) (fun c13 => ?_) (fun c13 => ?_)
    · have hf := it_t hf c13
      have hf := so_e hf
      subst hf
      exact r_vret C hr hlk hR hE hS dX10_laysYet_217
    · have hf := it_f hf c13
      refine lv_iconst (v := (0 : Int32)) C.x C.b dX10_laysYet_66 (by decide) ?_
      refine lv_istore_n (lv' := [(3, .int (0 : Int32)), (0, .ref (G.2.2 + r0)), (1, .int x1), (2, .int x2)]) C.x C.b dX10_laysYet_67 rfl hl (by decide) rfl (fun ls hl => ?_)
      refine lv_iconst (v := (0 : Int32)) C.x C.b dX10_laysYet_68 (by decide) ?_
      refine lv_istore (lv' := [(4, .int (0 : Int32)), (3, .int (0 : Int32)), (0, .ref (G.2.2 + r0)), (1, .int x1), (2, .int x2)]) C.x C.b dX10_laysYet_69 hl (by decide) rfl (fun ls hl => ?_)
      exact w_X10_laysYet_71 C hr hlk hk62 FU _ _ _ _ _ _ hf hE hR hS t_r0 z_0 (lv_sub hl [2, 3, 4, 1, 0] rfl)
set_option maxRecDepth 100000 in
set_option maxHeartbeats 4000000 in
theorem w_X10_laysYet_2 {G : Gt} {l : Launch} {p : Program} {e : Env} {s : State} {m : MethodId} {args : Array Value} {below : List Frame} {meth : Method} {c : Code}  {h0 : Hp} {out : Hp} {r0 : Nat} {x1 : Int32} {x2 : Int32}  (C : Cx G p m c cX10_laysYet 9 s args RX10) (hr : meth.sig.returnType = none) (hlk : meth.locks = false)   (n : Nat) : P_X10_laysYet_2 G l p e s m args below meth c h0 out r0 x1 x2 (f_X10_laysYet_2 r0 x1 x2 n) := by
  induction n with
  | zero => intro H locs ls h x3 hf hE hR hS t_r0 hl; cases hf
  | succ n hk2 =>
    intro H locs ls h x3 hf hE hR hS t_r0 hl
    rw [f_X10_laysYet_2] at hf
    obtain ⟨k2, e_k2⟩ : ∃ y, y = f_X10_laysYet_2 r0 x1 x2 n := ⟨_, rfl⟩
    have hf := lt_e hf e_k2
    rw [← e_k2] at hk2
    refine lv_iload_n C.x C.b dX10_laysYet_2 rfl (lv_at hl 3 rfl) ?_
    refine lv_aload_n C.x C.b dX10_laysYet_3 rfl (lv_at hl 0 rfl) ?_
    obtain ⟨q1, h_q1, hf⟩ := bd_e hf
    refine r_callV (As := []) (rest := [.int x3]) C hR hS t_r0 rfl mk_X10_cells cl_X10_113 (k_X10_cells t_r0 h_q1) ⟨⟨Nat.le_of_ble_eq_true rfl, Nat.le_of_ble_eq_true rfl⟩, ⟨rfl, rfl⟩, Nat.le_of_ble_eq_true rfl, Nat.le_of_ble_eq_true rfl⟩ rfl hl.1 rfl (Nat.le_of_ble_eq_true rfl) dX10_laysYet_4 (fun H locs hR hS hE1 z_q1 => ?_)
    refine lv_icmp_ge (tgt := 60) C.x C.b dX10_laysYet_7 (by decide) (fun c2 => ?_) (fun c2 => ?_)
    · have hf := it_t hf c2
      refine lv_iconst (v := (1 : Int32)) C.x C.b dX10_laysYet_60 (by decide) ?_
      refine lv_istore_n (lv' := [(3, .int (1 : Int32)), (0, .ref (G.2.2 + r0)), (1, .int x1), (2, .int x2)]) C.x C.b dX10_laysYet_61 rfl hl (by decide) rfl (fun ls hl => ?_)
      exact w_X10_laysYet_62 C hr hlk FU _ _ _ _ _ hf hE hR hS t_r0 z_1 (lv_sub hl [1, 2, 3, 0] rfl)
    · have hf := it_f hf c2
      refine lv_iconst (v := (0 : Int32)) C.x C.b dX10_laysYet_10 (by decide) ?_
      refine lv_istore (lv' := [(4, .int (0 : Int32)), (0, .ref (G.2.2 + r0)), (1, .int x1), (2, .int x2), (3, .int x3)]) C.x C.b dX10_laysYet_11 hl (by decide) rfl (fun ls hl => ?_)
      exact w_X10_laysYet_13 C hr hlk hk2 FU _ _ _ _ _ _ hf hE hR hS t_r0 (lv_sub hl [1, 2, 3, 4, 0] rfl)
set_option maxRecDepth 100000 in
set_option maxHeartbeats 4000000 in
theorem k_X10_laysYet {G : Gt} {l : Launch}  {h : Hp} {r0 : Nat} {x1 : Int32} {x2 : Int32} {out : Hp} (t_r0 : hpT h r0 = (1, 10))  (hf : f_X10_laysYet  h r0 x1 x2 = some out) : Mt G l yX10_laysYet cX10_laysYet 9 (none) rm_X10_laysYet [.ref (G.2.2 + r0), .int x1, .int x2] h (none) out 0 0 0 := by
  refine r_met (by decide +kernel) (Nat.le_of_ble_eq_true rfl) ?_
  intro p e s m args below meth c ls C hr hlk hnm hR hS hl
  have hE : Ext h h := Ext.rf
  have hl : lv_has ls 9 [(0, .ref (G.2.2 + r0)), (1, .int x1), (2, .int x2)] := hl
  rw [f_X10_laysYet] at hf
  refine lv_iconst (v := (0 : Int32)) C.x C.b dX10_laysYet_0 (by decide) ?_
  refine lv_istore_n (lv' := [(3, .int (0 : Int32)), (0, .ref (G.2.2 + r0)), (1, .int x1), (2, .int x2)]) C.x C.b dX10_laysYet_1 rfl hl (by decide) rfl (fun ls hl => ?_)
  exact w_X10_laysYet_2 C hr hlk FU _ _ _ _ _ hf hE hR hS t_r0 (lv_sub hl [1, 2, 3, 0] rfl)

def rm_X10_tellsWay : Room := { frames := 4, cells := 0, slots := 0, locals := 98 }
def P_X10_tellsWay_144 (G : Gt) (l : Launch) (p : Program) (e : Env) (s : State) (m : MethodId) (args : Array Value) (below : List Frame) (meth : Method) (c : Code) (h0 : Hp) (out : (Int32 × Hp)) (r0 : Nat) (x1 : Int32) (x2 : Int32) (k : Hp → Int32 → Int32 → Int32 → Int32 → Option (Int32 × Hp)) : Prop := ∀ (H : Heap) (locs : List Loc) (ls : Array Slot) (h : Hp) (s0 : Int32) (x3 : Int32) (x4 : Int32) (x6 : Int32), k h s0 x3 x4 x6 = some out → Ext h0 h → Rel G h H → va_S (AA G.2.2) s.heap H locs → hpT h r0 = (1, 10) → lv_has ls 9 [(0, .ref (G.2.2 + r0)), (1, .int x1), (2, .int x2), (3, .int x3), (4, .int x4), (6, .int x6)] → W p l e rm_X10_tellsWay s m args below meth c H locs 0 0 (MQ below (Qm G h0 out.2 (some (.int out.1)) 0) args s 0 0 (AA G.2.2)) (F0 m 144 ls [.int s0])
def P_X10_tellsWay_142 (G : Gt) (l : Launch) (p : Program) (e : Env) (s : State) (m : MethodId) (args : Array Value) (below : List Frame) (meth : Method) (c : Code) (h0 : Hp) (out : (Int32 × Hp)) (r0 : Nat) (x1 : Int32) (x2 : Int32) (k : Hp → Int32 → Int32 → Int32 → Int32 → Option (Int32 × Hp)) : Prop := ∀ (H : Heap) (locs : List Loc) (ls : Array Slot) (h : Hp) (x3 : Int32) (x4 : Int32) (x5 : Int32) (x6 : Int32), k h x3 x4 x5 x6 = some out → Ext h0 h → Rel G h H → va_S (AA G.2.2) s.heap H locs → hpT h r0 = (1, 10) → lv_has ls 9 [(0, .ref (G.2.2 + r0)), (1, .int x1), (2, .int x2), (3, .int x3), (4, .int x4), (5, .int x5), (6, .int x6)] → W p l e rm_X10_tellsWay s m args below meth c H locs 0 0 (MQ below (Qm G h0 out.2 (some (.int out.1)) 0) args s 0 0 (AA G.2.2)) (F0 m 142 ls [])
def P_X10_tellsWay_137 (G : Gt) (l : Launch) (p : Program) (e : Env) (s : State) (m : MethodId) (args : Array Value) (below : List Frame) (meth : Method) (c : Code) (h0 : Hp) (out : (Int32 × Hp)) (r0 : Nat) (x1 : Int32) (x2 : Int32) (k : Hp → Int32 → Int32 → Int32 → Int32 → Option (Int32 × Hp)) : Prop := ∀ (H : Heap) (locs : List Loc) (ls : Array Slot) (h : Hp) (x3 : Int32) (x4 : Int32) (x6 : Int32) (x7 : Int32), k h x3 x4 x6 x7 = some out → Ext h0 h → Rel G h H → va_S (AA G.2.2) s.heap H locs → hpT h r0 = (1, 10) → lv_has ls 9 [(0, .ref (G.2.2 + r0)), (1, .int x1), (2, .int x2), (3, .int x3), (4, .int x4), (6, .int x6), (7, .int x7)] → W p l e rm_X10_tellsWay s m args below meth c H locs 0 0 (MQ below (Qm G h0 out.2 (some (.int out.1)) 0) args s 0 0 (AA G.2.2)) (F0 m 137 ls [])
def P_X10_tellsWay_118 (G : Gt) (l : Launch) (p : Program) (e : Env) (s : State) (m : MethodId) (args : Array Value) (below : List Frame) (meth : Method) (c : Code) (h0 : Hp) (out : (Int32 × Hp)) (r0 : Nat) (x1 : Int32) (x2 : Int32) (k : Hp → Int32 → Int32 → Int32 → Int32 → Int32 → Int32 → Option (Int32 × Hp)) : Prop := ∀ (H : Heap) (locs : List Loc) (ls : Array Slot) (h : Hp) (s0 : Int32) (x3 : Int32) (x4 : Int32) (x5 : Int32) (x6 : Int32) (x7 : Int32), k h s0 x3 x4 x5 x6 x7 = some out → Ext h0 h → Rel G h H → va_S (AA G.2.2) s.heap H locs → hpT h r0 = (1, 10) → narrow .boolean (.int s0) = .int s0 → lv_has ls 9 [(0, .ref (G.2.2 + r0)), (1, .int x1), (2, .int x2), (3, .int x3), (4, .int x4), (5, .int x5), (6, .int x6), (7, .int x7)] → W p l e rm_X10_tellsWay s m args below meth c H locs 0 0 (MQ below (Qm G h0 out.2 (some (.int out.1)) 0) args s 0 0 (AA G.2.2)) (F0 m 118 ls [.int s0])
def P_X10_tellsWay_117 (G : Gt) (l : Launch) (p : Program) (e : Env) (s : State) (m : MethodId) (args : Array Value) (below : List Frame) (meth : Method) (c : Code) (h0 : Hp) (out : (Int32 × Hp)) (r0 : Nat) (x1 : Int32) (x2 : Int32) (k : Hp → Int32 → Int32 → Int32 → Int32 → Int32 → Option (Int32 × Hp)) : Prop := ∀ (H : Heap) (locs : List Loc) (ls : Array Slot) (h : Hp) (x3 : Int32) (x4 : Int32) (x5 : Int32) (x6 : Int32) (x7 : Int32), k h x3 x4 x5 x6 x7 = some out → Ext h0 h → Rel G h H → va_S (AA G.2.2) s.heap H locs → hpT h r0 = (1, 10) → lv_has ls 9 [(0, .ref (G.2.2 + r0)), (1, .int x1), (2, .int x2), (3, .int x3), (4, .int x4), (5, .int x5), (6, .int x6), (7, .int x7)] → W p l e rm_X10_tellsWay s m args below meth c H locs 0 0 (MQ below (Qm G h0 out.2 (some (.int out.1)) 0) args s 0 0 (AA G.2.2)) (F0 m 117 ls [])
def P_X10_tellsWay_46 (G : Gt) (l : Launch) (p : Program) (e : Env) (s : State) (m : MethodId) (args : Array Value) (below : List Frame) (meth : Method) (c : Code) (h0 : Hp) (out : (Int32 × Hp)) (r0 : Nat) (x1 : Int32) (x2 : Int32) (k : Hp → Int32 → Int32 → Int32 → Int32 → Option (Int32 × Hp)) : Prop := ∀ (H : Heap) (locs : List Loc) (ls : Array Slot) (h : Hp) (x3 : Int32) (x4 : Int32) (x5 : Int32) (x6 : Int32), k h x3 x4 x5 x6 = some out → Ext h0 h → Rel G h H → va_S (AA G.2.2) s.heap H locs → hpT h r0 = (1, 10) → lv_has ls 9 [(0, .ref (G.2.2 + r0)), (1, .int x1), (2, .int x2), (3, .int x3), (4, .int x4), (5, .int x5), (6, .int x6)] → W p l e rm_X10_tellsWay s m args below meth c H locs 0 0 (MQ below (Qm G h0 out.2 (some (.int out.1)) 0) args s 0 0 (AA G.2.2)) (F0 m 46 ls [])
def P_X10_tellsWay_26 (G : Gt) (l : Launch) (p : Program) (e : Env) (s : State) (m : MethodId) (args : Array Value) (below : List Frame) (meth : Method) (c : Code) (h0 : Hp) (out : (Int32 × Hp)) (r0 : Nat) (x1 : Int32) (x2 : Int32) (k : Hp → Int32 → Int32 → Option (Int32 × Hp)) : Prop := ∀ (H : Heap) (locs : List Loc) (ls : Array Slot) (h : Hp) (x3 : Int32) (x4 : Int32), k h x3 x4 = some out → Ext h0 h → Rel G h H → va_S (AA G.2.2) s.heap H locs → hpT h r0 = (1, 10) → lv_has ls 9 [(0, .ref (G.2.2 + r0)), (1, .int x1), (2, .int x2), (3, .int x3), (4, .int x4)] → W p l e rm_X10_tellsWay s m args below meth c H locs 0 0 (MQ below (Qm G h0 out.2 (some (.int out.1)) 0) args s 0 0 (AA G.2.2)) (F0 m 26 ls [])
set_option maxRecDepth 100000 in
set_option maxHeartbeats 4000000 in
theorem w_X10_tellsWay_144 {G : Gt} {l : Launch} {p : Program} {e : Env} {s : State} {m : MethodId} {args : Array Value} {below : List Frame} {meth : Method} {c : Code}  {h0 : Hp} {out : (Int32 × Hp)} {r0 : Nat} {x1 : Int32} {x2 : Int32} {k26 : Hp → Int32 → Int32 → Option (Int32 × Hp)} {k46 : Hp → Int32 → Int32 → Int32 → Int32 → Option (Int32 × Hp)} (C : Cx G p m c cX10_tellsWay 9 s args RX10) (hr : meth.sig.returnType = some .int) (hlk : meth.locks = false)  (hk26 : P_X10_tellsWay_26 G l p e s m args below meth c h0 out r0 x1 x2 k26) (hk46 : P_X10_tellsWay_46 G l p e s m args below meth c h0 out r0 x1 x2 k46) : P_X10_tellsWay_144 G l p e s m args below meth c h0 out r0 x1 x2 (f_X10_tellsWay_144 r0 x1 x2 k26 k46) := by
  intro H locs ls h s0 x3 x4 x6 hf hE hR hS t_r0 hl
  rw [f_X10_tellsWay_144] at hf
  refine lv_istore (lv' := [(5, .int s0), (0, .ref (G.2.2 + r0)), (1, .int x1), (2, .int x2), (3, .int x3), (4, .int x4), (6, .int x6)]) C.x C.b dX10_tellsWay_144 hl (by decide) rfl (fun ls hl => ?_)
  obtain ⟨v37, e_v37⟩ : ∃ y : Int32, y = x6 + (1 : Int32) := ⟨_, rfl⟩
  have hf := lt_e hf e_v37
  refine lv_iinc (v := v37) (lv' := [(6, .int v37), (5, .int s0), (0, .ref (G.2.2 + r0)), (1, .int x1), (2, .int x2), (3, .int x3), (4, .int x4)]) C.x C.b dX10_tellsWay_146 hl (k := 6) rfl (by rw [e_v37]; rfl) (by decide) rfl (fun ls hl => ?_)
  refine lv_goto (tgt := 46) C.x C.b dX10_tellsWay_149 (by decide) ?_
  exact hk46 _ _ _ _ _ _ _ _ hf hE hR hS t_r0 (lv_sub hl [2, 3, 4, 5, 6, 1, 0] rfl)
set_option maxRecDepth 100000 in
set_option maxHeartbeats 4000000 in
theorem w_X10_tellsWay_142 {G : Gt} {l : Launch} {p : Program} {e : Env} {s : State} {m : MethodId} {args : Array Value} {below : List Frame} {meth : Method} {c : Code}  {h0 : Hp} {out : (Int32 × Hp)} {r0 : Nat} {x1 : Int32} {x2 : Int32} {k26 : Hp → Int32 → Int32 → Option (Int32 × Hp)} {k46 : Hp → Int32 → Int32 → Int32 → Int32 → Option (Int32 × Hp)} (C : Cx G p m c cX10_tellsWay 9 s args RX10) (hr : meth.sig.returnType = some .int) (hlk : meth.locks = false)  (hk26 : P_X10_tellsWay_26 G l p e s m args below meth c h0 out r0 x1 x2 k26) (hk46 : P_X10_tellsWay_46 G l p e s m args below meth c h0 out r0 x1 x2 k46) : P_X10_tellsWay_142 G l p e s m args below meth c h0 out r0 x1 x2 (f_X10_tellsWay_142 r0 x1 x2 k26 k46) := by
  intro H locs ls h x3 x4 x5 x6 hf hE hR hS t_r0 hl
  rw [f_X10_tellsWay_142] at hf
  refine lv_iload C.x C.b dX10_tellsWay_142 (lv_at hl 5 rfl) ?_
  exact w_X10_tellsWay_144 C hr hlk hk26 hk46 _ _ _ _ _ _ _ _ hf hE hR hS t_r0 (lv_sub hl [0, 1, 2, 3, 4, 6] rfl)
set_option maxRecDepth 100000 in
set_option maxHeartbeats 4000000 in
theorem w_X10_tellsWay_137 {G : Gt} {l : Launch} {p : Program} {e : Env} {s : State} {m : MethodId} {args : Array Value} {below : List Frame} {meth : Method} {c : Code}  {h0 : Hp} {out : (Int32 × Hp)} {r0 : Nat} {x1 : Int32} {x2 : Int32} {k26 : Hp → Int32 → Int32 → Option (Int32 × Hp)} {k46 : Hp → Int32 → Int32 → Int32 → Int32 → Option (Int32 × Hp)} (C : Cx G p m c cX10_tellsWay 9 s args RX10) (hr : meth.sig.returnType = some .int) (hlk : meth.locks = false)  (hk26 : P_X10_tellsWay_26 G l p e s m args below meth c h0 out r0 x1 x2 k26) (hk46 : P_X10_tellsWay_46 G l p e s m args below meth c h0 out r0 x1 x2 k46) : P_X10_tellsWay_137 G l p e s m args below meth c h0 out r0 x1 x2 (f_X10_tellsWay_137 r0 x1 x2 k26 k46) := by
  intro H locs ls h x3 x4 x6 x7 hf hE hR hS t_r0 hl
  rw [f_X10_tellsWay_137] at hf
  refine lv_iload C.x C.b dX10_tellsWay_137 (lv_at hl 6 rfl) ?_
  refine lv_goto (tgt := 144) C.x C.b dX10_tellsWay_139 (by decide) ?_
  exact w_X10_tellsWay_144 C hr hlk hk26 hk46 _ _ _ _ _ _ _ _ hf hE hR hS t_r0 (lv_sub hl [0, 1, 2, 3, 4, 5] rfl)
set_option maxRecDepth 100000 in
set_option maxHeartbeats 4000000 in
theorem w_X10_tellsWay_118 {G : Gt} {l : Launch} {p : Program} {e : Env} {s : State} {m : MethodId} {args : Array Value} {below : List Frame} {meth : Method} {c : Code}  {h0 : Hp} {out : (Int32 × Hp)} {r0 : Nat} {x1 : Int32} {x2 : Int32} {k26 : Hp → Int32 → Int32 → Option (Int32 × Hp)} {k46 : Hp → Int32 → Int32 → Int32 → Int32 → Option (Int32 × Hp)} (C : Cx G p m c cX10_tellsWay 9 s args RX10) (hr : meth.sig.returnType = some .int) (hlk : meth.locks = false)  (hk26 : P_X10_tellsWay_26 G l p e s m args below meth c h0 out r0 x1 x2 k26) (hk46 : P_X10_tellsWay_46 G l p e s m args below meth c h0 out r0 x1 x2 k46) : P_X10_tellsWay_118 G l p e s m args below meth c h0 out r0 x1 x2 (f_X10_tellsWay_118 r0 x1 x2 k26 k46) := by
  intro H locs ls h s0 x3 x4 x5 x6 x7 hf hE hR hS t_r0 z_s0 hl
  rw [f_X10_tellsWay_118] at hf
  refine lv_istore (lv' := [(8, .int s0), (0, .ref (G.2.2 + r0)), (1, .int x1), (2, .int x2), (3, .int x3), (4, .int x4), (5, .int x5), (6, .int x6), (7, .int x7)]) C.x C.b dX10_tellsWay_118 hl (by decide) rfl (fun ls hl => ?_)
  refine lv_iload C.x C.b dX10_tellsWay_120 (lv_at hl 0 rfl) ?_
  refine lv_if_eq (tgt := 142) C.x C.b dX10_tellsWay_122 (by decide) (fun c34 => ?_) (fun c34 => ?_)
  · have hf := it_t hf c34
    exact w_X10_tellsWay_142 C hr hlk hk26 hk46 _ _ _ _ _ _ _ _ hf hE hR hS t_r0 (lv_sub hl [1, 2, 3, 4, 5, 6, 7] rfl)
  · have hf := it_f hf c34
    refine lv_iload C.x C.b dX10_tellsWay_125 (lv_at hl 6 rfl) ?_
    refine lv_if_lt (tgt := 137) C.x C.b dX10_tellsWay_127 (by decide) (fun c35 => ?_) (fun c35 => ?_)
    · have hf := it_t hf c35
      exact w_X10_tellsWay_137 C hr hlk hk26 hk46 _ _ _ _ _ _ _ _ hf hE hR hS t_r0 (lv_sub hl [1, 2, 3, 4, 5, 7, 8] rfl)
    · have hf := it_f hf c35
      refine lv_iload C.x C.b dX10_tellsWay_130 (lv_at hl 8 rfl) ?_
      refine lv_iload C.x C.b dX10_tellsWay_132 (lv_at hl 6 rfl) ?_
      refine lv_icmp_ge (tgt := 142) C.x C.b dX10_tellsWay_134 (by decide) (fun c36 => ?_) (fun c36 => ?_)
      · have hf := it_t hf c36
        exact w_X10_tellsWay_142 C hr hlk hk26 hk46 _ _ _ _ _ _ _ _ hf hE hR hS t_r0 (lv_sub hl [1, 2, 3, 4, 5, 6, 7] rfl)
      · have hf := it_f hf c36
        exact w_X10_tellsWay_137 C hr hlk hk26 hk46 _ _ _ _ _ _ _ _ hf hE hR hS t_r0 (lv_sub hl [1, 2, 3, 4, 5, 7, 8] rfl)
set_option maxRecDepth 100000 in
set_option maxHeartbeats 4000000 in
theorem w_X10_tellsWay_117 {G : Gt} {l : Launch} {p : Program} {e : Env} {s : State} {m : MethodId} {args : Array Value} {below : List Frame} {meth : Method} {c : Code}  {h0 : Hp} {out : (Int32 × Hp)} {r0 : Nat} {x1 : Int32} {x2 : Int32} {k26 : Hp → Int32 → Int32 → Option (Int32 × Hp)} {k46 : Hp → Int32 → Int32 → Int32 → Int32 → Option (Int32 × Hp)} (C : Cx G p m c cX10_tellsWay 9 s args RX10) (hr : meth.sig.returnType = some .int) (hlk : meth.locks = false)  (hk26 : P_X10_tellsWay_26 G l p e s m args below meth c h0 out r0 x1 x2 k26) (hk46 : P_X10_tellsWay_46 G l p e s m args below meth c h0 out r0 x1 x2 k46) : P_X10_tellsWay_117 G l p e s m args below meth c h0 out r0 x1 x2 (f_X10_tellsWay_117 r0 x1 x2 k26 k46) := by
  intro H locs ls h x3 x4 x5 x6 x7 hf hE hR hS t_r0 hl
  rw [f_X10_tellsWay_117] at hf
  refine lv_iconst (v := (0 : Int32)) C.x C.b dX10_tellsWay_117 (by decide) ?_
  exact w_X10_tellsWay_118 C hr hlk hk26 hk46 _ _ _ _ _ _ _ _ _ _ hf hE hR hS t_r0 z_0 (lv_sub hl [0, 1, 2, 3, 4, 5, 6, 7] rfl)
set_option maxRecDepth 100000 in
set_option maxHeartbeats 4000000 in
theorem w_X10_tellsWay_46 {G : Gt} {l : Launch} {p : Program} {e : Env} {s : State} {m : MethodId} {args : Array Value} {below : List Frame} {meth : Method} {c : Code}  {h0 : Hp} {out : (Int32 × Hp)} {r0 : Nat} {x1 : Int32} {x2 : Int32} {k26 : Hp → Int32 → Int32 → Option (Int32 × Hp)} (C : Cx G p m c cX10_tellsWay 9 s args RX10) (hr : meth.sig.returnType = some .int) (hlk : meth.locks = false)  (hk26 : P_X10_tellsWay_26 G l p e s m args below meth c h0 out r0 x1 x2 k26) (n : Nat) : P_X10_tellsWay_46 G l p e s m args below meth c h0 out r0 x1 x2 (f_X10_tellsWay_46 r0 x1 x2 k26 n) := by
  induction n with
  | zero => intro H locs ls h x3 x4 x5 x6 hf hE hR hS t_r0 hl; cases hf
  | succ n hk46 =>
    intro H locs ls h x3 x4 x5 x6 hf hE hR hS t_r0 hl
    rw [f_X10_tellsWay_46] at hf
    obtain ⟨k46, e_k46⟩ : ∃ y, y = f_X10_tellsWay_46 r0 x1 x2 k26 n := ⟨_, rfl⟩
    have hf := lt_e hf e_k46
    rw [← e_k46] at hk46
    refine lv_iload C.x C.b dX10_tellsWay_46 (lv_at hl 6 rfl) ?_
    refine lv_iconst (v := (4 : Int32)) C.x C.b dX10_tellsWay_48 (by decide) ?_
    refine lv_icmp_ge (tgt := 152) C.x C.b dX10_tellsWay_49 (by decide) (fun c12 => ?_) (fun c12 => ?_)
    · have hf := it_t hf c12
      refine lv_iload C.x C.b dX10_tellsWay_152 (lv_at hl 5 rfl) ?_
      refine lv_istore_n (lv' := [(3, .int x5), (0, .ref (G.2.2 + r0)), (1, .int x1), (2, .int x2), (4, .int x4), (5, .int x5), (6, .int x6)]) C.x C.b dX10_tellsWay_154 rfl hl (by decide) rfl (fun ls hl => ?_)
      refine lv_iload C.x C.b dX10_tellsWay_155 (lv_at hl 4 rfl) ?_
      refine lv_aload_n C.x C.b dX10_tellsWay_157 rfl (lv_at hl 1 rfl) ?_
      refine lv_aload_n C.x C.b dX10_tellsWay_158 rfl (lv_at hl 1 rfl) ?_
      obtain ⟨g13, hf⟩ := gd_e hf
      refine r_getr C hR t_r0 fl_X10_20 (by decide) (nz_e g13) dX10_tellsWay_159 (fun tq14 => ?_)
      have tg13 := okA tq14 rfl
      refine lv_iload_n C.x C.b dX10_tellsWay_162 rfl (lv_at hl 0 rfl) ?_
      obtain ⟨q15, h_q15, hf⟩ := bd_e hf
      refine r_callV (As := [.ref (G.2.2 + (hpR h r0 6)), .int x5]) (rest := [.int x4]) C hR hS t_r0 rfl mk_X10_campsOver cl_X10_294 (k_X10_campsOver t_r0 tg13 h_q15) ⟨⟨Nat.le_of_ble_eq_true rfl, Nat.le_of_ble_eq_true rfl⟩, ⟨rfl, rfl⟩, Nat.le_of_ble_eq_true rfl, Nat.le_of_ble_eq_true rfl⟩ rfl hl.1 rfl (Nat.le_of_ble_eq_true rfl) dX10_tellsWay_163 (fun H locs hR hS hE1 z_q15 => ?_)
      refine lv_iload_n C.x C.b dX10_tellsWay_166 rfl (lv_at hl 3 rfl) ?_
      refine lv_iand C.x C.b dX10_tellsWay_167 ?_
      refine lv_ior C.x C.b dX10_tellsWay_168 ?_
      refine lv_topi (fun v16 e_v16 => ?_)
      have hf := lt_e hf e_v16
      refine lv_istore (lv' := [(4, .int v16), (3, .int x5), (0, .ref (G.2.2 + r0)), (1, .int x1), (2, .int x2), (5, .int x5), (6, .int x6)]) C.x C.b dX10_tellsWay_169 hl (by decide) rfl (fun ls hl => ?_)
      refine lv_aload_n C.x C.b dX10_tellsWay_171 rfl (lv_at hl 2 rfl) ?_
      refine lv_iload_n C.x C.b dX10_tellsWay_172 rfl (lv_at hl 1 rfl) ?_
      refine lv_i2l C.x C.b dX10_tellsWay_173 rfl ?_
      obtain ⟨q17, h_q17, hf⟩ := bd_e hf
      refine r_callV (As := [.long (x5.toInt64)]) (rest := []) C hR hS t_r0 rfl mk_X10_enters cl_X10_339 (k_X10_enters t_r0 h_q17) ⟨⟨Nat.le_of_ble_eq_true rfl, Nat.le_of_ble_eq_true rfl⟩, ⟨rfl, rfl⟩, Nat.le_of_ble_eq_true rfl, Nat.le_of_ble_eq_true rfl⟩ rfl hl.1 rfl (Nat.le_of_ble_eq_true rfl) dX10_tellsWay_174 (fun H locs hR hS hE1 z_q17 => ?_)
      have hE := hE.tr hE1
      have t_r0 := hE1.at t_r0 (by decide)
      refine lv_goto (tgt := 26) C.x C.b dX10_tellsWay_177 (by decide) ?_
      exact hk26 _ _ _ _ _ _ hf hE hR hS t_r0 (lv_sub hl [2, 3, 4, 1, 0] rfl)
    · have hf := it_f hf c12
      refine lv_aload_n C.x C.b dX10_tellsWay_52 rfl (lv_at hl 0 rfl) ?_
      refine lv_iload_n C.x C.b dX10_tellsWay_53 rfl (lv_at hl 3 rfl) ?_
      refine lv_iload C.x C.b dX10_tellsWay_54 (lv_at hl 6 rfl) ?_
      obtain ⟨q18, h_q18, hf⟩ := bd_e hf
      refine r_callV (As := [.int x3, .int x6]) (rest := []) C hR hS t_r0 rfl mk_X10_beside cl_X10_399 (k_X10_beside t_r0 h_q18) ⟨⟨Nat.le_of_ble_eq_true rfl, Nat.le_of_ble_eq_true rfl⟩, ⟨rfl, rfl⟩, Nat.le_of_ble_eq_true rfl, Nat.le_of_ble_eq_true rfl⟩ rfl hl.1 rfl (Nat.le_of_ble_eq_true rfl) dX10_tellsWay_56 (fun H locs hR hS hE1 z_q18 => ?_)
      refine lv_istore (lv' := [(7, .int q18), (0, .ref (G.2.2 + r0)), (1, .int x1), (2, .int x2), (3, .int x3), (4, .int x4), (5, .int x5), (6, .int x6)]) C.x C.b dX10_tellsWay_59 hl (by decide) rfl (fun ls hl => ?_)
      refine lv_iload C.x C.b dX10_tellsWay_61 (lv_at hl 0 rfl) ?_
      refine lv_if_lt (tgt := 117) C.x C.b dX10_tellsWay_63 (by decide) (fun c19 => ?_) (fun c19 => ?_)
      · have hf := it_t hf c19
        exact w_X10_tellsWay_117 C hr hlk hk26 hk46 _ _ _ _ _ _ _ _ _ hf hE hR hS t_r0 (lv_sub hl [1, 2, 3, 4, 5, 6, 7, 0] rfl)
      · have hf := it_f hf c19
        refine lv_aload_n C.x C.b dX10_tellsWay_66 rfl (lv_at hl 1 rfl) ?_
        obtain ⟨g20, hf⟩ := gd_e hf
        refine r_getr C hR t_r0 fl_X10_60 (by decide) (nz_e g20) dX10_tellsWay_67 (fun tq21 => ?_)
        have tg20 := okA tq21 rfl
        refine lv_iload C.x C.b dX10_tellsWay_70 (lv_at hl 0 rfl) ?_
        refine lv_iload C.x C.b dX10_tellsWay_72 (lv_at hl 5 rfl) ?_
        refine lv_aload_n C.x C.b dX10_tellsWay_74 rfl (lv_at hl 1 rfl) ?_
        refine lv_aload_n C.x C.b dX10_tellsWay_75 rfl (lv_at hl 1 rfl) ?_
        obtain ⟨g22, hf⟩ := gd_e hf
        refine r_getr C hR t_r0 fl_X10_20 (by decide) (nz_e g22) dX10_tellsWay_76 (fun tq23 => ?_)
        have tg22 := okA tq23 rfl
        refine lv_iload C.x C.b dX10_tellsWay_79 (lv_at hl 0 rfl) ?_
        obtain ⟨q24, h_q24, hf⟩ := bd_e hf
        refine r_callV (As := [.ref (G.2.2 + (hpR h r0 6)), .int q18]) (rest := [.int x4, .int q18, .ref (G.2.2 + (hpR h r0 29))]) C hR hS t_r0 rfl mk_X10_campsOver cl_X10_294 (k_X10_campsOver t_r0 tg22 h_q24) ⟨⟨Nat.le_of_ble_eq_true rfl, Nat.le_of_ble_eq_true rfl⟩, ⟨rfl, rfl⟩, Nat.le_of_ble_eq_true rfl, Nat.le_of_ble_eq_true rfl⟩ rfl hl.1 rfl (Nat.le_of_ble_eq_true rfl) dX10_tellsWay_81 (fun H locs hR hS hE1 z_q24 => ?_)
        refine lv_iload_n C.x C.b dX10_tellsWay_84 rfl (lv_at hl 3 rfl) ?_
        refine lv_iand C.x C.b dX10_tellsWay_85 ?_
        refine lv_ior C.x C.b dX10_tellsWay_86 ?_
        obtain ⟨q25, h_q25, hf⟩ := bd_e hf
        refine r_callS (As := [.int q18, .int (x4 ||| (q24 &&& x2))]) (rest := [.ref (G.2.2 + (hpR h r0 29))]) C hR hS mk_X10_state cl_X10_396 (k_X10_state h_q25) ⟨⟨Nat.le_of_ble_eq_true rfl, Nat.le_of_ble_eq_true rfl⟩, ⟨rfl, rfl⟩, Nat.le_of_ble_eq_true rfl, Nat.le_of_ble_eq_true rfl⟩ rfl hl.1 rfl (Nat.le_of_ble_eq_true rfl) dX10_tellsWay_87 (fun H locs hR hS hE1 z_q25 => ?_)
        obtain ⟨g26, hf⟩ := gd_e hf
        refine r_iald C hR tg20 g26 dX10_tellsWay_90 ?_
        refine lv_aload_n C.x C.b dX10_tellsWay_91 rfl (lv_at hl 1 rfl) ?_
        obtain ⟨g27, hf⟩ := gd_e hf
        refine r_getr C hR t_r0 fl_X10_63 (by decide) (nz_e g27) dX10_tellsWay_92 (fun tq28 => ?_)
        have tg27 := okA tq28 rfl
        refine lv_iload C.x C.b dX10_tellsWay_95 (lv_at hl 0 rfl) ?_
        obtain ⟨g29, hf⟩ := gd_e hf
        refine r_iald C hR tg27 g29 dX10_tellsWay_97 ?_
        refine lv_iadd C.x C.b dX10_tellsWay_98 ?_
        refine lv_aload_n C.x C.b dX10_tellsWay_99 rfl (lv_at hl 1 rfl) ?_
        refine r_getr C hR t_r0 fl_X10_60 (by decide) (nz_e g20) dX10_tellsWay_100 (fun tq30 => ?_)
        refine lv_iload_n C.x C.b dX10_tellsWay_103 rfl (lv_at hl 4 rfl) ?_
        refine lv_iload C.x C.b dX10_tellsWay_104 (lv_at hl 5 rfl) ?_
        obtain ⟨q31, h_q31, hf⟩ := bd_e hf
        refine r_callS (As := [.int x3, .int x4]) (rest := [.ref (G.2.2 + (hpR h r0 29)), .int ((hpI h (hpR h r0 29) (ix q25)) + (hpI h (hpR h r0 30) (ix q18)))]) C hR hS mk_X10_state cl_X10_396 (k_X10_state h_q31) ⟨⟨Nat.le_of_ble_eq_true rfl, Nat.le_of_ble_eq_true rfl⟩, ⟨rfl, rfl⟩, Nat.le_of_ble_eq_true rfl, Nat.le_of_ble_eq_true rfl⟩ rfl hl.1 rfl (Nat.le_of_ble_eq_true rfl) dX10_tellsWay_106 (fun H locs hR hS hE1 z_q31 => ?_)
        obtain ⟨g32, hf⟩ := gd_e hf
        refine r_iald C hR tg20 g32 dX10_tellsWay_109 ?_
        refine lv_icmp_ne (tgt := 117) C.x C.b dX10_tellsWay_110 (by decide) (fun c33 => ?_) (fun c33 => ?_)
        · have hf := it_f hf c33
          exact w_X10_tellsWay_117 C hr hlk hk26 hk46 _ _ _ _ _ _ _ _ _ hf hE hR hS t_r0 (lv_sub hl [1, 2, 3, 4, 5, 6, 7, 0] rfl)
        · have hf := it_t hf c33
          refine lv_iconst (v := (1 : Int32)) C.x C.b dX10_tellsWay_113 (by decide) ?_
          refine lv_goto (tgt := 118) C.x C.b dX10_tellsWay_114 (by decide) ?_
          exact w_X10_tellsWay_118 C hr hlk hk26 hk46 _ _ _ _ _ _ _ _ _ _ hf hE hR hS t_r0 z_1 (lv_sub hl [1, 2, 3, 4, 5, 6, 7, 0] rfl)
set_option maxRecDepth 100000 in
set_option maxHeartbeats 4000000 in
theorem w_X10_tellsWay_26 {G : Gt} {l : Launch} {p : Program} {e : Env} {s : State} {m : MethodId} {args : Array Value} {below : List Frame} {meth : Method} {c : Code}  {h0 : Hp} {out : (Int32 × Hp)} {r0 : Nat} {x1 : Int32} {x2 : Int32}  (C : Cx G p m c cX10_tellsWay 9 s args RX10) (hr : meth.sig.returnType = some .int) (hlk : meth.locks = false)   (n : Nat) : P_X10_tellsWay_26 G l p e s m args below meth c h0 out r0 x1 x2 (f_X10_tellsWay_26 r0 x1 x2 n) := by
  induction n with
  | zero => intro H locs ls h x3 x4 hf hE hR hS t_r0 hl; cases hf
  | succ n hk26 =>
    intro H locs ls h x3 x4 hf hE hR hS t_r0 hl
    rw [f_X10_tellsWay_26] at hf
    obtain ⟨k26, e_k26⟩ : ∃ y, y = f_X10_tellsWay_26 r0 x1 x2 n := ⟨_, rfl⟩
    have hf := lt_e hf e_k26
    rw [← e_k26] at hk26
    refine lv_aload_n C.x C.b dX10_tellsWay_26 rfl (lv_at hl 0 rfl) ?_
    obtain ⟨g7, hf⟩ := gd_e hf
    refine r_getr C hR t_r0 fl_X10_60 (by decide) (nz_e g7) dX10_tellsWay_27 (fun tq8 => ?_)
    have tg7 := okA tq8 rfl
    refine lv_iload_n C.x C.b dX10_tellsWay_30 rfl (lv_at hl 3 rfl) ?_
    refine lv_iload C.x C.b dX10_tellsWay_31 (lv_at hl 4 rfl) ?_
    obtain ⟨q9, h_q9, hf⟩ := bd_e hf
    refine r_callS (As := [.int x3, .int x4]) (rest := [.ref (G.2.2 + (hpR h r0 29))]) C hR hS mk_X10_state cl_X10_396 (k_X10_state h_q9) ⟨⟨Nat.le_of_ble_eq_true rfl, Nat.le_of_ble_eq_true rfl⟩, ⟨rfl, rfl⟩, Nat.le_of_ble_eq_true rfl, Nat.le_of_ble_eq_true rfl⟩ rfl hl.1 rfl (Nat.le_of_ble_eq_true rfl) dX10_tellsWay_33 (fun H locs hR hS hE1 z_q9 => ?_)
    obtain ⟨g10, hf⟩ := gd_e hf
    refine r_iald C hR tg7 g10 dX10_tellsWay_36 ?_
    refine lv_if_le (tgt := 180) C.x C.b dX10_tellsWay_37 (by decide) (fun c11 => ?_) (fun c11 => ?_)
    · have hf := it_t hf c11
      refine lv_aload_n C.x C.b dX10_tellsWay_180 rfl (lv_at hl 0 rfl) ?_
      refine r_geti C hR t_r0 fl_X10_110 rfl dX10_tellsWay_181 ?_
      have hf := so_e hf
      subst hf
      exact r_iret C hr hlk hR hE hS dX10_tellsWay_184
    · have hf := it_f hf c11
      refine lv_iconst (v := (-1 : Int32)) C.x C.b dX10_tellsWay_40 (by decide) ?_
      refine lv_istore (lv' := [(5, .int (-1 : Int32)), (0, .ref (G.2.2 + r0)), (1, .int x1), (2, .int x2), (3, .int x3), (4, .int x4)]) C.x C.b dX10_tellsWay_41 hl (by decide) rfl (fun ls hl => ?_)
      refine lv_iconst (v := (0 : Int32)) C.x C.b dX10_tellsWay_43 (by decide) ?_
      refine lv_istore (lv' := [(6, .int (0 : Int32)), (5, .int (-1 : Int32)), (0, .ref (G.2.2 + r0)), (1, .int x1), (2, .int x2), (3, .int x3), (4, .int x4)]) C.x C.b dX10_tellsWay_44 hl (by decide) rfl (fun ls hl => ?_)
      exact w_X10_tellsWay_46 C hr hlk hk26 FU _ _ _ _ _ _ _ _ hf hE hR hS t_r0 (lv_sub hl [2, 3, 4, 5, 6, 1, 0] rfl)
set_option maxRecDepth 100000 in
set_option maxHeartbeats 4000000 in
theorem k_X10_tellsWay {G : Gt} {l : Launch}  {h : Hp} {r0 : Nat} {x1 : Int32} {x2 : Int32} {out : (Int32 × Hp)} (t_r0 : hpT h r0 = (1, 10))  (hf : f_X10_tellsWay  h r0 x1 x2 = some out) : Mt G l yX10_tellsWay cX10_tellsWay 9 (some .int) rm_X10_tellsWay [.ref (G.2.2 + r0), .int x1, .int x2] h (some (.int out.1)) out.2 0 0 0 := by
  refine r_met (by decide +kernel) (Nat.le_of_ble_eq_true rfl) ?_
  intro p e s m args below meth c ls C hr hlk hnm hR hS hl
  have hE : Ext h h := Ext.rf
  have hl : lv_has ls 9 [(0, .ref (G.2.2 + r0)), (1, .int x1), (2, .int x2)] := hl
  rw [f_X10_tellsWay] at hf
  refine lv_iload_n C.x C.b dX10_tellsWay_0 rfl (lv_at hl 1 rfl) ?_
  refine lv_istore_n (lv' := [(3, .int x1), (0, .ref (G.2.2 + r0)), (1, .int x1), (2, .int x2)]) C.x C.b dX10_tellsWay_1 rfl hl (by decide) rfl (fun ls hl => ?_)
  refine lv_aload_n C.x C.b dX10_tellsWay_2 rfl (lv_at hl 1 rfl) ?_
  refine lv_aload_n C.x C.b dX10_tellsWay_3 rfl (lv_at hl 1 rfl) ?_
  obtain ⟨g1, hf⟩ := gd_e hf
  refine r_getr C hR t_r0 fl_X10_20 (by decide) (nz_e g1) dX10_tellsWay_4 (fun tq2 => ?_)
  have tg1 := okA tq2 rfl
  refine lv_iload_n C.x C.b dX10_tellsWay_7 rfl (lv_at hl 2 rfl) ?_
  obtain ⟨q3, h_q3, hf⟩ := bd_e hf
  refine r_callV (As := [.ref (G.2.2 + (hpR h r0 6)), .int x1]) (rest := []) C hR hS t_r0 rfl mk_X10_campsOver cl_X10_294 (k_X10_campsOver t_r0 tg1 h_q3) ⟨⟨Nat.le_of_ble_eq_true rfl, Nat.le_of_ble_eq_true rfl⟩, ⟨rfl, rfl⟩, Nat.le_of_ble_eq_true rfl, Nat.le_of_ble_eq_true rfl⟩ rfl hl.1 rfl (Nat.le_of_ble_eq_true rfl) dX10_tellsWay_8 (fun H locs hR hS hE1 z_q3 => ?_)
  refine lv_iload_n C.x C.b dX10_tellsWay_11 rfl (lv_at hl 3 rfl) ?_
  refine lv_iand C.x C.b dX10_tellsWay_12 ?_
  refine lv_topi (fun v4 e_v4 => ?_)
  have hf := lt_e hf e_v4
  refine lv_istore (lv' := [(4, .int v4), (3, .int x1), (0, .ref (G.2.2 + r0)), (1, .int x1), (2, .int x2)]) C.x C.b dX10_tellsWay_13 hl (by decide) rfl (fun ls hl => ?_)
  refine lv_aload_n C.x C.b dX10_tellsWay_15 rfl (lv_at hl 2 rfl) ?_
  refine lv_iconst (v := (0 : Int32)) C.x C.b dX10_tellsWay_16 (by decide) ?_
  refine r_puti C hR hS t_r0 fl_X10_110 fp_X10_10_1 rfl dX10_tellsWay_17 (fun H locs hR hS => ?_)
  obtain ⟨h5, e_h5⟩ : ∃ y, y = upI h r0 1 (0 : Int32) := ⟨_, rfl⟩
  rw [← e_h5] at hR
  have hf := lt_e hf e_h5
  have hE := eI e_h5 hE
  have t_r0 := tI e_h5 t_r0
  refine lv_aload_n C.x C.b dX10_tellsWay_20 rfl (lv_at hl 2 rfl) ?_
  refine lv_iload_n C.x C.b dX10_tellsWay_21 rfl (lv_at hl 1 rfl) ?_
  refine lv_i2l C.x C.b dX10_tellsWay_22 rfl ?_
  obtain ⟨q6, h_q6, hf⟩ := bd_e hf
  refine r_callV (As := [.long (x1.toInt64)]) (rest := []) C hR hS t_r0 rfl mk_X10_enters cl_X10_339 (k_X10_enters t_r0 h_q6) ⟨⟨Nat.le_of_ble_eq_true rfl, Nat.le_of_ble_eq_true rfl⟩, ⟨rfl, rfl⟩, Nat.le_of_ble_eq_true rfl, Nat.le_of_ble_eq_true rfl⟩ rfl hl.1 rfl (Nat.le_of_ble_eq_true rfl) dX10_tellsWay_23 (fun H locs hR hS hE1 z_q6 => ?_)
  have hE := hE.tr hE1
  have t_r0 := hE1.at t_r0 (by decide)
  exact w_X10_tellsWay_26 C hr hlk FU _ _ _ _ _ _ hf hE hR hS t_r0 (lv_sub hl [2, 3, 4, 1, 0] rfl)

def rm_X10_meets : Room := { frames := 5, cells := 0, slots := 0, locals := 126 }
def P_X10_meets_64 (G : Gt) (l : Launch) (p : Program) (e : Env) (s : State) (m : MethodId) (args : Array Value) (below : List Frame) (meth : Method) (c : Code) (h0 : Hp) (out : (Int32 × Hp)) (r0 : Nat) (x1 : Int32) (x2 : Int32) (x3 : Int32) (k : Hp → Int32 → Option (Int32 × Hp)) : Prop := ∀ (H : Heap) (locs : List Loc) (ls : Array Slot) (h : Hp) (x4 : Int32), k h x4 = some out → Ext h0 h → Rel G h H → va_S (AA G.2.2) s.heap H locs → hpT h r0 = (1, 10) → lv_has ls 5 [(0, .ref (G.2.2 + r0)), (1, .int x1), (2, .int x2), (3, .int x3), (4, .int x4)] → W p l e rm_X10_meets s m args below meth c H locs 0 0 (MQ below (Qm G h0 out.2 (some (.int out.1)) 0) args s 0 0 (AA G.2.2)) (F0 m 64 ls [])
set_option maxRecDepth 100000 in
set_option maxHeartbeats 4000000 in
theorem w_X10_meets_64 {G : Gt} {l : Launch} {p : Program} {e : Env} {s : State} {m : MethodId} {args : Array Value} {below : List Frame} {meth : Method} {c : Code}  {h0 : Hp} {out : (Int32 × Hp)} {r0 : Nat} {x1 : Int32} {x2 : Int32} {x3 : Int32}  (C : Cx G p m c cX10_meets 5 s args RX10) (hr : meth.sig.returnType = some .int) (hlk : meth.locks = false)   (n : Nat) : P_X10_meets_64 G l p e s m args below meth c h0 out r0 x1 x2 x3 (f_X10_meets_64 r0 x1 x2 x3 n) := by
  induction n with
  | zero => intro H locs ls h x4 hf hE hR hS t_r0 hl; cases hf
  | succ n hk64 =>
    intro H locs ls h x4 hf hE hR hS t_r0 hl
    rw [f_X10_meets_64] at hf
    obtain ⟨k64, e_k64⟩ : ∃ y, y = f_X10_meets_64 r0 x1 x2 x3 n := ⟨_, rfl⟩
    have hf := lt_e hf e_k64
    rw [← e_k64] at hk64
    refine lv_iload C.x C.b dX10_meets_64 (lv_at hl 4 rfl) ?_
    refine lv_aload_n C.x C.b dX10_meets_66 rfl (lv_at hl 0 rfl) ?_
    obtain ⟨q15, h_q15, hf⟩ := bd_e hf
    refine r_callV (As := []) (rest := [.int x4]) C hR hS t_r0 rfl mk_X10_cells cl_X10_113 (k_X10_cells t_r0 h_q15) ⟨⟨Nat.le_of_ble_eq_true rfl, Nat.le_of_ble_eq_true rfl⟩, ⟨rfl, rfl⟩, Nat.le_of_ble_eq_true rfl, Nat.le_of_ble_eq_true rfl⟩ rfl hl.1 rfl (Nat.le_of_ble_eq_true rfl) dX10_meets_67 (fun H locs hR hS hE1 z_q15 => ?_)
    refine lv_icmp_ge (tgt := 87) C.x C.b dX10_meets_70 (by decide) (fun c16 => ?_) (fun c16 => ?_)
    · have hf := it_t hf c16
      refine lv_aload_n C.x C.b dX10_meets_87 rfl (lv_at hl 0 rfl) ?_
      refine lv_iload_n C.x C.b dX10_meets_88 rfl (lv_at hl 2 rfl) ?_
      refine lv_iload_n C.x C.b dX10_meets_89 rfl (lv_at hl 3 rfl) ?_
      obtain ⟨q17, h_q17, hf⟩ := bd_e hf
      refine r_callV (As := [.int x2, .int x3]) (rest := []) C hR hS t_r0 rfl mk_X10_laysYet cl_X10_402 (k_X10_laysYet t_r0 h_q17) ⟨⟨Nat.le_of_ble_eq_true rfl, Nat.le_of_ble_eq_true rfl⟩, ⟨rfl, rfl⟩, Nat.le_of_ble_eq_true rfl, Nat.le_of_ble_eq_true rfl⟩ rfl hl.1 rfl (Nat.le_of_ble_eq_true rfl) dX10_meets_90 (fun H locs hR hS hE1 z_q17 => ?_)
      have hE := hE.tr hE1
      have t_r0 := hE1.at t_r0 (by decide)
      refine lv_aload_n C.x C.b dX10_meets_93 rfl (lv_at hl 0 rfl) ?_
      refine lv_iload_n C.x C.b dX10_meets_94 rfl (lv_at hl 1 rfl) ?_
      refine lv_iload_n C.x C.b dX10_meets_95 rfl (lv_at hl 3 rfl) ?_
      obtain ⟨q18, h_q18, hf⟩ := bd_e hf
      refine r_callV (As := [.int x1, .int x3]) (rest := []) C hR hS t_r0 rfl mk_X10_tellsWay cl_X10_406 (k_X10_tellsWay t_r0 h_q18) ⟨⟨Nat.le_of_ble_eq_true rfl, Nat.le_of_ble_eq_true rfl⟩, ⟨rfl, rfl⟩, Nat.le_of_ble_eq_true rfl, Nat.le_of_ble_eq_true rfl⟩ rfl hl.1 rfl (Nat.le_of_ble_eq_true rfl) dX10_meets_96 (fun H locs hR hS hE1 z_q18 => ?_)
      have hE := hE.tr hE1
      have t_r0 := hE1.at t_r0 (by decide)
      refine lv_iconst (v := (1 : Int32)) C.x C.b dX10_meets_99 (by decide) ?_
      refine lv_isub C.x C.b dX10_meets_100 ?_
      have hf := so_e hf
      subst hf
      exact r_iret C hr hlk hR hE hS dX10_meets_101
    · have hf := it_f hf c16
      refine lv_aload_n C.x C.b dX10_meets_73 rfl (lv_at hl 0 rfl) ?_
      obtain ⟨g19, hf⟩ := gd_e hf
      refine r_getr C hR t_r0 fl_X10_63 (by decide) (nz_e g19) dX10_meets_74 (fun tq20 => ?_)
      have tg19 := okA tq20 rfl
      refine lv_iload C.x C.b dX10_meets_77 (lv_at hl 4 rfl) ?_
      refine lv_iconst (v := (1 : Int32)) C.x C.b dX10_meets_79 (by decide) ?_
      obtain ⟨g21, hf⟩ := gd_e hf
      refine r_iast C hR hS tg19 g21 dX10_meets_80 (fun H locs hR hS => ?_)
      obtain ⟨h22, e_h22⟩ : ∃ y, y = upI h (hpR h r0 30) (ix x4) (1 : Int32) := ⟨_, rfl⟩
      rw [← e_h22] at hR
      have hf := lt_e hf e_h22
      have hE := eI e_h22 hE
      have t_r0 := tI e_h22 t_r0
      obtain ⟨v23, e_v23⟩ : ∃ y : Int32, y = x4 + (1 : Int32) := ⟨_, rfl⟩
      have hf := lt_e hf e_v23
      refine lv_iinc (v := v23) (lv' := [(4, .int v23), (0, .ref (G.2.2 + r0)), (1, .int x1), (2, .int x2), (3, .int x3)]) C.x C.b dX10_meets_81 hl (k := 4) rfl (by rw [e_v23]; rfl) (by decide) rfl (fun ls hl => ?_)
      refine lv_goto (tgt := 64) C.x C.b dX10_meets_84 (by decide) ?_
      exact hk64 _ _ _ _ _ hf hE hR hS t_r0 (lv_sub hl [1, 2, 3, 4, 0] rfl)
set_option maxRecDepth 100000 in
set_option maxHeartbeats 4000000 in
theorem k_X10_meets {G : Gt} {l : Launch}  {h : Hp} {r0 : Nat} {x1 : Int32} {x2 : Int32} {x3 : Int32} {out : (Int32 × Hp)} (t_r0 : hpT h r0 = (1, 10))  (hf : f_X10_meets  h r0 x1 x2 x3 = some out) : Mt G l yX10_meets cX10_meets 5 (some .int) rm_X10_meets [.ref (G.2.2 + r0), .int x1, .int x2, .int x3] h (some (.int out.1)) out.2 0 0 0 := by
  refine r_met (by decide +kernel) (Nat.le_of_ble_eq_true rfl) ?_
  intro p e s m args below meth c ls C hr hlk hnm hR hS hl
  have hE : Ext h h := Ext.rf
  have hl : lv_has ls 5 [(0, .ref (G.2.2 + r0)), (1, .int x1), (2, .int x2), (3, .int x3)] := hl
  rw [f_X10_meets] at hf
  refine lv_aload_n C.x C.b dX10_meets_0 rfl (lv_at hl 0 rfl) ?_
  refine lv_iconst (v := (0 : Int32)) C.x C.b dX10_meets_1 (by decide) ?_
  refine r_puti C hR hS t_r0 fl_X10_103 fp_X10_10_0 rfl dX10_meets_2 (fun H locs hR hS => ?_)
  obtain ⟨h1, e_h1⟩ : ∃ y, y = upI h r0 0 (0 : Int32) := ⟨_, rfl⟩
  rw [← e_h1] at hR
  have hf := lt_e hf e_h1
  have hE := eI e_h1 hE
  have t_r0 := tI e_h1 t_r0
  refine lv_aload_n C.x C.b dX10_meets_5 rfl (lv_at hl 0 rfl) ?_
  refine lv_iload_n C.x C.b dX10_meets_6 rfl (lv_at hl 1 rfl) ?_
  obtain ⟨q2, h_q2, hf⟩ := bd_e hf
  refine r_callV (As := [.int x1]) (rest := []) C hR hS t_r0 rfl mk_X10_isCell cl_X10_289 (k_X10_isCell t_r0 h_q2) ⟨⟨Nat.le_of_ble_eq_true rfl, Nat.le_of_ble_eq_true rfl⟩, ⟨rfl, rfl⟩, Nat.le_of_ble_eq_true rfl, Nat.le_of_ble_eq_true rfl⟩ rfl hl.1 rfl (Nat.le_of_ble_eq_true rfl) dX10_meets_7 (fun H locs hR hS hE1 z_q2 => ?_)
  have z_q2 := z_q2 _ rfl
  refine lv_if_eq (tgt := 42) C.x C.b dX10_meets_10 (by decide) (fun c3 => ?_) (fun c3 => ?_)
  · have hf := it_t hf c3
    refine lv_iconst (v := (-1 : Int32)) C.x C.b dX10_meets_42 (by decide) ?_
    have hf := so_e hf
    subst hf
    exact r_iret C hr hlk hR hE hS dX10_meets_43
  · have hf := it_f hf c3
    refine lv_aload_n C.x C.b dX10_meets_13 rfl (lv_at hl 0 rfl) ?_
    refine lv_iload_n C.x C.b dX10_meets_14 rfl (lv_at hl 2 rfl) ?_
    obtain ⟨q4, h_q4, hf⟩ := bd_e hf
    refine r_callV (As := [.int x2]) (rest := []) C hR hS t_r0 rfl mk_X10_isCell cl_X10_289 (k_X10_isCell t_r0 h_q4) ⟨⟨Nat.le_of_ble_eq_true rfl, Nat.le_of_ble_eq_true rfl⟩, ⟨rfl, rfl⟩, Nat.le_of_ble_eq_true rfl, Nat.le_of_ble_eq_true rfl⟩ rfl hl.1 rfl (Nat.le_of_ble_eq_true rfl) dX10_meets_15 (fun H locs hR hS hE1 z_q4 => ?_)
    have z_q4 := z_q4 _ rfl
    refine lv_if_eq (tgt := 42) C.x C.b dX10_meets_18 (by decide) (fun c5 => ?_) (fun c5 => ?_)
    · have hf := it_t hf c5
      refine lv_iconst (v := (-1 : Int32)) C.x C.b dX10_meets_42 (by decide) ?_
      have hf := so_e hf
      subst hf
      exact r_iret C hr hlk hR hE hS dX10_meets_43
    · have hf := it_f hf c5
      refine lv_iload_n C.x C.b dX10_meets_21 rfl (lv_at hl 3 rfl) ?_
      refine lv_i2l C.x C.b dX10_meets_22 rfl ?_
      refine lv_lconst (v := (0 : Int64)) C.x C.b dX10_meets_23 (by decide) ?_
      refine lv_iconst (v := (1 : Int32)) C.x C.b dX10_meets_24 (by decide) ?_
      refine lv_aload_n C.x C.b dX10_meets_25 rfl (lv_at hl 0 rfl) ?_
      obtain ⟨g6, hf⟩ := gd_e hf
      refine r_getr C hR t_r0 fl_X10_20 (by decide) (nz_e g6) dX10_meets_26 (fun tq7 => ?_)
      have tg6 := okA tq7 rfl
      refine lv_bipush (v := (48 : Int32)) C.x C.b dX10_meets_29 (by decide) ?_
      obtain ⟨g8, hf⟩ := gd_e hf
      refine r_iald C hR tg6 g8 dX10_meets_31 ?_
      refine lv_ishl C.x C.b dX10_meets_32 ?_
      refine lv_topi (fun v9 e_v9 => ?_)
      have hf := lt_e hf e_v9
      refine lv_iconst (v := (1 : Int32)) C.x C.b dX10_meets_33 (by decide) ?_
      refine lv_isub C.x C.b dX10_meets_34 ?_
      refine lv_i2l C.x C.b dX10_meets_35 rfl ?_
      obtain ⟨q10, h_q10, hf⟩ := bd_e hf
      refine r_callS (As := [.long (x3.toInt64), .long (0 : Int64), .long ((v9 - (1 : Int32)).toInt64)]) (rest := []) C hR hS mk_X10_in cl_X10_117 (k_X10_in h_q10) ⟨⟨Nat.le_of_ble_eq_true rfl, Nat.le_of_ble_eq_true rfl⟩, ⟨rfl, rfl⟩, Nat.le_of_ble_eq_true rfl, Nat.le_of_ble_eq_true rfl⟩ rfl hl.1 rfl (Nat.le_of_ble_eq_true rfl) dX10_meets_36 (fun H locs hR hS hE1 z_q10 => ?_)
      have z_q10 := z_q10 _ rfl
      refine lv_if_ne (tgt := 44) C.x C.b dX10_meets_39 (by decide) (fun c11 => ?_) (fun c11 => ?_)
      · have hf := it_f hf c11
        refine lv_iload_n C.x C.b dX10_meets_44 rfl (lv_at hl 3 rfl) ?_
        refine lv_aload_n C.x C.b dX10_meets_45 rfl (lv_at hl 0 rfl) ?_
        refine r_getr C hR t_r0 fl_X10_20 (by decide) (nz_e g6) dX10_meets_46 (fun tq12 => ?_)
        obtain ⟨q13, h_q13, hf⟩ := bd_e hf
        refine r_callS (As := [.ref (G.2.2 + (hpR h1 r0 6))]) (rest := [.int x3]) C hR hS mk_X10_on cl_X10_311 (k_X10_on tg6 h_q13) ⟨⟨Nat.le_of_ble_eq_true rfl, Nat.le_of_ble_eq_true rfl⟩, ⟨rfl, rfl⟩, Nat.le_of_ble_eq_true rfl, Nat.le_of_ble_eq_true rfl⟩ rfl hl.1 rfl (Nat.le_of_ble_eq_true rfl) dX10_meets_49 (fun H locs hR hS hE1 z_q13 => ?_)
        refine lv_iconst (v := (-1 : Int32)) C.x C.b dX10_meets_52 (by decide) ?_
        refine lv_ixor C.x C.b dX10_meets_53 ?_
        refine lv_iand C.x C.b dX10_meets_54 ?_
        refine lv_if_eq (tgt := 61) C.x C.b dX10_meets_55 (by decide) (fun c14 => ?_) (fun c14 => ?_)
        · have hf := it_t hf c14
          refine lv_iconst (v := (0 : Int32)) C.x C.b dX10_meets_61 (by decide) ?_
          refine lv_istore (lv' := [(4, .int (0 : Int32)), (0, .ref (G.2.2 + r0)), (1, .int x1), (2, .int x2), (3, .int x3)]) C.x C.b dX10_meets_62 hl (by decide) rfl (fun ls hl => ?_)
          exact w_X10_meets_64 C hr hlk FU _ _ _ _ _ hf hE hR hS t_r0 (lv_sub hl [1, 2, 3, 4, 0] rfl)
        · have hf := it_f hf c14
          refine lv_bipush (v := (-2 : Int32)) C.x C.b dX10_meets_58 (by decide) ?_
          have hf := so_e hf
          subst hf
          exact r_iret C hr hlk hR hE hS dX10_meets_60
      · have hf := it_t hf c11
        refine lv_iconst (v := (-1 : Int32)) C.x C.b dX10_meets_42 (by decide) ?_
        have hf := so_e hf
        subst hf
        exact r_iret C hr hlk hR hE hS dX10_meets_43

def rm_X10_quiet : Room := { frames := 5, cells := 0, slots := 0, locals := 126 }
def P_X10_quiet_62 (G : Gt) (l : Launch) (p : Program) (e : Env) (s : State) (m : MethodId) (args : Array Value) (below : List Frame) (meth : Method) (c : Code) (h0 : Hp) (out : (Int32 × Hp)) (r0 : Nat) (x1 : Int32) (x2 : Int32) (k : Hp → Nat → Int32 → Int32 → Int32 → Option (Int32 × Hp)) : Prop := ∀ (H : Heap) (locs : List Loc) (ls : Array Slot) (h : Hp) (s0 : Nat) (s1 : Int32) (s2 : Int32) (x3 : Int32), k h s0 s1 s2 x3 = some out → Ext h0 h → Rel G h H → va_S (AA G.2.2) s.heap H locs → hpT h r0 = (1, 10) → (hpT h s0).1 = 2 → lv_has ls 4 [(0, .ref (G.2.2 + r0)), (1, .int x1), (2, .int x2), (3, .int x3)] → W p l e rm_X10_quiet s m args below meth c H locs 0 0 (MQ below (Qm G h0 out.2 (some (.int out.1)) 0) args s 0 0 (AA G.2.2)) (F0 m 62 ls [.int s2, .int s1, .ref (G.2.2 + s0)])
def P_X10_quiet_61 (G : Gt) (l : Launch) (p : Program) (e : Env) (s : State) (m : MethodId) (args : Array Value) (below : List Frame) (meth : Method) (c : Code) (h0 : Hp) (out : (Int32 × Hp)) (r0 : Nat) (x1 : Int32) (x2 : Int32) (k : Hp → Nat → Int32 → Int32 → Option (Int32 × Hp)) : Prop := ∀ (H : Heap) (locs : List Loc) (ls : Array Slot) (h : Hp) (s0 : Nat) (s1 : Int32) (x3 : Int32), k h s0 s1 x3 = some out → Ext h0 h → Rel G h H → va_S (AA G.2.2) s.heap H locs → hpT h r0 = (1, 10) → (hpT h s0).1 = 2 → lv_has ls 4 [(0, .ref (G.2.2 + r0)), (1, .int x1), (2, .int x2), (3, .int x3)] → W p l e rm_X10_quiet s m args below meth c H locs 0 0 (MQ below (Qm G h0 out.2 (some (.int out.1)) 0) args s 0 0 (AA G.2.2)) (F0 m 61 ls [.int s1, .ref (G.2.2 + s0)])
def P_X10_quiet_25 (G : Gt) (l : Launch) (p : Program) (e : Env) (s : State) (m : MethodId) (args : Array Value) (below : List Frame) (meth : Method) (c : Code) (h0 : Hp) (out : (Int32 × Hp)) (r0 : Nat) (x1 : Int32) (x2 : Int32) (k : Hp → Int32 → Option (Int32 × Hp)) : Prop := ∀ (H : Heap) (locs : List Loc) (ls : Array Slot) (h : Hp) (x3 : Int32), k h x3 = some out → Ext h0 h → Rel G h H → va_S (AA G.2.2) s.heap H locs → hpT h r0 = (1, 10) → lv_has ls 4 [(0, .ref (G.2.2 + r0)), (1, .int x1), (2, .int x2), (3, .int x3)] → W p l e rm_X10_quiet s m args below meth c H locs 0 0 (MQ below (Qm G h0 out.2 (some (.int out.1)) 0) args s 0 0 (AA G.2.2)) (F0 m 25 ls [])
set_option maxRecDepth 100000 in
set_option maxHeartbeats 4000000 in
theorem w_X10_quiet_62 {G : Gt} {l : Launch} {p : Program} {e : Env} {s : State} {m : MethodId} {args : Array Value} {below : List Frame} {meth : Method} {c : Code}  {h0 : Hp} {out : (Int32 × Hp)} {r0 : Nat} {x1 : Int32} {x2 : Int32} {k25 : Hp → Int32 → Option (Int32 × Hp)} (C : Cx G p m c cX10_quiet 4 s args RX10) (hr : meth.sig.returnType = some .int) (hlk : meth.locks = false)  (hk25 : P_X10_quiet_25 G l p e s m args below meth c h0 out r0 x1 x2 k25) : P_X10_quiet_62 G l p e s m args below meth c h0 out r0 x1 x2 (f_X10_quiet_62 r0 x1 x2 k25) := by
  intro H locs ls h s0 s1 s2 x3 hf hE hR hS t_r0 t_s0 hl
  rw [f_X10_quiet_62] at hf
  obtain ⟨g22, hf⟩ := gd_e hf
  refine r_iast C hR hS t_s0 g22 dX10_quiet_62 (fun H locs hR hS => ?_)
  obtain ⟨h23, e_h23⟩ : ∃ y, y = upI h s0 (ix s1) s2 := ⟨_, rfl⟩
  rw [← e_h23] at hR
  have hf := lt_e hf e_h23
  have hE := eI e_h23 hE
  have t_r0 := tI e_h23 t_r0
  obtain ⟨v24, e_v24⟩ : ∃ y : Int32, y = x3 + (1 : Int32) := ⟨_, rfl⟩
  have hf := lt_e hf e_v24
  refine lv_iinc (v := v24) (lv' := [(3, .int v24), (0, .ref (G.2.2 + r0)), (1, .int x1), (2, .int x2)]) C.x C.b dX10_quiet_63 hl (k := 3) rfl (by rw [e_v24]; rfl) (by decide) rfl (fun ls hl => ?_)
  refine lv_goto (tgt := 25) C.x C.b dX10_quiet_66 (by decide) ?_
  exact hk25 _ _ _ _ _ hf hE hR hS t_r0 (lv_sub hl [1, 2, 3, 0] rfl)
set_option maxRecDepth 100000 in
set_option maxHeartbeats 4000000 in
theorem w_X10_quiet_61 {G : Gt} {l : Launch} {p : Program} {e : Env} {s : State} {m : MethodId} {args : Array Value} {below : List Frame} {meth : Method} {c : Code}  {h0 : Hp} {out : (Int32 × Hp)} {r0 : Nat} {x1 : Int32} {x2 : Int32} {k25 : Hp → Int32 → Option (Int32 × Hp)} (C : Cx G p m c cX10_quiet 4 s args RX10) (hr : meth.sig.returnType = some .int) (hlk : meth.locks = false)  (hk25 : P_X10_quiet_25 G l p e s m args below meth c h0 out r0 x1 x2 k25) : P_X10_quiet_61 G l p e s m args below meth c h0 out r0 x1 x2 (f_X10_quiet_61 r0 x1 x2 k25) := by
  intro H locs ls h s0 s1 x3 hf hE hR hS t_r0 t_s0 hl
  rw [f_X10_quiet_61] at hf
  refine lv_iconst (v := (1 : Int32)) C.x C.b dX10_quiet_61 (by decide) ?_
  exact w_X10_quiet_62 C hr hlk hk25 _ _ _ _ _ _ _ _ hf hE hR hS t_r0 t_s0 (lv_sub hl [0, 1, 2, 3] rfl)
set_option maxRecDepth 100000 in
set_option maxHeartbeats 4000000 in
theorem w_X10_quiet_25 {G : Gt} {l : Launch} {p : Program} {e : Env} {s : State} {m : MethodId} {args : Array Value} {below : List Frame} {meth : Method} {c : Code}  {h0 : Hp} {out : (Int32 × Hp)} {r0 : Nat} {x1 : Int32} {x2 : Int32}  (C : Cx G p m c cX10_quiet 4 s args RX10) (hr : meth.sig.returnType = some .int) (hlk : meth.locks = false)   (n : Nat) : P_X10_quiet_25 G l p e s m args below meth c h0 out r0 x1 x2 (f_X10_quiet_25 r0 x1 x2 n) := by
  induction n with
  | zero => intro H locs ls h x3 hf hE hR hS t_r0 hl; cases hf
  | succ n hk25 =>
    intro H locs ls h x3 hf hE hR hS t_r0 hl
    rw [f_X10_quiet_25] at hf
    obtain ⟨k25, e_k25⟩ : ∃ y, y = f_X10_quiet_25 r0 x1 x2 n := ⟨_, rfl⟩
    have hf := lt_e hf e_k25
    rw [← e_k25] at hk25
    refine lv_iload_n C.x C.b dX10_quiet_25 rfl (lv_at hl 3 rfl) ?_
    refine lv_aload_n C.x C.b dX10_quiet_26 rfl (lv_at hl 0 rfl) ?_
    obtain ⟨q6, h_q6, hf⟩ := bd_e hf
    refine r_callV (As := []) (rest := [.int x3]) C hR hS t_r0 rfl mk_X10_cells cl_X10_113 (k_X10_cells t_r0 h_q6) ⟨⟨Nat.le_of_ble_eq_true rfl, Nat.le_of_ble_eq_true rfl⟩, ⟨rfl, rfl⟩, Nat.le_of_ble_eq_true rfl, Nat.le_of_ble_eq_true rfl⟩ rfl hl.1 rfl (Nat.le_of_ble_eq_true rfl) dX10_quiet_27 (fun H locs hR hS hE1 z_q6 => ?_)
    refine lv_icmp_ge (tgt := 69) C.x C.b dX10_quiet_30 (by decide) (fun c7 => ?_) (fun c7 => ?_)
    · have hf := it_t hf c7
      refine lv_aload_n C.x C.b dX10_quiet_69 rfl (lv_at hl 0 rfl) ?_
      refine lv_iload_n C.x C.b dX10_quiet_70 rfl (lv_at hl 2 rfl) ?_
      refine lv_iconst (v := (0 : Int32)) C.x C.b dX10_quiet_71 (by decide) ?_
      obtain ⟨q8, h_q8, hf⟩ := bd_e hf
      refine r_callV (As := [.int x2, .int (0 : Int32)]) (rest := []) C hR hS t_r0 rfl mk_X10_laysYet cl_X10_402 (k_X10_laysYet t_r0 h_q8) ⟨⟨Nat.le_of_ble_eq_true rfl, Nat.le_of_ble_eq_true rfl⟩, ⟨rfl, rfl⟩, Nat.le_of_ble_eq_true rfl, Nat.le_of_ble_eq_true rfl⟩ rfl hl.1 rfl (Nat.le_of_ble_eq_true rfl) dX10_quiet_72 (fun H locs hR hS hE1 z_q8 => ?_)
      have hE := hE.tr hE1
      have t_r0 := hE1.at t_r0 (by decide)
      refine lv_aload_n C.x C.b dX10_quiet_75 rfl (lv_at hl 0 rfl) ?_
      obtain ⟨g9, hf⟩ := gd_e hf
      refine r_getr C hR t_r0 fl_X10_60 (by decide) (nz_e g9) dX10_quiet_76 (fun tq10 => ?_)
      have tg9 := okA tq10 rfl
      refine lv_iload_n C.x C.b dX10_quiet_79 rfl (lv_at hl 1 rfl) ?_
      refine lv_iconst (v := (0 : Int32)) C.x C.b dX10_quiet_80 (by decide) ?_
      obtain ⟨q11, h_q11, hf⟩ := bd_e hf
      refine r_callS (As := [.int x1, .int (0 : Int32)]) (rest := [.ref (G.2.2 + (hpR q8 r0 29))]) C hR hS mk_X10_state cl_X10_396 (k_X10_state h_q11) ⟨⟨Nat.le_of_ble_eq_true rfl, Nat.le_of_ble_eq_true rfl⟩, ⟨rfl, rfl⟩, Nat.le_of_ble_eq_true rfl, Nat.le_of_ble_eq_true rfl⟩ rfl hl.1 rfl (Nat.le_of_ble_eq_true rfl) dX10_quiet_81 (fun H locs hR hS hE1 z_q11 => ?_)
      obtain ⟨g12, hf⟩ := gd_e hf
      refine r_iald C hR tg9 g12 dX10_quiet_84 ?_
      refine lv_ldcw C.x C.b C.ow (C.ts _ lk_X10_392) dX10_quiet_85 ?_
      refine lv_icmp_lt (tgt := 96) C.x C.b dX10_quiet_88 (by decide) (fun c13 => ?_) (fun c13 => ?_)
      · have hf := it_t hf c13
        refine lv_aload_n C.x C.b dX10_quiet_96 rfl (lv_at hl 0 rfl) ?_
        refine lv_iload_n C.x C.b dX10_quiet_97 rfl (lv_at hl 1 rfl) ?_
        refine lv_iconst (v := (0 : Int32)) C.x C.b dX10_quiet_98 (by decide) ?_
        obtain ⟨q14, h_q14, hf⟩ := bd_e hf
        refine r_callV (As := [.int x1, .int (0 : Int32)]) (rest := []) C hR hS t_r0 rfl mk_X10_tellsWay cl_X10_406 (k_X10_tellsWay t_r0 h_q14) ⟨⟨Nat.le_of_ble_eq_true rfl, Nat.le_of_ble_eq_true rfl⟩, ⟨rfl, rfl⟩, Nat.le_of_ble_eq_true rfl, Nat.le_of_ble_eq_true rfl⟩ rfl hl.1 rfl (Nat.le_of_ble_eq_true rfl) dX10_quiet_99 (fun H locs hR hS hE1 z_q14 => ?_)
        have hE := hE.tr hE1
        have t_r0 := hE1.at t_r0 (by decide)
        refine lv_iconst (v := (1 : Int32)) C.x C.b dX10_quiet_102 (by decide) ?_
        refine lv_isub C.x C.b dX10_quiet_103 ?_
        have hf := so_e hf
        subst hf
        exact r_iret C hr hlk hR hE hS dX10_quiet_104
      · have hf := it_f hf c13
        refine lv_bipush (v := (-2 : Int32)) C.x C.b dX10_quiet_91 (by decide) ?_
        refine lv_goto (tgt := 104) C.x C.b dX10_quiet_93 (by decide) ?_
        have hf := so_e hf
        subst hf
        exact r_iret C hr hlk hR hE hS dX10_quiet_104
    · have hf := it_f hf c7
      refine lv_aload_n C.x C.b dX10_quiet_33 rfl (lv_at hl 0 rfl) ?_
      obtain ⟨g15, hf⟩ := gd_e hf
      refine r_getr C hR t_r0 fl_X10_63 (by decide) (nz_e g15) dX10_quiet_34 (fun tq16 => ?_)
      have tg15 := okA tq16 rfl
      refine lv_iload_n C.x C.b dX10_quiet_37 rfl (lv_at hl 3 rfl) ?_
      refine lv_iload_n C.x C.b dX10_quiet_38 rfl (lv_at hl 3 rfl) ?_
      refine lv_iload_n C.x C.b dX10_quiet_39 rfl (lv_at hl 2 rfl) ?_
      refine lv_icmp_eq (tgt := 61) C.x C.b dX10_quiet_40 (by decide) (fun c17 => ?_) (fun c17 => ?_)
      · have hf := it_t hf c17
        exact w_X10_quiet_61 C hr hlk hk25 _ _ _ _ _ _ _ hf hE hR hS t_r0 tg15 (lv_sub hl [0, 1, 2, 3] rfl)
      · have hf := it_f hf c17
        refine lv_aload_n C.x C.b dX10_quiet_43 rfl (lv_at hl 0 rfl) ?_
        refine lv_aload_n C.x C.b dX10_quiet_44 rfl (lv_at hl 0 rfl) ?_
        obtain ⟨g18, hf⟩ := gd_e hf
        refine r_getr C hR t_r0 fl_X10_20 (by decide) (nz_e g18) dX10_quiet_45 (fun tq19 => ?_)
        have tg18 := okA tq19 rfl
        refine lv_iload_n C.x C.b dX10_quiet_48 rfl (lv_at hl 3 rfl) ?_
        obtain ⟨q20, h_q20, hf⟩ := bd_e hf
        refine r_callV (As := [.ref (G.2.2 + (hpR h r0 6)), .int x3]) (rest := [.int x3, .ref (G.2.2 + (hpR h r0 30))]) C hR hS t_r0 rfl mk_X10_campsOver cl_X10_294 (k_X10_campsOver t_r0 tg18 h_q20) ⟨⟨Nat.le_of_ble_eq_true rfl, Nat.le_of_ble_eq_true rfl⟩, ⟨rfl, rfl⟩, Nat.le_of_ble_eq_true rfl, Nat.le_of_ble_eq_true rfl⟩ rfl hl.1 rfl (Nat.le_of_ble_eq_true rfl) dX10_quiet_49 (fun H locs hR hS hE1 z_q20 => ?_)
        refine lv_if_eq (tgt := 61) C.x C.b dX10_quiet_52 (by decide) (fun c21 => ?_) (fun c21 => ?_)
        · have hf := it_t hf c21
          exact w_X10_quiet_61 C hr hlk hk25 _ _ _ _ _ _ _ hf hE hR hS t_r0 tg15 (lv_sub hl [0, 1, 2, 3] rfl)
        · have hf := it_f hf c21
          refine lv_ldcw C.x C.b C.ow (C.ts _ lk_X10_392) dX10_quiet_55 ?_
          refine lv_goto (tgt := 62) C.x C.b dX10_quiet_58 (by decide) ?_
          exact w_X10_quiet_62 C hr hlk hk25 _ _ _ _ _ _ _ _ hf hE hR hS t_r0 tg15 (lv_sub hl [0, 1, 2, 3] rfl)
set_option maxRecDepth 100000 in
set_option maxHeartbeats 4000000 in
theorem k_X10_quiet {G : Gt} {l : Launch}  {h : Hp} {r0 : Nat} {x1 : Int32} {x2 : Int32} {out : (Int32 × Hp)} (t_r0 : hpT h r0 = (1, 10))  (hf : f_X10_quiet  h r0 x1 x2 = some out) : Mt G l yX10_quiet cX10_quiet 4 (some .int) rm_X10_quiet [.ref (G.2.2 + r0), .int x1, .int x2] h (some (.int out.1)) out.2 0 0 0 := by
  refine r_met (by decide +kernel) (Nat.le_of_ble_eq_true rfl) ?_
  intro p e s m args below meth c ls C hr hlk hnm hR hS hl
  have hE : Ext h h := Ext.rf
  have hl : lv_has ls 4 [(0, .ref (G.2.2 + r0)), (1, .int x1), (2, .int x2)] := hl
  rw [f_X10_quiet] at hf
  refine lv_aload_n C.x C.b dX10_quiet_0 rfl (lv_at hl 0 rfl) ?_
  refine lv_iconst (v := (0 : Int32)) C.x C.b dX10_quiet_1 (by decide) ?_
  refine r_puti C hR hS t_r0 fl_X10_103 fp_X10_10_0 rfl dX10_quiet_2 (fun H locs hR hS => ?_)
  obtain ⟨h1, e_h1⟩ : ∃ y, y = upI h r0 0 (0 : Int32) := ⟨_, rfl⟩
  rw [← e_h1] at hR
  have hf := lt_e hf e_h1
  have hE := eI e_h1 hE
  have t_r0 := tI e_h1 t_r0
  refine lv_aload_n C.x C.b dX10_quiet_5 rfl (lv_at hl 0 rfl) ?_
  refine lv_iload_n C.x C.b dX10_quiet_6 rfl (lv_at hl 1 rfl) ?_
  obtain ⟨q2, h_q2, hf⟩ := bd_e hf
  refine r_callV (As := [.int x1]) (rest := []) C hR hS t_r0 rfl mk_X10_isCell cl_X10_289 (k_X10_isCell t_r0 h_q2) ⟨⟨Nat.le_of_ble_eq_true rfl, Nat.le_of_ble_eq_true rfl⟩, ⟨rfl, rfl⟩, Nat.le_of_ble_eq_true rfl, Nat.le_of_ble_eq_true rfl⟩ rfl hl.1 rfl (Nat.le_of_ble_eq_true rfl) dX10_quiet_7 (fun H locs hR hS hE1 z_q2 => ?_)
  have z_q2 := z_q2 _ rfl
  refine lv_if_eq (tgt := 21) C.x C.b dX10_quiet_10 (by decide) (fun c3 => ?_) (fun c3 => ?_)
  · have hf := it_t hf c3
    refine lv_iconst (v := (-1 : Int32)) C.x C.b dX10_quiet_21 (by decide) ?_
    have hf := so_e hf
    subst hf
    exact r_iret C hr hlk hR hE hS dX10_quiet_22
  · have hf := it_f hf c3
    refine lv_aload_n C.x C.b dX10_quiet_13 rfl (lv_at hl 0 rfl) ?_
    refine lv_iload_n C.x C.b dX10_quiet_14 rfl (lv_at hl 2 rfl) ?_
    obtain ⟨q4, h_q4, hf⟩ := bd_e hf
    refine r_callV (As := [.int x2]) (rest := []) C hR hS t_r0 rfl mk_X10_isCell cl_X10_289 (k_X10_isCell t_r0 h_q4) ⟨⟨Nat.le_of_ble_eq_true rfl, Nat.le_of_ble_eq_true rfl⟩, ⟨rfl, rfl⟩, Nat.le_of_ble_eq_true rfl, Nat.le_of_ble_eq_true rfl⟩ rfl hl.1 rfl (Nat.le_of_ble_eq_true rfl) dX10_quiet_15 (fun H locs hR hS hE1 z_q4 => ?_)
    have z_q4 := z_q4 _ rfl
    refine lv_if_ne (tgt := 23) C.x C.b dX10_quiet_18 (by decide) (fun c5 => ?_) (fun c5 => ?_)
    · have hf := it_f hf c5
      refine lv_iconst (v := (0 : Int32)) C.x C.b dX10_quiet_23 (by decide) ?_
      refine lv_istore_n (lv' := [(3, .int (0 : Int32)), (0, .ref (G.2.2 + r0)), (1, .int x1), (2, .int x2)]) C.x C.b dX10_quiet_24 rfl hl (by decide) rfl (fun ls hl => ?_)
      exact w_X10_quiet_25 C hr hlk FU _ _ _ _ _ hf hE hR hS t_r0 (lv_sub hl [1, 2, 3, 0] rfl)
    · have hf := it_t hf c5
      refine lv_iconst (v := (-1 : Int32)) C.x C.b dX10_quiet_21 (by decide) ?_
      have hf := so_e hf
      subst hf
      exact r_iret C hr hlk hR hE hS dX10_quiet_22

def rm_X10_soft : Room := { frames := 5, cells := 0, slots := 0, locals := 126 }
def P_X10_soft_25 (G : Gt) (l : Launch) (p : Program) (e : Env) (s : State) (m : MethodId) (args : Array Value) (below : List Frame) (meth : Method) (c : Code) (h0 : Hp) (out : (Int32 × Hp)) (r0 : Nat) (x1 : Int32) (x2 : Int32) (k : Hp → Int32 → Option (Int32 × Hp)) : Prop := ∀ (H : Heap) (locs : List Loc) (ls : Array Slot) (h : Hp) (x3 : Int32), k h x3 = some out → Ext h0 h → Rel G h H → va_S (AA G.2.2) s.heap H locs → hpT h r0 = (1, 10) → lv_has ls 4 [(0, .ref (G.2.2 + r0)), (1, .int x1), (2, .int x2), (3, .int x3)] → W p l e rm_X10_soft s m args below meth c H locs 0 0 (MQ below (Qm G h0 out.2 (some (.int out.1)) 0) args s 0 0 (AA G.2.2)) (F0 m 25 ls [])
set_option maxRecDepth 100000 in
set_option maxHeartbeats 4000000 in
theorem w_X10_soft_25 {G : Gt} {l : Launch} {p : Program} {e : Env} {s : State} {m : MethodId} {args : Array Value} {below : List Frame} {meth : Method} {c : Code}  {h0 : Hp} {out : (Int32 × Hp)} {r0 : Nat} {x1 : Int32} {x2 : Int32}  (C : Cx G p m c cX10_soft 4 s args RX10) (hr : meth.sig.returnType = some .int) (hlk : meth.locks = false)   (n : Nat) : P_X10_soft_25 G l p e s m args below meth c h0 out r0 x1 x2 (f_X10_soft_25 r0 x1 x2 n) := by
  induction n with
  | zero => intro H locs ls h x3 hf hE hR hS t_r0 hl; cases hf
  | succ n hk25 =>
    intro H locs ls h x3 hf hE hR hS t_r0 hl
    rw [f_X10_soft_25] at hf
    obtain ⟨k25, e_k25⟩ : ∃ y, y = f_X10_soft_25 r0 x1 x2 n := ⟨_, rfl⟩
    have hf := lt_e hf e_k25
    rw [← e_k25] at hk25
    refine lv_iload_n C.x C.b dX10_soft_25 rfl (lv_at hl 3 rfl) ?_
    refine lv_aload_n C.x C.b dX10_soft_26 rfl (lv_at hl 0 rfl) ?_
    obtain ⟨q6, h_q6, hf⟩ := bd_e hf
    refine r_callV (As := []) (rest := [.int x3]) C hR hS t_r0 rfl mk_X10_cells cl_X10_113 (k_X10_cells t_r0 h_q6) ⟨⟨Nat.le_of_ble_eq_true rfl, Nat.le_of_ble_eq_true rfl⟩, ⟨rfl, rfl⟩, Nat.le_of_ble_eq_true rfl, Nat.le_of_ble_eq_true rfl⟩ rfl hl.1 rfl (Nat.le_of_ble_eq_true rfl) dX10_soft_27 (fun H locs hR hS hE1 z_q6 => ?_)
    refine lv_icmp_ge (tgt := 59) C.x C.b dX10_soft_30 (by decide) (fun c7 => ?_) (fun c7 => ?_)
    · have hf := it_t hf c7
      refine lv_aload_n C.x C.b dX10_soft_59 rfl (lv_at hl 0 rfl) ?_
      refine lv_iload_n C.x C.b dX10_soft_60 rfl (lv_at hl 2 rfl) ?_
      refine lv_iconst (v := (0 : Int32)) C.x C.b dX10_soft_61 (by decide) ?_
      obtain ⟨q8, h_q8, hf⟩ := bd_e hf
      refine r_callV (As := [.int x2, .int (0 : Int32)]) (rest := []) C hR hS t_r0 rfl mk_X10_laysYet cl_X10_402 (k_X10_laysYet t_r0 h_q8) ⟨⟨Nat.le_of_ble_eq_true rfl, Nat.le_of_ble_eq_true rfl⟩, ⟨rfl, rfl⟩, Nat.le_of_ble_eq_true rfl, Nat.le_of_ble_eq_true rfl⟩ rfl hl.1 rfl (Nat.le_of_ble_eq_true rfl) dX10_soft_62 (fun H locs hR hS hE1 z_q8 => ?_)
      have hE := hE.tr hE1
      have t_r0 := hE1.at t_r0 (by decide)
      refine lv_aload_n C.x C.b dX10_soft_65 rfl (lv_at hl 0 rfl) ?_
      refine lv_aload_n C.x C.b dX10_soft_66 rfl (lv_at hl 0 rfl) ?_
      obtain ⟨g9, hf⟩ := gd_e hf
      refine r_getr C hR t_r0 fl_X10_20 (by decide) (nz_e g9) dX10_soft_67 (fun tq10 => ?_)
      have tg9 := okA tq10 rfl
      refine lv_iload_n C.x C.b dX10_soft_70 rfl (lv_at hl 1 rfl) ?_
      obtain ⟨q11, h_q11, hf⟩ := bd_e hf
      refine r_callV (As := [.ref (G.2.2 + (hpR q8 r0 6)), .int x1]) (rest := []) C hR hS t_r0 rfl mk_X10_strengthOn cl_X10_297 (k_X10_strengthOn t_r0 tg9 h_q11) ⟨⟨Nat.le_of_ble_eq_true rfl, Nat.le_of_ble_eq_true rfl⟩, ⟨rfl, rfl⟩, Nat.le_of_ble_eq_true rfl, Nat.le_of_ble_eq_true rfl⟩ rfl hl.1 rfl (Nat.le_of_ble_eq_true rfl) dX10_soft_71 (fun H locs hR hS hE1 z_q11 => ?_)
      refine lv_aload_n C.x C.b dX10_soft_74 rfl (lv_at hl 0 rfl) ?_
      obtain ⟨g12, hf⟩ := gd_e hf
      refine r_getr C hR t_r0 fl_X10_60 (by decide) (nz_e g12) dX10_soft_75 (fun tq13 => ?_)
      have tg12 := okA tq13 rfl
      refine lv_iload_n C.x C.b dX10_soft_78 rfl (lv_at hl 1 rfl) ?_
      refine lv_iconst (v := (0 : Int32)) C.x C.b dX10_soft_79 (by decide) ?_
      obtain ⟨q14, h_q14, hf⟩ := bd_e hf
      refine r_callS (As := [.int x1, .int (0 : Int32)]) (rest := [.ref (G.2.2 + (hpR q8 r0 29)), .int q11]) C hR hS mk_X10_state cl_X10_396 (k_X10_state h_q14) ⟨⟨Nat.le_of_ble_eq_true rfl, Nat.le_of_ble_eq_true rfl⟩, ⟨rfl, rfl⟩, Nat.le_of_ble_eq_true rfl, Nat.le_of_ble_eq_true rfl⟩ rfl hl.1 rfl (Nat.le_of_ble_eq_true rfl) dX10_soft_80 (fun H locs hR hS hE1 z_q14 => ?_)
      obtain ⟨g15, hf⟩ := gd_e hf
      refine r_iald C hR tg12 g15 dX10_soft_83 ?_
      refine lv_bipush (v := (100 : Int32)) C.x C.b dX10_soft_84 (by decide) ?_
      refine lv_idiv C.x C.b dX10_soft_86 (by decide) ?_
      refine lv_iadd C.x C.b dX10_soft_87 ?_
      refine lv_topi (fun v16 e_v16 => ?_)
      have hf := lt_e hf e_v16
      refine lv_istore_n (lv' := [(3, .int v16), (0, .ref (G.2.2 + r0)), (1, .int x1), (2, .int x2)]) C.x C.b dX10_soft_88 rfl hl (by decide) rfl (fun ls hl => ?_)
      refine lv_aload_n C.x C.b dX10_soft_89 rfl (lv_at hl 1 rfl) ?_
      refine lv_iload_n C.x C.b dX10_soft_90 rfl (lv_at hl 2 rfl) ?_
      refine lv_iconst (v := (0 : Int32)) C.x C.b dX10_soft_91 (by decide) ?_
      obtain ⟨q17, h_q17, hf⟩ := bd_e hf
      refine r_callV (As := [.int x1, .int (0 : Int32)]) (rest := []) C hR hS t_r0 rfl mk_X10_tellsWay cl_X10_406 (k_X10_tellsWay t_r0 h_q17) ⟨⟨Nat.le_of_ble_eq_true rfl, Nat.le_of_ble_eq_true rfl⟩, ⟨rfl, rfl⟩, Nat.le_of_ble_eq_true rfl, Nat.le_of_ble_eq_true rfl⟩ rfl hl.1 rfl (Nat.le_of_ble_eq_true rfl) dX10_soft_92 (fun H locs hR hS hE1 z_q17 => ?_)
      have hE := hE.tr hE1
      have t_r0 := hE1.at t_r0 (by decide)
      refine lv_pop C.x C.b dX10_soft_95 rfl ?_
      refine lv_iload_n C.x C.b dX10_soft_96 rfl (lv_at hl 0 rfl) ?_
      have hf := so_e hf
      subst hf
      exact r_iret C hr hlk hR hE hS dX10_soft_97
    · have hf := it_f hf c7
      refine lv_aload_n C.x C.b dX10_soft_33 rfl (lv_at hl 0 rfl) ?_
      obtain ⟨g18, hf⟩ := gd_e hf
      refine r_getr C hR t_r0 fl_X10_63 (by decide) (nz_e g18) dX10_soft_34 (fun tq19 => ?_)
      have tg18 := okA tq19 rfl
      refine lv_iload_n C.x C.b dX10_soft_37 rfl (lv_at hl 3 rfl) ?_
      refine lv_bipush (v := (100 : Int32)) C.x C.b dX10_soft_38 (by decide) ?_
      refine lv_aload_n C.x C.b dX10_soft_40 rfl (lv_at hl 0 rfl) ?_
      refine lv_aload_n C.x C.b dX10_soft_41 rfl (lv_at hl 0 rfl) ?_
      obtain ⟨g20, hf⟩ := gd_e hf
      refine r_getr C hR t_r0 fl_X10_20 (by decide) (nz_e g20) dX10_soft_42 (fun tq21 => ?_)
      have tg20 := okA tq21 rfl
      refine lv_iload_n C.x C.b dX10_soft_45 rfl (lv_at hl 3 rfl) ?_
      obtain ⟨q22, h_q22, hf⟩ := bd_e hf
      refine r_callV (As := [.ref (G.2.2 + (hpR h r0 6)), .int x3]) (rest := [.int (100 : Int32), .int x3, .ref (G.2.2 + (hpR h r0 30))]) C hR hS t_r0 rfl mk_X10_strengthOn cl_X10_297 (k_X10_strengthOn t_r0 tg20 h_q22) ⟨⟨Nat.le_of_ble_eq_true rfl, Nat.le_of_ble_eq_true rfl⟩, ⟨rfl, rfl⟩, Nat.le_of_ble_eq_true rfl, Nat.le_of_ble_eq_true rfl⟩ rfl hl.1 rfl (Nat.le_of_ble_eq_true rfl) dX10_soft_46 (fun H locs hR hS hE1 z_q22 => ?_)
      refine lv_imul C.x C.b dX10_soft_49 ?_
      refine lv_iconst (v := (1 : Int32)) C.x C.b dX10_soft_50 (by decide) ?_
      refine lv_iadd C.x C.b dX10_soft_51 ?_
      obtain ⟨g23, hf⟩ := gd_e hf
      refine r_iast C hR hS tg18 g23 dX10_soft_52 (fun H locs hR hS => ?_)
      obtain ⟨h24, e_h24⟩ : ∃ y, y = upI h (hpR h r0 30) (ix x3) (((100 : Int32) * q22) + (1 : Int32)) := ⟨_, rfl⟩
      rw [← e_h24] at hR
      have hf := lt_e hf e_h24
      have hE := eI e_h24 hE
      have t_r0 := tI e_h24 t_r0
      obtain ⟨v25, e_v25⟩ : ∃ y : Int32, y = x3 + (1 : Int32) := ⟨_, rfl⟩
      have hf := lt_e hf e_v25
      refine lv_iinc (v := v25) (lv' := [(3, .int v25), (0, .ref (G.2.2 + r0)), (1, .int x1), (2, .int x2)]) C.x C.b dX10_soft_53 hl (k := 3) rfl (by rw [e_v25]; rfl) (by decide) rfl (fun ls hl => ?_)
      refine lv_goto (tgt := 25) C.x C.b dX10_soft_56 (by decide) ?_
      exact hk25 _ _ _ _ _ hf hE hR hS t_r0 (lv_sub hl [1, 2, 3, 0] rfl)
set_option maxRecDepth 100000 in
set_option maxHeartbeats 4000000 in
theorem k_X10_soft {G : Gt} {l : Launch}  {h : Hp} {r0 : Nat} {x1 : Int32} {x2 : Int32} {out : (Int32 × Hp)} (t_r0 : hpT h r0 = (1, 10))  (hf : f_X10_soft  h r0 x1 x2 = some out) : Mt G l yX10_soft cX10_soft 4 (some .int) rm_X10_soft [.ref (G.2.2 + r0), .int x1, .int x2] h (some (.int out.1)) out.2 0 0 0 := by
  refine r_met (by decide +kernel) (Nat.le_of_ble_eq_true rfl) ?_
  intro p e s m args below meth c ls C hr hlk hnm hR hS hl
  have hE : Ext h h := Ext.rf
  have hl : lv_has ls 4 [(0, .ref (G.2.2 + r0)), (1, .int x1), (2, .int x2)] := hl
  rw [f_X10_soft] at hf
  refine lv_aload_n C.x C.b dX10_soft_0 rfl (lv_at hl 0 rfl) ?_
  refine lv_iconst (v := (0 : Int32)) C.x C.b dX10_soft_1 (by decide) ?_
  refine r_puti C hR hS t_r0 fl_X10_103 fp_X10_10_0 rfl dX10_soft_2 (fun H locs hR hS => ?_)
  obtain ⟨h1, e_h1⟩ : ∃ y, y = upI h r0 0 (0 : Int32) := ⟨_, rfl⟩
  rw [← e_h1] at hR
  have hf := lt_e hf e_h1
  have hE := eI e_h1 hE
  have t_r0 := tI e_h1 t_r0
  refine lv_aload_n C.x C.b dX10_soft_5 rfl (lv_at hl 0 rfl) ?_
  refine lv_iload_n C.x C.b dX10_soft_6 rfl (lv_at hl 1 rfl) ?_
  obtain ⟨q2, h_q2, hf⟩ := bd_e hf
  refine r_callV (As := [.int x1]) (rest := []) C hR hS t_r0 rfl mk_X10_isCell cl_X10_289 (k_X10_isCell t_r0 h_q2) ⟨⟨Nat.le_of_ble_eq_true rfl, Nat.le_of_ble_eq_true rfl⟩, ⟨rfl, rfl⟩, Nat.le_of_ble_eq_true rfl, Nat.le_of_ble_eq_true rfl⟩ rfl hl.1 rfl (Nat.le_of_ble_eq_true rfl) dX10_soft_7 (fun H locs hR hS hE1 z_q2 => ?_)
  have z_q2 := z_q2 _ rfl
  refine lv_if_eq (tgt := 21) C.x C.b dX10_soft_10 (by decide) (fun c3 => ?_) (fun c3 => ?_)
  · have hf := it_t hf c3
    refine lv_iconst (v := (-1 : Int32)) C.x C.b dX10_soft_21 (by decide) ?_
    have hf := so_e hf
    subst hf
    exact r_iret C hr hlk hR hE hS dX10_soft_22
  · have hf := it_f hf c3
    refine lv_aload_n C.x C.b dX10_soft_13 rfl (lv_at hl 0 rfl) ?_
    refine lv_iload_n C.x C.b dX10_soft_14 rfl (lv_at hl 2 rfl) ?_
    obtain ⟨q4, h_q4, hf⟩ := bd_e hf
    refine r_callV (As := [.int x2]) (rest := []) C hR hS t_r0 rfl mk_X10_isCell cl_X10_289 (k_X10_isCell t_r0 h_q4) ⟨⟨Nat.le_of_ble_eq_true rfl, Nat.le_of_ble_eq_true rfl⟩, ⟨rfl, rfl⟩, Nat.le_of_ble_eq_true rfl, Nat.le_of_ble_eq_true rfl⟩ rfl hl.1 rfl (Nat.le_of_ble_eq_true rfl) dX10_soft_15 (fun H locs hR hS hE1 z_q4 => ?_)
    have z_q4 := z_q4 _ rfl
    refine lv_if_ne (tgt := 23) C.x C.b dX10_soft_18 (by decide) (fun c5 => ?_) (fun c5 => ?_)
    · have hf := it_f hf c5
      refine lv_iconst (v := (0 : Int32)) C.x C.b dX10_soft_23 (by decide) ?_
      refine lv_istore_n (lv' := [(3, .int (0 : Int32)), (0, .ref (G.2.2 + r0)), (1, .int x1), (2, .int x2)]) C.x C.b dX10_soft_24 rfl hl (by decide) rfl (fun ls hl => ?_)
      exact w_X10_soft_25 C hr hlk FU _ _ _ _ _ hf hE hR hS t_r0 (lv_sub hl [1, 2, 3, 0] rfl)
    · have hf := it_t hf c5
      refine lv_iconst (v := (-1 : Int32)) C.x C.b dX10_soft_21 (by decide) ?_
      have hf := so_e hf
      subst hf
      exact r_iret C hr hlk hR hE hS dX10_soft_22

def rm_X10_seenFrom : Room := { frames := 4, cells := 0, slots := 0, locals := 98 }
def P_X10_seenFrom_116 (G : Gt) (l : Launch) (p : Program) (e : Env) (s : State) (m : MethodId) (args : Array Value) (below : List Frame) (meth : Method) (c : Code) (h : Hp) (out : Int32) (r0 : Nat) (x1 : Int32) (k : Int32 → Int32 → Int32 → Int32 → Int32 → Int32 → Int32 → Option Int32) : Prop := ∀ (H : Heap) (locs : List Loc) (ls : Array Slot) (s0 : Int32) (s1 : Int32) (x2 : Int32) (x3 : Int32) (x4 : Int32) (x5 : Int32) (x7 : Int32), k s0 s1 x2 x3 x4 x5 x7 = some out → Rel G h H → va_S (AA G.2.2) s.heap H locs → hpT h r0 = (1, 10) → lv_has ls 8 [(0, .ref (G.2.2 + r0)), (1, .int x1), (2, .int x2), (3, .int x3), (4, .int x4), (5, .int x5), (7, .int x7)] → W p l e rm_X10_seenFrom s m args below meth c H locs 0 0 (MQ below (Qm G h h (some (.int out)) 0) args s 0 0 (AA G.2.2)) (F0 m 116 ls [.int s1, .int s0])
def P_X10_seenFrom_87 (G : Gt) (l : Launch) (p : Program) (e : Env) (s : State) (m : MethodId) (args : Array Value) (below : List Frame) (meth : Method) (c : Code) (h : Hp) (out : Int32) (r0 : Nat) (x1 : Int32) (k : Int32 → Int32 → Int32 → Int32 → Int32 → Int32 → Int32 → Option Int32) : Prop := ∀ (H : Heap) (locs : List Loc) (ls : Array Slot) (s0 : Int32) (s1 : Int32) (x3 : Int32) (x4 : Int32) (x5 : Int32) (x6 : Int32) (x7 : Int32), k s0 s1 x3 x4 x5 x6 x7 = some out → Rel G h H → va_S (AA G.2.2) s.heap H locs → hpT h r0 = (1, 10) → lv_has ls 8 [(0, .ref (G.2.2 + r0)), (1, .int x1), (3, .int x3), (4, .int x4), (5, .int x5), (6, .int x6), (7, .int x7)] → W p l e rm_X10_seenFrom s m args below meth c H locs 0 0 (MQ below (Qm G h h (some (.int out)) 0) args s 0 0 (AA G.2.2)) (F0 m 87 ls [.int s1, .int s0])
def P_X10_seenFrom_86 (G : Gt) (l : Launch) (p : Program) (e : Env) (s : State) (m : MethodId) (args : Array Value) (below : List Frame) (meth : Method) (c : Code) (h : Hp) (out : Int32) (r0 : Nat) (x1 : Int32) (k : Int32 → Int32 → Int32 → Int32 → Int32 → Int32 → Option Int32) : Prop := ∀ (H : Heap) (locs : List Loc) (ls : Array Slot) (s0 : Int32) (x3 : Int32) (x4 : Int32) (x5 : Int32) (x6 : Int32) (x7 : Int32), k s0 x3 x4 x5 x6 x7 = some out → Rel G h H → va_S (AA G.2.2) s.heap H locs → hpT h r0 = (1, 10) → lv_has ls 8 [(0, .ref (G.2.2 + r0)), (1, .int x1), (3, .int x3), (4, .int x4), (5, .int x5), (6, .int x6), (7, .int x7)] → W p l e rm_X10_seenFrom s m args below meth c H locs 0 0 (MQ below (Qm G h h (some (.int out)) 0) args s 0 0 (AA G.2.2)) (F0 m 86 ls [.int s0])
def P_X10_seenFrom_41 (G : Gt) (l : Launch) (p : Program) (e : Env) (s : State) (m : MethodId) (args : Array Value) (below : List Frame) (meth : Method) (c : Code) (h : Hp) (out : Int32) (r0 : Nat) (x1 : Int32) (k : Int32 → Int32 → Int32 → Int32 → Int32 → Int32 → Option Int32) : Prop := ∀ (H : Heap) (locs : List Loc) (ls : Array Slot) (x2 : Int32) (x3 : Int32) (x4 : Int32) (x5 : Int32) (x6 : Int32) (x7 : Int32), k x2 x3 x4 x5 x6 x7 = some out → Rel G h H → va_S (AA G.2.2) s.heap H locs → hpT h r0 = (1, 10) → lv_has ls 8 [(0, .ref (G.2.2 + r0)), (1, .int x1), (2, .int x2), (3, .int x3), (4, .int x4), (5, .int x5), (6, .int x6), (7, .int x7)] → W p l e rm_X10_seenFrom s m args below meth c H locs 0 0 (MQ below (Qm G h h (some (.int out)) 0) args s 0 0 (AA G.2.2)) (F0 m 41 ls [])
def P_X10_seenFrom_7 (G : Gt) (l : Launch) (p : Program) (e : Env) (s : State) (m : MethodId) (args : Array Value) (below : List Frame) (meth : Method) (c : Code) (h : Hp) (out : Int32) (r0 : Nat) (x1 : Int32) (k : Int32 → Int32 → Int32 → Option Int32) : Prop := ∀ (H : Heap) (locs : List Loc) (ls : Array Slot) (x2 : Int32) (x3 : Int32) (x4 : Int32), k x2 x3 x4 = some out → Rel G h H → va_S (AA G.2.2) s.heap H locs → hpT h r0 = (1, 10) → lv_has ls 8 [(0, .ref (G.2.2 + r0)), (1, .int x1), (2, .int x2), (3, .int x3), (4, .int x4)] → W p l e rm_X10_seenFrom s m args below meth c H locs 0 0 (MQ below (Qm G h h (some (.int out)) 0) args s 0 0 (AA G.2.2)) (F0 m 7 ls [])
set_option maxRecDepth 100000 in
set_option maxHeartbeats 4000000 in
theorem w_X10_seenFrom_116 {G : Gt} {l : Launch} {p : Program} {e : Env} {s : State} {m : MethodId} {args : Array Value} {below : List Frame} {meth : Method} {c : Code}  {h : Hp} {out : Int32} {r0 : Nat} {x1 : Int32} {k7 : Int32 → Int32 → Int32 → Option Int32} {k41 : Int32 → Int32 → Int32 → Int32 → Int32 → Int32 → Option Int32} (C : Cx G p m c cX10_seenFrom 8 s args RX10) (hr : meth.sig.returnType = some .int) (hlk : meth.locks = false)  (hk7 : P_X10_seenFrom_7 G l p e s m args below meth c h out r0 x1 k7) (hk41 : P_X10_seenFrom_41 G l p e s m args below meth c h out r0 x1 k41) : P_X10_seenFrom_116 G l p e s m args below meth c h out r0 x1 (f_X10_seenFrom_116 h r0 x1 k7 k41) := by
  intro H locs ls s0 s1 x2 x3 x4 x5 x7 hf hR hS t_r0 hl
  rw [f_X10_seenFrom_116] at hf
  refine va_mmax C.x C.b (C.ml.trans hl.1.symm) C.ow (C.ts _ lk_X10_272) (C.ts _ lk_Mmax_s) (C.ts _ lk_Math) (C.ts _ lk_Mmax_c) (Nat.le_of_ble_eq_true rfl) (Nat.le_of_ble_eq_true rfl) (Nat.le_of_ble_eq_true rfl) (Nat.le_of_ble_eq_true rfl) dX10_seenFrom_116 ?_
  refine lv_topi (fun v23 e_v23 => ?_)
  have hf := lt_e hf e_v23
  refine lv_istore (lv' := [(6, .int v23), (0, .ref (G.2.2 + r0)), (1, .int x1), (2, .int x2), (3, .int x3), (4, .int x4), (5, .int x5), (7, .int x7)]) C.x C.b dX10_seenFrom_119 hl (by decide) rfl (fun ls hl => ?_)
  obtain ⟨v24, e_v24⟩ : ∃ y : Int32, y = x7 + (1 : Int32) := ⟨_, rfl⟩
  have hf := lt_e hf e_v24
  refine lv_iinc (v := v24) (lv' := [(7, .int v24), (6, .int v23), (0, .ref (G.2.2 + r0)), (1, .int x1), (2, .int x2), (3, .int x3), (4, .int x4), (5, .int x5)]) C.x C.b dX10_seenFrom_121 hl (k := 7) rfl (by rw [e_v24]; rfl) (by decide) rfl (fun ls hl => ?_)
  refine lv_goto (tgt := 41) C.x C.b dX10_seenFrom_124 (by decide) ?_
  exact hk41 _ _ _ _ _ _ _ _ _ hf hR hS t_r0 (lv_sub hl [2, 3, 4, 5, 6, 7, 1, 0] rfl)
set_option maxRecDepth 100000 in
set_option maxHeartbeats 4000000 in
theorem w_X10_seenFrom_87 {G : Gt} {l : Launch} {p : Program} {e : Env} {s : State} {m : MethodId} {args : Array Value} {below : List Frame} {meth : Method} {c : Code}  {h : Hp} {out : Int32} {r0 : Nat} {x1 : Int32} {k7 : Int32 → Int32 → Int32 → Option Int32} {k41 : Int32 → Int32 → Int32 → Int32 → Int32 → Int32 → Option Int32} (C : Cx G p m c cX10_seenFrom 8 s args RX10) (hr : meth.sig.returnType = some .int) (hlk : meth.locks = false)  (hk7 : P_X10_seenFrom_7 G l p e s m args below meth c h out r0 x1 k7) (hk41 : P_X10_seenFrom_41 G l p e s m args below meth c h out r0 x1 k41) : P_X10_seenFrom_87 G l p e s m args below meth c h out r0 x1 (f_X10_seenFrom_87 h r0 x1 k7 k41) := by
  intro H locs ls s0 s1 x3 x4 x5 x6 x7 hf hR hS t_r0 hl
  rw [f_X10_seenFrom_87] at hf
  refine lv_ior C.x C.b dX10_seenFrom_87 ?_
  refine lv_topi (fun v17 e_v17 => ?_)
  have hf := lt_e hf e_v17
  refine lv_istore_n (lv' := [(2, .int v17), (0, .ref (G.2.2 + r0)), (1, .int x1), (3, .int x3), (4, .int x4), (5, .int x5), (6, .int x6), (7, .int x7)]) C.x C.b dX10_seenFrom_88 rfl hl (by decide) rfl (fun ls hl => ?_)
  refine lv_iload C.x C.b dX10_seenFrom_89 (lv_at hl 6 rfl) ?_
  refine lv_iload C.x C.b dX10_seenFrom_91 (lv_at hl 5 rfl) ?_
  refine lv_i2l C.x C.b dX10_seenFrom_93 rfl ?_
  refine lv_iload C.x C.b dX10_seenFrom_94 (lv_at hl 7 rfl) ?_
  obtain ⟨q18, h_q18, hf⟩ := bd_e hf
  refine r_callS (As := [.long (x5.toInt64), .int x7]) (rest := [.int x6]) C hR hS mk_X10_has cl_X10_137 (k_X10_has h_q18) ⟨⟨Nat.le_of_ble_eq_true rfl, Nat.le_of_ble_eq_true rfl⟩, ⟨rfl, rfl⟩, Nat.le_of_ble_eq_true rfl, Nat.le_of_ble_eq_true rfl⟩ rfl hl.1 rfl (Nat.le_of_ble_eq_true rfl) dX10_seenFrom_96 (fun H locs hR hS hE1 z_q18 => ?_)
  have z_q18 := z_q18 _ rfl
  refine lv_if_eq (tgt := 115) C.x C.b dX10_seenFrom_99 (by decide) (fun c19 => ?_) (fun c19 => ?_)
  · have hf := it_t hf c19
    refine lv_iconst (v := (0 : Int32)) C.x C.b dX10_seenFrom_115 (by decide) ?_
    exact w_X10_seenFrom_116 C hr hlk hk7 hk41 _ _ _ _ _ _ _ _ _ _ hf hR hS t_r0 (lv_sub hl [1, 2, 0, 3, 4, 5, 7] rfl)
  · have hf := it_f hf c19
    refine lv_aload_n C.x C.b dX10_seenFrom_102 rfl (lv_at hl 1 rfl) ?_
    obtain ⟨g20, hf⟩ := gd_e hf
    refine r_getr C hR t_r0 fl_X10_20 (by decide) (nz_e g20) dX10_seenFrom_103 (fun tq21 => ?_)
    have tg20 := okA tq21 rfl
    refine lv_bipush (v := (24 : Int32)) C.x C.b dX10_seenFrom_106 (by decide) ?_
    refine lv_iload C.x C.b dX10_seenFrom_108 (lv_at hl 7 rfl) ?_
    refine lv_iadd C.x C.b dX10_seenFrom_110 ?_
    obtain ⟨g22, hf⟩ := gd_e hf
    refine r_iald C hR tg20 g22 dX10_seenFrom_111 ?_
    refine lv_goto (tgt := 116) C.x C.b dX10_seenFrom_112 (by decide) ?_
    exact w_X10_seenFrom_116 C hr hlk hk7 hk41 _ _ _ _ _ _ _ _ _ _ hf hR hS t_r0 (lv_sub hl [1, 2, 0, 3, 4, 5, 7] rfl)
set_option maxRecDepth 100000 in
set_option maxHeartbeats 4000000 in
theorem w_X10_seenFrom_86 {G : Gt} {l : Launch} {p : Program} {e : Env} {s : State} {m : MethodId} {args : Array Value} {below : List Frame} {meth : Method} {c : Code}  {h : Hp} {out : Int32} {r0 : Nat} {x1 : Int32} {k7 : Int32 → Int32 → Int32 → Option Int32} {k41 : Int32 → Int32 → Int32 → Int32 → Int32 → Int32 → Option Int32} (C : Cx G p m c cX10_seenFrom 8 s args RX10) (hr : meth.sig.returnType = some .int) (hlk : meth.locks = false)  (hk7 : P_X10_seenFrom_7 G l p e s m args below meth c h out r0 x1 k7) (hk41 : P_X10_seenFrom_41 G l p e s m args below meth c h out r0 x1 k41) : P_X10_seenFrom_86 G l p e s m args below meth c h out r0 x1 (f_X10_seenFrom_86 h r0 x1 k7 k41) := by
  intro H locs ls s0 x3 x4 x5 x6 x7 hf hR hS t_r0 hl
  rw [f_X10_seenFrom_86] at hf
  refine lv_iconst (v := (0 : Int32)) C.x C.b dX10_seenFrom_86 (by decide) ?_
  exact w_X10_seenFrom_87 C hr hlk hk7 hk41 _ _ _ _ _ _ _ _ _ _ hf hR hS t_r0 (lv_sub hl [0, 1, 2, 3, 4, 5, 6] rfl)
set_option maxRecDepth 100000 in
set_option maxHeartbeats 4000000 in
theorem w_X10_seenFrom_41 {G : Gt} {l : Launch} {p : Program} {e : Env} {s : State} {m : MethodId} {args : Array Value} {below : List Frame} {meth : Method} {c : Code}  {h : Hp} {out : Int32} {r0 : Nat} {x1 : Int32} {k7 : Int32 → Int32 → Int32 → Option Int32} (C : Cx G p m c cX10_seenFrom 8 s args RX10) (hr : meth.sig.returnType = some .int) (hlk : meth.locks = false)  (hk7 : P_X10_seenFrom_7 G l p e s m args below meth c h out r0 x1 k7) (n : Nat) : P_X10_seenFrom_41 G l p e s m args below meth c h out r0 x1 (f_X10_seenFrom_41 h r0 x1 k7 n) := by
  induction n with
  | zero => intro H locs ls x2 x3 x4 x5 x6 x7 hf hR hS t_r0 hl; cases hf
  | succ n hk41 =>
    intro H locs ls x2 x3 x4 x5 x6 x7 hf hR hS t_r0 hl
    rw [f_X10_seenFrom_41] at hf
    obtain ⟨k41, e_k41⟩ : ∃ y, y = f_X10_seenFrom_41 h r0 x1 k7 n := ⟨_, rfl⟩
    have hf := lt_e hf e_k41
    rw [← e_k41] at hk41
    refine lv_iload C.x C.b dX10_seenFrom_41 (lv_at hl 7 rfl) ?_
    refine lv_aload_n C.x C.b dX10_seenFrom_43 rfl (lv_at hl 0 rfl) ?_
    obtain ⟨g5, hf⟩ := gd_e hf
    refine r_getr C hR t_r0 fl_X10_20 (by decide) (nz_e g5) dX10_seenFrom_44 (fun tq6 => ?_)
    have tg5 := okA tq6 rfl
    refine lv_bipush (v := (48 : Int32)) C.x C.b dX10_seenFrom_47 (by decide) ?_
    obtain ⟨g7, hf⟩ := gd_e hf
    refine r_iald C hR tg5 g7 dX10_seenFrom_49 ?_
    refine lv_icmp_ge (tgt := 127) C.x C.b dX10_seenFrom_50 (by decide) (fun c8 => ?_) (fun c8 => ?_)
    · have hf := it_t hf c8
      refine lv_iload_n C.x C.b dX10_seenFrom_127 rfl (lv_at hl 3 rfl) ?_
      refine lv_iload C.x C.b dX10_seenFrom_128 (lv_at hl 6 rfl) ?_
      refine va_mmax C.x C.b (C.ml.trans hl.1.symm) C.ow (C.ts _ lk_X10_272) (C.ts _ lk_Mmax_s) (C.ts _ lk_Math) (C.ts _ lk_Mmax_c) (Nat.le_of_ble_eq_true rfl) (Nat.le_of_ble_eq_true rfl) (Nat.le_of_ble_eq_true rfl) (Nat.le_of_ble_eq_true rfl) dX10_seenFrom_130 ?_
      refine lv_topi (fun v9 e_v9 => ?_)
      have hf := lt_e hf e_v9
      refine lv_istore_n (lv' := [(3, .int v9), (0, .ref (G.2.2 + r0)), (1, .int x1), (2, .int x2), (4, .int x4), (5, .int x5), (6, .int x6), (7, .int x7)]) C.x C.b dX10_seenFrom_133 rfl hl (by decide) rfl (fun ls hl => ?_)
      obtain ⟨v10, e_v10⟩ : ∃ y : Int32, y = x4 + (1 : Int32) := ⟨_, rfl⟩
      have hf := lt_e hf e_v10
      refine lv_iinc (v := v10) (lv' := [(4, .int v10), (3, .int v9), (0, .ref (G.2.2 + r0)), (1, .int x1), (2, .int x2), (5, .int x5), (6, .int x6), (7, .int x7)]) C.x C.b dX10_seenFrom_134 hl (k := 4) rfl (by rw [e_v10]; rfl) (by decide) rfl (fun ls hl => ?_)
      refine lv_goto (tgt := 7) C.x C.b dX10_seenFrom_137 (by decide) ?_
      exact hk7 _ _ _ _ _ _ hf hR hS t_r0 (lv_sub hl [2, 3, 4, 1, 0] rfl)
    · have hf := it_f hf c8
      refine lv_iload_n C.x C.b dX10_seenFrom_53 rfl (lv_at hl 2 rfl) ?_
      refine lv_iload C.x C.b dX10_seenFrom_54 (lv_at hl 5 rfl) ?_
      refine lv_i2l C.x C.b dX10_seenFrom_56 rfl ?_
      refine lv_iload C.x C.b dX10_seenFrom_57 (lv_at hl 7 rfl) ?_
      obtain ⟨q11, h_q11, hf⟩ := bd_e hf
      refine r_callS (As := [.long (x5.toInt64), .int x7]) (rest := [.int x2]) C hR hS mk_X10_has cl_X10_137 (k_X10_has h_q11) ⟨⟨Nat.le_of_ble_eq_true rfl, Nat.le_of_ble_eq_true rfl⟩, ⟨rfl, rfl⟩, Nat.le_of_ble_eq_true rfl, Nat.le_of_ble_eq_true rfl⟩ rfl hl.1 rfl (Nat.le_of_ble_eq_true rfl) dX10_seenFrom_59 (fun H locs hR hS hE1 z_q11 => ?_)
      have z_q11 := z_q11 _ rfl
      refine lv_if_eq (tgt := 86) C.x C.b dX10_seenFrom_62 (by decide) (fun c12 => ?_) (fun c12 => ?_)
      · have hf := it_t hf c12
        exact w_X10_seenFrom_86 C hr hlk hk7 hk41 _ _ _ _ _ _ _ _ _ hf hR hS t_r0 (lv_sub hl [0, 1, 3, 4, 5, 6, 7] rfl)
      · have hf := it_f hf c12
        refine lv_aload_n C.x C.b dX10_seenFrom_65 rfl (lv_at hl 0 rfl) ?_
        refine r_getr C hR t_r0 fl_X10_20 (by decide) (nz_e g5) dX10_seenFrom_66 (fun tq13 => ?_)
        refine lv_bipush (v := (24 : Int32)) C.x C.b dX10_seenFrom_69 (by decide) ?_
        refine lv_iload C.x C.b dX10_seenFrom_71 (lv_at hl 7 rfl) ?_
        refine lv_iadd C.x C.b dX10_seenFrom_73 ?_
        obtain ⟨g14, hf⟩ := gd_e hf
        refine r_iald C hR tg5 g14 dX10_seenFrom_74 ?_
        refine lv_iload_n C.x C.b dX10_seenFrom_75 rfl (lv_at hl 3 rfl) ?_
        refine lv_icmp_lt (tgt := 86) C.x C.b dX10_seenFrom_76 (by decide) (fun c15 => ?_) (fun c15 => ?_)
        · have hf := it_t hf c15
          exact w_X10_seenFrom_86 C hr hlk hk7 hk41 _ _ _ _ _ _ _ _ _ hf hR hS t_r0 (lv_sub hl [0, 1, 3, 4, 5, 6, 7] rfl)
        · have hf := it_f hf c15
          refine lv_iconst (v := (1 : Int32)) C.x C.b dX10_seenFrom_79 (by decide) ?_
          refine lv_iload C.x C.b dX10_seenFrom_80 (lv_at hl 7 rfl) ?_
          refine lv_ishl C.x C.b dX10_seenFrom_82 ?_
          refine lv_topi (fun v16 e_v16 => ?_)
          have hf := lt_e hf e_v16
          refine lv_goto (tgt := 87) C.x C.b dX10_seenFrom_83 (by decide) ?_
          exact w_X10_seenFrom_87 C hr hlk hk7 hk41 _ _ _ _ _ _ _ _ _ _ hf hR hS t_r0 (lv_sub hl [0, 1, 3, 4, 5, 6, 7] rfl)
set_option maxRecDepth 100000 in
set_option maxHeartbeats 4000000 in
theorem w_X10_seenFrom_7 {G : Gt} {l : Launch} {p : Program} {e : Env} {s : State} {m : MethodId} {args : Array Value} {below : List Frame} {meth : Method} {c : Code}  {h : Hp} {out : Int32} {r0 : Nat} {x1 : Int32}  (C : Cx G p m c cX10_seenFrom 8 s args RX10) (hr : meth.sig.returnType = some .int) (hlk : meth.locks = false)   (n : Nat) : P_X10_seenFrom_7 G l p e s m args below meth c h out r0 x1 (f_X10_seenFrom_7 h r0 x1 n) := by
  induction n with
  | zero => intro H locs ls x2 x3 x4 hf hR hS t_r0 hl; cases hf
  | succ n hk7 =>
    intro H locs ls x2 x3 x4 hf hR hS t_r0 hl
    rw [f_X10_seenFrom_7] at hf
    obtain ⟨k7, e_k7⟩ : ∃ y, y = f_X10_seenFrom_7 h r0 x1 n := ⟨_, rfl⟩
    have hf := lt_e hf e_k7
    rw [← e_k7] at hk7
    refine lv_iload C.x C.b dX10_seenFrom_7 (lv_at hl 4 rfl) ?_
    refine lv_aload_n C.x C.b dX10_seenFrom_9 rfl (lv_at hl 0 rfl) ?_
    refine r_geti C hR t_r0 fl_X10_17 rfl dX10_seenFrom_10 ?_
    refine lv_icmp_ge (tgt := 140) C.x C.b dX10_seenFrom_13 (by decide) (fun c1 => ?_) (fun c1 => ?_)
    · have hf := it_t hf c1
      refine lv_iload_n C.x C.b dX10_seenFrom_140 rfl (lv_at hl 2 rfl) ?_
      have hf := so_e hf
      subst hf
      exact r_iret C hr hlk hR Ext.rf hS dX10_seenFrom_141
    · have hf := it_f hf c1
      refine lv_aload_n C.x C.b dX10_seenFrom_16 rfl (lv_at hl 0 rfl) ?_
      refine lv_aload_n C.x C.b dX10_seenFrom_17 rfl (lv_at hl 0 rfl) ?_
      obtain ⟨g2, hf⟩ := gd_e hf
      refine r_getr C hR t_r0 fl_X10_20 (by decide) (nz_e g2) dX10_seenFrom_18 (fun tq3 => ?_)
      have tg2 := okA tq3 rfl
      refine lv_aload_n C.x C.b dX10_seenFrom_21 rfl (lv_at hl 0 rfl) ?_
      refine r_geti C hR t_r0 fl_X10_17 rfl dX10_seenFrom_22 ?_
      refine lv_iload_n C.x C.b dX10_seenFrom_25 rfl (lv_at hl 1 rfl) ?_
      refine lv_imul C.x C.b dX10_seenFrom_26 ?_
      refine lv_iload C.x C.b dX10_seenFrom_27 (lv_at hl 4 rfl) ?_
      refine lv_iadd C.x C.b dX10_seenFrom_29 ?_
      obtain ⟨q4, h_q4, hf⟩ := bd_e hf
      refine r_callV (As := [.ref (G.2.2 + (hpR h r0 6)), .int (((hpI h r0 4) * x1) + x4)]) (rest := []) C hR hS t_r0 rfl mk_X10_campsOver cl_X10_294 (k_X10_campsOver t_r0 tg2 h_q4) ⟨⟨Nat.le_of_ble_eq_true rfl, Nat.le_of_ble_eq_true rfl⟩, ⟨rfl, rfl⟩, Nat.le_of_ble_eq_true rfl, Nat.le_of_ble_eq_true rfl⟩ rfl hl.1 rfl (Nat.le_of_ble_eq_true rfl) dX10_seenFrom_30 (fun H locs hR hS hE1 z_q4 => ?_)
      refine lv_istore (lv' := [(5, .int q4), (0, .ref (G.2.2 + r0)), (1, .int x1), (2, .int x2), (3, .int x3), (4, .int x4)]) C.x C.b dX10_seenFrom_33 hl (by decide) rfl (fun ls hl => ?_)
      refine lv_iconst (v := (0 : Int32)) C.x C.b dX10_seenFrom_35 (by decide) ?_
      refine lv_istore (lv' := [(6, .int (0 : Int32)), (5, .int q4), (0, .ref (G.2.2 + r0)), (1, .int x1), (2, .int x2), (3, .int x3), (4, .int x4)]) C.x C.b dX10_seenFrom_36 hl (by decide) rfl (fun ls hl => ?_)
      refine lv_iconst (v := (0 : Int32)) C.x C.b dX10_seenFrom_38 (by decide) ?_
      refine lv_istore (lv' := [(7, .int (0 : Int32)), (6, .int (0 : Int32)), (5, .int q4), (0, .ref (G.2.2 + r0)), (1, .int x1), (2, .int x2), (3, .int x3), (4, .int x4)]) C.x C.b dX10_seenFrom_39 hl (by decide) rfl (fun ls hl => ?_)
      exact w_X10_seenFrom_41 C hr hlk hk7 FU _ _ _ _ _ _ _ _ _ hf hR hS t_r0 (lv_sub hl [3, 4, 5, 6, 7, 2, 1, 0] rfl)
set_option maxRecDepth 100000 in
set_option maxHeartbeats 4000000 in
theorem k_X10_seenFrom {G : Gt} {l : Launch}  {h : Hp} {r0 : Nat} {x1 : Int32} {out : Int32} (t_r0 : hpT h r0 = (1, 10))  (hf : f_X10_seenFrom  h r0 x1 = some out) : Mt G l yX10_seenFrom cX10_seenFrom 8 (some .int) rm_X10_seenFrom [.ref (G.2.2 + r0), .int x1] h (some (.int out)) h 0 0 0 := by
  refine r_met (by decide +kernel) (Nat.le_of_ble_eq_true rfl) ?_
  intro p e s m args below meth c ls C hr hlk hnm hR hS hl
  have hl : lv_has ls 8 [(0, .ref (G.2.2 + r0)), (1, .int x1)] := hl
  rw [f_X10_seenFrom] at hf
  refine lv_iconst (v := (0 : Int32)) C.x C.b dX10_seenFrom_0 (by decide) ?_
  refine lv_istore_n (lv' := [(2, .int (0 : Int32)), (0, .ref (G.2.2 + r0)), (1, .int x1)]) C.x C.b dX10_seenFrom_1 rfl hl (by decide) rfl (fun ls hl => ?_)
  refine lv_iconst (v := (0 : Int32)) C.x C.b dX10_seenFrom_2 (by decide) ?_
  refine lv_istore_n (lv' := [(3, .int (0 : Int32)), (2, .int (0 : Int32)), (0, .ref (G.2.2 + r0)), (1, .int x1)]) C.x C.b dX10_seenFrom_3 rfl hl (by decide) rfl (fun ls hl => ?_)
  refine lv_iconst (v := (0 : Int32)) C.x C.b dX10_seenFrom_4 (by decide) ?_
  refine lv_istore (lv' := [(4, .int (0 : Int32)), (3, .int (0 : Int32)), (2, .int (0 : Int32)), (0, .ref (G.2.2 + r0)), (1, .int x1)]) C.x C.b dX10_seenFrom_5 hl (by decide) rfl (fun ls hl => ?_)
  exact w_X10_seenFrom_7 C hr hlk FU _ _ _ _ _ _ hf hR hS t_r0 (lv_sub hl [3, 4, 2, 1, 0] rfl)

def rm_X10_seen : Room := { frames := 5, cells := 0, slots := 0, locals := 125 }
set_option maxRecDepth 100000 in
set_option maxHeartbeats 4000000 in
theorem k_X10_seen {G : Gt} {l : Launch}  {h : Hp} {r0 : Nat} {x1 : Int32} {out : (Int32 × Hp)} (t_r0 : hpT h r0 = (1, 10))  (hf : f_X10_seen  h r0 x1 = some out) : Mt G l yX10_seen cX10_seen 3 (some .int) rm_X10_seen [.ref (G.2.2 + r0), .int x1] h (some (.int out.1)) out.2 0 0 0 := by
  refine r_met (by decide +kernel) (Nat.le_of_ble_eq_true rfl) ?_
  intro p e s m args below meth c ls C hr hlk hnm hR hS hl
  have hE : Ext h h := Ext.rf
  have hl : lv_has ls 3 [(0, .ref (G.2.2 + r0)), (1, .int x1)] := hl
  rw [f_X10_seen] at hf
  refine lv_aload_n C.x C.b dX10_seen_0 rfl (lv_at hl 0 rfl) ?_
  refine lv_iconst (v := (0 : Int32)) C.x C.b dX10_seen_1 (by decide) ?_
  refine r_puti C hR hS t_r0 fl_X10_103 fp_X10_10_0 rfl dX10_seen_2 (fun H locs hR hS => ?_)
  obtain ⟨h1, e_h1⟩ : ∃ y, y = upI h r0 0 (0 : Int32) := ⟨_, rfl⟩
  rw [← e_h1] at hR
  have hf := lt_e hf e_h1
  have hE := eI e_h1 hE
  have t_r0 := tI e_h1 t_r0
  refine lv_iload_n C.x C.b dX10_seen_5 rfl (lv_at hl 1 rfl) ?_
  refine lv_i2l C.x C.b dX10_seen_6 rfl ?_
  refine lv_lconst (v := (0 : Int64)) C.x C.b dX10_seen_7 (by decide) ?_
  refine lv_aload_n C.x C.b dX10_seen_8 rfl (lv_at hl 0 rfl) ?_
  refine r_geti C hR t_r0 fl_X10_13 rfl dX10_seen_9 ?_
  refine lv_iconst (v := (1 : Int32)) C.x C.b dX10_seen_12 (by decide) ?_
  refine lv_isub C.x C.b dX10_seen_13 ?_
  refine lv_i2l C.x C.b dX10_seen_14 rfl ?_
  obtain ⟨q2, h_q2, hf⟩ := bd_e hf
  refine r_callS (As := [.long (x1.toInt64), .long (0 : Int64), .long (((hpI h1 r0 3) - (1 : Int32)).toInt64)]) (rest := []) C hR hS mk_X10_in cl_X10_117 (k_X10_in h_q2) ⟨⟨Nat.le_of_ble_eq_true rfl, Nat.le_of_ble_eq_true rfl⟩, ⟨rfl, rfl⟩, Nat.le_of_ble_eq_true rfl, Nat.le_of_ble_eq_true rfl⟩ rfl hl.1 rfl (Nat.le_of_ble_eq_true rfl) dX10_seen_15 (fun H locs hR hS hE1 z_q2 => ?_)
  have z_q2 := z_q2 _ rfl
  refine lv_if_ne (tgt := 23) C.x C.b dX10_seen_18 (by decide) (fun c3 => ?_) (fun c3 => ?_)
  · have hf := it_f hf c3
    refine lv_aload_n C.x C.b dX10_seen_23 rfl (lv_at hl 0 rfl) ?_
    refine lv_iload_n C.x C.b dX10_seen_24 rfl (lv_at hl 1 rfl) ?_
    obtain ⟨q4, h_q4, hf⟩ := bd_e hf
    refine r_callV (As := [.int x1]) (rest := []) C hR hS t_r0 rfl mk_X10_seenFrom cl_X10_409 (k_X10_seenFrom t_r0 h_q4) ⟨⟨Nat.le_of_ble_eq_true rfl, Nat.le_of_ble_eq_true rfl⟩, ⟨rfl, rfl⟩, Nat.le_of_ble_eq_true rfl, Nat.le_of_ble_eq_true rfl⟩ rfl hl.1 rfl (Nat.le_of_ble_eq_true rfl) dX10_seen_25 (fun H locs hR hS hE1 z_q4 => ?_)
    refine lv_istore_n (lv' := [(2, .int q4), (0, .ref (G.2.2 + r0)), (1, .int x1)]) C.x C.b dX10_seen_28 rfl hl (by decide) rfl (fun ls hl => ?_)
    refine lv_aload_n C.x C.b dX10_seen_29 rfl (lv_at hl 1 rfl) ?_
    refine lv_iconst (v := (0 : Int32)) C.x C.b dX10_seen_30 (by decide) ?_
    refine r_puti C hR hS t_r0 fl_X10_110 fp_X10_10_1 rfl dX10_seen_31 (fun H locs hR hS => ?_)
    obtain ⟨h5, e_h5⟩ : ∃ y, y = upI h1 r0 1 (0 : Int32) := ⟨_, rfl⟩
    rw [← e_h5] at hR
    have hf := lt_e hf e_h5
    have hE := eI e_h5 hE
    have t_r0 := tI e_h5 t_r0
    refine lv_aload_n C.x C.b dX10_seen_34 rfl (lv_at hl 1 rfl) ?_
    refine lv_iload_n C.x C.b dX10_seen_35 rfl (lv_at hl 0 rfl) ?_
    obtain ⟨q6, h_q6, hf⟩ := bd_e hf
    refine r_callS (As := [.int q4]) (rest := [.ref (G.2.2 + r0)]) C hR hS mk_J6_bitCount_0f7a4 cl_X10_264 (k_J6_bitCount_0f7a4 h_q6) ⟨⟨Nat.le_of_ble_eq_true rfl, Nat.le_of_ble_eq_true rfl⟩, ⟨rfl, rfl⟩, Nat.le_of_ble_eq_true rfl, Nat.le_of_ble_eq_true rfl⟩ rfl hl.1 rfl (Nat.le_of_ble_eq_true rfl) dX10_seen_36 (fun H locs hR hS hE1 z_q6 => ?_)
    refine lv_i2l C.x C.b dX10_seen_39 rfl ?_
    obtain ⟨q7, h_q7, hf⟩ := bd_e hf
    refine r_callV (As := [.long (q6.toInt64)]) (rest := []) C hR hS t_r0 rfl mk_X10_enters cl_X10_339 (k_X10_enters t_r0 h_q7) ⟨⟨Nat.le_of_ble_eq_true rfl, Nat.le_of_ble_eq_true rfl⟩, ⟨rfl, rfl⟩, Nat.le_of_ble_eq_true rfl, Nat.le_of_ble_eq_true rfl⟩ rfl hl.1 rfl (Nat.le_of_ble_eq_true rfl) dX10_seen_40 (fun H locs hR hS hE1 z_q7 => ?_)
    have hE := hE.tr hE1
    have t_r0 := hE1.at t_r0 (by decide)
    refine lv_iload_n C.x C.b dX10_seen_43 rfl (lv_at hl 0 rfl) ?_
    have hf := so_e hf
    subst hf
    exact r_iret C hr hlk hR hE hS dX10_seen_44
  · have hf := it_t hf c3
    refine lv_iconst (v := (-1 : Int32)) C.x C.b dX10_seen_21 (by decide) ?_
    have hf := so_e hf
    subst hf
    exact r_iret C hr hlk hR hE hS dX10_seen_22

def rm_X10_seenBy : Room := { frames := 5, cells := 0, slots := 0, locals := 125 }
def P_X10_seenBy_31 (G : Gt) (l : Launch) (p : Program) (e : Env) (s : State) (m : MethodId) (args : Array Value) (below : List Frame) (meth : Method) (c : Code) (h : Hp) (out : Int32) (r0 : Nat) (x1 : Int32) (k : Int32 → Int32 → Int32 → Option Int32) : Prop := ∀ (H : Heap) (locs : List Loc) (ls : Array Slot) (s0 : Int32) (s1 : Int32) (x3 : Int32), k s0 s1 x3 = some out → Rel G h H → va_S (AA G.2.2) s.heap H locs → hpT h r0 = (1, 10) → lv_has ls 4 [(0, .ref (G.2.2 + r0)), (1, .int x1), (3, .int x3)] → W p l e rm_X10_seenBy s m args below meth c H locs 0 0 (MQ below (Qm G h h (some (.int out)) 0) args s 0 0 (AA G.2.2)) (F0 m 31 ls [.int s1, .int s0])
def P_X10_seenBy_4 (G : Gt) (l : Launch) (p : Program) (e : Env) (s : State) (m : MethodId) (args : Array Value) (below : List Frame) (meth : Method) (c : Code) (h : Hp) (out : Int32) (r0 : Nat) (x1 : Int32) (k : Int32 → Int32 → Option Int32) : Prop := ∀ (H : Heap) (locs : List Loc) (ls : Array Slot) (x2 : Int32) (x3 : Int32), k x2 x3 = some out → Rel G h H → va_S (AA G.2.2) s.heap H locs → hpT h r0 = (1, 10) → lv_has ls 4 [(0, .ref (G.2.2 + r0)), (1, .int x1), (2, .int x2), (3, .int x3)] → W p l e rm_X10_seenBy s m args below meth c H locs 0 0 (MQ below (Qm G h h (some (.int out)) 0) args s 0 0 (AA G.2.2)) (F0 m 4 ls [])
set_option maxRecDepth 100000 in
set_option maxHeartbeats 4000000 in
theorem w_X10_seenBy_31 {G : Gt} {l : Launch} {p : Program} {e : Env} {s : State} {m : MethodId} {args : Array Value} {below : List Frame} {meth : Method} {c : Code}  {h : Hp} {out : Int32} {r0 : Nat} {x1 : Int32} {k4 : Int32 → Int32 → Option Int32} (C : Cx G p m c cX10_seenBy 4 s args RX10) (hr : meth.sig.returnType = some .int) (hlk : meth.locks = false)  (hk4 : P_X10_seenBy_4 G l p e s m args below meth c h out r0 x1 k4) : P_X10_seenBy_31 G l p e s m args below meth c h out r0 x1 (f_X10_seenBy_31 h r0 x1 k4) := by
  intro H locs ls s0 s1 x3 hf hR hS t_r0 hl
  rw [f_X10_seenBy_31] at hf
  refine lv_ior C.x C.b dX10_seenBy_31 ?_
  refine lv_topi (fun v5 e_v5 => ?_)
  have hf := lt_e hf e_v5
  refine lv_istore_n (lv' := [(2, .int v5), (0, .ref (G.2.2 + r0)), (1, .int x1), (3, .int x3)]) C.x C.b dX10_seenBy_32 rfl hl (by decide) rfl (fun ls hl => ?_)
  obtain ⟨v6, e_v6⟩ : ∃ y : Int32, y = x3 + (1 : Int32) := ⟨_, rfl⟩
  have hf := lt_e hf e_v6
  refine lv_iinc (v := v6) (lv' := [(3, .int v6), (2, .int v5), (0, .ref (G.2.2 + r0)), (1, .int x1)]) C.x C.b dX10_seenBy_33 hl (k := 3) rfl (by rw [e_v6]; rfl) (by decide) rfl (fun ls hl => ?_)
  refine lv_goto (tgt := 4) C.x C.b dX10_seenBy_36 (by decide) ?_
  exact hk4 _ _ _ _ _ hf hR hS t_r0 (lv_sub hl [2, 3, 1, 0] rfl)
set_option maxRecDepth 100000 in
set_option maxHeartbeats 4000000 in
theorem w_X10_seenBy_4 {G : Gt} {l : Launch} {p : Program} {e : Env} {s : State} {m : MethodId} {args : Array Value} {below : List Frame} {meth : Method} {c : Code}  {h : Hp} {out : Int32} {r0 : Nat} {x1 : Int32}  (C : Cx G p m c cX10_seenBy 4 s args RX10) (hr : meth.sig.returnType = some .int) (hlk : meth.locks = false)   (n : Nat) : P_X10_seenBy_4 G l p e s m args below meth c h out r0 x1 (f_X10_seenBy_4 h r0 x1 n) := by
  induction n with
  | zero => intro H locs ls x2 x3 hf hR hS t_r0 hl; cases hf
  | succ n hk4 =>
    intro H locs ls x2 x3 hf hR hS t_r0 hl
    rw [f_X10_seenBy_4] at hf
    obtain ⟨k4, e_k4⟩ : ∃ y, y = f_X10_seenBy_4 h r0 x1 n := ⟨_, rfl⟩
    have hf := lt_e hf e_k4
    rw [← e_k4] at hk4
    refine lv_iload_n C.x C.b dX10_seenBy_4 rfl (lv_at hl 3 rfl) ?_
    refine lv_aload_n C.x C.b dX10_seenBy_5 rfl (lv_at hl 0 rfl) ?_
    refine r_geti C hR t_r0 fl_X10_13 rfl dX10_seenBy_6 ?_
    refine lv_icmp_ge (tgt := 39) C.x C.b dX10_seenBy_9 (by decide) (fun c1 => ?_) (fun c1 => ?_)
    · have hf := it_t hf c1
      refine lv_iload_n C.x C.b dX10_seenBy_39 rfl (lv_at hl 2 rfl) ?_
      have hf := so_e hf
      subst hf
      exact r_iret C hr hlk hR Ext.rf hS dX10_seenBy_40
    · have hf := it_f hf c1
      refine lv_iload_n C.x C.b dX10_seenBy_12 rfl (lv_at hl 2 rfl) ?_
      refine lv_iload_n C.x C.b dX10_seenBy_13 rfl (lv_at hl 1 rfl) ?_
      refine lv_i2l C.x C.b dX10_seenBy_14 rfl ?_
      refine lv_iload_n C.x C.b dX10_seenBy_15 rfl (lv_at hl 3 rfl) ?_
      obtain ⟨q2, h_q2, hf⟩ := bd_e hf
      refine r_callS (As := [.long (x1.toInt64), .int x3]) (rest := [.int x2]) C hR hS mk_X10_has cl_X10_137 (k_X10_has h_q2) ⟨⟨Nat.le_of_ble_eq_true rfl, Nat.le_of_ble_eq_true rfl⟩, ⟨rfl, rfl⟩, Nat.le_of_ble_eq_true rfl, Nat.le_of_ble_eq_true rfl⟩ rfl hl.1 rfl (Nat.le_of_ble_eq_true rfl) dX10_seenBy_16 (fun H locs hR hS hE1 z_q2 => ?_)
      have z_q2 := z_q2 _ rfl
      refine lv_if_eq (tgt := 30) C.x C.b dX10_seenBy_19 (by decide) (fun c3 => ?_) (fun c3 => ?_)
      · have hf := it_t hf c3
        refine lv_iconst (v := (0 : Int32)) C.x C.b dX10_seenBy_30 (by decide) ?_
        exact w_X10_seenBy_31 C hr hlk hk4 _ _ _ _ _ _ hf hR hS t_r0 (lv_sub hl [0, 1, 3] rfl)
      · have hf := it_f hf c3
        refine lv_aload_n C.x C.b dX10_seenBy_22 rfl (lv_at hl 0 rfl) ?_
        refine lv_iload_n C.x C.b dX10_seenBy_23 rfl (lv_at hl 3 rfl) ?_
        obtain ⟨q4, h_q4, hf⟩ := bd_e hf
        refine r_callV (As := [.int x3]) (rest := [.int x2]) C hR hS t_r0 rfl mk_X10_seenFrom cl_X10_409 (k_X10_seenFrom t_r0 h_q4) ⟨⟨Nat.le_of_ble_eq_true rfl, Nat.le_of_ble_eq_true rfl⟩, ⟨rfl, rfl⟩, Nat.le_of_ble_eq_true rfl, Nat.le_of_ble_eq_true rfl⟩ rfl hl.1 rfl (Nat.le_of_ble_eq_true rfl) dX10_seenBy_24 (fun H locs hR hS hE1 z_q4 => ?_)
        refine lv_goto (tgt := 31) C.x C.b dX10_seenBy_27 (by decide) ?_
        exact w_X10_seenBy_31 C hr hlk hk4 _ _ _ _ _ _ hf hR hS t_r0 (lv_sub hl [0, 1, 3] rfl)
set_option maxRecDepth 100000 in
set_option maxHeartbeats 4000000 in
theorem k_X10_seenBy {G : Gt} {l : Launch}  {h : Hp} {r0 : Nat} {x1 : Int32} {out : Int32} (t_r0 : hpT h r0 = (1, 10))  (hf : f_X10_seenBy  h r0 x1 = some out) : Mt G l yX10_seenBy cX10_seenBy 4 (some .int) rm_X10_seenBy [.ref (G.2.2 + r0), .int x1] h (some (.int out)) h 0 0 0 := by
  refine r_met (by decide +kernel) (Nat.le_of_ble_eq_true rfl) ?_
  intro p e s m args below meth c ls C hr hlk hnm hR hS hl
  have hl : lv_has ls 4 [(0, .ref (G.2.2 + r0)), (1, .int x1)] := hl
  rw [f_X10_seenBy] at hf
  refine lv_iconst (v := (0 : Int32)) C.x C.b dX10_seenBy_0 (by decide) ?_
  refine lv_istore_n (lv' := [(2, .int (0 : Int32)), (0, .ref (G.2.2 + r0)), (1, .int x1)]) C.x C.b dX10_seenBy_1 rfl hl (by decide) rfl (fun ls hl => ?_)
  refine lv_iconst (v := (0 : Int32)) C.x C.b dX10_seenBy_2 (by decide) ?_
  refine lv_istore_n (lv' := [(3, .int (0 : Int32)), (2, .int (0 : Int32)), (0, .ref (G.2.2 + r0)), (1, .int x1)]) C.x C.b dX10_seenBy_3 rfl hl (by decide) rfl (fun ls hl => ?_)
  exact w_X10_seenBy_4 C hr hlk FU _ _ _ _ _ hf hR hS t_r0 (lv_sub hl [2, 3, 1, 0] rfl)

def rm_X10_seats : Room := { frames := 6, cells := 0, slots := 0, locals := 148 }
def P_X10_seats_54 (G : Gt) (l : Launch) (p : Program) (e : Env) (s : State) (m : MethodId) (args : Array Value) (below : List Frame) (meth : Method) (c : Code) (h0 : Hp) (out : (Int32 × Hp)) (r0 : Nat) (k : Hp → Int32 → Int32 → Int32 → Option (Int32 × Hp)) : Prop := ∀ (H : Heap) (locs : List Loc) (ls : Array Slot) (h : Hp) (s0 : Int32) (x1 : Int32) (x3 : Int32), k h s0 x1 x3 = some out → Ext h0 h → Rel G h H → va_S (AA G.2.2) s.heap H locs → hpT h r0 = (1, 10) → lv_has ls 4 [(0, .ref (G.2.2 + r0)), (1, .int x1), (3, .int x3)] → W p l e rm_X10_seats s m args below meth c H locs 0 0 (MQ below (Qm G h0 out.2 (some (.int out.1)) 0) args s 0 0 (AA G.2.2)) (F0 m 54 ls [.int s0])
def P_X10_seats_53 (G : Gt) (l : Launch) (p : Program) (e : Env) (s : State) (m : MethodId) (args : Array Value) (below : List Frame) (meth : Method) (c : Code) (h0 : Hp) (out : (Int32 × Hp)) (r0 : Nat) (k : Hp → Int32 → Int32 → Int32 → Option (Int32 × Hp)) : Prop := ∀ (H : Heap) (locs : List Loc) (ls : Array Slot) (h : Hp) (x1 : Int32) (x2 : Int32) (x3 : Int32), k h x1 x2 x3 = some out → Ext h0 h → Rel G h H → va_S (AA G.2.2) s.heap H locs → hpT h r0 = (1, 10) → lv_has ls 4 [(0, .ref (G.2.2 + r0)), (1, .int x1), (2, .int x2), (3, .int x3)] → W p l e rm_X10_seats s m args below meth c H locs 0 0 (MQ below (Qm G h0 out.2 (some (.int out.1)) 0) args s 0 0 (AA G.2.2)) (F0 m 53 ls [])
def P_X10_seats_22 (G : Gt) (l : Launch) (p : Program) (e : Env) (s : State) (m : MethodId) (args : Array Value) (below : List Frame) (meth : Method) (c : Code) (h0 : Hp) (out : (Int32 × Hp)) (r0 : Nat) (k : Hp → Int32 → Int32 → Int32 → Option (Int32 × Hp)) : Prop := ∀ (H : Heap) (locs : List Loc) (ls : Array Slot) (h : Hp) (x1 : Int32) (x2 : Int32) (x3 : Int32), k h x1 x2 x3 = some out → Ext h0 h → Rel G h H → va_S (AA G.2.2) s.heap H locs → hpT h r0 = (1, 10) → lv_has ls 4 [(0, .ref (G.2.2 + r0)), (1, .int x1), (2, .int x2), (3, .int x3)] → W p l e rm_X10_seats s m args below meth c H locs 0 0 (MQ below (Qm G h0 out.2 (some (.int out.1)) 0) args s 0 0 (AA G.2.2)) (F0 m 22 ls [])
set_option maxRecDepth 100000 in
set_option maxHeartbeats 4000000 in
theorem w_X10_seats_54 {G : Gt} {l : Launch} {p : Program} {e : Env} {s : State} {m : MethodId} {args : Array Value} {below : List Frame} {meth : Method} {c : Code}  {h0 : Hp} {out : (Int32 × Hp)} {r0 : Nat} {k22 : Hp → Int32 → Int32 → Int32 → Option (Int32 × Hp)} (C : Cx G p m c cX10_seats 4 s args RX10) (hr : meth.sig.returnType = some .int) (hlk : meth.locks = false)  (hk22 : P_X10_seats_22 G l p e s m args below meth c h0 out r0 k22) : P_X10_seats_54 G l p e s m args below meth c h0 out r0 (f_X10_seats_54 r0 k22) := by
  intro H locs ls h s0 x1 x3 hf hE hR hS t_r0 hl
  rw [f_X10_seats_54] at hf
  refine lv_istore_n (lv' := [(2, .int s0), (0, .ref (G.2.2 + r0)), (1, .int x1), (3, .int x3)]) C.x C.b dX10_seats_54 rfl hl (by decide) rfl (fun ls hl => ?_)
  obtain ⟨v17, e_v17⟩ : ∃ y : Int32, y = x3 + (1 : Int32) := ⟨_, rfl⟩
  have hf := lt_e hf e_v17
  refine lv_iinc (v := v17) (lv' := [(3, .int v17), (2, .int s0), (0, .ref (G.2.2 + r0)), (1, .int x1)]) C.x C.b dX10_seats_55 hl (k := 3) rfl (by rw [e_v17]; rfl) (by decide) rfl (fun ls hl => ?_)
  refine lv_goto (tgt := 22) C.x C.b dX10_seats_58 (by decide) ?_
  exact hk22 _ _ _ _ _ _ _ hf hE hR hS t_r0 (lv_sub hl [2, 3, 1, 0] rfl)
set_option maxRecDepth 100000 in
set_option maxHeartbeats 4000000 in
theorem w_X10_seats_53 {G : Gt} {l : Launch} {p : Program} {e : Env} {s : State} {m : MethodId} {args : Array Value} {below : List Frame} {meth : Method} {c : Code}  {h0 : Hp} {out : (Int32 × Hp)} {r0 : Nat} {k22 : Hp → Int32 → Int32 → Int32 → Option (Int32 × Hp)} (C : Cx G p m c cX10_seats 4 s args RX10) (hr : meth.sig.returnType = some .int) (hlk : meth.locks = false)  (hk22 : P_X10_seats_22 G l p e s m args below meth c h0 out r0 k22) : P_X10_seats_53 G l p e s m args below meth c h0 out r0 (f_X10_seats_53 r0 k22) := by
  intro H locs ls h x1 x2 x3 hf hE hR hS t_r0 hl
  rw [f_X10_seats_53] at hf
  refine lv_iload_n C.x C.b dX10_seats_53 rfl (lv_at hl 2 rfl) ?_
  exact w_X10_seats_54 C hr hlk hk22 _ _ _ _ _ _ _ hf hE hR hS t_r0 (lv_sub hl [0, 1, 3] rfl)
set_option maxRecDepth 100000 in
set_option maxHeartbeats 4000000 in
theorem w_X10_seats_22 {G : Gt} {l : Launch} {p : Program} {e : Env} {s : State} {m : MethodId} {args : Array Value} {below : List Frame} {meth : Method} {c : Code}  {h0 : Hp} {out : (Int32 × Hp)} {r0 : Nat}  (C : Cx G p m c cX10_seats 4 s args RX10) (hr : meth.sig.returnType = some .int) (hlk : meth.locks = false)   (n : Nat) : P_X10_seats_22 G l p e s m args below meth c h0 out r0 (f_X10_seats_22 r0 n) := by
  induction n with
  | zero => intro H locs ls h x1 x2 x3 hf hE hR hS t_r0 hl; cases hf
  | succ n hk22 =>
    intro H locs ls h x1 x2 x3 hf hE hR hS t_r0 hl
    rw [f_X10_seats_22] at hf
    obtain ⟨k22, e_k22⟩ : ∃ y, y = f_X10_seats_22 r0 n := ⟨_, rfl⟩
    have hf := lt_e hf e_k22
    rw [← e_k22] at hk22
    refine lv_iload_n C.x C.b dX10_seats_22 rfl (lv_at hl 3 rfl) ?_
    refine lv_iconst (v := (1 : Int32)) C.x C.b dX10_seats_23 (by decide) ?_
    refine lv_aload_n C.x C.b dX10_seats_24 rfl (lv_at hl 0 rfl) ?_
    refine r_geti C hR t_r0 fl_X10_13 rfl dX10_seats_25 ?_
    refine lv_ishl C.x C.b dX10_seats_28 ?_
    refine lv_topi (fun v4 e_v4 => ?_)
    have hf := lt_e hf e_v4
    refine lv_icmp_ge (tgt := 61) C.x C.b dX10_seats_29 (by decide) (fun c5 => ?_) (fun c5 => ?_)
    · have hf := it_t hf c5
      refine lv_aload_n C.x C.b dX10_seats_61 rfl (lv_at hl 0 rfl) ?_
      refine lv_iconst (v := (0 : Int32)) C.x C.b dX10_seats_62 (by decide) ?_
      refine r_puti C hR hS t_r0 fl_X10_110 fp_X10_10_1 rfl dX10_seats_63 (fun H locs hR hS => ?_)
      obtain ⟨h6, e_h6⟩ : ∃ y, y = upI h r0 1 (0 : Int32) := ⟨_, rfl⟩
      rw [← e_h6] at hR
      have hf := lt_e hf e_h6
      have hE := eI e_h6 hE
      have t_r0 := tI e_h6 t_r0
      refine lv_aload_n C.x C.b dX10_seats_66 rfl (lv_at hl 0 rfl) ?_
      refine lv_iload_n C.x C.b dX10_seats_67 rfl (lv_at hl 2 rfl) ?_
      refine lv_i2l C.x C.b dX10_seats_68 rfl ?_
      obtain ⟨q7, h_q7, hf⟩ := bd_e hf
      refine r_callV (As := [.long (x2.toInt64)]) (rest := []) C hR hS t_r0 rfl mk_X10_enters cl_X10_339 (k_X10_enters t_r0 h_q7) ⟨⟨Nat.le_of_ble_eq_true rfl, Nat.le_of_ble_eq_true rfl⟩, ⟨rfl, rfl⟩, Nat.le_of_ble_eq_true rfl, Nat.le_of_ble_eq_true rfl⟩ rfl hl.1 rfl (Nat.le_of_ble_eq_true rfl) dX10_seats_69 (fun H locs hR hS hE1 z_q7 => ?_)
      have hE := hE.tr hE1
      have t_r0 := hE1.at t_r0 (by decide)
      refine lv_aload_n C.x C.b dX10_seats_72 rfl (lv_at hl 0 rfl) ?_
      refine lv_aload_n C.x C.b dX10_seats_73 rfl (lv_at hl 0 rfl) ?_
      obtain ⟨g8, hf⟩ := gd_e hf
      refine r_getr C hR t_r0 fl_X10_20 (by decide) (nz_e g8) dX10_seats_74 (fun tq9 => ?_)
      have tg8 := okA tq9 rfl
      obtain ⟨q10, h_q10, hf⟩ := bd_e hf
      refine r_callS (As := [.ref (G.2.2 + (hpR q7 r0 6))]) (rest := [.ref (G.2.2 + r0)]) C hR hS mk_X10_on cl_X10_311 (k_X10_on tg8 h_q10) ⟨⟨Nat.le_of_ble_eq_true rfl, Nat.le_of_ble_eq_true rfl⟩, ⟨rfl, rfl⟩, Nat.le_of_ble_eq_true rfl, Nat.le_of_ble_eq_true rfl⟩ rfl hl.1 rfl (Nat.le_of_ble_eq_true rfl) dX10_seats_77 (fun H locs hR hS hE1 z_q10 => ?_)
      refine lv_iload_n C.x C.b dX10_seats_80 rfl (lv_at hl 1 rfl) ?_
      refine lv_iconst (v := (-1 : Int32)) C.x C.b dX10_seats_81 (by decide) ?_
      refine lv_ixor C.x C.b dX10_seats_82 ?_
      refine lv_iand C.x C.b dX10_seats_83 ?_
      refine lv_i2l C.x C.b dX10_seats_84 rfl ?_
      obtain ⟨q11, h_q11, hf⟩ := bd_e hf
      refine r_callV (As := [.long ((q10 &&& (x1 ^^^ (-1 : Int32))).toInt64)]) (rest := []) C hR hS t_r0 rfl mk_X10_enters cl_X10_339 (k_X10_enters t_r0 h_q11) ⟨⟨Nat.le_of_ble_eq_true rfl, Nat.le_of_ble_eq_true rfl⟩, ⟨rfl, rfl⟩, Nat.le_of_ble_eq_true rfl, Nat.le_of_ble_eq_true rfl⟩ rfl hl.1 rfl (Nat.le_of_ble_eq_true rfl) dX10_seats_85 (fun H locs hR hS hE1 z_q11 => ?_)
      have hE := hE.tr hE1
      have t_r0 := hE1.at t_r0 (by decide)
      refine lv_iload_n C.x C.b dX10_seats_88 rfl (lv_at hl 2 rfl) ?_
      obtain ⟨q12, h_q12, hf⟩ := bd_e hf
      refine r_callS (As := [.int x2]) (rest := []) C hR hS mk_J6_bitCount_0f7a4 cl_X10_264 (k_J6_bitCount_0f7a4 h_q12) ⟨⟨Nat.le_of_ble_eq_true rfl, Nat.le_of_ble_eq_true rfl⟩, ⟨rfl, rfl⟩, Nat.le_of_ble_eq_true rfl, Nat.le_of_ble_eq_true rfl⟩ rfl hl.1 rfl (Nat.le_of_ble_eq_true rfl) dX10_seats_89 (fun H locs hR hS hE1 z_q12 => ?_)
      have hf := so_e hf
      subst hf
      exact r_iret C hr hlk hR hE hS dX10_seats_92
    · have hf := it_f hf c5
      refine lv_iload_n C.x C.b dX10_seats_32 rfl (lv_at hl 3 rfl) ?_
      refine lv_iload_n C.x C.b dX10_seats_33 rfl (lv_at hl 2 rfl) ?_
      obtain ⟨q13, h_q13, hf⟩ := bd_e hf
      refine r_callS (As := [.int x3, .int x2]) (rest := []) C hR hS mk_X10_isFewer cl_X10_393 (k_X10_isFewer h_q13) ⟨⟨Nat.le_of_ble_eq_true rfl, Nat.le_of_ble_eq_true rfl⟩, ⟨rfl, rfl⟩, Nat.le_of_ble_eq_true rfl, Nat.le_of_ble_eq_true rfl⟩ rfl hl.1 rfl (Nat.le_of_ble_eq_true rfl) dX10_seats_34 (fun H locs hR hS hE1 z_q13 => ?_)
      have z_q13 := z_q13 _ rfl
      refine lv_if_eq (tgt := 53) C.x C.b dX10_seats_37 (by decide) (fun c14 => ?_) (fun c14 => ?_)
      · have hf := it_t hf c14
        exact w_X10_seats_53 C hr hlk hk22 _ _ _ _ _ _ _ hf hE hR hS t_r0 (lv_sub hl [0, 1, 2, 3] rfl)
      · have hf := it_f hf c14
        refine lv_aload_n C.x C.b dX10_seats_40 rfl (lv_at hl 0 rfl) ?_
        refine lv_iload_n C.x C.b dX10_seats_41 rfl (lv_at hl 3 rfl) ?_
        obtain ⟨q15, h_q15, hf⟩ := bd_e hf
        refine r_callV (As := [.int x3]) (rest := []) C hR hS t_r0 rfl mk_X10_seenBy cl_X10_412 (k_X10_seenBy t_r0 h_q15) ⟨⟨Nat.le_of_ble_eq_true rfl, Nat.le_of_ble_eq_true rfl⟩, ⟨rfl, rfl⟩, Nat.le_of_ble_eq_true rfl, Nat.le_of_ble_eq_true rfl⟩ rfl hl.1 rfl (Nat.le_of_ble_eq_true rfl) dX10_seats_42 (fun H locs hR hS hE1 z_q15 => ?_)
        refine lv_iload_n C.x C.b dX10_seats_45 rfl (lv_at hl 1 rfl) ?_
        refine lv_icmp_ne (tgt := 53) C.x C.b dX10_seats_46 (by decide) (fun c16 => ?_) (fun c16 => ?_)
        · have hf := it_f hf c16
          exact w_X10_seats_53 C hr hlk hk22 _ _ _ _ _ _ _ hf hE hR hS t_r0 (lv_sub hl [0, 1, 2, 3] rfl)
        · have hf := it_t hf c16
          refine lv_iload_n C.x C.b dX10_seats_49 rfl (lv_at hl 3 rfl) ?_
          refine lv_goto (tgt := 54) C.x C.b dX10_seats_50 (by decide) ?_
          exact w_X10_seats_54 C hr hlk hk22 _ _ _ _ _ _ _ hf hE hR hS t_r0 (lv_sub hl [0, 1, 3] rfl)
set_option maxRecDepth 100000 in
set_option maxHeartbeats 4000000 in
theorem k_X10_seats {G : Gt} {l : Launch}  {h : Hp} {r0 : Nat} {out : (Int32 × Hp)} (t_r0 : hpT h r0 = (1, 10))  (hf : f_X10_seats  h r0 = some out) : Mt G l yX10_seats cX10_seats 4 (some .int) rm_X10_seats [.ref (G.2.2 + r0)] h (some (.int out.1)) out.2 0 0 0 := by
  refine r_met (by decide +kernel) (Nat.le_of_ble_eq_true rfl) ?_
  intro p e s m args below meth c ls C hr hlk hnm hR hS hl
  have hE : Ext h h := Ext.rf
  have hl : lv_has ls 4 [(0, .ref (G.2.2 + r0))] := hl
  rw [f_X10_seats] at hf
  refine lv_aload_n C.x C.b dX10_seats_0 rfl (lv_at hl 0 rfl) ?_
  refine lv_iconst (v := (0 : Int32)) C.x C.b dX10_seats_1 (by decide) ?_
  refine r_puti C hR hS t_r0 fl_X10_103 fp_X10_10_0 rfl dX10_seats_2 (fun H locs hR hS => ?_)
  obtain ⟨h1, e_h1⟩ : ∃ y, y = upI h r0 0 (0 : Int32) := ⟨_, rfl⟩
  rw [← e_h1] at hR
  have hf := lt_e hf e_h1
  have hE := eI e_h1 hE
  have t_r0 := tI e_h1 t_r0
  refine lv_aload_n C.x C.b dX10_seats_5 rfl (lv_at hl 0 rfl) ?_
  refine lv_iconst (v := (1 : Int32)) C.x C.b dX10_seats_6 (by decide) ?_
  refine lv_aload_n C.x C.b dX10_seats_7 rfl (lv_at hl 0 rfl) ?_
  refine r_geti C hR t_r0 fl_X10_13 rfl dX10_seats_8 ?_
  refine lv_ishl C.x C.b dX10_seats_11 ?_
  refine lv_topi (fun v2 e_v2 => ?_)
  have hf := lt_e hf e_v2
  refine lv_iconst (v := (1 : Int32)) C.x C.b dX10_seats_12 (by decide) ?_
  refine lv_isub C.x C.b dX10_seats_13 ?_
  obtain ⟨q3, h_q3, hf⟩ := bd_e hf
  refine r_callV (As := [.int (v2 - (1 : Int32))]) (rest := []) C hR hS t_r0 rfl mk_X10_seenBy cl_X10_412 (k_X10_seenBy t_r0 h_q3) ⟨⟨Nat.le_of_ble_eq_true rfl, Nat.le_of_ble_eq_true rfl⟩, ⟨rfl, rfl⟩, Nat.le_of_ble_eq_true rfl, Nat.le_of_ble_eq_true rfl⟩ rfl hl.1 rfl (Nat.le_of_ble_eq_true rfl) dX10_seats_14 (fun H locs hR hS hE1 z_q3 => ?_)
  refine lv_istore_n (lv' := [(1, .int q3), (0, .ref (G.2.2 + r0))]) C.x C.b dX10_seats_17 rfl hl (by decide) rfl (fun ls hl => ?_)
  refine lv_iconst (v := (-1 : Int32)) C.x C.b dX10_seats_18 (by decide) ?_
  refine lv_istore_n (lv' := [(2, .int (-1 : Int32)), (1, .int q3), (0, .ref (G.2.2 + r0))]) C.x C.b dX10_seats_19 rfl hl (by decide) rfl (fun ls hl => ?_)
  refine lv_iconst (v := (0 : Int32)) C.x C.b dX10_seats_20 (by decide) ?_
  refine lv_istore_n (lv' := [(3, .int (0 : Int32)), (2, .int (-1 : Int32)), (1, .int q3), (0, .ref (G.2.2 + r0))]) C.x C.b dX10_seats_21 rfl hl (by decide) rfl (fun ls hl => ?_)
  exact w_X10_seats_22 C hr hlk FU _ _ _ _ _ _ _ hf hE hR hS t_r0 (lv_sub hl [3, 2, 1, 0] rfl)

