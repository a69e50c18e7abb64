def rm_X10_yearGoes : Room := { frames := 6, cells := 0, slots := 0, locals := 147 }
def P_X10_yearGoes_39 (G : Gt) (l : Launch) (p : Program) (e : Env) (s : State) (m : MethodId) (args : Array Value) (below : List Frame) (meth : Method) (c : Code) (h0 : Hp) (out : Hp) (r0 : Nat) (r1 : Nat) (k : Hp → Nat → Int32 → Int32 → Int32 → Int32 → Option Hp) : Prop := ∀ (H : Heap) (locs : List Loc) (ls : Array Slot) (h : Hp) (s0 : Nat) (s1 : Int32) (s2 : Int32) (x2 : Int32) (x3 : Int32), k h s0 s1 s2 x2 x3 = some out → Ext h0 h → Rel G h H → va_S (AA G.2.2) s.heap H locs → hpT h r0 = (1, 10) → (hpT h r1).1 = 2 → (hpT h s0).1 = 2 → lv_has ls 5 [(0, .ref (G.2.2 + r0)), (1, .ref (G.2.2 + r1)), (2, .int x2), (3, .int x3)] → W p l e rm_X10_yearGoes s m args below meth c H locs 0 0 (MQ below (Qm G h0 out (none) 0) args s 0 0 (AA G.2.2)) (F0 m 39 ls [.int s2, .int s1, .ref (G.2.2 + s0)])
def P_X10_yearGoes_247 (G : Gt) (l : Launch) (p : Program) (e : Env) (s : State) (m : MethodId) (args : Array Value) (below : List Frame) (meth : Method) (c : Code) (h0 : Hp) (out : Hp) (r0 : Nat) (r1 : Nat) (k : Hp → Int32 → Int32 → Option Hp) : Prop := ∀ (H : Heap) (locs : List Loc) (ls : Array Slot) (h : Hp) (x2 : Int32) (x3 : Int32), k h x2 x3 = some out → Ext h0 h → Rel G h H → va_S (AA G.2.2) s.heap H locs → hpT h r0 = (1, 10) → (hpT h r1).1 = 2 → lv_has ls 5 [(0, .ref (G.2.2 + r0)), (1, .ref (G.2.2 + r1)), (2, .int x2), (3, .int x3)] → W p l e rm_X10_yearGoes s m args below meth c H locs 0 0 (MQ below (Qm G h0 out (none) 0) args s 0 0 (AA G.2.2)) (F0 m 247 ls [])
def P_X10_yearGoes_246 (G : Gt) (l : Launch) (p : Program) (e : Env) (s : State) (m : MethodId) (args : Array Value) (below : List Frame) (meth : Method) (c : Code) (h0 : Hp) (out : Hp) (r0 : Nat) (r1 : Nat) (k : Hp → Nat → Int32 → Int32 → Int32 → Int32 → Option Hp) : Prop := ∀ (H : Heap) (locs : List Loc) (ls : Array Slot) (h : Hp) (s0 : Nat) (s1 : Int32) (s2 : Int32) (x2 : Int32) (x3 : Int32), k h s0 s1 s2 x2 x3 = some out → Ext h0 h → Rel G h H → va_S (AA G.2.2) s.heap H locs → hpT h r0 = (1, 10) → (hpT h r1).1 = 2 → (hpT h s0).1 = 2 → lv_has ls 5 [(0, .ref (G.2.2 + r0)), (1, .ref (G.2.2 + r1)), (2, .int x2), (3, .int x3)] → W p l e rm_X10_yearGoes s m args below meth c H locs 0 0 (MQ below (Qm G h0 out (none) 0) args s 0 0 (AA G.2.2)) (F0 m 246 ls [.int s2, .int s1, .ref (G.2.2 + s0)])
def P_X10_yearGoes_217 (G : Gt) (l : Launch) (p : Program) (e : Env) (s : State) (m : MethodId) (args : Array Value) (below : List Frame) (meth : Method) (c : Code) (h0 : Hp) (out : Hp) (r0 : Nat) (r1 : Nat) (k : Hp → Int32 → Int32 → Int32 → Option Hp) : Prop := ∀ (H : Heap) (locs : List Loc) (ls : Array Slot) (h : Hp) (s0 : Int32) (x2 : Int32) (x3 : Int32), k h s0 x2 x3 = some out → Ext h0 h → Rel G h H → va_S (AA G.2.2) s.heap H locs → hpT h r0 = (1, 10) → (hpT h r1).1 = 2 → narrow .boolean (.int s0) = .int s0 → lv_has ls 5 [(0, .ref (G.2.2 + r0)), (1, .ref (G.2.2 + r1)), (2, .int x2), (3, .int x3)] → W p l e rm_X10_yearGoes s m args below meth c H locs 0 0 (MQ below (Qm G h0 out (none) 0) args s 0 0 (AA G.2.2)) (F0 m 217 ls [.int s0])
def P_X10_yearGoes_138 (G : Gt) (l : Launch) (p : Program) (e : Env) (s : State) (m : MethodId) (args : Array Value) (below : List Frame) (meth : Method) (c : Code) (h0 : Hp) (out : Hp) (r0 : Nat) (r1 : Nat) (k : Hp → Nat → Int32 → Int32 → Int32 → Int32 → Int32 → Int32 → Option Hp) : Prop := ∀ (H : Heap) (locs : List Loc) (ls : Array Slot) (h : Hp) (s0 : Nat) (s1 : Int32) (s2 : Int32) (s3 : Int32) (s4 : Int32) (x2 : Int32) (x3 : Int32), k h s0 s1 s2 s3 s4 x2 x3 = some out → Ext h0 h → Rel G h H → va_S (AA G.2.2) s.heap H locs → hpT h r0 = (1, 10) → (hpT h r1).1 = 2 → (hpT h s0).1 = 2 → narrow .boolean (.int s4) = .int s4 → lv_has ls 5 [(0, .ref (G.2.2 + r0)), (1, .ref (G.2.2 + r1)), (2, .int x2), (3, .int x3)] → W p l e rm_X10_yearGoes s m args below meth c H locs 0 0 (MQ below (Qm G h0 out (none) 0) args s 0 0 (AA G.2.2)) (F0 m 138 ls [.int s4, .int s3, .int s2, .int s1, .ref (G.2.2 + s0)])
def P_X10_yearGoes_107 (G : Gt) (l : Launch) (p : Program) (e : Env) (s : State) (m : MethodId) (args : Array Value) (below : List Frame) (meth : Method) (c : Code) (h0 : Hp) (out : Hp) (r0 : Nat) (r1 : Nat) (k : Hp → Nat → Int32 → Int32 → Int32 → Int32 → Option Hp) : Prop := ∀ (H : Heap) (locs : List Loc) (ls : Array Slot) (h : Hp) (s0 : Nat) (s1 : Int32) (s2 : Int32) (x2 : Int32) (x3 : Int32), k h s0 s1 s2 x2 x3 = some out → Ext h0 h → Rel G h H → va_S (AA G.2.2) s.heap H locs → hpT h r0 = (1, 10) → (hpT h r1).1 = 2 → hpT h s0 = (1, 10) → narrow .boolean (.int s2) = .int s2 → lv_has ls 5 [(0, .ref (G.2.2 + r0)), (1, .ref (G.2.2 + r1)), (2, .int x2), (3, .int x3)] → W p l e rm_X10_yearGoes s m args below meth c H locs 0 0 (MQ below (Qm G h0 out (none) 0) args s 0 0 (AA G.2.2)) (F0 m 107 ls [.int s2, .int s1, .ref (G.2.2 + s0)])
def P_X10_yearGoes_48 (G : Gt) (l : Launch) (p : Program) (e : Env) (s : State) (m : MethodId) (args : Array Value) (below : List Frame) (meth : Method) (c : Code) (h0 : Hp) (out : Hp) (r0 : Nat) (r1 : Nat) (k : Hp → Int32 → Int32 → Option Hp) : Prop := ∀ (H : Heap) (locs : List Loc) (ls : Array Slot) (h : Hp) (x2 : Int32) (x3 : Int32), k h x2 x3 = some out → Ext h0 h → Rel G h H → va_S (AA G.2.2) s.heap H locs → hpT h r0 = (1, 10) → (hpT h r1).1 = 2 → lv_has ls 5 [(0, .ref (G.2.2 + r0)), (1, .ref (G.2.2 + r1)), (2, .int x2), (3, .int x3)] → W p l e rm_X10_yearGoes s m args below meth c H locs 0 0 (MQ below (Qm G h0 out (none) 0) args s 0 0 (AA G.2.2)) (F0 m 48 ls [])
def P_X10_yearGoes_7 (G : Gt) (l : Launch) (p : Program) (e : Env) (s : State) (m : MethodId) (args : Array Value) (below : List Frame) (meth : Method) (c : Code) (h0 : Hp) (out : Hp) (r0 : Nat) (r1 : Nat) (k : Hp → Int32 → Int32 → Option Hp) : Prop := ∀ (H : Heap) (locs : List Loc) (ls : Array Slot) (h : Hp) (x2 : Int32) (x3 : Int32), k h x2 x3 = some out → Ext h0 h → Rel G h H → va_S (AA G.2.2) s.heap H locs → hpT h r0 = (1, 10) → (hpT h r1).1 = 2 → lv_has ls 5 [(0, .ref (G.2.2 + r0)), (1, .ref (G.2.2 + r1)), (2, .int x2), (3, .int x3)] → W p l e rm_X10_yearGoes s m args below meth c H locs 0 0 (MQ below (Qm G h0 out (none) 0) args s 0 0 (AA G.2.2)) (F0 m 7 ls [])
set_option maxRecDepth 100000 in
set_option maxHeartbeats 4000000 in
theorem w_X10_yearGoes_39 {G : Gt} {l : Launch} {p : Program} {e : Env} {s : State} {m : MethodId} {args : Array Value} {below : List Frame} {meth : Method} {c : Code}  {h0 : Hp} {out : Hp} {r0 : Nat} {r1 : Nat} {k7 : Hp → Int32 → Int32 → Option Hp} (C : Cx G p m c cX10_yearGoes 5 s args RX10) (hr : meth.sig.returnType = none) (hlk : meth.locks = false)  (hk7 : P_X10_yearGoes_7 G l p e s m args below meth c h0 out r0 r1 k7) : P_X10_yearGoes_39 G l p e s m args below meth c h0 out r0 r1 (f_X10_yearGoes_39 r0 r1 k7) := by
  intro H locs ls h s0 s1 s2 x2 x3 hf hE hR hS t_r0 t_r1 t_s0 hl
  rw [f_X10_yearGoes_39] at hf
  obtain ⟨g9, hf⟩ := gd_e hf
  refine r_iast C hR hS t_s0 g9 dX10_yearGoes_39 (fun H locs hR hS => ?_)
  obtain ⟨h10, e_h10⟩ : ∃ y, y = upI h s0 (ix s1) s2 := ⟨_, rfl⟩
  rw [← e_h10] at hR
  have hf := lt_e hf e_h10
  have hE := eI e_h10 hE
  have t_r0 := tI e_h10 t_r0
  have t_r1 := tIk e_h10 t_r1
  obtain ⟨v11, e_v11⟩ : ∃ y : Int32, y = x3 + (1 : Int32) := ⟨_, rfl⟩
  have hf := lt_e hf e_v11
  refine lv_iinc (v := v11) (lv' := [(3, .int v11), (0, .ref (G.2.2 + r0)), (1, .ref (G.2.2 + r1)), (2, .int x2)]) C.x C.b dX10_yearGoes_40 hl (k := 3) rfl (by rw [e_v11]; rfl) (by decide) rfl (fun ls hl => ?_)
  refine lv_goto (tgt := 7) C.x C.b dX10_yearGoes_43 (by decide) ?_
  exact hk7 _ _ _ _ _ _ hf hE hR hS t_r0 t_r1 (lv_sub hl [1, 2, 3, 0] rfl)
set_option maxRecDepth 100000 in
set_option maxHeartbeats 4000000 in
theorem w_X10_yearGoes_247 {G : Gt} {l : Launch} {p : Program} {e : Env} {s : State} {m : MethodId} {args : Array Value} {below : List Frame} {meth : Method} {c : Code}  {h0 : Hp} {out : Hp} {r0 : Nat} {r1 : Nat} {k48 : Hp → Int32 → Int32 → Option Hp} (C : Cx G p m c cX10_yearGoes 5 s args RX10) (hr : meth.sig.returnType = none) (hlk : meth.locks = false)  (hk48 : P_X10_yearGoes_48 G l p e s m args below meth c h0 out r0 r1 k48) : P_X10_yearGoes_247 G l p e s m args below meth c h0 out r0 r1 (f_X10_yearGoes_247 r0 r1 k48) := by
  intro H locs ls h x2 x3 hf hE hR hS t_r0 t_r1 hl
  rw [f_X10_yearGoes_247] at hf
  obtain ⟨v61, e_v61⟩ : ∃ y : Int32, y = x3 + (1 : Int32) := ⟨_, rfl⟩
  have hf := lt_e hf e_v61
  refine lv_iinc (v := v61) (lv' := [(3, .int v61), (0, .ref (G.2.2 + r0)), (1, .ref (G.2.2 + r1)), (2, .int x2)]) C.x C.b dX10_yearGoes_247 hl (k := 3) rfl (by rw [e_v61]; rfl) (by decide) rfl (fun ls hl => ?_)
  refine lv_goto (tgt := 48) C.x C.b dX10_yearGoes_250 (by decide) ?_
  exact hk48 _ _ _ _ _ _ hf hE hR hS t_r0 t_r1 (lv_sub hl [1, 2, 3, 0] rfl)
set_option maxRecDepth 100000 in
set_option maxHeartbeats 4000000 in
theorem w_X10_yearGoes_246 {G : Gt} {l : Launch} {p : Program} {e : Env} {s : State} {m : MethodId} {args : Array Value} {below : List Frame} {meth : Method} {c : Code}  {h0 : Hp} {out : Hp} {r0 : Nat} {r1 : Nat} {k48 : Hp → Int32 → Int32 → Option Hp} (C : Cx G p m c cX10_yearGoes 5 s args RX10) (hr : meth.sig.returnType = none) (hlk : meth.locks = false)  (hk48 : P_X10_yearGoes_48 G l p e s m args below meth c h0 out r0 r1 k48) : P_X10_yearGoes_246 G l p e s m args below meth c h0 out r0 r1 (f_X10_yearGoes_246 r0 r1 k48) := by
  intro H locs ls h s0 s1 s2 x2 x3 hf hE hR hS t_r0 t_r1 t_s0 hl
  rw [f_X10_yearGoes_246] at hf
  obtain ⟨g59, hf⟩ := gd_e hf
  refine r_iast C hR hS t_s0 g59 dX10_yearGoes_246 (fun H locs hR hS => ?_)
  obtain ⟨h60, e_h60⟩ : ∃ y, y = upI h s0 (ix s1) s2 := ⟨_, rfl⟩
  rw [← e_h60] at hR
  have hf := lt_e hf e_h60
  have hE := eI e_h60 hE
  have t_r0 := tI e_h60 t_r0
  have t_r1 := tIk e_h60 t_r1
  exact w_X10_yearGoes_247 C hr hlk hk48 _ _ _ _ _ _ hf hE hR hS t_r0 t_r1 (lv_sub hl [0, 1, 2, 3] rfl)
set_option maxRecDepth 100000 in
set_option maxHeartbeats 4000000 in
theorem w_X10_yearGoes_217 {G : Gt} {l : Launch} {p : Program} {e : Env} {s : State} {m : MethodId} {args : Array Value} {below : List Frame} {meth : Method} {c : Code}  {h0 : Hp} {out : Hp} {r0 : Nat} {r1 : Nat} {k48 : Hp → Int32 → Int32 → Option Hp} (C : Cx G p m c cX10_yearGoes 5 s args RX10) (hr : meth.sig.returnType = none) (hlk : meth.locks = false)  (hk48 : P_X10_yearGoes_48 G l p e s m args below meth c h0 out r0 r1 k48) : P_X10_yearGoes_217 G l p e s m args below meth c h0 out r0 r1 (f_X10_yearGoes_217 r0 r1 k48) := by
  intro H locs ls h s0 x2 x3 hf hE hR hS t_r0 t_r1 z_s0 hl
  rw [f_X10_yearGoes_217] at hf
  refine lv_istore (lv' := [(4, .int s0), (0, .ref (G.2.2 + r0)), (1, .ref (G.2.2 + r1)), (2, .int x2), (3, .int x3)]) C.x C.b dX10_yearGoes_217 hl (by decide) rfl (fun ls hl => ?_)
  refine lv_aload_n C.x C.b dX10_yearGoes_219 rfl (lv_at hl 2 rfl) ?_
  refine lv_iload_n C.x C.b dX10_yearGoes_220 rfl (lv_at hl 4 rfl) ?_
  refine lv_iload C.x C.b dX10_yearGoes_221 (lv_at hl 0 rfl) ?_
  refine lv_if_eq (tgt := 234) C.x C.b dX10_yearGoes_223 (by decide) (fun c53 => ?_) (fun c53 => ?_)
  · have hf := it_t hf c53
    refine lv_aload_n C.x C.b dX10_yearGoes_234 rfl (lv_at hl 2 rfl) ?_
    refine lv_iload_n C.x C.b dX10_yearGoes_235 rfl (lv_at hl 4 rfl) ?_
    obtain ⟨g54, hf⟩ := gd_e hf
    refine r_iald C hR t_r1 g54 dX10_yearGoes_236 ?_
    refine lv_aload_n C.x C.b dX10_yearGoes_237 rfl (lv_at hl 2 rfl) ?_
    refine lv_iload_n C.x C.b dX10_yearGoes_238 rfl (lv_at hl 4 rfl) ?_
    obtain ⟨g55, hf⟩ := gd_e hf
    refine r_iald C hR t_r1 g55 dX10_yearGoes_239 ?_
    refine lv_aload_n C.x C.b dX10_yearGoes_240 rfl (lv_at hl 1 rfl) ?_
    refine r_geti C hR t_r0 fl_X10_17 rfl dX10_yearGoes_241 ?_
    obtain ⟨g56, hf⟩ := gd_e hf
    refine lv_irem C.x C.b dX10_yearGoes_244 (nz32_e g56) ?_
    refine lv_topi (fun v57 e_v57 => ?_)
    have hf := lt_e hf e_v57
    refine lv_isub C.x C.b dX10_yearGoes_245 ?_
    exact w_X10_yearGoes_246 C hr hlk hk48 _ _ _ _ _ _ _ _ _ hf hE hR hS t_r0 t_r1 t_r1 (lv_sub hl [1, 2, 3, 4] rfl)
  · have hf := it_f hf c53
    refine lv_aload_n C.x C.b dX10_yearGoes_226 rfl (lv_at hl 2 rfl) ?_
    refine lv_iload_n C.x C.b dX10_yearGoes_227 rfl (lv_at hl 4 rfl) ?_
    obtain ⟨g58, hf⟩ := gd_e hf
    refine r_iald C hR t_r1 g58 dX10_yearGoes_228 ?_
    refine lv_iconst (v := (1 : Int32)) C.x C.b dX10_yearGoes_229 (by decide) ?_
    refine lv_iadd C.x C.b dX10_yearGoes_230 ?_
    refine lv_goto (tgt := 246) C.x C.b dX10_yearGoes_231 (by decide) ?_
    exact w_X10_yearGoes_246 C hr hlk hk48 _ _ _ _ _ _ _ _ _ hf hE hR hS t_r0 t_r1 t_r1 (lv_sub hl [1, 2, 3, 4] rfl)
set_option maxRecDepth 100000 in
set_option maxHeartbeats 4000000 in
theorem w_X10_yearGoes_138 {G : Gt} {l : Launch} {p : Program} {e : Env} {s : State} {m : MethodId} {args : Array Value} {below : List Frame} {meth : Method} {c : Code}  {h0 : Hp} {out : Hp} {r0 : Nat} {r1 : Nat} {k48 : Hp → Int32 → Int32 → Option Hp} (C : Cx G p m c cX10_yearGoes 5 s args RX10) (hr : meth.sig.returnType = none) (hlk : meth.locks = false)  (hk48 : P_X10_yearGoes_48 G l p e s m args below meth c h0 out r0 r1 k48) : P_X10_yearGoes_138 G l p e s m args below meth c h0 out r0 r1 (f_X10_yearGoes_138 r0 r1 k48) := by
  intro H locs ls h s0 s1 s2 s3 s4 x2 x3 hf hE hR hS t_r0 t_r1 t_s0 z_s4 hl
  rw [f_X10_yearGoes_138] at hf
  obtain ⟨q33, h_q33, hf⟩ := bd_e hf
  refine r_callS (As := [.int s4]) (rest := [.int s3, .int s2, .int s1, .ref (G.2.2 + s0)]) C hR hS mk_X10_flag cl_X10_163 (k_X10_flag h_q33) ⟨⟨Nat.le_of_ble_eq_true rfl, Nat.le_of_ble_eq_true rfl⟩, ⟨rfl, rfl⟩, Nat.le_of_ble_eq_true rfl, Nat.le_of_ble_eq_true rfl⟩ rfl hl.1 rfl (Nat.le_of_ble_eq_true rfl) dX10_yearGoes_138 (fun H locs hR hS hE1 z_q33 => ?_)
  refine lv_iadd C.x C.b dX10_yearGoes_141 ?_
  refine va_mmin C.x C.b (C.ml.trans hl.1.symm) C.ow (C.ts _ lk_X10_154) (C.ts _ lk_Mmin_s) (C.ts _ lk_Math) (C.ts _ lk_Mmin_c) (Nat.le_of_ble_eq_true rfl) (Nat.le_of_ble_eq_true rfl) (Nat.le_of_ble_eq_true rfl) (Nat.le_of_ble_eq_true rfl) dX10_yearGoes_142 ?_
  refine lv_topi (fun v34 e_v34 => ?_)
  have hf := lt_e hf e_v34
  obtain ⟨g35, hf⟩ := gd_e hf
  refine r_iast C hR hS t_s0 g35 dX10_yearGoes_145 (fun H locs hR hS => ?_)
  obtain ⟨h36, e_h36⟩ : ∃ y, y = upI h s0 (ix s1) v34 := ⟨_, rfl⟩
  rw [← e_h36] at hR
  have hf := lt_e hf e_h36
  have hE := eI e_h36 hE
  have t_r0 := tI e_h36 t_r0
  have t_r1 := tIk e_h36 t_r1
  refine lv_aload_n C.x C.b dX10_yearGoes_146 rfl (lv_at hl 1 rfl) ?_
  refine lv_bipush (v := (40 : Int32)) C.x C.b dX10_yearGoes_147 (by decide) ?_
  refine lv_iload_n C.x C.b dX10_yearGoes_149 rfl (lv_at hl 3 rfl) ?_
  refine lv_iadd C.x C.b dX10_yearGoes_150 ?_
  refine lv_bipush (v := (99 : Int32)) C.x C.b dX10_yearGoes_151 (by decide) ?_
  refine lv_aload_n C.x C.b dX10_yearGoes_153 rfl (lv_at hl 1 rfl) ?_
  refine lv_bipush (v := (40 : Int32)) C.x C.b dX10_yearGoes_154 (by decide) ?_
  refine lv_iload_n C.x C.b dX10_yearGoes_156 rfl (lv_at hl 3 rfl) ?_
  refine lv_iadd C.x C.b dX10_yearGoes_157 ?_
  obtain ⟨g37, hf⟩ := gd_e hf
  refine r_iald C hR t_r1 g37 dX10_yearGoes_158 ?_
  refine lv_iconst (v := (1 : Int32)) C.x C.b dX10_yearGoes_159 (by decide) ?_
  refine lv_iadd C.x C.b dX10_yearGoes_160 ?_
  refine va_mmin C.x C.b (C.ml.trans hl.1.symm) C.ow (C.ts _ lk_X10_154) (C.ts _ lk_Mmin_s) (C.ts _ lk_Math) (C.ts _ lk_Mmin_c) (Nat.le_of_ble_eq_true rfl) (Nat.le_of_ble_eq_true rfl) (Nat.le_of_ble_eq_true rfl) (Nat.le_of_ble_eq_true rfl) dX10_yearGoes_161 ?_
  refine lv_topi (fun v38 e_v38 => ?_)
  have hf := lt_e hf e_v38
  obtain ⟨g39, hf⟩ := gd_e hf
  refine r_iast C hR hS t_r1 g39 dX10_yearGoes_164 (fun H locs hR hS => ?_)
  obtain ⟨h40, e_h40⟩ : ∃ y, y = upI h36 r1 (ix ((40 : Int32) + x3)) v38 := ⟨_, rfl⟩
  rw [← e_h40] at hR
  have hf := lt_e hf e_h40
  have hE := eI e_h40 hE
  have t_r0 := tI e_h40 t_r0
  have t_r1 := tIk e_h40 t_r1
  refine lv_aload_n C.x C.b dX10_yearGoes_165 rfl (lv_at hl 1 rfl) ?_
  refine lv_bipush (v := (32 : Int32)) C.x C.b dX10_yearGoes_166 (by decide) ?_
  refine lv_iload_n C.x C.b dX10_yearGoes_168 rfl (lv_at hl 3 rfl) ?_
  refine lv_iadd C.x C.b dX10_yearGoes_169 ?_
  obtain ⟨g41, hf⟩ := gd_e hf
  refine r_iald C hR t_r1 g41 dX10_yearGoes_170 ?_
  refine lv_if_le (tgt := 247) C.x C.b dX10_yearGoes_171 (by decide) (fun c42 => ?_) (fun c42 => ?_)
  · have hf := it_t hf c42
    exact w_X10_yearGoes_247 C hr hlk hk48 _ _ _ _ _ _ hf hE hR hS t_r0 t_r1 (lv_sub hl [0, 1, 2, 3] rfl)
  · have hf := it_f hf c42
    refine lv_aload_n C.x C.b dX10_yearGoes_174 rfl (lv_at hl 1 rfl) ?_
    refine lv_bipush (v := (40 : Int32)) C.x C.b dX10_yearGoes_175 (by decide) ?_
    refine lv_iload_n C.x C.b dX10_yearGoes_177 rfl (lv_at hl 3 rfl) ?_
    refine lv_iadd C.x C.b dX10_yearGoes_178 ?_
    obtain ⟨g43, hf⟩ := gd_e hf
    refine r_iald C hR t_r1 g43 dX10_yearGoes_179 ?_
    refine lv_aload_n C.x C.b dX10_yearGoes_180 rfl (lv_at hl 1 rfl) ?_
    refine lv_bipush (v := (32 : Int32)) C.x C.b dX10_yearGoes_181 (by decide) ?_
    refine lv_iload_n C.x C.b dX10_yearGoes_183 rfl (lv_at hl 3 rfl) ?_
    refine lv_iadd C.x C.b dX10_yearGoes_184 ?_
    obtain ⟨g44, hf⟩ := gd_e hf
    refine r_iald C hR t_r1 g44 dX10_yearGoes_185 ?_
    obtain ⟨g45, hf⟩ := gd_e hf
    refine lv_irem C.x C.b dX10_yearGoes_186 (nz32_e g45) ?_
    refine lv_topi (fun v46 e_v46 => ?_)
    have hf := lt_e hf e_v46
    refine lv_if_ne (tgt := 247) C.x C.b dX10_yearGoes_187 (by decide) (fun c47 => ?_) (fun c47 => ?_)
    · have hf := it_f hf c47
      exact w_X10_yearGoes_247 C hr hlk hk48 _ _ _ _ _ _ hf hE hR hS t_r0 t_r1 (lv_sub hl [0, 1, 2, 3] rfl)
    · have hf := it_t hf c47
      refine lv_aload_n C.x C.b dX10_yearGoes_190 rfl (lv_at hl 1 rfl) ?_
      refine lv_iload_n C.x C.b dX10_yearGoes_191 rfl (lv_at hl 3 rfl) ?_
      obtain ⟨g48, hf⟩ := gd_e hf
      refine r_iald C hR t_r1 g48 dX10_yearGoes_192 ?_
      refine lv_aload_n C.x C.b dX10_yearGoes_193 rfl (lv_at hl 0 rfl) ?_
      refine r_geti C hR t_r0 fl_X10_17 rfl dX10_yearGoes_194 ?_
      obtain ⟨g49, hf⟩ := gd_e hf
      refine lv_irem C.x C.b dX10_yearGoes_197 (nz32_e g49) ?_
      refine lv_topi (fun v50 e_v50 => ?_)
      have hf := lt_e hf e_v50
      refine lv_aload_n C.x C.b dX10_yearGoes_198 rfl (lv_at hl 1 rfl) ?_
      refine lv_bipush (v := (16 : Int32)) C.x C.b dX10_yearGoes_199 (by decide) ?_
      refine lv_iload_n C.x C.b dX10_yearGoes_201 rfl (lv_at hl 3 rfl) ?_
      refine lv_iadd C.x C.b dX10_yearGoes_202 ?_
      obtain ⟨g51, hf⟩ := gd_e hf
      refine r_iald C hR t_r1 g51 dX10_yearGoes_203 ?_
      refine lv_iadd C.x C.b dX10_yearGoes_204 ?_
      refine lv_aload_n C.x C.b dX10_yearGoes_205 rfl (lv_at hl 0 rfl) ?_
      refine r_geti C hR t_r0 fl_X10_17 rfl dX10_yearGoes_206 ?_
      refine lv_icmp_ge (tgt := 216) C.x C.b dX10_yearGoes_209 (by decide) (fun c52 => ?_) (fun c52 => ?_)
      · simp only [if_pos c52] at hf
        refine lv_iconst (v := (0 : Int32)) C.x C.b dX10_yearGoes_216 (by decide) ?_
        exact w_X10_yearGoes_217 C hr hlk hk48 _ _ _ _ _ _ _ hf hE hR hS t_r0 t_r1 z_0 (lv_sub hl [0, 1, 2, 3] rfl)
      · simp only [if_neg c52] at hf
        refine lv_iconst (v := (1 : Int32)) C.x C.b dX10_yearGoes_212 (by decide) ?_
        refine lv_goto (tgt := 217) C.x C.b dX10_yearGoes_213 (by decide) ?_
        exact w_X10_yearGoes_217 C hr hlk hk48 _ _ _ _ _ _ _ hf hE hR hS t_r0 t_r1 z_1 (lv_sub hl [0, 1, 2, 3] rfl)
set_option maxRecDepth 100000 in
set_option maxHeartbeats 4000000 in
theorem w_X10_yearGoes_107 {G : Gt} {l : Launch} {p : Program} {e : Env} {s : State} {m : MethodId} {args : Array Value} {below : List Frame} {meth : Method} {c : Code}  {h0 : Hp} {out : Hp} {r0 : Nat} {r1 : Nat} {k48 : Hp → Int32 → Int32 → Option Hp} (C : Cx G p m c cX10_yearGoes 5 s args RX10) (hr : meth.sig.returnType = none) (hlk : meth.locks = false)  (hk48 : P_X10_yearGoes_48 G l p e s m args below meth c h0 out r0 r1 k48) : P_X10_yearGoes_107 G l p e s m args below meth c h0 out r0 r1 (f_X10_yearGoes_107 r0 r1 k48) := by
  intro H locs ls h s0 s1 s2 x2 x3 hf hE hR hS t_r0 t_r1 t_s0 z_s2 hl
  rw [f_X10_yearGoes_107] at hf
  obtain ⟨q28, h_q28, hf⟩ := bd_e hf
  refine r_callS (As := [.int s2]) (rest := [.int s1, .ref (G.2.2 + s0)]) C hR hS mk_X10_flag cl_X10_163 (k_X10_flag h_q28) ⟨⟨Nat.le_of_ble_eq_true rfl, Nat.le_of_ble_eq_true rfl⟩, ⟨rfl, rfl⟩, Nat.le_of_ble_eq_true rfl, Nat.le_of_ble_eq_true rfl⟩ rfl hl.1 rfl (Nat.le_of_ble_eq_true rfl) dX10_yearGoes_107 (fun H locs hR hS hE1 z_q28 => ?_)
  refine lv_iadd C.x C.b dX10_yearGoes_110 ?_
  refine r_puti C hR hS t_s0 fl_X10_315 fp_X10_10_25 rfl dX10_yearGoes_111 (fun H locs hR hS => ?_)
  obtain ⟨h29, e_h29⟩ : ∃ y, y = upI h s0 25 (s1 + q28) := ⟨_, rfl⟩
  rw [← e_h29] at hR
  have hf := lt_e hf e_h29
  have hE := eI e_h29 hE
  have t_r0 := tI e_h29 t_r0
  have t_r1 := tIk e_h29 t_r1
  refine lv_aload_n C.x C.b dX10_yearGoes_114 rfl (lv_at hl 1 rfl) ?_
  refine lv_bipush (v := (50 : Int32)) C.x C.b dX10_yearGoes_115 (by decide) ?_
  refine lv_sipush (v := (999 : Int32)) C.x C.b dX10_yearGoes_117 (by decide) ?_
  refine lv_aload_n C.x C.b dX10_yearGoes_120 rfl (lv_at hl 1 rfl) ?_
  refine lv_bipush (v := (50 : Int32)) C.x C.b dX10_yearGoes_121 (by decide) ?_
  obtain ⟨g30, hf⟩ := gd_e hf
  refine r_iald C hR t_r1 g30 dX10_yearGoes_123 ?_
  refine lv_aload_n C.x C.b dX10_yearGoes_124 rfl (lv_at hl 1 rfl) ?_
  refine lv_bipush (v := (24 : Int32)) C.x C.b dX10_yearGoes_125 (by decide) ?_
  refine lv_iload_n C.x C.b dX10_yearGoes_127 rfl (lv_at hl 3 rfl) ?_
  refine lv_iadd C.x C.b dX10_yearGoes_128 ?_
  obtain ⟨g31, hf⟩ := gd_e hf
  refine r_iald C hR t_r1 g31 dX10_yearGoes_129 ?_
  refine lv_if_ne (tgt := 137) C.x C.b dX10_yearGoes_130 (by decide) (fun c32 => ?_) (fun c32 => ?_)
  · simp only [if_neg c32] at hf
    refine lv_iconst (v := (0 : Int32)) C.x C.b dX10_yearGoes_137 (by decide) ?_
    exact w_X10_yearGoes_138 C hr hlk hk48 _ _ _ _ _ _ _ _ _ _ _ hf hE hR hS t_r0 t_r1 t_r1 z_0 (lv_sub hl [0, 1, 2, 3] rfl)
  · simp only [if_pos c32] at hf
    refine lv_iconst (v := (1 : Int32)) C.x C.b dX10_yearGoes_133 (by decide) ?_
    refine lv_goto (tgt := 138) C.x C.b dX10_yearGoes_134 (by decide) ?_
    exact w_X10_yearGoes_138 C hr hlk hk48 _ _ _ _ _ _ _ _ _ _ _ hf hE hR hS t_r0 t_r1 t_r1 z_1 (lv_sub hl [0, 1, 2, 3] rfl)
set_option maxRecDepth 100000 in
set_option maxHeartbeats 4000000 in
theorem w_X10_yearGoes_48 {G : Gt} {l : Launch} {p : Program} {e : Env} {s : State} {m : MethodId} {args : Array Value} {below : List Frame} {meth : Method} {c : Code}  {h0 : Hp} {out : Hp} {r0 : Nat} {r1 : Nat}  (C : Cx G p m c cX10_yearGoes 5 s args RX10) (hr : meth.sig.returnType = none) (hlk : meth.locks = false)   (n : Nat) : P_X10_yearGoes_48 G l p e s m args below meth c h0 out r0 r1 (f_X10_yearGoes_48 r0 r1 n) := by
  induction n with
  | zero => intro H locs ls h x2 x3 hf hE hR hS t_r0 t_r1 hl; cases hf
  | succ n hk48 =>
    intro H locs ls h x2 x3 hf hE hR hS t_r0 t_r1 hl
    rw [f_X10_yearGoes_48] at hf
    obtain ⟨k48, e_k48⟩ : ∃ y, y = f_X10_yearGoes_48 r0 r1 n := ⟨_, rfl⟩
    have hf := lt_e hf e_k48
    rw [← e_k48] at hk48
    refine lv_iload_n C.x C.b dX10_yearGoes_48 rfl (lv_at hl 3 rfl) ?_
    refine lv_aload_n C.x C.b dX10_yearGoes_49 rfl (lv_at hl 1 rfl) ?_
    refine lv_bipush (v := (48 : Int32)) C.x C.b dX10_yearGoes_50 (by decide) ?_
    obtain ⟨g12, hf⟩ := gd_e hf
    refine r_iald C hR t_r1 g12 dX10_yearGoes_52 ?_
    refine lv_icmp_ge (tgt := 253) C.x C.b dX10_yearGoes_53 (by decide) (fun c13 => ?_) (fun c13 => ?_)
    · have hf := it_t hf c13
      refine lv_aload_n C.x C.b dX10_yearGoes_253 rfl (lv_at hl 1 rfl) ?_
      refine lv_bipush (v := (49 : Int32)) C.x C.b dX10_yearGoes_254 (by decide) ?_
      refine lv_dup2_11 C.x C.b dX10_yearGoes_256 rfl rfl ?_
      obtain ⟨g14, hf⟩ := gd_e hf
      refine r_iald C hR t_r1 g14 dX10_yearGoes_257 ?_
      refine lv_iconst (v := (1 : Int32)) C.x C.b dX10_yearGoes_258 (by decide) ?_
      refine lv_iadd C.x C.b dX10_yearGoes_259 ?_
      obtain ⟨g15, hf⟩ := gd_e hf
      refine r_iast C hR hS t_r1 g15 dX10_yearGoes_260 (fun H locs hR hS => ?_)
      obtain ⟨h16, e_h16⟩ : ∃ y, y = upI h r1 (ix (49 : Int32)) ((hpI h r1 (ix (49 : Int32))) + (1 : Int32)) := ⟨_, rfl⟩
      rw [← e_h16] at hR
      have hf := lt_e hf e_h16
      have hE := eI e_h16 hE
      have t_r0 := tI e_h16 t_r0
      have t_r1 := tIk e_h16 t_r1
      have hf := so_e hf
      subst hf
      exact r_vret C hr hlk hR hE hS dX10_yearGoes_261
    · have hf := it_f hf c13
      refine lv_iload_n C.x C.b dX10_yearGoes_56 rfl (lv_at hl 2 rfl) ?_
      refine lv_i2l C.x C.b dX10_yearGoes_57 rfl ?_
      refine lv_iload_n C.x C.b dX10_yearGoes_58 rfl (lv_at hl 3 rfl) ?_
      obtain ⟨q17, h_q17, hf⟩ := bd_e hf
      refine r_callS (As := [.long (x2.toInt64), .int x3]) (rest := []) C hR hS mk_X10_has cl_X10_137 (k_X10_has h_q17) ⟨⟨Nat.le_of_ble_eq_true rfl, Nat.le_of_ble_eq_true rfl⟩, ⟨rfl, rfl⟩, Nat.le_of_ble_eq_true rfl, Nat.le_of_ble_eq_true rfl⟩ rfl hl.1 rfl (Nat.le_of_ble_eq_true rfl) dX10_yearGoes_59 (fun H locs hR hS hE1 z_q17 => ?_)
      have z_q17 := z_q17 _ rfl
      refine lv_if_eq (tgt := 247) C.x C.b dX10_yearGoes_62 (by decide) (fun c18 => ?_) (fun c18 => ?_)
      · have hf := it_t hf c18
        exact w_X10_yearGoes_247 C hr hlk hk48 _ _ _ _ _ _ hf hE hR hS t_r0 t_r1 (lv_sub hl [0, 1, 2, 3] rfl)
      · have hf := it_f hf c18
        refine lv_aload_n C.x C.b dX10_yearGoes_65 rfl (lv_at hl 1 rfl) ?_
        refine lv_bipush (v := (24 : Int32)) C.x C.b dX10_yearGoes_66 (by decide) ?_
        refine lv_iload_n C.x C.b dX10_yearGoes_68 rfl (lv_at hl 3 rfl) ?_
        refine lv_iadd C.x C.b dX10_yearGoes_69 ?_
        refine lv_iconst (v := (0 : Int32)) C.x C.b dX10_yearGoes_70 (by decide) ?_
        refine lv_aload_n C.x C.b dX10_yearGoes_71 rfl (lv_at hl 1 rfl) ?_
        refine lv_bipush (v := (24 : Int32)) C.x C.b dX10_yearGoes_72 (by decide) ?_
        refine lv_iload_n C.x C.b dX10_yearGoes_74 rfl (lv_at hl 3 rfl) ?_
        refine lv_iadd C.x C.b dX10_yearGoes_75 ?_
        obtain ⟨g19, hf⟩ := gd_e hf
        refine r_iald C hR t_r1 g19 dX10_yearGoes_76 ?_
        refine lv_aload_n C.x C.b dX10_yearGoes_77 rfl (lv_at hl 0 rfl) ?_
        obtain ⟨g20, hf⟩ := gd_e hf
        refine r_getr C hR t_r0 fl_X10_51 (by decide) (nz_e g20) dX10_yearGoes_78 (fun tq21 => ?_)
        have tg20 := okA tq21 rfl
        refine lv_iload_n C.x C.b dX10_yearGoes_81 rfl (lv_at hl 3 rfl) ?_
        obtain ⟨g22, hf⟩ := gd_e hf
        refine r_iald C hR tg20 g22 dX10_yearGoes_82 ?_
        refine lv_isub C.x C.b dX10_yearGoes_83 ?_
        refine va_mmax C.x C.b (C.ml.trans hl.1.symm) C.ow (C.ts _ lk_X10_272) (C.ts _ lk_Mmax_s) (C.ts _ lk_Math) (C.ts _ lk_Mmax_c) (Nat.le_of_ble_eq_true rfl) (Nat.le_of_ble_eq_true rfl) (Nat.le_of_ble_eq_true rfl) (Nat.le_of_ble_eq_true rfl) dX10_yearGoes_84 ?_
        refine lv_topi (fun v23 e_v23 => ?_)
        have hf := lt_e hf e_v23
        obtain ⟨g24, hf⟩ := gd_e hf
        refine r_iast C hR hS t_r1 g24 dX10_yearGoes_87 (fun H locs hR hS => ?_)
        obtain ⟨h25, e_h25⟩ : ∃ y, y = upI h r1 (ix ((24 : Int32) + x3)) v23 := ⟨_, rfl⟩
        rw [← e_h25] at hR
        have hf := lt_e hf e_h25
        have hE := eI e_h25 hE
        have t_r0 := tI e_h25 t_r0
        have t_r1 := tIk e_h25 t_r1
        refine lv_aload_n C.x C.b dX10_yearGoes_88 rfl (lv_at hl 0 rfl) ?_
        refine lv_dup C.x C.b dX10_yearGoes_89 rfl ?_
        refine r_geti C hR t_r0 fl_X10_315 rfl dX10_yearGoes_90 ?_
        refine lv_aload_n C.x C.b dX10_yearGoes_93 rfl (lv_at hl 1 rfl) ?_
        refine lv_bipush (v := (24 : Int32)) C.x C.b dX10_yearGoes_94 (by decide) ?_
        refine lv_iload_n C.x C.b dX10_yearGoes_96 rfl (lv_at hl 3 rfl) ?_
        refine lv_iadd C.x C.b dX10_yearGoes_97 ?_
        obtain ⟨g26, hf⟩ := gd_e hf
        refine r_iald C hR t_r1 g26 dX10_yearGoes_98 ?_
        refine lv_if_ne (tgt := 106) C.x C.b dX10_yearGoes_99 (by decide) (fun c27 => ?_) (fun c27 => ?_)
        · simp only [if_neg c27] at hf
          refine lv_iconst (v := (0 : Int32)) C.x C.b dX10_yearGoes_106 (by decide) ?_
          exact w_X10_yearGoes_107 C hr hlk hk48 _ _ _ _ _ _ _ _ _ hf hE hR hS t_r0 t_r1 t_r0 z_0 (lv_sub hl [0, 1, 2, 3] rfl)
        · simp only [if_pos c27] at hf
          refine lv_iconst (v := (1 : Int32)) C.x C.b dX10_yearGoes_102 (by decide) ?_
          refine lv_goto (tgt := 107) C.x C.b dX10_yearGoes_103 (by decide) ?_
          exact w_X10_yearGoes_107 C hr hlk hk48 _ _ _ _ _ _ _ _ _ hf hE hR hS t_r0 t_r1 t_r0 z_1 (lv_sub hl [0, 1, 2, 3] rfl)
set_option maxRecDepth 100000 in
set_option maxHeartbeats 4000000 in
theorem w_X10_yearGoes_7 {G : Gt} {l : Launch} {p : Program} {e : Env} {s : State} {m : MethodId} {args : Array Value} {below : List Frame} {meth : Method} {c : Code}  {h0 : Hp} {out : Hp} {r0 : Nat} {r1 : Nat}  (C : Cx G p m c cX10_yearGoes 5 s args RX10) (hr : meth.sig.returnType = none) (hlk : meth.locks = false)   (n : Nat) : P_X10_yearGoes_7 G l p e s m args below meth c h0 out r0 r1 (f_X10_yearGoes_7 r0 r1 n) := by
  induction n with
  | zero => intro H locs ls h x2 x3 hf hE hR hS t_r0 t_r1 hl; cases hf
  | succ n hk7 =>
    intro H locs ls h x2 x3 hf hE hR hS t_r0 t_r1 hl
    rw [f_X10_yearGoes_7] at hf
    obtain ⟨k7, e_k7⟩ : ∃ y, y = f_X10_yearGoes_7 r0 r1 n := ⟨_, rfl⟩
    have hf := lt_e hf e_k7
    rw [← e_k7] at hk7
    refine lv_iload_n C.x C.b dX10_yearGoes_7 rfl (lv_at hl 3 rfl) ?_
    refine lv_aload_n C.x C.b dX10_yearGoes_8 rfl (lv_at hl 1 rfl) ?_
    refine lv_bipush (v := (48 : Int32)) C.x C.b dX10_yearGoes_9 (by decide) ?_
    obtain ⟨g2, hf⟩ := gd_e hf
    refine r_iald C hR t_r1 g2 dX10_yearGoes_11 ?_
    refine lv_icmp_ge (tgt := 46) C.x C.b dX10_yearGoes_12 (by decide) (fun c3 => ?_) (fun c3 => ?_)
    · have hf := it_t hf c3
      refine lv_iconst (v := (0 : Int32)) C.x C.b dX10_yearGoes_46 (by decide) ?_
      refine lv_istore_n (lv' := [(3, .int (0 : Int32)), (0, .ref (G.2.2 + r0)), (1, .ref (G.2.2 + r1)), (2, .int x2)]) C.x C.b dX10_yearGoes_47 rfl hl (by decide) rfl (fun ls hl => ?_)
      exact w_X10_yearGoes_48 C hr hlk FU _ _ _ _ _ _ hf hE hR hS t_r0 t_r1 (lv_sub hl [1, 2, 3, 0] rfl)
    · have hf := it_f hf c3
      refine lv_aload_n C.x C.b dX10_yearGoes_15 rfl (lv_at hl 0 rfl) ?_
      obtain ⟨g4, hf⟩ := gd_e hf
      refine r_getr C hR t_r0 fl_X10_51 (by decide) (nz_e g4) dX10_yearGoes_16 (fun tq5 => ?_)
      have tg4 := okA tq5 rfl
      refine lv_iload_n C.x C.b dX10_yearGoes_19 rfl (lv_at hl 3 rfl) ?_
      refine lv_iload_n C.x C.b dX10_yearGoes_20 rfl (lv_at hl 2 rfl) ?_
      refine lv_i2l C.x C.b dX10_yearGoes_21 rfl ?_
      refine lv_iload_n C.x C.b dX10_yearGoes_22 rfl (lv_at hl 3 rfl) ?_
      obtain ⟨q6, h_q6, hf⟩ := bd_e hf
      refine r_callS (As := [.long (x2.toInt64), .int x3]) (rest := [.int x3, .ref (G.2.2 + (hpR h r0 24))]) C hR hS mk_X10_has cl_X10_137 (k_X10_has h_q6) ⟨⟨Nat.le_of_ble_eq_true rfl, Nat.le_of_ble_eq_true rfl⟩, ⟨rfl, rfl⟩, Nat.le_of_ble_eq_true rfl, Nat.le_of_ble_eq_true rfl⟩ rfl hl.1 rfl (Nat.le_of_ble_eq_true rfl) dX10_yearGoes_23 (fun H locs hR hS hE1 z_q6 => ?_)
      have z_q6 := z_q6 _ rfl
      refine lv_if_eq (tgt := 38) C.x C.b dX10_yearGoes_26 (by decide) (fun c7 => ?_) (fun c7 => ?_)
      · have hf := it_t hf c7
        refine lv_iconst (v := (0 : Int32)) C.x C.b dX10_yearGoes_38 (by decide) ?_
        exact w_X10_yearGoes_39 C hr hlk hk7 _ _ _ _ _ _ _ _ _ hf hE hR hS t_r0 t_r1 tg4 (lv_sub hl [0, 1, 2, 3] rfl)
      · have hf := it_f hf c7
        refine lv_aload_n C.x C.b dX10_yearGoes_29 rfl (lv_at hl 0 rfl) ?_
        refine lv_aload_n C.x C.b dX10_yearGoes_30 rfl (lv_at hl 1 rfl) ?_
        refine lv_iload_n C.x C.b dX10_yearGoes_31 rfl (lv_at hl 3 rfl) ?_
        obtain ⟨q8, h_q8, hf⟩ := bd_e hf
        refine r_callV (As := [.ref (G.2.2 + r1), .int x3]) (rest := [.int x3, .ref (G.2.2 + (hpR h r0 24))]) C hR hS t_r0 rfl mk_X10_loss cl_X10_275 (k_X10_loss t_r0 t_r1 h_q8) ⟨⟨Nat.le_of_ble_eq_true rfl, Nat.le_of_ble_eq_true rfl⟩, ⟨rfl, rfl⟩, Nat.le_of_ble_eq_true rfl, Nat.le_of_ble_eq_true rfl⟩ rfl hl.1 rfl (Nat.le_of_ble_eq_true rfl) dX10_yearGoes_32 (fun H locs hR hS hE1 z_q8 => ?_)
        have hE := hE.tr hE1
        have tg4 := hE1.k tg4 (by decide)
        have t_r0 := hE1.at t_r0 (by decide)
        have t_r1 := hE1.k t_r1 (by decide)
        refine lv_goto (tgt := 39) C.x C.b dX10_yearGoes_35 (by decide) ?_
        exact w_X10_yearGoes_39 C hr hlk hk7 _ _ _ _ _ _ _ _ _ hf hE hR hS t_r0 t_r1 tg4 (lv_sub hl [0, 1, 2, 3] rfl)
set_option maxRecDepth 100000 in
set_option maxHeartbeats 4000000 in
theorem k_X10_yearGoes {G : Gt} {l : Launch}  {h : Hp} {r0 : Nat} {r1 : Nat} {out : Hp} (t_r0 : hpT h r0 = (1, 10)) (t_r1 : (hpT h r1).1 = 2)  (hf : f_X10_yearGoes  h r0 r1 = some out) : Mt G l yX10_yearGoes cX10_yearGoes 5 (none) rm_X10_yearGoes [.ref (G.2.2 + r0), .ref (G.2.2 + r1)] h (none) out 0 0 0 := by
  refine r_met (by decide +kernel) (Nat.le_of_ble_eq_true rfl) ?_
  intro p e s m args below meth c ls C hr hlk hnm hR hS hl
  have hE : Ext h h := Ext.rf
  have hl : lv_has ls 5 [(0, .ref (G.2.2 + r0)), (1, .ref (G.2.2 + r1))] := hl
  rw [f_X10_yearGoes] at hf
  refine lv_aload_n C.x C.b dX10_yearGoes_0 rfl (lv_at hl 1 rfl) ?_
  obtain ⟨q1, h_q1, hf⟩ := bd_e hf
  refine r_callS (As := [.ref (G.2.2 + r1)]) (rest := []) C hR hS mk_X10_on cl_X10_311 (k_X10_on t_r1 h_q1) ⟨⟨Nat.le_of_ble_eq_true rfl, Nat.le_of_ble_eq_true rfl⟩, ⟨rfl, rfl⟩, Nat.le_of_ble_eq_true rfl, Nat.le_of_ble_eq_true rfl⟩ rfl hl.1 rfl (Nat.le_of_ble_eq_true rfl) dX10_yearGoes_1 (fun H locs hR hS hE1 z_q1 => ?_)
  refine lv_istore_n (lv' := [(2, .int q1), (0, .ref (G.2.2 + r0)), (1, .ref (G.2.2 + r1))]) C.x C.b dX10_yearGoes_4 rfl hl (by decide) rfl (fun ls hl => ?_)
  refine lv_iconst (v := (0 : Int32)) C.x C.b dX10_yearGoes_5 (by decide) ?_
  refine lv_istore_n (lv' := [(3, .int (0 : Int32)), (2, .int q1), (0, .ref (G.2.2 + r0)), (1, .ref (G.2.2 + r1))]) C.x C.b dX10_yearGoes_6 rfl hl (by decide) rfl (fun ls hl => ?_)
  exact w_X10_yearGoes_7 C hr hlk FU _ _ _ _ _ _ hf hE hR hS t_r0 t_r1 (lv_sub hl [2, 3, 1, 0] rfl)

def rm_X10_goesOn : Room := { frames := 7, cells := 0, slots := 0, locals := 171 }
def P_X10_goesOn_7 (G : Gt) (l : Launch) (p : Program) (e : Env) (s : State) (m : MethodId) (args : Array Value) (below : List Frame) (meth : Method) (c : Code) (h0 : Hp) (out : Hp) (r0 : Nat) (r1 : Nat) (x2 : Int32) (k : Hp → Int32 → Option Hp) : Prop := ∀ (H : Heap) (locs : List Loc) (ls : Array Slot) (h : Hp) (x3 : Int32), k h x3 = some out → Ext h0 h → Rel G h H → va_S (AA G.2.2) s.heap H locs → hpT h r0 = (1, 10) → (hpT h r1).1 = 2 → lv_has ls 4 [(0, .ref (G.2.2 + r0)), (1, .ref (G.2.2 + r1)), (2, .int x2), (3, .int x3)] → W p l e rm_X10_goesOn s m args below meth c H locs 0 0 (MQ below (Qm G h0 out (none) 0) args s 0 0 (AA G.2.2)) (F0 m 7 ls [])
set_option maxRecDepth 100000 in
set_option maxHeartbeats 4000000 in
theorem w_X10_goesOn_7 {G : Gt} {l : Launch} {p : Program} {e : Env} {s : State} {m : MethodId} {args : Array Value} {below : List Frame} {meth : Method} {c : Code}  {h0 : Hp} {out : Hp} {r0 : Nat} {r1 : Nat} {x2 : Int32}  (C : Cx G p m c cX10_goesOn 4 s args RX10) (hr : meth.sig.returnType = none) (hlk : meth.locks = false)   (n : Nat) : P_X10_goesOn_7 G l p e s m args below meth c h0 out r0 r1 x2 (f_X10_goesOn_7 r0 r1 x2 n) := by
  induction n with
  | zero => intro H locs ls h x3 hf hE hR hS t_r0 t_r1 hl; cases hf
  | succ n hk7 =>
    intro H locs ls h x3 hf hE hR hS t_r0 t_r1 hl
    rw [f_X10_goesOn_7] at hf
    obtain ⟨k7, e_k7⟩ : ∃ y, y = f_X10_goesOn_7 r0 r1 x2 n := ⟨_, rfl⟩
    have hf := lt_e hf e_k7
    rw [← e_k7] at hk7
    refine lv_iload_n C.x C.b dX10_goesOn_7 rfl (lv_at hl 3 rfl) ?_
    refine lv_iload_n C.x C.b dX10_goesOn_8 rfl (lv_at hl 2 rfl) ?_
    refine lv_icmp_ge (tgt := 23) C.x C.b dX10_goesOn_9 (by decide) (fun c2 => ?_) (fun c2 => ?_)
    · have hf := it_t hf c2
      have hf := so_e hf
      subst hf
      exact r_vret C hr hlk hR hE hS dX10_goesOn_23
    · have hf := it_f hf c2
      refine lv_aload_n C.x C.b dX10_goesOn_12 rfl (lv_at hl 0 rfl) ?_
      refine lv_aload_n C.x C.b dX10_goesOn_13 rfl (lv_at hl 1 rfl) ?_
      obtain ⟨q3, h_q3, hf⟩ := bd_e hf
      refine r_callV (As := [.ref (G.2.2 + r1)]) (rest := []) C hR hS t_r0 rfl mk_X10_yearGoes cl_X10_318 (k_X10_yearGoes t_r0 t_r1 h_q3) ⟨⟨Nat.le_of_ble_eq_true rfl, Nat.le_of_ble_eq_true rfl⟩, ⟨rfl, rfl⟩, Nat.le_of_ble_eq_true rfl, Nat.le_of_ble_eq_true rfl⟩ rfl hl.1 rfl (Nat.le_of_ble_eq_true rfl) dX10_goesOn_14 (fun H locs hR hS hE1 z_q3 => ?_)
      have hE := hE.tr hE1
      have t_r0 := hE1.at t_r0 (by decide)
      have t_r1 := hE1.k t_r1 (by decide)
      obtain ⟨v4, e_v4⟩ : ∃ y : Int32, y = x3 + (1 : Int32) := ⟨_, rfl⟩
      have hf := lt_e hf e_v4
      refine lv_iinc (v := v4) (lv' := [(3, .int v4), (0, .ref (G.2.2 + r0)), (1, .ref (G.2.2 + r1)), (2, .int x2)]) C.x C.b dX10_goesOn_17 hl (k := 3) rfl (by rw [e_v4]; rfl) (by decide) rfl (fun ls hl => ?_)
      refine lv_goto (tgt := 7) C.x C.b dX10_goesOn_20 (by decide) ?_
      exact hk7 _ _ _ _ _ hf hE hR hS t_r0 t_r1 (lv_sub hl [1, 2, 3, 0] rfl)
set_option maxRecDepth 100000 in
set_option maxHeartbeats 4000000 in
theorem k_X10_goesOn {G : Gt} {l : Launch}  {h : Hp} {r0 : Nat} {r1 : Nat} {x2 : Int32} {out : Hp} (t_r0 : hpT h r0 = (1, 10)) (t_r1 : (hpT h r1).1 = 2)  (hf : f_X10_goesOn  h r0 r1 x2 = some out) : Mt G l yX10_goesOn cX10_goesOn 4 (none) rm_X10_goesOn [.ref (G.2.2 + r0), .ref (G.2.2 + r1), .int x2] h (none) out 0 0 0 := by
  refine r_met (by decide +kernel) (Nat.le_of_ble_eq_true rfl) ?_
  intro p e s m args below meth c ls C hr hlk hnm hR hS hl
  have hE : Ext h h := Ext.rf
  have hl : lv_has ls 4 [(0, .ref (G.2.2 + r0)), (1, .ref (G.2.2 + r1)), (2, .int x2)] := hl
  rw [f_X10_goesOn] at hf
  refine lv_aload_n C.x C.b dX10_goesOn_0 rfl (lv_at hl 0 rfl) ?_
  refine lv_iconst (v := (0 : Int32)) C.x C.b dX10_goesOn_1 (by decide) ?_
  refine r_puti C hR hS t_r0 fl_X10_315 fp_X10_10_25 rfl dX10_goesOn_2 (fun H locs hR hS => ?_)
  obtain ⟨h1, e_h1⟩ : ∃ y, y = upI h r0 25 (0 : Int32) := ⟨_, rfl⟩
  rw [← e_h1] at hR
  have hf := lt_e hf e_h1
  have hE := eI e_h1 hE
  have t_r0 := tI e_h1 t_r0
  have t_r1 := tIk e_h1 t_r1
  refine lv_iconst (v := (0 : Int32)) C.x C.b dX10_goesOn_5 (by decide) ?_
  refine lv_istore_n (lv' := [(3, .int (0 : Int32)), (0, .ref (G.2.2 + r0)), (1, .ref (G.2.2 + r1)), (2, .int x2)]) C.x C.b dX10_goesOn_6 rfl hl (by decide) rfl (fun ls hl => ?_)
  exact w_X10_goesOn_7 C hr hlk FU _ _ _ _ _ hf hE hR hS t_r0 t_r1 (lv_sub hl [1, 2, 3, 0] rfl)

def rm_X10_pitches : Room := { frames := 5, cells := 0, slots := 0, locals := 124 }
set_option maxRecDepth 100000 in
set_option maxHeartbeats 4000000 in
theorem k_X10_pitches {G : Gt} {l : Launch}  {h : Hp} {r0 : Nat} {r1 : Nat} {x2 : Int32} {x3 : Int32} {x4 : Int32} {x5 : Int32} {x6 : Int32} {out : (Int32 × Hp)} (t_r0 : hpT h r0 = (1, 10)) (t_r1 : (hpT h r1).1 = 2)  (hf : f_X10_pitches  h r0 r1 x2 x3 x4 x5 x6 = some out) : Mt G l yX10_pitches cX10_pitches 7 (some .int) rm_X10_pitches [.ref (G.2.2 + r0), .ref (G.2.2 + r1), .int x2, .int x3, .int x4, .int x5, .int x6] h (some (.int out.1)) out.2 0 0 0 := by
  refine r_met (by decide +kernel) (Nat.le_of_ble_eq_true rfl) ?_
  intro p e s m args below meth c ls C hr hlk hnm hR hS hl
  have hE : Ext h h := Ext.rf
  have hl : lv_has ls 7 [(0, .ref (G.2.2 + r0)), (1, .ref (G.2.2 + r1)), (2, .int x2), (3, .int x3), (4, .int x4), (5, .int x5), (6, .int x6)] := hl
  rw [f_X10_pitches] at hf
  refine lv_aload_n C.x C.b dX10_pitches_0 rfl (lv_at hl 0 rfl) ?_
  refine lv_iload_n C.x C.b dX10_pitches_1 rfl (lv_at hl 2 rfl) ?_
  obtain ⟨q1, h_q1, hf⟩ := bd_e hf
  refine r_callV (As := [.int x2]) (rest := []) C hR hS t_r0 rfl mk_X10_isCell cl_X10_289 (k_X10_isCell t_r0 h_q1) ⟨⟨Nat.le_of_ble_eq_true rfl, Nat.le_of_ble_eq_true rfl⟩, ⟨rfl, rfl⟩, Nat.le_of_ble_eq_true rfl, Nat.le_of_ble_eq_true rfl⟩ rfl hl.1 rfl (Nat.le_of_ble_eq_true rfl) dX10_pitches_2 (fun H locs hR hS hE1 z_q1 => ?_)
  have z_q1 := z_q1 _ rfl
  refine lv_if_eq (tgt := 59) C.x C.b dX10_pitches_5 (by decide) (fun c2 => ?_) (fun c2 => ?_)
  · have hf := it_t hf c2
    refine lv_iconst (v := (-1 : Int32)) C.x C.b dX10_pitches_59 (by decide) ?_
    have hf := so_e hf
    subst hf
    exact r_iret C hr hlk hR hE hS dX10_pitches_60
  · have hf := it_f hf c2
    refine lv_iload_n C.x C.b dX10_pitches_8 rfl (lv_at hl 3 rfl) ?_
    refine lv_i2l C.x C.b dX10_pitches_9 rfl ?_
    refine lv_lconst (v := (1 : Int64)) C.x C.b dX10_pitches_10 (by decide) ?_
    refine lv_ldc2 C.x C.b C.ow (C.ts _ lk_X10_303) dX10_pitches_11 ?_
    obtain ⟨q3, h_q3, hf⟩ := bd_e hf
    refine r_callS (As := [.long (x3.toInt64), .long (1 : Int64), .long (3 : Int64)]) (rest := []) C hR hS mk_X10_in cl_X10_117 (k_X10_in h_q3) ⟨⟨Nat.le_of_ble_eq_true rfl, Nat.le_of_ble_eq_true rfl⟩, ⟨rfl, rfl⟩, Nat.le_of_ble_eq_true rfl, Nat.le_of_ble_eq_true rfl⟩ rfl hl.1 rfl (Nat.le_of_ble_eq_true rfl) dX10_pitches_14 (fun H locs hR hS hE1 z_q3 => ?_)
    have z_q3 := z_q3 _ rfl
    refine lv_if_eq (tgt := 59) C.x C.b dX10_pitches_17 (by decide) (fun c4 => ?_) (fun c4 => ?_)
    · have hf := it_t hf c4
      refine lv_iconst (v := (-1 : Int32)) C.x C.b dX10_pitches_59 (by decide) ?_
      have hf := so_e hf
      subst hf
      exact r_iret C hr hlk hR hE hS dX10_pitches_60
    · have hf := it_f hf c4
      refine lv_iload C.x C.b dX10_pitches_20 (lv_at hl 4 rfl) ?_
      refine lv_i2l C.x C.b dX10_pitches_22 rfl ?_
      refine lv_lconst (v := (1 : Int64)) C.x C.b dX10_pitches_23 (by decide) ?_
      refine lv_ldc2 C.x C.b C.ow (C.ts _ lk_X10_303) dX10_pitches_24 ?_
      obtain ⟨q5, h_q5, hf⟩ := bd_e hf
      refine r_callS (As := [.long (x4.toInt64), .long (1 : Int64), .long (3 : Int64)]) (rest := []) C hR hS mk_X10_in cl_X10_117 (k_X10_in h_q5) ⟨⟨Nat.le_of_ble_eq_true rfl, Nat.le_of_ble_eq_true rfl⟩, ⟨rfl, rfl⟩, Nat.le_of_ble_eq_true rfl, Nat.le_of_ble_eq_true rfl⟩ rfl hl.1 rfl (Nat.le_of_ble_eq_true rfl) dX10_pitches_27 (fun H locs hR hS hE1 z_q5 => ?_)
      have z_q5 := z_q5 _ rfl
      refine lv_if_eq (tgt := 59) C.x C.b dX10_pitches_30 (by decide) (fun c6 => ?_) (fun c6 => ?_)
      · have hf := it_t hf c6
        refine lv_iconst (v := (-1 : Int32)) C.x C.b dX10_pitches_59 (by decide) ?_
        have hf := so_e hf
        subst hf
        exact r_iret C hr hlk hR hE hS dX10_pitches_60
      · have hf := it_f hf c6
        refine lv_iload C.x C.b dX10_pitches_33 (lv_at hl 5 rfl) ?_
        refine lv_i2l C.x C.b dX10_pitches_35 rfl ?_
        refine lv_lconst (v := (1 : Int64)) C.x C.b dX10_pitches_36 (by decide) ?_
        refine lv_ldc2 C.x C.b C.ow (C.ts _ lk_X10_322) dX10_pitches_37 ?_
        obtain ⟨q7, h_q7, hf⟩ := bd_e hf
        refine r_callS (As := [.long (x5.toInt64), .long (1 : Int64), .long (9 : Int64)]) (rest := []) C hR hS mk_X10_in cl_X10_117 (k_X10_in h_q7) ⟨⟨Nat.le_of_ble_eq_true rfl, Nat.le_of_ble_eq_true rfl⟩, ⟨rfl, rfl⟩, Nat.le_of_ble_eq_true rfl, Nat.le_of_ble_eq_true rfl⟩ rfl hl.1 rfl (Nat.le_of_ble_eq_true rfl) dX10_pitches_40 (fun H locs hR hS hE1 z_q7 => ?_)
        have z_q7 := z_q7 _ rfl
        refine lv_if_eq (tgt := 59) C.x C.b dX10_pitches_43 (by decide) (fun c8 => ?_) (fun c8 => ?_)
        · have hf := it_t hf c8
          refine lv_iconst (v := (-1 : Int32)) C.x C.b dX10_pitches_59 (by decide) ?_
          have hf := so_e hf
          subst hf
          exact r_iret C hr hlk hR hE hS dX10_pitches_60
        · have hf := it_f hf c8
          refine lv_iload C.x C.b dX10_pitches_46 (lv_at hl 6 rfl) ?_
          refine lv_i2l C.x C.b dX10_pitches_48 rfl ?_
          refine lv_lconst (v := (0 : Int64)) C.x C.b dX10_pitches_49 (by decide) ?_
          refine lv_ldc2 C.x C.b C.ow (C.ts _ lk_X10_322) dX10_pitches_50 ?_
          obtain ⟨q9, h_q9, hf⟩ := bd_e hf
          refine r_callS (As := [.long (x6.toInt64), .long (0 : Int64), .long (9 : Int64)]) (rest := []) C hR hS mk_X10_in cl_X10_117 (k_X10_in h_q9) ⟨⟨Nat.le_of_ble_eq_true rfl, Nat.le_of_ble_eq_true rfl⟩, ⟨rfl, rfl⟩, Nat.le_of_ble_eq_true rfl, Nat.le_of_ble_eq_true rfl⟩ rfl hl.1 rfl (Nat.le_of_ble_eq_true rfl) dX10_pitches_53 (fun H locs hR hS hE1 z_q9 => ?_)
          have z_q9 := z_q9 _ rfl
          refine lv_if_ne (tgt := 61) C.x C.b dX10_pitches_56 (by decide) (fun c10 => ?_) (fun c10 => ?_)
          · have hf := it_f hf c10
            refine lv_aload_n C.x C.b dX10_pitches_61 rfl (lv_at hl 0 rfl) ?_
            refine lv_iload_n C.x C.b dX10_pitches_62 rfl (lv_at hl 2 rfl) ?_
            refine lv_iload_n C.x C.b dX10_pitches_63 rfl (lv_at hl 3 rfl) ?_
            refine lv_iload C.x C.b dX10_pitches_64 (lv_at hl 4 rfl) ?_
            obtain ⟨q11, h_q11, hf⟩ := bd_e hf
            refine r_callV (As := [.int x2, .int x3, .int x4]) (rest := []) C hR hS t_r0 rfl mk_X10_isIn cl_X10_324 (k_X10_isIn t_r0 h_q11) ⟨⟨Nat.le_of_ble_eq_true rfl, Nat.le_of_ble_eq_true rfl⟩, ⟨rfl, rfl⟩, Nat.le_of_ble_eq_true rfl, Nat.le_of_ble_eq_true rfl⟩ rfl hl.1 rfl (Nat.le_of_ble_eq_true rfl) dX10_pitches_66 (fun H locs hR hS hE1 z_q11 => ?_)
            have z_q11 := z_q11 _ rfl
            refine lv_if_ne (tgt := 75) C.x C.b dX10_pitches_69 (by decide) (fun c12 => ?_) (fun c12 => ?_)
            · have hf := it_f hf c12
              refine lv_aload_n C.x C.b dX10_pitches_75 rfl (lv_at hl 1 rfl) ?_
              refine lv_bipush (v := (48 : Int32)) C.x C.b dX10_pitches_76 (by decide) ?_
              obtain ⟨g13, hf⟩ := gd_e hf
              refine r_iald C hR t_r1 g13 dX10_pitches_78 ?_
              refine lv_bipush (v := (8 : Int32)) C.x C.b dX10_pitches_79 (by decide) ?_
              refine lv_icmp_ne (tgt := 87) C.x C.b dX10_pitches_81 (by decide) (fun c14 => ?_) (fun c14 => ?_)
              · have hf := it_f hf c14
                refine lv_aload_n C.x C.b dX10_pitches_87 rfl (lv_at hl 0 rfl) ?_
                refine lv_iload_n C.x C.b dX10_pitches_88 rfl (lv_at hl 2 rfl) ?_
                refine lv_iload_n C.x C.b dX10_pitches_89 rfl (lv_at hl 3 rfl) ?_
                refine lv_iload C.x C.b dX10_pitches_90 (lv_at hl 4 rfl) ?_
                obtain ⟨q15, h_q15, hf⟩ := bd_e hf
                refine r_callV (As := [.int x2, .int x3, .int x4]) (rest := []) C hR hS t_r0 rfl mk_X10_area cl_X10_125 (k_X10_area t_r0 h_q15) ⟨⟨Nat.le_of_ble_eq_true rfl, Nat.le_of_ble_eq_true rfl⟩, ⟨rfl, rfl⟩, Nat.le_of_ble_eq_true rfl, Nat.le_of_ble_eq_true rfl⟩ rfl hl.1 rfl (Nat.le_of_ble_eq_true rfl) dX10_pitches_92 (fun H locs hR hS hE1 z_q15 => ?_)
                refine lv_aload_n C.x C.b dX10_pitches_95 rfl (lv_at hl 0 rfl) ?_
                refine lv_aload_n C.x C.b dX10_pitches_96 rfl (lv_at hl 1 rfl) ?_
                refine lv_sipush (v := (255 : Int32)) C.x C.b dX10_pitches_97 (by decide) ?_
                obtain ⟨q16, h_q16, hf⟩ := bd_e hf
                refine r_callV (As := [.ref (G.2.2 + r1), .int (255 : Int32)]) (rest := [.long q15]) C hR hS t_r0 rfl mk_X10_sleptBy cl_X10_328 (k_X10_sleptBy t_r0 t_r1 h_q16) ⟨⟨Nat.le_of_ble_eq_true rfl, Nat.le_of_ble_eq_true rfl⟩, ⟨rfl, rfl⟩, Nat.le_of_ble_eq_true rfl, Nat.le_of_ble_eq_true rfl⟩ rfl hl.1 rfl (Nat.le_of_ble_eq_true rfl) dX10_pitches_100 (fun H locs hR hS hE1 z_q16 => ?_)
                refine lv_land C.x C.b dX10_pitches_103 ?_
                refine lv_lconst (v := (0 : Int64)) C.x C.b dX10_pitches_104 (by decide) ?_
                refine W.lcmp C.x C.b dX10_pitches_105 ?_
                refine lv_if_eq (tgt := 112) C.x C.b dX10_pitches_106 (by decide) (fun c17 => ?_) (fun c17 => ?_)
                · have hf := it_t hf c17
                  refine lv_aload_n C.x C.b dX10_pitches_112 rfl (lv_at hl 1 rfl) ?_
                  refine lv_iload_n C.x C.b dX10_pitches_113 rfl (lv_at hl 2 rfl) ?_
                  refine lv_iload_n C.x C.b dX10_pitches_114 rfl (lv_at hl 3 rfl) ?_
                  refine lv_iload C.x C.b dX10_pitches_115 (lv_at hl 4 rfl) ?_
                  refine lv_iload C.x C.b dX10_pitches_117 (lv_at hl 5 rfl) ?_
                  refine lv_iload C.x C.b dX10_pitches_119 (lv_at hl 6 rfl) ?_
                  obtain ⟨q18, h_q18, hf⟩ := bd_e hf
                  refine r_callS (As := [.ref (G.2.2 + r1), .int x2, .int x3, .int x4, .int x5, .int x6]) (rest := []) C hR hS mk_X10_comes cl_X10_214 (k_X10_comes t_r1 h_q18) ⟨⟨Nat.le_of_ble_eq_true rfl, Nat.le_of_ble_eq_true rfl⟩, ⟨rfl, rfl⟩, Nat.le_of_ble_eq_true rfl, Nat.le_of_ble_eq_true rfl⟩ rfl hl.1 rfl (Nat.le_of_ble_eq_true rfl) dX10_pitches_121 (fun H locs hR hS hE1 z_q18 => ?_)
                  have hE := hE.tr hE1
                  have t_r0 := hE1.at t_r0 (by decide)
                  have t_r1 := hE1.k t_r1 (by decide)
                  refine lv_aload_n C.x C.b dX10_pitches_124 rfl (lv_at hl 1 rfl) ?_
                  refine lv_bipush (v := (48 : Int32)) C.x C.b dX10_pitches_125 (by decide) ?_
                  obtain ⟨g19, hf⟩ := gd_e hf
                  refine r_iald C hR t_r1 g19 dX10_pitches_127 ?_
                  refine lv_iconst (v := (1 : Int32)) C.x C.b dX10_pitches_128 (by decide) ?_
                  refine lv_isub C.x C.b dX10_pitches_129 ?_
                  have hf := so_e hf
                  subst hf
                  exact r_iret C hr hlk hR hE hS dX10_pitches_130
                · have hf := it_f hf c17
                  refine lv_bipush (v := (-4 : Int32)) C.x C.b dX10_pitches_109 (by decide) ?_
                  have hf := so_e hf
                  subst hf
                  exact r_iret C hr hlk hR hE hS dX10_pitches_111
              · have hf := it_t hf c14
                refine lv_bipush (v := (-3 : Int32)) C.x C.b dX10_pitches_84 (by decide) ?_
                have hf := so_e hf
                subst hf
                exact r_iret C hr hlk hR hE hS dX10_pitches_86
            · have hf := it_t hf c12
              refine lv_bipush (v := (-2 : Int32)) C.x C.b dX10_pitches_72 (by decide) ?_
              have hf := so_e hf
              subst hf
              exact r_iret C hr hlk hR hE hS dX10_pitches_74
          · have hf := it_t hf c10
            refine lv_iconst (v := (-1 : Int32)) C.x C.b dX10_pitches_59 (by decide) ?_
            have hf := so_e hf
            subst hf
            exact r_iret C hr hlk hR hE hS dX10_pitches_60

def rm_X10_treadsOn : Room := { frames := 2, cells := 0, slots := 0, locals := 46 }
set_option maxRecDepth 100000 in
set_option maxHeartbeats 4000000 in
theorem k_X10_treadsOn {G : Gt} {l : Launch}  {h : Hp} {r0 : Nat} {x1 : Int32} {x2 : Int32} {out : (Int32 × Hp)} (t_r0 : hpT h r0 = (1, 10))  (hf : f_X10_treadsOn  h r0 x1 x2 = some out) : Mt G l yX10_treadsOn cX10_treadsOn 3 (some .int) rm_X10_treadsOn [.ref (G.2.2 + r0), .int x1, .int x2] h (some (.int out.1)) out.2 0 0 0 := by
  refine r_met (by decide +kernel) (Nat.le_of_ble_eq_true rfl) ?_
  intro p e s m args below meth c ls C hr hlk hnm hR hS hl
  have hE : Ext h h := Ext.rf
  have hl : lv_has ls 3 [(0, .ref (G.2.2 + r0)), (1, .int x1), (2, .int x2)] := hl
  rw [f_X10_treadsOn] at hf
  refine lv_aload_n C.x C.b dX10_treadsOn_0 rfl (lv_at hl 0 rfl) ?_
  refine lv_iload_n C.x C.b dX10_treadsOn_1 rfl (lv_at hl 1 rfl) ?_
  obtain ⟨q1, h_q1, hf⟩ := bd_e hf
  refine r_callV (As := [.int x1]) (rest := []) C hR hS t_r0 rfl mk_X10_isCamp cl_X10_278 (k_X10_isCamp t_r0 h_q1) ⟨⟨Nat.le_of_ble_eq_true rfl, Nat.le_of_ble_eq_true rfl⟩, ⟨rfl, rfl⟩, Nat.le_of_ble_eq_true rfl, Nat.le_of_ble_eq_true rfl⟩ rfl hl.1 rfl (Nat.le_of_ble_eq_true rfl) dX10_treadsOn_2 (fun H locs hR hS hE1 z_q1 => ?_)
  have z_q1 := z_q1 _ rfl
  refine lv_if_eq (tgt := 20) C.x C.b dX10_treadsOn_5 (by decide) (fun c2 => ?_) (fun c2 => ?_)
  · have hf := it_t hf c2
    refine lv_iconst (v := (-1 : Int32)) C.x C.b dX10_treadsOn_20 (by decide) ?_
    have hf := so_e hf
    subst hf
    exact r_iret C hr hlk hR hE hS dX10_treadsOn_21
  · have hf := it_f hf c2
    refine lv_iload_n C.x C.b dX10_treadsOn_8 rfl (lv_at hl 2 rfl) ?_
    refine lv_i2l C.x C.b dX10_treadsOn_9 rfl ?_
    refine lv_lconst (v := (1 : Int64)) C.x C.b dX10_treadsOn_10 (by decide) ?_
    refine lv_ldc2 C.x C.b C.ow (C.ts _ lk_X10_322) dX10_treadsOn_11 ?_
    obtain ⟨q3, h_q3, hf⟩ := bd_e hf
    refine r_callS (As := [.long (x2.toInt64), .long (1 : Int64), .long (9 : Int64)]) (rest := []) C hR hS mk_X10_in cl_X10_117 (k_X10_in h_q3) ⟨⟨Nat.le_of_ble_eq_true rfl, Nat.le_of_ble_eq_true rfl⟩, ⟨rfl, rfl⟩, Nat.le_of_ble_eq_true rfl, Nat.le_of_ble_eq_true rfl⟩ rfl hl.1 rfl (Nat.le_of_ble_eq_true rfl) dX10_treadsOn_14 (fun H locs hR hS hE1 z_q3 => ?_)
    have z_q3 := z_q3 _ rfl
    refine lv_if_ne (tgt := 22) C.x C.b dX10_treadsOn_17 (by decide) (fun c4 => ?_) (fun c4 => ?_)
    · have hf := it_f hf c4
      refine lv_aload_n C.x C.b dX10_treadsOn_22 rfl (lv_at hl 0 rfl) ?_
      obtain ⟨g5, hf⟩ := gd_e hf
      refine r_getr C hR t_r0 fl_X10_20 (by decide) (nz_e g5) dX10_treadsOn_23 (fun tq6 => ?_)
      have tg5 := okA tq6 rfl
      refine lv_iload_n C.x C.b dX10_treadsOn_26 rfl (lv_at hl 1 rfl) ?_
      obtain ⟨q7, h_q7, hf⟩ := bd_e hf
      refine r_callS (As := [.ref (G.2.2 + (hpR h r0 6)), .int x1]) (rest := []) C hR hS mk_X10_isOn cl_X10_129 (k_X10_isOn tg5 h_q7) ⟨⟨Nat.le_of_ble_eq_true rfl, Nat.le_of_ble_eq_true rfl⟩, ⟨rfl, rfl⟩, Nat.le_of_ble_eq_true rfl, Nat.le_of_ble_eq_true rfl⟩ rfl hl.1 rfl (Nat.le_of_ble_eq_true rfl) dX10_treadsOn_27 (fun H locs hR hS hE1 z_q7 => ?_)
      have z_q7 := z_q7 _ rfl
      refine lv_if_ne (tgt := 36) C.x C.b dX10_treadsOn_30 (by decide) (fun c8 => ?_) (fun c8 => ?_)
      · have hf := it_f hf c8
        refine lv_aload_n C.x C.b dX10_treadsOn_36 rfl (lv_at hl 0 rfl) ?_
        refine r_getr C hR t_r0 fl_X10_20 (by decide) (nz_e g5) dX10_treadsOn_37 (fun tq9 => ?_)
        refine lv_bipush (v := (24 : Int32)) C.x C.b dX10_treadsOn_40 (by decide) ?_
        refine lv_iload_n C.x C.b dX10_treadsOn_42 rfl (lv_at hl 1 rfl) ?_
        refine lv_iadd C.x C.b dX10_treadsOn_43 ?_
        refine lv_iconst (v := (0 : Int32)) C.x C.b dX10_treadsOn_44 (by decide) ?_
        refine lv_aload_n C.x C.b dX10_treadsOn_45 rfl (lv_at hl 0 rfl) ?_
        refine r_getr C hR t_r0 fl_X10_20 (by decide) (nz_e g5) dX10_treadsOn_46 (fun tq10 => ?_)
        refine lv_bipush (v := (24 : Int32)) C.x C.b dX10_treadsOn_49 (by decide) ?_
        refine lv_iload_n C.x C.b dX10_treadsOn_51 rfl (lv_at hl 1 rfl) ?_
        refine lv_iadd C.x C.b dX10_treadsOn_52 ?_
        obtain ⟨g11, hf⟩ := gd_e hf
        refine r_iald C hR tg5 g11 dX10_treadsOn_53 ?_
        refine lv_iload_n C.x C.b dX10_treadsOn_54 rfl (lv_at hl 2 rfl) ?_
        refine lv_isub C.x C.b dX10_treadsOn_55 ?_
        refine va_mmax C.x C.b (C.ml.trans hl.1.symm) C.ow (C.ts _ lk_X10_272) (C.ts _ lk_Mmax_s) (C.ts _ lk_Math) (C.ts _ lk_Mmax_c) (Nat.le_of_ble_eq_true rfl) (Nat.le_of_ble_eq_true rfl) (Nat.le_of_ble_eq_true rfl) (Nat.le_of_ble_eq_true rfl) dX10_treadsOn_56 ?_
        refine lv_topi (fun v12 e_v12 => ?_)
        have hf := lt_e hf e_v12
        obtain ⟨g13, hf⟩ := gd_e hf
        refine r_iast C hR hS tg5 g13 dX10_treadsOn_59 (fun H locs hR hS => ?_)
        obtain ⟨h14, e_h14⟩ : ∃ y, y = upI h (hpR h r0 6) (ix ((24 : Int32) + x1)) v12 := ⟨_, rfl⟩
        rw [← e_h14] at hR
        have hf := lt_e hf e_h14
        have hE := eI e_h14 hE
        have t_r0 := tI e_h14 t_r0
        refine lv_aload_n C.x C.b dX10_treadsOn_60 rfl (lv_at hl 0 rfl) ?_
        obtain ⟨g15, hf⟩ := gd_e hf
        refine r_getr C hR t_r0 fl_X10_20 (by decide) (nz_e g15) dX10_treadsOn_61 (fun tq16 => ?_)
        have tg15 := okA tq16 rfl
        refine lv_bipush (v := (24 : Int32)) C.x C.b dX10_treadsOn_64 (by decide) ?_
        refine lv_iload_n C.x C.b dX10_treadsOn_66 rfl (lv_at hl 1 rfl) ?_
        refine lv_iadd C.x C.b dX10_treadsOn_67 ?_
        obtain ⟨g17, hf⟩ := gd_e hf
        refine r_iald C hR tg15 g17 dX10_treadsOn_68 ?_
        have hf := so_e hf
        subst hf
        exact r_iret C hr hlk hR hE hS dX10_treadsOn_69
      · have hf := it_t hf c8
        refine lv_bipush (v := (-2 : Int32)) C.x C.b dX10_treadsOn_33 (by decide) ?_
        have hf := so_e hf
        subst hf
        exact r_iret C hr hlk hR hE hS dX10_treadsOn_35
    · have hf := it_t hf c4
      refine lv_iconst (v := (-1 : Int32)) C.x C.b dX10_treadsOn_20 (by decide) ?_
      have hf := so_e hf
      subst hf
      exact r_iret C hr hlk hR hE hS dX10_treadsOn_21

def rm_X10_singsTo : Room := { frames := 2, cells := 0, slots := 0, locals := 46 }
set_option maxRecDepth 100000 in
set_option maxHeartbeats 4000000 in
theorem k_X10_singsTo {G : Gt} {l : Launch}  {h : Hp} {r0 : Nat} {x1 : Int32} {x2 : Int32} {out : (Int32 × Hp)} (t_r0 : hpT h r0 = (1, 10))  (hf : f_X10_singsTo  h r0 x1 x2 = some out) : Mt G l yX10_singsTo cX10_singsTo 3 (some .int) rm_X10_singsTo [.ref (G.2.2 + r0), .int x1, .int x2] h (some (.int out.1)) out.2 0 0 0 := by
  refine r_met (by decide +kernel) (Nat.le_of_ble_eq_true rfl) ?_
  intro p e s m args below meth c ls C hr hlk hnm hR hS hl
  have hE : Ext h h := Ext.rf
  have hl : lv_has ls 3 [(0, .ref (G.2.2 + r0)), (1, .int x1), (2, .int x2)] := hl
  rw [f_X10_singsTo] at hf
  refine lv_aload_n C.x C.b dX10_singsTo_0 rfl (lv_at hl 0 rfl) ?_
  refine lv_iload_n C.x C.b dX10_singsTo_1 rfl (lv_at hl 1 rfl) ?_
  obtain ⟨q1, h_q1, hf⟩ := bd_e hf
  refine r_callV (As := [.int x1]) (rest := []) C hR hS t_r0 rfl mk_X10_isCamp cl_X10_278 (k_X10_isCamp t_r0 h_q1) ⟨⟨Nat.le_of_ble_eq_true rfl, Nat.le_of_ble_eq_true rfl⟩, ⟨rfl, rfl⟩, Nat.le_of_ble_eq_true rfl, Nat.le_of_ble_eq_true rfl⟩ rfl hl.1 rfl (Nat.le_of_ble_eq_true rfl) dX10_singsTo_2 (fun H locs hR hS hE1 z_q1 => ?_)
  have z_q1 := z_q1 _ rfl
  refine lv_if_eq (tgt := 20) C.x C.b dX10_singsTo_5 (by decide) (fun c2 => ?_) (fun c2 => ?_)
  · have hf := it_t hf c2
    refine lv_iconst (v := (-1 : Int32)) C.x C.b dX10_singsTo_20 (by decide) ?_
    have hf := so_e hf
    subst hf
    exact r_iret C hr hlk hR hE hS dX10_singsTo_21
  · have hf := it_f hf c2
    refine lv_iload_n C.x C.b dX10_singsTo_8 rfl (lv_at hl 2 rfl) ?_
    refine lv_i2l C.x C.b dX10_singsTo_9 rfl ?_
    refine lv_lconst (v := (1 : Int64)) C.x C.b dX10_singsTo_10 (by decide) ?_
    refine lv_ldc2 C.x C.b C.ow (C.ts _ lk_X10_322) dX10_singsTo_11 ?_
    obtain ⟨q3, h_q3, hf⟩ := bd_e hf
    refine r_callS (As := [.long (x2.toInt64), .long (1 : Int64), .long (9 : Int64)]) (rest := []) C hR hS mk_X10_in cl_X10_117 (k_X10_in h_q3) ⟨⟨Nat.le_of_ble_eq_true rfl, Nat.le_of_ble_eq_true rfl⟩, ⟨rfl, rfl⟩, Nat.le_of_ble_eq_true rfl, Nat.le_of_ble_eq_true rfl⟩ rfl hl.1 rfl (Nat.le_of_ble_eq_true rfl) dX10_singsTo_14 (fun H locs hR hS hE1 z_q3 => ?_)
    have z_q3 := z_q3 _ rfl
    refine lv_if_ne (tgt := 22) C.x C.b dX10_singsTo_17 (by decide) (fun c4 => ?_) (fun c4 => ?_)
    · have hf := it_f hf c4
      refine lv_aload_n C.x C.b dX10_singsTo_22 rfl (lv_at hl 0 rfl) ?_
      obtain ⟨g5, hf⟩ := gd_e hf
      refine r_getr C hR t_r0 fl_X10_20 (by decide) (nz_e g5) dX10_singsTo_23 (fun tq6 => ?_)
      have tg5 := okA tq6 rfl
      refine lv_bipush (v := (24 : Int32)) C.x C.b dX10_singsTo_26 (by decide) ?_
      refine lv_iload_n C.x C.b dX10_singsTo_28 rfl (lv_at hl 1 rfl) ?_
      refine lv_iadd C.x C.b dX10_singsTo_29 ?_
      refine lv_bipush (v := (9 : Int32)) C.x C.b dX10_singsTo_30 (by decide) ?_
      refine lv_aload_n C.x C.b dX10_singsTo_32 rfl (lv_at hl 0 rfl) ?_
      refine r_getr C hR t_r0 fl_X10_20 (by decide) (nz_e g5) dX10_singsTo_33 (fun tq7 => ?_)
      refine lv_bipush (v := (24 : Int32)) C.x C.b dX10_singsTo_36 (by decide) ?_
      refine lv_iload_n C.x C.b dX10_singsTo_38 rfl (lv_at hl 1 rfl) ?_
      refine lv_iadd C.x C.b dX10_singsTo_39 ?_
      obtain ⟨g8, hf⟩ := gd_e hf
      refine r_iald C hR tg5 g8 dX10_singsTo_40 ?_
      refine lv_iload_n C.x C.b dX10_singsTo_41 rfl (lv_at hl 2 rfl) ?_
      refine lv_iadd C.x C.b dX10_singsTo_42 ?_
      refine va_mmin C.x C.b (C.ml.trans hl.1.symm) C.ow (C.ts _ lk_X10_154) (C.ts _ lk_Mmin_s) (C.ts _ lk_Math) (C.ts _ lk_Mmin_c) (Nat.le_of_ble_eq_true rfl) (Nat.le_of_ble_eq_true rfl) (Nat.le_of_ble_eq_true rfl) (Nat.le_of_ble_eq_true rfl) dX10_singsTo_43 ?_
      refine lv_topi (fun v9 e_v9 => ?_)
      have hf := lt_e hf e_v9
      obtain ⟨g10, hf⟩ := gd_e hf
      refine r_iast C hR hS tg5 g10 dX10_singsTo_46 (fun H locs hR hS => ?_)
      obtain ⟨h11, e_h11⟩ : ∃ y, y = upI h (hpR h r0 6) (ix ((24 : Int32) + x1)) v9 := ⟨_, rfl⟩
      rw [← e_h11] at hR
      have hf := lt_e hf e_h11
      have hE := eI e_h11 hE
      have t_r0 := tI e_h11 t_r0
      refine lv_aload_n C.x C.b dX10_singsTo_47 rfl (lv_at hl 0 rfl) ?_
      obtain ⟨g12, hf⟩ := gd_e hf
      refine r_getr C hR t_r0 fl_X10_20 (by decide) (nz_e g12) dX10_singsTo_48 (fun tq13 => ?_)
      have tg12 := okA tq13 rfl
      refine lv_bipush (v := (24 : Int32)) C.x C.b dX10_singsTo_51 (by decide) ?_
      refine lv_iload_n C.x C.b dX10_singsTo_53 rfl (lv_at hl 1 rfl) ?_
      refine lv_iadd C.x C.b dX10_singsTo_54 ?_
      obtain ⟨g14, hf⟩ := gd_e hf
      refine r_iald C hR tg12 g14 dX10_singsTo_55 ?_
      have hf := so_e hf
      subst hf
      exact r_iret C hr hlk hR hE hS dX10_singsTo_56
    · have hf := it_t hf c4
      refine lv_iconst (v := (-1 : Int32)) C.x C.b dX10_singsTo_20 (by decide) ?_
      have hf := so_e hf
      subst hf
      exact r_iret C hr hlk hR hE hS dX10_singsTo_21

def rm_X10_movesOne : Room := { frames := 1, cells := 0, slots := 0, locals := 25 }
def P_X10_movesOne_86 (G : Gt) (l : Launch) (p : Program) (e : Env) (s : State) (m : MethodId) (args : Array Value) (below : List Frame) (meth : Method) (c : Code) (h0 : Hp) (out : (Int32 × Hp)) (r0 : Nat) (r1 : Nat) (x2 : Int32) (x3 : Int32) (k : Hp → Int32 → Int32 → Int32 → Option (Int32 × Hp)) : Prop := ∀ (H : Heap) (locs : List Loc) (ls : Array Slot) (h : Hp) (s0 : Int32) (s1 : Int32) (x4 : Int32), k h s0 s1 x4 = some out → Ext h0 h → Rel G h H → va_S (AA G.2.2) s.heap H locs → hpT h r0 = (1, 10) → (hpT h r1).1 = 2 → lv_has ls 6 [(0, .ref (G.2.2 + r0)), (1, .ref (G.2.2 + r1)), (2, .int x2), (3, .int x3), (4, .int x4)] → W p l e rm_X10_movesOne s m args below meth c H locs 0 0 (MQ below (Qm G h0 out.2 (some (.int out.1)) 0) args s 0 0 (AA G.2.2)) (F0 m 86 ls [.int s1, .int s0])
def P_X10_movesOne_56 (G : Gt) (l : Launch) (p : Program) (e : Env) (s : State) (m : MethodId) (args : Array Value) (below : List Frame) (meth : Method) (c : Code) (h0 : Hp) (out : (Int32 × Hp)) (r0 : Nat) (r1 : Nat) (x2 : Int32) (x3 : Int32) (k : Hp → Int32 → Int32 → Option (Int32 × Hp)) : Prop := ∀ (H : Heap) (locs : List Loc) (ls : Array Slot) (h : Hp) (s0 : Int32) (s1 : Int32), k h s0 s1 = some out → Ext h0 h → Rel G h H → va_S (AA G.2.2) s.heap H locs → hpT h r0 = (1, 10) → (hpT h r1).1 = 2 → lv_has ls 6 [(0, .ref (G.2.2 + r0)), (1, .ref (G.2.2 + r1)), (2, .int x2), (3, .int x3)] → W p l e rm_X10_movesOne s m args below meth c H locs 0 0 (MQ below (Qm G h0 out.2 (some (.int out.1)) 0) args s 0 0 (AA G.2.2)) (F0 m 56 ls [.int s1, .int s0])
set_option maxRecDepth 100000 in
set_option maxHeartbeats 4000000 in
theorem w_X10_movesOne_86 {G : Gt} {l : Launch} {p : Program} {e : Env} {s : State} {m : MethodId} {args : Array Value} {below : List Frame} {meth : Method} {c : Code}  {h0 : Hp} {out : (Int32 × Hp)} {r0 : Nat} {r1 : Nat} {x2 : Int32} {x3 : Int32}  (C : Cx G p m c cX10_movesOne 6 s args RX10) (hr : meth.sig.returnType = some .int) (hlk : meth.locks = false)   : P_X10_movesOne_86 G l p e s m args below meth c h0 out r0 r1 x2 x3 (f_X10_movesOne_86 r0 r1 x2 x3) := by
  intro H locs ls h s0 s1 x4 hf hE hR hS t_r0 t_r1 hl
  rw [f_X10_movesOne_86] at hf
  refine lv_iadd C.x C.b dX10_movesOne_86 ?_
  refine lv_topi (fun v16 e_v16 => ?_)
  have hf := lt_e hf e_v16
  refine lv_istore (lv' := [(5, .int v16), (0, .ref (G.2.2 + r0)), (1, .ref (G.2.2 + r1)), (2, .int x2), (3, .int x3), (4, .int x4)]) C.x C.b dX10_movesOne_87 hl (by decide) rfl (fun ls hl => ?_)
  refine lv_iload C.x C.b dX10_movesOne_89 (lv_at hl 5 rfl) ?_
  refine lv_i2l C.x C.b dX10_movesOne_91 rfl ?_
  refine lv_lconst (v := (0 : Int64)) C.x C.b dX10_movesOne_92 (by decide) ?_
  refine lv_aload_n C.x C.b dX10_movesOne_93 rfl (lv_at hl 1 rfl) ?_
  refine r_geti C hR t_r0 fl_X10_13 rfl dX10_movesOne_94 ?_
  refine lv_aload_n C.x C.b dX10_movesOne_97 rfl (lv_at hl 2 rfl) ?_
  refine lv_bipush (v := (8 : Int32)) C.x C.b dX10_movesOne_98 (by decide) ?_
  refine lv_iload_n C.x C.b dX10_movesOne_100 rfl (lv_at hl 3 rfl) ?_
  refine lv_iadd C.x C.b dX10_movesOne_101 ?_
  obtain ⟨g17, hf⟩ := gd_e hf
  refine r_iald C hR t_r1 g17 dX10_movesOne_102 ?_
  refine lv_isub C.x C.b dX10_movesOne_103 ?_
  refine lv_i2l C.x C.b dX10_movesOne_104 rfl ?_
  obtain ⟨q18, h_q18, hf⟩ := bd_e hf
  refine r_callS (As := [.long (x4.toInt64), .long (0 : Int64), .long (((hpI h r0 3) - (hpI h r1 (ix ((8 : Int32) + x2)))).toInt64)]) (rest := []) C hR hS mk_X10_in cl_X10_117 (k_X10_in h_q18) ⟨⟨Nat.le_of_ble_eq_true rfl, Nat.le_of_ble_eq_true rfl⟩, ⟨rfl, rfl⟩, Nat.le_of_ble_eq_true rfl, Nat.le_of_ble_eq_true rfl⟩ rfl hl.1 rfl (Nat.le_of_ble_eq_true rfl) dX10_movesOne_105 (fun H locs hR hS hE1 z_q18 => ?_)
  have z_q18 := z_q18 _ rfl
  refine lv_if_eq (tgt := 133) C.x C.b dX10_movesOne_108 (by decide) (fun c19 => ?_) (fun c19 => ?_)
  · have hf := it_t hf c19
    refine lv_bipush (v := (-2 : Int32)) C.x C.b dX10_movesOne_133 (by decide) ?_
    have hf := so_e hf
    subst hf
    exact r_iret C hr hlk hR hE hS dX10_movesOne_135
  · have hf := it_f hf c19
    refine lv_iload C.x C.b dX10_movesOne_111 (lv_at hl 0 rfl) ?_
    refine lv_i2l C.x C.b dX10_movesOne_113 rfl ?_
    refine lv_lconst (v := (0 : Int64)) C.x C.b dX10_movesOne_114 (by decide) ?_
    refine lv_aload_n C.x C.b dX10_movesOne_115 rfl (lv_at hl 1 rfl) ?_
    refine r_geti C hR t_r0 fl_X10_17 rfl dX10_movesOne_116 ?_
    refine lv_aload_n C.x C.b dX10_movesOne_119 rfl (lv_at hl 2 rfl) ?_
    refine lv_bipush (v := (16 : Int32)) C.x C.b dX10_movesOne_120 (by decide) ?_
    refine lv_iload_n C.x C.b dX10_movesOne_122 rfl (lv_at hl 3 rfl) ?_
    refine lv_iadd C.x C.b dX10_movesOne_123 ?_
    obtain ⟨g20, hf⟩ := gd_e hf
    refine r_iald C hR t_r1 g20 dX10_movesOne_124 ?_
    refine lv_isub C.x C.b dX10_movesOne_125 ?_
    refine lv_i2l C.x C.b dX10_movesOne_126 rfl ?_
    obtain ⟨q21, h_q21, hf⟩ := bd_e hf
    refine r_callS (As := [.long (v16.toInt64), .long (0 : Int64), .long (((hpI h r0 4) - (hpI h r1 (ix ((16 : Int32) + x2)))).toInt64)]) (rest := []) C hR hS mk_X10_in cl_X10_117 (k_X10_in h_q21) ⟨⟨Nat.le_of_ble_eq_true rfl, Nat.le_of_ble_eq_true rfl⟩, ⟨rfl, rfl⟩, Nat.le_of_ble_eq_true rfl, Nat.le_of_ble_eq_true rfl⟩ rfl hl.1 rfl (Nat.le_of_ble_eq_true rfl) dX10_movesOne_127 (fun H locs hR hS hE1 z_q21 => ?_)
    have z_q21 := z_q21 _ rfl
    refine lv_if_ne (tgt := 136) C.x C.b dX10_movesOne_130 (by decide) (fun c22 => ?_) (fun c22 => ?_)
    · have hf := it_f hf c22
      refine lv_aload_n C.x C.b dX10_movesOne_136 rfl (lv_at hl 2 rfl) ?_
      refine lv_iload_n C.x C.b dX10_movesOne_137 rfl (lv_at hl 3 rfl) ?_
      refine lv_aload_n C.x C.b dX10_movesOne_138 rfl (lv_at hl 1 rfl) ?_
      refine r_geti C hR t_r0 fl_X10_17 rfl dX10_movesOne_139 ?_
      refine lv_iload C.x C.b dX10_movesOne_142 (lv_at hl 5 rfl) ?_
      refine lv_imul C.x C.b dX10_movesOne_144 ?_
      refine lv_iload C.x C.b dX10_movesOne_145 (lv_at hl 0 rfl) ?_
      refine lv_iadd C.x C.b dX10_movesOne_147 ?_
      obtain ⟨g23, hf⟩ := gd_e hf
      refine r_iast C hR hS t_r1 g23 dX10_movesOne_148 (fun H locs hR hS => ?_)
      obtain ⟨h24, e_h24⟩ : ∃ y, y = upI h r1 (ix x2) (((hpI h r0 4) * x4) + v16) := ⟨_, rfl⟩
      rw [← e_h24] at hR
      have hf := lt_e hf e_h24
      have hE := eI e_h24 hE
      have t_r0 := tI e_h24 t_r0
      have t_r1 := tIk e_h24 t_r1
      refine lv_aload_n C.x C.b dX10_movesOne_149 rfl (lv_at hl 2 rfl) ?_
      refine lv_iload_n C.x C.b dX10_movesOne_150 rfl (lv_at hl 3 rfl) ?_
      obtain ⟨g25, hf⟩ := gd_e hf
      refine r_iald C hR t_r1 g25 dX10_movesOne_151 ?_
      have hf := so_e hf
      subst hf
      exact r_iret C hr hlk hR hE hS dX10_movesOne_152
    · have hf := it_t hf c22
      refine lv_bipush (v := (-2 : Int32)) C.x C.b dX10_movesOne_133 (by decide) ?_
      have hf := so_e hf
      subst hf
      exact r_iret C hr hlk hR hE hS dX10_movesOne_135
set_option maxRecDepth 100000 in
set_option maxHeartbeats 4000000 in
theorem w_X10_movesOne_56 {G : Gt} {l : Launch} {p : Program} {e : Env} {s : State} {m : MethodId} {args : Array Value} {below : List Frame} {meth : Method} {c : Code}  {h0 : Hp} {out : (Int32 × Hp)} {r0 : Nat} {r1 : Nat} {x2 : Int32} {x3 : Int32}  (C : Cx G p m c cX10_movesOne 6 s args RX10) (hr : meth.sig.returnType = some .int) (hlk : meth.locks = false)   : P_X10_movesOne_56 G l p e s m args below meth c h0 out r0 r1 x2 x3 (f_X10_movesOne_56 r0 r1 x2 x3) := by
  intro H locs ls h s0 s1 hf hE hR hS t_r0 t_r1 hl
  rw [f_X10_movesOne_56] at hf
  refine lv_iadd C.x C.b dX10_movesOne_56 ?_
  refine lv_topi (fun v10 e_v10 => ?_)
  have hf := lt_e hf e_v10
  refine lv_istore (lv' := [(4, .int v10), (0, .ref (G.2.2 + r0)), (1, .ref (G.2.2 + r1)), (2, .int x2), (3, .int x3)]) C.x C.b dX10_movesOne_57 hl (by decide) rfl (fun ls hl => ?_)
  refine lv_aload_n C.x C.b dX10_movesOne_59 rfl (lv_at hl 2 rfl) ?_
  refine lv_iload_n C.x C.b dX10_movesOne_60 rfl (lv_at hl 3 rfl) ?_
  obtain ⟨g11, hf⟩ := gd_e hf
  refine r_iald C hR t_r1 g11 dX10_movesOne_61 ?_
  refine lv_aload_n C.x C.b dX10_movesOne_62 rfl (lv_at hl 1 rfl) ?_
  refine r_geti C hR t_r0 fl_X10_17 rfl dX10_movesOne_63 ?_
  obtain ⟨g12, hf⟩ := gd_e hf
  refine lv_irem C.x C.b dX10_movesOne_66 (nz32_e g12) ?_
  refine lv_topi (fun v13 e_v13 => ?_)
  have hf := lt_e hf e_v13
  refine lv_iload_n C.x C.b dX10_movesOne_67 rfl (lv_at hl 4 rfl) ?_
  refine lv_iconst (v := (1 : Int32)) C.x C.b dX10_movesOne_68 (by decide) ?_
  refine lv_icmp_ne (tgt := 76) C.x C.b dX10_movesOne_69 (by decide) (fun c14 => ?_) (fun c14 => ?_)
  · simp only [if_neg c14] at hf
    refine lv_iload_n C.x C.b dX10_movesOne_76 rfl (lv_at hl 4 rfl) ?_
    refine lv_iconst (v := (3 : Int32)) C.x C.b dX10_movesOne_77 (by decide) ?_
    refine lv_icmp_ne (tgt := 85) C.x C.b dX10_movesOne_78 (by decide) (fun c15 => ?_) (fun c15 => ?_)
    · simp only [if_neg c15] at hf
      refine lv_iconst (v := (0 : Int32)) C.x C.b dX10_movesOne_85 (by decide) ?_
      exact w_X10_movesOne_86 C hr hlk _ _ _ _ _ _ _ hf hE hR hS t_r0 t_r1 (lv_sub hl [1, 2, 3, 4, 0] rfl)
    · simp only [if_pos c15] at hf
      refine lv_iconst (v := (-1 : Int32)) C.x C.b dX10_movesOne_81 (by decide) ?_
      refine lv_goto (tgt := 86) C.x C.b dX10_movesOne_82 (by decide) ?_
      exact w_X10_movesOne_86 C hr hlk _ _ _ _ _ _ _ hf hE hR hS t_r0 t_r1 (lv_sub hl [1, 2, 3, 4, 0] rfl)
  · simp only [if_pos c14] at hf
    refine lv_iconst (v := (1 : Int32)) C.x C.b dX10_movesOne_72 (by decide) ?_
    refine lv_goto (tgt := 86) C.x C.b dX10_movesOne_73 (by decide) ?_
    exact w_X10_movesOne_86 C hr hlk _ _ _ _ _ _ _ hf hE hR hS t_r0 t_r1 (lv_sub hl [1, 2, 3, 4, 0] rfl)
set_option maxRecDepth 100000 in
set_option maxHeartbeats 4000000 in
theorem k_X10_movesOne {G : Gt} {l : Launch}  {h : Hp} {r0 : Nat} {r1 : Nat} {x2 : Int32} {x3 : Int32} {out : (Int32 × Hp)} (t_r0 : hpT h r0 = (1, 10)) (t_r1 : (hpT h r1).1 = 2)  (hf : f_X10_movesOne  h r0 r1 x2 x3 = some out) : Mt G l yX10_movesOne cX10_movesOne 6 (some .int) rm_X10_movesOne [.ref (G.2.2 + r0), .ref (G.2.2 + r1), .int x2, .int x3] h (some (.int out.1)) out.2 0 0 0 := by
  refine r_met (by decide +kernel) (Nat.le_of_ble_eq_true rfl) ?_
  intro p e s m args below meth c ls C hr hlk hnm hR hS hl
  have hE : Ext h h := Ext.rf
  have hl : lv_has ls 6 [(0, .ref (G.2.2 + r0)), (1, .ref (G.2.2 + r1)), (2, .int x2), (3, .int x3)] := hl
  rw [f_X10_movesOne] at hf
  refine lv_iload_n C.x C.b dX10_movesOne_0 rfl (lv_at hl 2 rfl) ?_
  refine lv_i2l C.x C.b dX10_movesOne_1 rfl ?_
  refine lv_lconst (v := (0 : Int64)) C.x C.b dX10_movesOne_2 (by decide) ?_
  refine lv_aload_n C.x C.b dX10_movesOne_3 rfl (lv_at hl 1 rfl) ?_
  refine lv_bipush (v := (48 : Int32)) C.x C.b dX10_movesOne_4 (by decide) ?_
  obtain ⟨g1, hf⟩ := gd_e hf
  refine r_iald C hR t_r1 g1 dX10_movesOne_6 ?_
  refine lv_iconst (v := (1 : Int32)) C.x C.b dX10_movesOne_7 (by decide) ?_
  refine lv_isub C.x C.b dX10_movesOne_8 ?_
  refine lv_i2l C.x C.b dX10_movesOne_9 rfl ?_
  obtain ⟨q2, h_q2, hf⟩ := bd_e hf
  refine r_callS (As := [.long (x2.toInt64), .long (0 : Int64), .long (((hpI h r1 (ix (48 : Int32))) - (1 : Int32)).toInt64)]) (rest := []) C hR hS mk_X10_in cl_X10_117 (k_X10_in h_q2) ⟨⟨Nat.le_of_ble_eq_true rfl, Nat.le_of_ble_eq_true rfl⟩, ⟨rfl, rfl⟩, Nat.le_of_ble_eq_true rfl, Nat.le_of_ble_eq_true rfl⟩ rfl hl.1 rfl (Nat.le_of_ble_eq_true rfl) dX10_movesOne_10 (fun H locs hR hS hE1 z_q2 => ?_)
  have z_q2 := z_q2 _ rfl
  refine lv_if_eq (tgt := 28) C.x C.b dX10_movesOne_13 (by decide) (fun c3 => ?_) (fun c3 => ?_)
  · have hf := it_t hf c3
    refine lv_iconst (v := (-1 : Int32)) C.x C.b dX10_movesOne_28 (by decide) ?_
    have hf := so_e hf
    subst hf
    exact r_iret C hr hlk hR hE hS dX10_movesOne_29
  · have hf := it_f hf c3
    refine lv_iload_n C.x C.b dX10_movesOne_16 rfl (lv_at hl 3 rfl) ?_
    refine lv_i2l C.x C.b dX10_movesOne_17 rfl ?_
    refine lv_lconst (v := (0 : Int64)) C.x C.b dX10_movesOne_18 (by decide) ?_
    refine lv_ldc2 C.x C.b C.ow (C.ts _ lk_X10_303) dX10_movesOne_19 ?_
    obtain ⟨q4, h_q4, hf⟩ := bd_e hf
    refine r_callS (As := [.long (x3.toInt64), .long (0 : Int64), .long (3 : Int64)]) (rest := []) C hR hS mk_X10_in cl_X10_117 (k_X10_in h_q4) ⟨⟨Nat.le_of_ble_eq_true rfl, Nat.le_of_ble_eq_true rfl⟩, ⟨rfl, rfl⟩, Nat.le_of_ble_eq_true rfl, Nat.le_of_ble_eq_true rfl⟩ rfl hl.1 rfl (Nat.le_of_ble_eq_true rfl) dX10_movesOne_22 (fun H locs hR hS hE1 z_q4 => ?_)
    have z_q4 := z_q4 _ rfl
    refine lv_if_ne (tgt := 30) C.x C.b dX10_movesOne_25 (by decide) (fun c5 => ?_) (fun c5 => ?_)
    · have hf := it_f hf c5
      refine lv_aload_n C.x C.b dX10_movesOne_30 rfl (lv_at hl 1 rfl) ?_
      refine lv_iload_n C.x C.b dX10_movesOne_31 rfl (lv_at hl 2 rfl) ?_
      obtain ⟨g6, hf⟩ := gd_e hf
      refine r_iald C hR t_r1 g6 dX10_movesOne_32 ?_
      refine lv_aload_n C.x C.b dX10_movesOne_33 rfl (lv_at hl 0 rfl) ?_
      refine r_geti C hR t_r0 fl_X10_17 rfl dX10_movesOne_34 ?_
      obtain ⟨g7, hf⟩ := gd_e hf
      refine lv_idiv C.x C.b dX10_movesOne_37 (nz32_e g7) ?_
      refine lv_iload_n C.x C.b dX10_movesOne_38 rfl (lv_at hl 3 rfl) ?_
      refine lv_iconst (v := (2 : Int32)) C.x C.b dX10_movesOne_39 (by decide) ?_
      refine lv_icmp_ne (tgt := 47) C.x C.b dX10_movesOne_40 (by decide) (fun c8 => ?_) (fun c8 => ?_)
      · simp only [if_neg c8] at hf
        refine lv_iload_n C.x C.b dX10_movesOne_47 rfl (lv_at hl 3 rfl) ?_
        refine lv_if_ne (tgt := 55) C.x C.b dX10_movesOne_48 (by decide) (fun c9 => ?_) (fun c9 => ?_)
        · simp only [if_neg c9] at hf
          refine lv_iconst (v := (0 : Int32)) C.x C.b dX10_movesOne_55 (by decide) ?_
          exact w_X10_movesOne_56 C hr hlk _ _ _ _ _ _ hf hE hR hS t_r0 t_r1 (lv_sub hl [0, 1, 2, 3] rfl)
        · simp only [if_pos c9] at hf
          refine lv_iconst (v := (-1 : Int32)) C.x C.b dX10_movesOne_51 (by decide) ?_
          refine lv_goto (tgt := 56) C.x C.b dX10_movesOne_52 (by decide) ?_
          exact w_X10_movesOne_56 C hr hlk _ _ _ _ _ _ hf hE hR hS t_r0 t_r1 (lv_sub hl [0, 1, 2, 3] rfl)
      · simp only [if_pos c8] at hf
        refine lv_iconst (v := (1 : Int32)) C.x C.b dX10_movesOne_43 (by decide) ?_
        refine lv_goto (tgt := 56) C.x C.b dX10_movesOne_44 (by decide) ?_
        exact w_X10_movesOne_56 C hr hlk _ _ _ _ _ _ hf hE hR hS t_r0 t_r1 (lv_sub hl [0, 1, 2, 3] rfl)
    · have hf := it_t hf c5
      refine lv_iconst (v := (-1 : Int32)) C.x C.b dX10_movesOne_28 (by decide) ?_
      have hf := so_e hf
      subst hf
      exact r_iret C hr hlk hR hE hS dX10_movesOne_29

def rm_X10_years : Room := { frames := 8, cells := 0, slots := 0, locals := 194 }
set_option maxRecDepth 100000 in
set_option maxHeartbeats 4000000 in
theorem k_X10_years {G : Gt} {l : Launch}  {h : Hp} {r0 : Nat} {x1 : Int32} {out : (Int32 × Hp)} (t_r0 : hpT h r0 = (1, 10))  (hf : f_X10_years  h r0 x1 = some out) : Mt G l yX10_years cX10_years 2 (some .int) rm_X10_years [.ref (G.2.2 + r0), .int x1] h (some (.int out.1)) out.2 0 0 0 := by
  refine r_met (by decide +kernel) (Nat.le_of_ble_eq_true rfl) ?_
  intro p e s m args below meth c ls C hr hlk hnm hR hS hl
  have hE : Ext h h := Ext.rf
  have hl : lv_has ls 2 [(0, .ref (G.2.2 + r0)), (1, .int x1)] := hl
  rw [f_X10_years] at hf
  refine lv_aload_n C.x C.b dX10_years_0 rfl (lv_at hl 0 rfl) ?_
  refine lv_iconst (v := (0 : Int32)) C.x C.b dX10_years_1 (by decide) ?_
  refine r_puti C hR hS t_r0 fl_X10_103 fp_X10_10_0 rfl dX10_years_2 (fun H locs hR hS => ?_)
  obtain ⟨h1, e_h1⟩ : ∃ y, y = upI h r0 0 (0 : Int32) := ⟨_, rfl⟩
  rw [← e_h1] at hR
  have hf := lt_e hf e_h1
  have hE := eI e_h1 hE
  have t_r0 := tI e_h1 t_r0
  refine lv_iload_n C.x C.b dX10_years_5 rfl (lv_at hl 1 rfl) ?_
  refine lv_i2l C.x C.b dX10_years_6 rfl ?_
  refine lv_lconst (v := (0 : Int64)) C.x C.b dX10_years_7 (by decide) ?_
  refine lv_ldc2 C.x C.b C.ow (C.ts _ lk_X10_331) dX10_years_8 ?_
  obtain ⟨q2, h_q2, hf⟩ := bd_e hf
  refine r_callS (As := [.long (x1.toInt64), .long (0 : Int64), .long (60 : Int64)]) (rest := []) C hR hS mk_X10_in cl_X10_117 (k_X10_in h_q2) ⟨⟨Nat.le_of_ble_eq_true rfl, Nat.le_of_ble_eq_true rfl⟩, ⟨rfl, rfl⟩, Nat.le_of_ble_eq_true rfl, Nat.le_of_ble_eq_true rfl⟩ rfl hl.1 rfl (Nat.le_of_ble_eq_true rfl) dX10_years_11 (fun H locs hR hS hE1 z_q2 => ?_)
  have z_q2 := z_q2 _ rfl
  refine lv_if_ne (tgt := 19) C.x C.b dX10_years_14 (by decide) (fun c3 => ?_) (fun c3 => ?_)
  · have hf := it_f hf c3
    refine lv_aload_n C.x C.b dX10_years_19 rfl (lv_at hl 0 rfl) ?_
    obtain ⟨q4, h_q4, hf⟩ := bd_e hf
    refine r_callV (As := []) (rest := []) C hR hS t_r0 rfl mk_X10_putsBy cl_X10_333 (k_X10_putsBy t_r0 h_q4) ⟨⟨Nat.le_of_ble_eq_true rfl, Nat.le_of_ble_eq_true rfl⟩, ⟨rfl, rfl⟩, Nat.le_of_ble_eq_true rfl, Nat.le_of_ble_eq_true rfl⟩ rfl hl.1 rfl (Nat.le_of_ble_eq_true rfl) dX10_years_20 (fun H locs hR hS hE1 z_q4 => ?_)
    have hE := hE.tr hE1
    have t_r0 := hE1.at t_r0 (by decide)
    refine lv_aload_n C.x C.b dX10_years_23 rfl (lv_at hl 0 rfl) ?_
    refine lv_aload_n C.x C.b dX10_years_24 rfl (lv_at hl 0 rfl) ?_
    obtain ⟨g5, hf⟩ := gd_e hf
    refine r_getr C hR t_r0 fl_X10_20 (by decide) (nz_e g5) dX10_years_25 (fun tq6 => ?_)
    have tg5 := okA tq6 rfl
    refine lv_iload_n C.x C.b dX10_years_28 rfl (lv_at hl 1 rfl) ?_
    obtain ⟨q7, h_q7, hf⟩ := bd_e hf
    refine r_callV (As := [.ref (G.2.2 + (hpR q4 r0 6)), .int x1]) (rest := []) C hR hS t_r0 rfl mk_X10_goesOn cl_X10_336 (k_X10_goesOn t_r0 tg5 h_q7) ⟨⟨Nat.le_of_ble_eq_true rfl, Nat.le_of_ble_eq_true rfl⟩, ⟨rfl, rfl⟩, Nat.le_of_ble_eq_true rfl, Nat.le_of_ble_eq_true rfl⟩ rfl hl.1 rfl (Nat.le_of_ble_eq_true rfl) dX10_years_29 (fun H locs hR hS hE1 z_q7 => ?_)
    have hE := hE.tr hE1
    have t_r0 := hE1.at t_r0 (by decide)
    refine lv_aload_n C.x C.b dX10_years_32 rfl (lv_at hl 0 rfl) ?_
    refine lv_iconst (v := (0 : Int32)) C.x C.b dX10_years_33 (by decide) ?_
    refine r_puti C hR hS t_r0 fl_X10_110 fp_X10_10_1 rfl dX10_years_34 (fun H locs hR hS => ?_)
    obtain ⟨h8, e_h8⟩ : ∃ y, y = upI q7 r0 1 (0 : Int32) := ⟨_, rfl⟩
    rw [← e_h8] at hR
    have hf := lt_e hf e_h8
    have hE := eI e_h8 hE
    have t_r0 := tI e_h8 t_r0
    refine lv_aload_n C.x C.b dX10_years_37 rfl (lv_at hl 0 rfl) ?_
    refine lv_aload_n C.x C.b dX10_years_38 rfl (lv_at hl 0 rfl) ?_
    refine r_geti C hR t_r0 fl_X10_315 rfl dX10_years_39 ?_
    refine lv_i2l C.x C.b dX10_years_42 rfl ?_
    obtain ⟨q9, h_q9, hf⟩ := bd_e hf
    refine r_callV (As := [.long ((hpI h8 r0 25).toInt64)]) (rest := []) C hR hS t_r0 rfl mk_X10_enters cl_X10_339 (k_X10_enters t_r0 h_q9) ⟨⟨Nat.le_of_ble_eq_true rfl, Nat.le_of_ble_eq_true rfl⟩, ⟨rfl, rfl⟩, Nat.le_of_ble_eq_true rfl, Nat.le_of_ble_eq_true rfl⟩ rfl hl.1 rfl (Nat.le_of_ble_eq_true rfl) dX10_years_43 (fun H locs hR hS hE1 z_q9 => ?_)
    have hE := hE.tr hE1
    have t_r0 := hE1.at t_r0 (by decide)
    refine lv_aload_n C.x C.b dX10_years_46 rfl (lv_at hl 0 rfl) ?_
    refine lv_aload_n C.x C.b dX10_years_47 rfl (lv_at hl 0 rfl) ?_
    obtain ⟨g10, hf⟩ := gd_e hf
    refine r_getr C hR t_r0 fl_X10_20 (by decide) (nz_e g10) dX10_years_48 (fun tq11 => ?_)
    have tg10 := okA tq11 rfl
    refine lv_bipush (v := (24 : Int32)) C.x C.b dX10_years_51 (by decide) ?_
    obtain ⟨q12, h_q12, hf⟩ := bd_e hf
    refine r_callS (As := [.ref (G.2.2 + (hpR q9 r0 6)), .int (24 : Int32)]) (rest := [.ref (G.2.2 + r0)]) C hR hS mk_X10_sumOf cl_X10_305 (k_X10_sumOf tg10 h_q12) ⟨⟨Nat.le_of_ble_eq_true rfl, Nat.le_of_ble_eq_true rfl⟩, ⟨rfl, rfl⟩, Nat.le_of_ble_eq_true rfl, Nat.le_of_ble_eq_true rfl⟩ rfl hl.1 rfl (Nat.le_of_ble_eq_true rfl) dX10_years_53 (fun H locs hR hS hE1 z_q12 => ?_)
    refine lv_i2l C.x C.b dX10_years_56 rfl ?_
    obtain ⟨q13, h_q13, hf⟩ := bd_e hf
    refine r_callV (As := [.long (q12.toInt64)]) (rest := []) C hR hS t_r0 rfl mk_X10_enters cl_X10_339 (k_X10_enters t_r0 h_q13) ⟨⟨Nat.le_of_ble_eq_true rfl, Nat.le_of_ble_eq_true rfl⟩, ⟨rfl, rfl⟩, Nat.le_of_ble_eq_true rfl, Nat.le_of_ble_eq_true rfl⟩ rfl hl.1 rfl (Nat.le_of_ble_eq_true rfl) dX10_years_57 (fun H locs hR hS hE1 z_q13 => ?_)
    have hE := hE.tr hE1
    have t_r0 := hE1.at t_r0 (by decide)
    refine lv_aload_n C.x C.b dX10_years_60 rfl (lv_at hl 0 rfl) ?_
    refine lv_aload_n C.x C.b dX10_years_61 rfl (lv_at hl 0 rfl) ?_
    obtain ⟨g14, hf⟩ := gd_e hf
    refine r_getr C hR t_r0 fl_X10_20 (by decide) (nz_e g14) dX10_years_62 (fun tq15 => ?_)
    have tg14 := okA tq15 rfl
    obtain ⟨q16, h_q16, hf⟩ := bd_e hf
    refine r_callS (As := [.ref (G.2.2 + (hpR q13 r0 6))]) (rest := [.ref (G.2.2 + r0)]) C hR hS mk_X10_on cl_X10_311 (k_X10_on tg14 h_q16) ⟨⟨Nat.le_of_ble_eq_true rfl, Nat.le_of_ble_eq_true rfl⟩, ⟨rfl, rfl⟩, Nat.le_of_ble_eq_true rfl, Nat.le_of_ble_eq_true rfl⟩ rfl hl.1 rfl (Nat.le_of_ble_eq_true rfl) dX10_years_65 (fun H locs hR hS hE1 z_q16 => ?_)
    obtain ⟨q17, h_q17, hf⟩ := bd_e hf
    refine r_callS (As := [.int q16]) (rest := [.ref (G.2.2 + r0)]) C hR hS mk_J6_bitCount_0f7a4 cl_X10_264 (k_J6_bitCount_0f7a4 h_q17) ⟨⟨Nat.le_of_ble_eq_true rfl, Nat.le_of_ble_eq_true rfl⟩, ⟨rfl, rfl⟩, Nat.le_of_ble_eq_true rfl, Nat.le_of_ble_eq_true rfl⟩ rfl hl.1 rfl (Nat.le_of_ble_eq_true rfl) dX10_years_68 (fun H locs hR hS hE1 z_q17 => ?_)
    obtain ⟨q18, h_q18, hf⟩ := bd_e hf
    refine r_callV (As := [.int q17]) (rest := []) C hR hS t_r0 rfl mk_X10_adds cl_X10_308 (k_X10_adds t_r0 h_q18) ⟨⟨Nat.le_of_ble_eq_true rfl, Nat.le_of_ble_eq_true rfl⟩, ⟨rfl, rfl⟩, Nat.le_of_ble_eq_true rfl, Nat.le_of_ble_eq_true rfl⟩ rfl hl.1 rfl (Nat.le_of_ble_eq_true rfl) dX10_years_71 (fun H locs hR hS hE1 z_q18 => ?_)
    have hE := hE.tr hE1
    have t_r0 := hE1.at t_r0 (by decide)
    have hf := so_e hf
    subst hf
    exact r_iret C hr hlk hR hE hS dX10_years_74
  · have hf := it_t hf c3
    refine lv_iconst (v := (-1 : Int32)) C.x C.b dX10_years_17 (by decide) ?_
    have hf := so_e hf
    subst hf
    exact r_iret C hr hlk hR hE hS dX10_years_18

def rm_X10_pitch : Room := { frames := 6, cells := 0, slots := 0, locals := 150 }
set_option maxRecDepth 100000 in
set_option maxHeartbeats 4000000 in
theorem k_X10_pitch {G : Gt} {l : Launch}  {h : Hp} {r0 : Nat} {x1 : Int32} {x2 : Int32} {x3 : Int32} {x4 : Int32} {x5 : Int32} {out : (Int32 × Hp)} (t_r0 : hpT h r0 = (1, 10))  (hf : f_X10_pitch  h r0 x1 x2 x3 x4 x5 = some out) : Mt G l yX10_pitch cX10_pitch 6 (some .int) rm_X10_pitch [.ref (G.2.2 + r0), .int x1, .int x2, .int x3, .int x4, .int x5] h (some (.int out.1)) out.2 0 0 0 := by
  refine r_met (by decide +kernel) (Nat.le_of_ble_eq_true rfl) ?_
  intro p e s m args below meth c ls C hr hlk hnm hR hS hl
  have hE : Ext h h := Ext.rf
  have hl : lv_has ls 6 [(0, .ref (G.2.2 + r0)), (1, .int x1), (2, .int x2), (3, .int x3), (4, .int x4), (5, .int x5)] := hl
  rw [f_X10_pitch] at hf
  refine lv_aload_n C.x C.b dX10_pitch_0 rfl (lv_at hl 0 rfl) ?_
  refine lv_iconst (v := (0 : Int32)) C.x C.b dX10_pitch_1 (by decide) ?_
  refine r_puti C hR hS t_r0 fl_X10_103 fp_X10_10_0 rfl dX10_pitch_2 (fun H locs hR hS => ?_)
  obtain ⟨h1, e_h1⟩ : ∃ y, y = upI h r0 0 (0 : Int32) := ⟨_, rfl⟩
  rw [← e_h1] at hR
  have hf := lt_e hf e_h1
  have hE := eI e_h1 hE
  have t_r0 := tI e_h1 t_r0
  refine lv_aload_n C.x C.b dX10_pitch_5 rfl (lv_at hl 0 rfl) ?_
  obtain ⟨q2, h_q2, hf⟩ := bd_e hf
  refine r_callV (As := []) (rest := []) C hR hS t_r0 rfl mk_X10_putsBy cl_X10_333 (k_X10_putsBy t_r0 h_q2) ⟨⟨Nat.le_of_ble_eq_true rfl, Nat.le_of_ble_eq_true rfl⟩, ⟨rfl, rfl⟩, Nat.le_of_ble_eq_true rfl, Nat.le_of_ble_eq_true rfl⟩ rfl hl.1 rfl (Nat.le_of_ble_eq_true rfl) dX10_pitch_6 (fun H locs hR hS hE1 z_q2 => ?_)
  have hE := hE.tr hE1
  have t_r0 := hE1.at t_r0 (by decide)
  refine lv_aload_n C.x C.b dX10_pitch_9 rfl (lv_at hl 0 rfl) ?_
  refine lv_aload_n C.x C.b dX10_pitch_10 rfl (lv_at hl 0 rfl) ?_
  refine lv_aload_n C.x C.b dX10_pitch_11 rfl (lv_at hl 0 rfl) ?_
  obtain ⟨g3, hf⟩ := gd_e hf
  refine r_getr C hR t_r0 fl_X10_20 (by decide) (nz_e g3) dX10_pitch_12 (fun tq4 => ?_)
  have tg3 := okA tq4 rfl
  refine lv_iload_n C.x C.b dX10_pitch_15 rfl (lv_at hl 1 rfl) ?_
  refine lv_iload_n C.x C.b dX10_pitch_16 rfl (lv_at hl 2 rfl) ?_
  refine lv_iload_n C.x C.b dX10_pitch_17 rfl (lv_at hl 3 rfl) ?_
  refine lv_iload C.x C.b dX10_pitch_18 (lv_at hl 4 rfl) ?_
  refine lv_iload C.x C.b dX10_pitch_20 (lv_at hl 5 rfl) ?_
  obtain ⟨q5, h_q5, hf⟩ := bd_e hf
  refine r_callV (As := [.ref (G.2.2 + (hpR q2 r0 6)), .int x1, .int x2, .int x3, .int x4, .int x5]) (rest := [.ref (G.2.2 + r0)]) C hR hS t_r0 rfl mk_X10_pitches cl_X10_343 (k_X10_pitches t_r0 tg3 h_q5) ⟨⟨Nat.le_of_ble_eq_true rfl, Nat.le_of_ble_eq_true rfl⟩, ⟨rfl, rfl⟩, Nat.le_of_ble_eq_true rfl, Nat.le_of_ble_eq_true rfl⟩ rfl hl.1 rfl (Nat.le_of_ble_eq_true rfl) dX10_pitch_22 (fun H locs hR hS hE1 z_q5 => ?_)
  have hE := hE.tr hE1
  have t_r0 := hE1.at t_r0 (by decide)
  obtain ⟨q6, h_q6, hf⟩ := bd_e hf
  refine r_callV (As := [.int q5.1]) (rest := []) C hR hS t_r0 rfl mk_X10_counted cl_X10_347 (k_X10_counted t_r0 h_q6) ⟨⟨Nat.le_of_ble_eq_true rfl, Nat.le_of_ble_eq_true rfl⟩, ⟨rfl, rfl⟩, Nat.le_of_ble_eq_true rfl, Nat.le_of_ble_eq_true rfl⟩ rfl hl.1 rfl (Nat.le_of_ble_eq_true rfl) dX10_pitch_25 (fun H locs hR hS hE1 z_q6 => ?_)
  have hE := hE.tr hE1
  have t_r0 := hE1.at t_r0 (by decide)
  have hf := so_e hf
  subst hf
  exact r_iret C hr hlk hR hE hS dX10_pitch_28

def rm_X10_treads : Room := { frames := 3, cells := 0, slots := 0, locals := 68 }
set_option maxRecDepth 100000 in
set_option maxHeartbeats 4000000 in
theorem k_X10_treads {G : Gt} {l : Launch}  {h : Hp} {r0 : Nat} {x1 : Int32} {x2 : Int32} {out : (Int32 × Hp)} (t_r0 : hpT h r0 = (1, 10))  (hf : f_X10_treads  h r0 x1 x2 = some out) : Mt G l yX10_treads cX10_treads 3 (some .int) rm_X10_treads [.ref (G.2.2 + r0), .int x1, .int x2] h (some (.int out.1)) out.2 0 0 0 := by
  refine r_met (by decide +kernel) (Nat.le_of_ble_eq_true rfl) ?_
  intro p e s m args below meth c ls C hr hlk hnm hR hS hl
  have hE : Ext h h := Ext.rf
  have hl : lv_has ls 3 [(0, .ref (G.2.2 + r0)), (1, .int x1), (2, .int x2)] := hl
  rw [f_X10_treads] at hf
  refine lv_aload_n C.x C.b dX10_treads_0 rfl (lv_at hl 0 rfl) ?_
  refine lv_iconst (v := (0 : Int32)) C.x C.b dX10_treads_1 (by decide) ?_
  refine r_puti C hR hS t_r0 fl_X10_103 fp_X10_10_0 rfl dX10_treads_2 (fun H locs hR hS => ?_)
  obtain ⟨h1, e_h1⟩ : ∃ y, y = upI h r0 0 (0 : Int32) := ⟨_, rfl⟩
  rw [← e_h1] at hR
  have hf := lt_e hf e_h1
  have hE := eI e_h1 hE
  have t_r0 := tI e_h1 t_r0
  refine lv_aload_n C.x C.b dX10_treads_5 rfl (lv_at hl 0 rfl) ?_
  obtain ⟨q2, h_q2, hf⟩ := bd_e hf
  refine r_callV (As := []) (rest := []) C hR hS t_r0 rfl mk_X10_putsBy cl_X10_333 (k_X10_putsBy t_r0 h_q2) ⟨⟨Nat.le_of_ble_eq_true rfl, Nat.le_of_ble_eq_true rfl⟩, ⟨rfl, rfl⟩, Nat.le_of_ble_eq_true rfl, Nat.le_of_ble_eq_true rfl⟩ rfl hl.1 rfl (Nat.le_of_ble_eq_true rfl) dX10_treads_6 (fun H locs hR hS hE1 z_q2 => ?_)
  have hE := hE.tr hE1
  have t_r0 := hE1.at t_r0 (by decide)
  refine lv_aload_n C.x C.b dX10_treads_9 rfl (lv_at hl 0 rfl) ?_
  refine lv_aload_n C.x C.b dX10_treads_10 rfl (lv_at hl 0 rfl) ?_
  refine lv_iload_n C.x C.b dX10_treads_11 rfl (lv_at hl 1 rfl) ?_
  refine lv_iload_n C.x C.b dX10_treads_12 rfl (lv_at hl 2 rfl) ?_
  obtain ⟨q3, h_q3, hf⟩ := bd_e hf
  refine r_callV (As := [.int x1, .int x2]) (rest := [.ref (G.2.2 + r0)]) C hR hS t_r0 rfl mk_X10_treadsOn cl_X10_350 (k_X10_treadsOn t_r0 h_q3) ⟨⟨Nat.le_of_ble_eq_true rfl, Nat.le_of_ble_eq_true rfl⟩, ⟨rfl, rfl⟩, Nat.le_of_ble_eq_true rfl, Nat.le_of_ble_eq_true rfl⟩ rfl hl.1 rfl (Nat.le_of_ble_eq_true rfl) dX10_treads_13 (fun H locs hR hS hE1 z_q3 => ?_)
  have hE := hE.tr hE1
  have t_r0 := hE1.at t_r0 (by decide)
  obtain ⟨q4, h_q4, hf⟩ := bd_e hf
  refine r_callV (As := [.int q3.1]) (rest := []) C hR hS t_r0 rfl mk_X10_counted cl_X10_347 (k_X10_counted t_r0 h_q4) ⟨⟨Nat.le_of_ble_eq_true rfl, Nat.le_of_ble_eq_true rfl⟩, ⟨rfl, rfl⟩, Nat.le_of_ble_eq_true rfl, Nat.le_of_ble_eq_true rfl⟩ rfl hl.1 rfl (Nat.le_of_ble_eq_true rfl) dX10_treads_16 (fun H locs hR hS hE1 z_q4 => ?_)
  have hE := hE.tr hE1
  have t_r0 := hE1.at t_r0 (by decide)
  have hf := so_e hf
  subst hf
  exact r_iret C hr hlk hR hE hS dX10_treads_19

def rm_X10_sings : Room := { frames := 3, cells := 0, slots := 0, locals := 68 }
set_option maxRecDepth 100000 in
set_option maxHeartbeats 4000000 in
theorem k_X10_sings {G : Gt} {l : Launch}  {h : Hp} {r0 : Nat} {x1 : Int32} {x2 : Int32} {out : (Int32 × Hp)} (t_r0 : hpT h r0 = (1, 10))  (hf : f_X10_sings  h r0 x1 x2 = some out) : Mt G l yX10_sings cX10_sings 3 (some .int) rm_X10_sings [.ref (G.2.2 + r0), .int x1, .int x2] h (some (.int out.1)) out.2 0 0 0 := by
  refine r_met (by decide +kernel) (Nat.le_of_ble_eq_true rfl) ?_
  intro p e s m args below meth c ls C hr hlk hnm hR hS hl
  have hE : Ext h h := Ext.rf
  have hl : lv_has ls 3 [(0, .ref (G.2.2 + r0)), (1, .int x1), (2, .int x2)] := hl
  rw [f_X10_sings] at hf
  refine lv_aload_n C.x C.b dX10_sings_0 rfl (lv_at hl 0 rfl) ?_
  refine lv_iconst (v := (0 : Int32)) C.x C.b dX10_sings_1 (by decide) ?_
  refine r_puti C hR hS t_r0 fl_X10_103 fp_X10_10_0 rfl dX10_sings_2 (fun H locs hR hS => ?_)
  obtain ⟨h1, e_h1⟩ : ∃ y, y = upI h r0 0 (0 : Int32) := ⟨_, rfl⟩
  rw [← e_h1] at hR
  have hf := lt_e hf e_h1
  have hE := eI e_h1 hE
  have t_r0 := tI e_h1 t_r0
  refine lv_aload_n C.x C.b dX10_sings_5 rfl (lv_at hl 0 rfl) ?_
  obtain ⟨q2, h_q2, hf⟩ := bd_e hf
  refine r_callV (As := []) (rest := []) C hR hS t_r0 rfl mk_X10_putsBy cl_X10_333 (k_X10_putsBy t_r0 h_q2) ⟨⟨Nat.le_of_ble_eq_true rfl, Nat.le_of_ble_eq_true rfl⟩, ⟨rfl, rfl⟩, Nat.le_of_ble_eq_true rfl, Nat.le_of_ble_eq_true rfl⟩ rfl hl.1 rfl (Nat.le_of_ble_eq_true rfl) dX10_sings_6 (fun H locs hR hS hE1 z_q2 => ?_)
  have hE := hE.tr hE1
  have t_r0 := hE1.at t_r0 (by decide)
  refine lv_aload_n C.x C.b dX10_sings_9 rfl (lv_at hl 0 rfl) ?_
  refine lv_aload_n C.x C.b dX10_sings_10 rfl (lv_at hl 0 rfl) ?_
  refine lv_iload_n C.x C.b dX10_sings_11 rfl (lv_at hl 1 rfl) ?_
  refine lv_iload_n C.x C.b dX10_sings_12 rfl (lv_at hl 2 rfl) ?_
  obtain ⟨q3, h_q3, hf⟩ := bd_e hf
  refine r_callV (As := [.int x1, .int x2]) (rest := [.ref (G.2.2 + r0)]) C hR hS t_r0 rfl mk_X10_singsTo cl_X10_353 (k_X10_singsTo t_r0 h_q3) ⟨⟨Nat.le_of_ble_eq_true rfl, Nat.le_of_ble_eq_true rfl⟩, ⟨rfl, rfl⟩, Nat.le_of_ble_eq_true rfl, Nat.le_of_ble_eq_true rfl⟩ rfl hl.1 rfl (Nat.le_of_ble_eq_true rfl) dX10_sings_13 (fun H locs hR hS hE1 z_q3 => ?_)
  have hE := hE.tr hE1
  have t_r0 := hE1.at t_r0 (by decide)
  obtain ⟨q4, h_q4, hf⟩ := bd_e hf
  refine r_callV (As := [.int q3.1]) (rest := []) C hR hS t_r0 rfl mk_X10_counted cl_X10_347 (k_X10_counted t_r0 h_q4) ⟨⟨Nat.le_of_ble_eq_true rfl, Nat.le_of_ble_eq_true rfl⟩, ⟨rfl, rfl⟩, Nat.le_of_ble_eq_true rfl, Nat.le_of_ble_eq_true rfl⟩ rfl hl.1 rfl (Nat.le_of_ble_eq_true rfl) dX10_sings_16 (fun H locs hR hS hE1 z_q4 => ?_)
  have hE := hE.tr hE1
  have t_r0 := hE1.at t_r0 (by decide)
  have hf := so_e hf
  subst hf
  exact r_iret C hr hlk hR hE hS dX10_sings_19

def rm_X10_moves : Room := { frames := 2, cells := 0, slots := 0, locals := 50 }
set_option maxRecDepth 100000 in
set_option maxHeartbeats 4000000 in
theorem k_X10_moves {G : Gt} {l : Launch}  {h : Hp} {r0 : Nat} {x1 : Int32} {x2 : Int32} {out : (Int32 × Hp)} (t_r0 : hpT h r0 = (1, 10))  (hf : f_X10_moves  h r0 x1 x2 = some out) : Mt G l yX10_moves cX10_moves 3 (some .int) rm_X10_moves [.ref (G.2.2 + r0), .int x1, .int x2] h (some (.int out.1)) out.2 0 0 0 := by
  refine r_met (by decide +kernel) (Nat.le_of_ble_eq_true rfl) ?_
  intro p e s m args below meth c ls C hr hlk hnm hR hS hl
  have hE : Ext h h := Ext.rf
  have hl : lv_has ls 3 [(0, .ref (G.2.2 + r0)), (1, .int x1), (2, .int x2)] := hl
  rw [f_X10_moves] at hf
  refine lv_aload_n C.x C.b dX10_moves_0 rfl (lv_at hl 0 rfl) ?_
  refine lv_iconst (v := (0 : Int32)) C.x C.b dX10_moves_1 (by decide) ?_
  refine r_puti C hR hS t_r0 fl_X10_103 fp_X10_10_0 rfl dX10_moves_2 (fun H locs hR hS => ?_)
  obtain ⟨h1, e_h1⟩ : ∃ y, y = upI h r0 0 (0 : Int32) := ⟨_, rfl⟩
  rw [← e_h1] at hR
  have hf := lt_e hf e_h1
  have hE := eI e_h1 hE
  have t_r0 := tI e_h1 t_r0
  refine lv_aload_n C.x C.b dX10_moves_5 rfl (lv_at hl 0 rfl) ?_
  obtain ⟨q2, h_q2, hf⟩ := bd_e hf
  refine r_callV (As := []) (rest := []) C hR hS t_r0 rfl mk_X10_putsBy cl_X10_333 (k_X10_putsBy t_r0 h_q2) ⟨⟨Nat.le_of_ble_eq_true rfl, Nat.le_of_ble_eq_true rfl⟩, ⟨rfl, rfl⟩, Nat.le_of_ble_eq_true rfl, Nat.le_of_ble_eq_true rfl⟩ rfl hl.1 rfl (Nat.le_of_ble_eq_true rfl) dX10_moves_6 (fun H locs hR hS hE1 z_q2 => ?_)
  have hE := hE.tr hE1
  have t_r0 := hE1.at t_r0 (by decide)
  refine lv_aload_n C.x C.b dX10_moves_9 rfl (lv_at hl 0 rfl) ?_
  refine lv_aload_n C.x C.b dX10_moves_10 rfl (lv_at hl 0 rfl) ?_
  refine lv_aload_n C.x C.b dX10_moves_11 rfl (lv_at hl 0 rfl) ?_
  obtain ⟨g3, hf⟩ := gd_e hf
  refine r_getr C hR t_r0 fl_X10_20 (by decide) (nz_e g3) dX10_moves_12 (fun tq4 => ?_)
  have tg3 := okA tq4 rfl
  refine lv_iload_n C.x C.b dX10_moves_15 rfl (lv_at hl 1 rfl) ?_
  refine lv_iload_n C.x C.b dX10_moves_16 rfl (lv_at hl 2 rfl) ?_
  obtain ⟨q5, h_q5, hf⟩ := bd_e hf
  refine r_callV (As := [.ref (G.2.2 + (hpR q2 r0 6)), .int x1, .int x2]) (rest := [.ref (G.2.2 + r0)]) C hR hS t_r0 rfl mk_X10_movesOne cl_X10_356 (k_X10_movesOne t_r0 tg3 h_q5) ⟨⟨Nat.le_of_ble_eq_true rfl, Nat.le_of_ble_eq_true rfl⟩, ⟨rfl, rfl⟩, Nat.le_of_ble_eq_true rfl, Nat.le_of_ble_eq_true rfl⟩ rfl hl.1 rfl (Nat.le_of_ble_eq_true rfl) dX10_moves_17 (fun H locs hR hS hE1 z_q5 => ?_)
  have hE := hE.tr hE1
  have t_r0 := hE1.at t_r0 (by decide)
  obtain ⟨q6, h_q6, hf⟩ := bd_e hf
  refine r_callV (As := [.int q5.1]) (rest := []) C hR hS t_r0 rfl mk_X10_counted cl_X10_347 (k_X10_counted t_r0 h_q6) ⟨⟨Nat.le_of_ble_eq_true rfl, Nat.le_of_ble_eq_true rfl⟩, ⟨rfl, rfl⟩, Nat.le_of_ble_eq_true rfl, Nat.le_of_ble_eq_true rfl⟩ rfl hl.1 rfl (Nat.le_of_ble_eq_true rfl) dX10_moves_20 (fun H locs hR hS hE1 z_q6 => ?_)
  have hE := hE.tr hE1
  have t_r0 := hE1.at t_r0 (by decide)
  have hf := so_e hf
  subst hf
  exact r_iret C hr hlk hR hE hS dX10_moves_23

def rm_X10_readsAct : Room := { frames := 5, cells := 0, slots := 0, locals := 142 }
def P_X10_readsAct_155 (G : Gt) (l : Launch) (p : Program) (e : Env) (s : State) (m : MethodId) (args : Array Value) (below : List Frame) (meth : Method) (c : Code) (h0 : Hp) (out : (Int32 × Hp)) (r0 : Nat) (k : Hp → Int32 → Int32 → Int32 → Int32 → Option (Int32 × Hp)) : Prop := ∀ (H : Heap) (locs : List Loc) (ls : Array Slot) (h : Hp) (s0 : Int32) (x1 : Int32) (x2 : Int32) (x4 : Int32), k h s0 x1 x2 x4 = some out → Ext h0 h → Rel G h H → va_S (AA G.2.2) s.heap H locs → hpT h r0 = (1, 10) → narrow .boolean (.int s0) = .int s0 → lv_has ls 5 [(0, .ref (G.2.2 + r0)), (1, .int x1), (2, .int x2), (4, .int x4)] → W p l e rm_X10_readsAct s m args below meth c H locs 0 0 (MQ below (Qm G h0 out.2 (some (.int out.1)) 1) args s 0 0 (AA G.2.2)) (F0 m 155 ls [.int s0])
def P_X10_readsAct_126 (G : Gt) (l : Launch) (p : Program) (e : Env) (s : State) (m : MethodId) (args : Array Value) (below : List Frame) (meth : Method) (c : Code) (h0 : Hp) (out : (Int32 × Hp)) (r0 : Nat) (k : Hp → Nat → Int32 → Nat → Int32 → Int32 → Int32 → Int32 → Option (Int32 × Hp)) : Prop := ∀ (H : Heap) (locs : List Loc) (ls : Array Slot) (h : Hp) (s0 : Nat) (s1 : Int32) (s2 : Nat) (s3 : Int32) (x1 : Int32) (x2 : Int32) (x4 : Int32), k h s0 s1 s2 s3 x1 x2 x4 = some out → Ext h0 h → Rel G h H → va_S (AA G.2.2) s.heap H locs → hpT h r0 = (1, 10) → (hpT h s0).1 = 2 → hpT h s2 = (1, 10) → narrow .boolean (.int s3) = .int s3 → lv_has ls 5 [(0, .ref (G.2.2 + r0)), (1, .int x1), (2, .int x2), (4, .int x4)] → W p l e rm_X10_readsAct s m args below meth c H locs 0 0 (MQ below (Qm G h0 out.2 (some (.int out.1)) 1) args s 0 0 (AA G.2.2)) (F0 m 126 ls [.int s3, .ref (G.2.2 + s2), .int s1, .ref (G.2.2 + s0)])
def P_X10_readsAct_125 (G : Gt) (l : Launch) (p : Program) (e : Env) (s : State) (m : MethodId) (args : Array Value) (below : List Frame) (meth : Method) (c : Code) (h0 : Hp) (out : (Int32 × Hp)) (r0 : Nat) (k : Hp → Nat → Int32 → Nat → Int32 → Int32 → Int32 → Option (Int32 × Hp)) : Prop := ∀ (H : Heap) (locs : List Loc) (ls : Array Slot) (h : Hp) (s0 : Nat) (s1 : Int32) (s2 : Nat) (x1 : Int32) (x2 : Int32) (x4 : Int32), k h s0 s1 s2 x1 x2 x4 = some out → Ext h0 h → Rel G h H → va_S (AA G.2.2) s.heap H locs → hpT h r0 = (1, 10) → (hpT h s0).1 = 2 → hpT h s2 = (1, 10) → lv_has ls 5 [(0, .ref (G.2.2 + r0)), (1, .int x1), (2, .int x2), (4, .int x4)] → W p l e rm_X10_readsAct s m args below meth c H locs 0 0 (MQ below (Qm G h0 out.2 (some (.int out.1)) 1) args s 0 0 (AA G.2.2)) (F0 m 125 ls [.ref (G.2.2 + s2), .int s1, .ref (G.2.2 + s0)])
def P_X10_readsAct_74 (G : Gt) (l : Launch) (p : Program) (e : Env) (s : State) (m : MethodId) (args : Array Value) (below : List Frame) (meth : Method) (c : Code) (h0 : Hp) (out : (Int32 × Hp)) (r0 : Nat) (k : Hp → Int32 → Int32 → Int32 → Int32 → Option (Int32 × Hp)) : Prop := ∀ (H : Heap) (locs : List Loc) (ls : Array Slot) (h : Hp) (x1 : Int32) (x2 : Int32) (x3 : Int32) (x4 : Int32), k h x1 x2 x3 x4 = some out → Ext h0 h → Rel G h H → va_S (AA G.2.2) s.heap H locs → hpT h r0 = (1, 10) → narrow .boolean (.int x3) = .int x3 → lv_has ls 5 [(0, .ref (G.2.2 + r0)), (1, .int x1), (2, .int x2), (3, .int x3), (4, .int x4)] → W p l e rm_X10_readsAct s m args below meth c H locs 0 0 (MQ below (Qm G h0 out.2 (some (.int out.1)) 1) args s 0 0 (AA G.2.2)) (F0 m 74 ls [])
def P_X10_readsAct_68 (G : Gt) (l : Launch) (p : Program) (e : Env) (s : State) (m : MethodId) (args : Array Value) (below : List Frame) (meth : Method) (c : Code) (h0 : Hp) (out : (Int32 × Hp)) (r0 : Nat) (k : Hp → Int32 → Int32 → Option (Int32 × Hp)) : Prop := ∀ (H : Heap) (locs : List Loc) (ls : Array Slot) (h : Hp) (s0 : Int32) (x1 : Int32), k h s0 x1 = some out → Ext h0 h → Rel G h H → va_S (AA G.2.2) s.heap H locs → hpT h r0 = (1, 10) → lv_has ls 5 [(0, .ref (G.2.2 + r0)), (1, .int x1)] → W p l e rm_X10_readsAct s m args below meth c H locs 0 0 (MQ below (Qm G h0 out.2 (some (.int out.1)) 1) args s 0 0 (AA G.2.2)) (F0 m 68 ls [.int s0])
set_option maxRecDepth 100000 in
set_option maxHeartbeats 4000000 in
theorem w_X10_readsAct_155 {G : Gt} {l : Launch} {p : Program} {e : Env} {s : State} {m : MethodId} {args : Array Value} {below : List Frame} {meth : Method} {c : Code}  {h0 : Hp} {out : (Int32 × Hp)} {r0 : Nat} {k74 : Hp → Int32 → Int32 → Int32 → Int32 → Option (Int32 × Hp)} (C : Cx G p m c cX10_readsAct 5 s args RX10) (hr : meth.sig.returnType = some .boolean) (hlk : meth.locks = false)  (hk74 : P_X10_readsAct_74 G l p e s m args below meth c h0 out r0 k74) : P_X10_readsAct_155 G l p e s m args below meth c h0 out r0 (f_X10_readsAct_155 r0 k74) := by
  intro H locs ls h s0 x1 x2 x4 hf hE hR hS t_r0 z_s0 hl
  rw [f_X10_readsAct_155] at hf
  refine lv_istore_n (lv' := [(3, .int s0), (0, .ref (G.2.2 + r0)), (1, .int x1), (2, .int x2), (4, .int x4)]) C.x C.b dX10_readsAct_155 rfl hl (by decide) rfl (fun ls hl => ?_)
  obtain ⟨v36, e_v36⟩ : ∃ y : Int32, y = x4 + (1 : Int32) := ⟨_, rfl⟩
  have hf := lt_e hf e_v36
  refine lv_iinc (v := v36) (lv' := [(4, .int v36), (3, .int s0), (0, .ref (G.2.2 + r0)), (1, .int x1), (2, .int x2)]) C.x C.b dX10_readsAct_156 hl (k := 4) rfl (by rw [e_v36]; rfl) (by decide) rfl (fun ls hl => ?_)
  refine lv_goto (tgt := 74) C.x C.b dX10_readsAct_159 (by decide) ?_
  exact hk74 _ _ _ _ _ _ _ _ hf hE hR hS t_r0 z_s0 (lv_sub hl [2, 3, 4, 1, 0] rfl)
set_option maxRecDepth 100000 in
set_option maxHeartbeats 4000000 in
theorem w_X10_readsAct_126 {G : Gt} {l : Launch} {p : Program} {e : Env} {s : State} {m : MethodId} {args : Array Value} {below : List Frame} {meth : Method} {c : Code}  {h0 : Hp} {out : (Int32 × Hp)} {r0 : Nat} {k74 : Hp → Int32 → Int32 → Int32 → Int32 → Option (Int32 × Hp)} (C : Cx G p m c cX10_readsAct 5 s args RX10) (hr : meth.sig.returnType = some .boolean) (hlk : meth.locks = false)  (hk74 : P_X10_readsAct_74 G l p e s m args below meth c h0 out r0 k74) : P_X10_readsAct_126 G l p e s m args below meth c h0 out r0 (f_X10_readsAct_126 r0 k74) := by
  intro H locs ls h s0 s1 s2 s3 x1 x2 x4 hf hE hR hS t_r0 t_s0 t_s2 z_s3 hl
  rw [f_X10_readsAct_126] at hf
  obtain ⟨q28, h_q28, hf⟩ := bd_e hf
  refine r_callS (As := [.int s3]) (rest := [.ref (G.2.2 + s2), .int s1, .ref (G.2.2 + s0)]) C hR hS mk_X10_flag cl_X10_163 (k_X10_flag h_q28) ⟨⟨Nat.le_of_ble_eq_true rfl, Nat.le_of_ble_eq_true rfl⟩, ⟨rfl, rfl⟩, Nat.le_of_ble_eq_true rfl, Nat.le_of_ble_eq_true rfl⟩ rfl hl.1 rfl (Nat.le_of_ble_eq_true rfl) dX10_readsAct_126 (fun H locs hR hS hE1 z_q28 => ?_)
  refine lv_bipush (v := (9 : Int32)) C.x C.b dX10_readsAct_129 (by decide) ?_
  obtain ⟨q29, h_q29, hf⟩ := bd_e hf
  refine r_callV (As := [.int q28, .int (9 : Int32)]) (rest := [.int s1, .ref (G.2.2 + s0)]) C hR hS t_s2 rfl mk_X10_digitIn cl_X10_188 (k_X10_digitIn t_s2 h_q29) ⟨⟨Nat.le_of_ble_eq_true rfl, Nat.le_of_ble_eq_true rfl⟩, ⟨rfl, rfl⟩, Nat.le_of_ble_eq_true rfl, Nat.le_of_ble_eq_true rfl⟩ rfl hl.1 rfl (Nat.le_of_ble_eq_true rfl) dX10_readsAct_131 (fun H locs hR hS hE1 z_q29 => ?_)
  have hE := hE.tr hE1
  have t_s0 := hE1.k t_s0 (by decide)
  have t_r0 := hE1.at t_r0 (by decide)
  obtain ⟨g30, hf⟩ := gd_e hf
  refine r_iast C hR hS t_s0 g30 dX10_readsAct_134 (fun H locs hR hS => ?_)
  obtain ⟨h31, e_h31⟩ : ∃ y, y = upI q29.2 s0 (ix s1) q29.1 := ⟨_, rfl⟩
  rw [← e_h31] at hR
  have hf := lt_e hf e_h31
  have hE := eI e_h31 hE
  have t_r0 := tI e_h31 t_r0
  refine lv_aload_n C.x C.b dX10_readsAct_135 rfl (lv_at hl 0 rfl) ?_
  obtain ⟨g32, hf⟩ := gd_e hf
  refine r_getr C hR t_r0 fl_X10_57 (by decide) (nz_e g32) dX10_readsAct_136 (fun tq33 => ?_)
  have tg32 := okA tq33 rfl
  refine lv_bipush (v := (6 : Int32)) C.x C.b dX10_readsAct_139 (by decide) ?_
  refine lv_iload_n C.x C.b dX10_readsAct_141 rfl (lv_at hl 1 rfl) ?_
  refine lv_imul C.x C.b dX10_readsAct_142 ?_
  refine lv_iload C.x C.b dX10_readsAct_143 (lv_at hl 3 rfl) ?_
  refine lv_iadd C.x C.b dX10_readsAct_145 ?_
  obtain ⟨g34, hf⟩ := gd_e hf
  refine r_iald C hR tg32 g34 dX10_readsAct_146 ?_
  refine lv_if_lt (tgt := 154) C.x C.b dX10_readsAct_147 (by decide) (fun c35 => ?_) (fun c35 => ?_)
  · simp only [if_pos c35] at hf
    refine lv_iconst (v := (0 : Int32)) C.x C.b dX10_readsAct_154 (by decide) ?_
    exact w_X10_readsAct_155 C hr hlk hk74 _ _ _ _ _ _ _ _ hf hE hR hS t_r0 z_0 (lv_sub hl [0, 1, 2, 3] rfl)
  · simp only [if_neg c35] at hf
    refine lv_iconst (v := (1 : Int32)) C.x C.b dX10_readsAct_150 (by decide) ?_
    refine lv_goto (tgt := 155) C.x C.b dX10_readsAct_151 (by decide) ?_
    exact w_X10_readsAct_155 C hr hlk hk74 _ _ _ _ _ _ _ _ hf hE hR hS t_r0 z_1 (lv_sub hl [0, 1, 2, 3] rfl)
set_option maxRecDepth 100000 in
set_option maxHeartbeats 4000000 in
theorem w_X10_readsAct_125 {G : Gt} {l : Launch} {p : Program} {e : Env} {s : State} {m : MethodId} {args : Array Value} {below : List Frame} {meth : Method} {c : Code}  {h0 : Hp} {out : (Int32 × Hp)} {r0 : Nat} {k74 : Hp → Int32 → Int32 → Int32 → Int32 → Option (Int32 × Hp)} (C : Cx G p m c cX10_readsAct 5 s args RX10) (hr : meth.sig.returnType = some .boolean) (hlk : meth.locks = false)  (hk74 : P_X10_readsAct_74 G l p e s m args below meth c h0 out r0 k74) : P_X10_readsAct_125 G l p e s m args below meth c h0 out r0 (f_X10_readsAct_125 r0 k74) := by
  intro H locs ls h s0 s1 s2 x1 x2 x4 hf hE hR hS t_r0 t_s0 t_s2 hl
  rw [f_X10_readsAct_125] at hf
  refine lv_iconst (v := (0 : Int32)) C.x C.b dX10_readsAct_125 (by decide) ?_
  exact w_X10_readsAct_126 C hr hlk hk74 _ _ _ _ _ _ _ _ _ _ _ hf hE hR hS t_r0 t_s0 t_s2 z_0 (lv_sub hl [0, 1, 2, 3] rfl)
set_option maxRecDepth 100000 in
set_option maxHeartbeats 4000000 in
theorem w_X10_readsAct_74 {G : Gt} {l : Launch} {p : Program} {e : Env} {s : State} {m : MethodId} {args : Array Value} {below : List Frame} {meth : Method} {c : Code}  {h0 : Hp} {out : (Int32 × Hp)} {r0 : Nat}  (C : Cx G p m c cX10_readsAct 5 s args RX10) (hr : meth.sig.returnType = some .boolean) (hlk : meth.locks = false)   (n : Nat) : P_X10_readsAct_74 G l p e s m args below meth c h0 out r0 (f_X10_readsAct_74 r0 n) := by
  induction n with
  | zero => intro H locs ls h x1 x2 x3 x4 hf hE hR hS t_r0 z_x3 hl; cases hf
  | succ n hk74 =>
    intro H locs ls h x1 x2 x3 x4 hf hE hR hS t_r0 z_x3 hl
    rw [f_X10_readsAct_74] at hf
    obtain ⟨k74, e_k74⟩ : ∃ y, y = f_X10_readsAct_74 r0 n := ⟨_, rfl⟩
    have hf := lt_e hf e_k74
    rw [← e_k74] at hk74
    refine lv_iload C.x C.b dX10_readsAct_74 (lv_at hl 4 rfl) ?_
    refine lv_iload_n C.x C.b dX10_readsAct_76 rfl (lv_at hl 2 rfl) ?_
    refine lv_icmp_ge (tgt := 162) C.x C.b dX10_readsAct_77 (by decide) (fun c18 => ?_) (fun c18 => ?_)
    · have hf := it_t hf c18
      refine lv_iload_n C.x C.b dX10_readsAct_162 rfl (lv_at hl 3 rfl) ?_
      have hf := so_e hf
      subst hf
      exact r_zret C hr hlk hR hE hS z_x3 dX10_readsAct_163
    · have hf := it_f hf c18
      refine lv_iload_n C.x C.b dX10_readsAct_80 rfl (lv_at hl 3 rfl) ?_
      refine lv_if_eq (tgt := 162) C.x C.b dX10_readsAct_81 (by decide) (fun c19 => ?_) (fun c19 => ?_)
      · have hf := it_t hf c19
        refine lv_iload_n C.x C.b dX10_readsAct_162 rfl (lv_at hl 3 rfl) ?_
        have hf := so_e hf
        subst hf
        exact r_zret C hr hlk hR hE hS z_x3 dX10_readsAct_163
      · have hf := it_f hf c19
        refine lv_aload_n C.x C.b dX10_readsAct_84 rfl (lv_at hl 0 rfl) ?_
        obtain ⟨g20, hf⟩ := gd_e hf
        refine r_getr C hR t_r0 fl_X10_57 (by decide) (nz_e g20) dX10_readsAct_85 (fun tq21 => ?_)
        have tg20 := okA tq21 rfl
        refine lv_bipush (v := (6 : Int32)) C.x C.b dX10_readsAct_88 (by decide) ?_
        refine lv_iload_n C.x C.b dX10_readsAct_90 rfl (lv_at hl 1 rfl) ?_
        refine lv_imul C.x C.b dX10_readsAct_91 ?_
        refine lv_iload C.x C.b dX10_readsAct_92 (lv_at hl 4 rfl) ?_
        refine lv_iadd C.x C.b dX10_readsAct_94 ?_
        refine lv_aload_n C.x C.b dX10_readsAct_95 rfl (lv_at hl 0 rfl) ?_
        refine lv_iload C.x C.b dX10_readsAct_96 (lv_at hl 4 rfl) ?_
        refine lv_iconst (v := (1 : Int32)) C.x C.b dX10_readsAct_98 (by decide) ?_
        refine lv_icmp_ne (tgt := 125) C.x C.b dX10_readsAct_99 (by decide) (fun c22 => ?_) (fun c22 => ?_)
        · have hf := it_f hf c22
          exact w_X10_readsAct_125 C hr hlk hk74 _ _ _ _ _ _ _ _ _ _ hf hE hR hS t_r0 tg20 t_r0 (lv_sub hl [0, 1, 2, 4] rfl)
        · have hf := it_t hf c22
          refine lv_aload_n C.x C.b dX10_readsAct_102 rfl (lv_at hl 0 rfl) ?_
          obtain ⟨g23, hf⟩ := gd_e hf
          refine r_getr C hR t_r0 fl_X10_54 (by decide) (nz_e g23) dX10_readsAct_103 (fun tq24 => ?_)
          have tg23 := okA tq24 rfl
          refine lv_iload_n C.x C.b dX10_readsAct_106 rfl (lv_at hl 1 rfl) ?_
          obtain ⟨g25, hf⟩ := gd_e hf
          refine r_iald C hR tg23 g25 dX10_readsAct_107 ?_
          refine lv_i2l C.x C.b dX10_readsAct_108 rfl ?_
          refine lv_ldc2 C.x C.b C.ow (C.ts _ lk_X10_292) dX10_readsAct_109 ?_
          refine lv_ldc2 C.x C.b C.ow (C.ts _ lk_X10_303) dX10_readsAct_112 ?_
          obtain ⟨q26, h_q26, hf⟩ := bd_e hf
          refine r_callS (As := [.long ((hpI h (hpR h r0 26) (ix x1)).toInt64), .long (2 : Int64), .long (3 : Int64)]) (rest := [.ref (G.2.2 + r0), .int (((6 : Int32) * x1) + x4), .ref (G.2.2 + (hpR h r0 27))]) C hR hS mk_X10_in cl_X10_117 (k_X10_in h_q26) ⟨⟨Nat.le_of_ble_eq_true rfl, Nat.le_of_ble_eq_true rfl⟩, ⟨rfl, rfl⟩, Nat.le_of_ble_eq_true rfl, Nat.le_of_ble_eq_true rfl⟩ rfl hl.1 rfl (Nat.le_of_ble_eq_true rfl) dX10_readsAct_115 (fun H locs hR hS hE1 z_q26 => ?_)
          have z_q26 := z_q26 _ rfl
          refine lv_if_eq (tgt := 125) C.x C.b dX10_readsAct_118 (by decide) (fun c27 => ?_) (fun c27 => ?_)
          · have hf := it_t hf c27
            exact w_X10_readsAct_125 C hr hlk hk74 _ _ _ _ _ _ _ _ _ _ hf hE hR hS t_r0 tg20 t_r0 (lv_sub hl [0, 1, 2, 4] rfl)
          · have hf := it_f hf c27
            refine lv_iconst (v := (1 : Int32)) C.x C.b dX10_readsAct_121 (by decide) ?_
            refine lv_goto (tgt := 126) C.x C.b dX10_readsAct_122 (by decide) ?_
            exact w_X10_readsAct_126 C hr hlk hk74 _ _ _ _ _ _ _ _ _ _ _ hf hE hR hS t_r0 tg20 t_r0 z_1 (lv_sub hl [0, 1, 2, 4] rfl)
set_option maxRecDepth 100000 in
set_option maxHeartbeats 4000000 in
theorem w_X10_readsAct_68 {G : Gt} {l : Launch} {p : Program} {e : Env} {s : State} {m : MethodId} {args : Array Value} {below : List Frame} {meth : Method} {c : Code}  {h0 : Hp} {out : (Int32 × Hp)} {r0 : Nat}  (C : Cx G p m c cX10_readsAct 5 s args RX10) (hr : meth.sig.returnType = some .boolean) (hlk : meth.locks = false)   : P_X10_readsAct_68 G l p e s m args below meth c h0 out r0 (f_X10_readsAct_68 r0) := by
  intro H locs ls h s0 x1 hf hE hR hS t_r0 hl
  rw [f_X10_readsAct_68] at hf
  refine lv_istore_n (lv' := [(2, .int s0), (0, .ref (G.2.2 + r0)), (1, .int x1)]) C.x C.b dX10_readsAct_68 rfl hl (by decide) rfl (fun ls hl => ?_)
  refine lv_iconst (v := (1 : Int32)) C.x C.b dX10_readsAct_69 (by decide) ?_
  refine lv_istore_n (lv' := [(3, .int (1 : Int32)), (2, .int s0), (0, .ref (G.2.2 + r0)), (1, .int x1)]) C.x C.b dX10_readsAct_70 rfl hl (by decide) rfl (fun ls hl => ?_)
  refine lv_iconst (v := (0 : Int32)) C.x C.b dX10_readsAct_71 (by decide) ?_
  refine lv_istore (lv' := [(4, .int (0 : Int32)), (3, .int (1 : Int32)), (2, .int s0), (0, .ref (G.2.2 + r0)), (1, .int x1)]) C.x C.b dX10_readsAct_72 hl (by decide) rfl (fun ls hl => ?_)
  exact w_X10_readsAct_74 C hr hlk FU _ _ _ _ _ _ _ _ hf hE hR hS t_r0 z_1 (lv_sub hl [3, 4, 2, 1, 0] rfl)
set_option maxRecDepth 100000 in
set_option maxHeartbeats 4000000 in
theorem k_X10_readsAct {G : Gt} {l : Launch}  {h : Hp} {r0 : Nat} {out : (Int32 × Hp)} (t_r0 : hpT h r0 = (1, 10))  (hf : f_X10_readsAct  h r0 = some out) : Mt G l yX10_readsAct cX10_readsAct 5 (some .boolean) rm_X10_readsAct [.ref (G.2.2 + r0)] h (some (.int out.1)) out.2 1 0 0 := by
  refine r_met (by decide +kernel) (Nat.le_of_ble_eq_true rfl) ?_
  intro p e s m args below meth c ls C hr hlk hnm hR hS hl
  have hE : Ext h h := Ext.rf
  have hl : lv_has ls 5 [(0, .ref (G.2.2 + r0))] := hl
  rw [f_X10_readsAct] at hf
  refine lv_aload_n C.x C.b dX10_readsAct_0 rfl (lv_at hl 0 rfl) ?_
  refine r_geti C hR t_r0 fl_X10_360 rfl dX10_readsAct_1 ?_
  refine lv_topi (fun v1 e_v1 => ?_)
  have hf := lt_e hf e_v1
  refine lv_istore_n (lv' := [(1, .int v1), (0, .ref (G.2.2 + r0))]) C.x C.b dX10_readsAct_4 rfl hl (by decide) rfl (fun ls hl => ?_)
  refine lv_aload_n C.x C.b dX10_readsAct_5 rfl (lv_at hl 1 rfl) ?_
  obtain ⟨g2, hf⟩ := gd_e hf
  refine r_getr C hR t_r0 fl_X10_54 (by decide) (nz_e g2) dX10_readsAct_6 (fun tq3 => ?_)
  have tg2 := okA tq3 rfl
  refine lv_iload_n C.x C.b dX10_readsAct_9 rfl (lv_at hl 0 rfl) ?_
  refine lv_aload_n C.x C.b dX10_readsAct_10 rfl (lv_at hl 1 rfl) ?_
  refine r_ldcwS C.x C.b C.ow (sr_363 C) dX10_readsAct_11 ?_
  obtain ⟨q4, h_q4, hf⟩ := bd_e hf
  refine r_callV (As := [.ref (adS G 4)]) (rest := [.int v1, .ref (G.2.2 + (hpR h r0 26))]) C hR hS t_r0 rfl mk_X10_takesOf cl_X10_233 (k_X10_takesOf t_r0 (by decide) h_q4) ⟨⟨Nat.le_of_ble_eq_true rfl, Nat.le_of_ble_eq_true rfl⟩, ⟨rfl, rfl⟩, Nat.le_of_ble_eq_true rfl, Nat.le_of_ble_eq_true rfl⟩ rfl hl.1 rfl (Nat.le_of_ble_eq_true rfl) dX10_readsAct_14 (fun H locs hR hS hE1 z_q4 => ?_)
  have hE := hE.tr hE1
  have tg2 := hE1.k tg2 (by decide)
  have t_r0 := hE1.at t_r0 (by decide)
  obtain ⟨g5, hf⟩ := gd_e hf
  refine r_iast C hR hS tg2 g5 dX10_readsAct_17 (fun H locs hR hS => ?_)
  obtain ⟨h6, e_h6⟩ : ∃ y, y = upI q4.2 (hpR h r0 26) (ix v1) q4.1 := ⟨_, rfl⟩
  rw [← e_h6] at hR
  have hf := lt_e hf e_h6
  have hE := eI e_h6 hE
  have t_r0 := tI e_h6 t_r0
  refine lv_aload_n C.x C.b dX10_readsAct_18 rfl (lv_at hl 1 rfl) ?_
  refine lv_dup C.x C.b dX10_readsAct_19 rfl ?_
  refine r_geti C hR t_r0 fl_X10_360 rfl dX10_readsAct_20 ?_
  refine lv_iconst (v := (1 : Int32)) C.x C.b dX10_readsAct_23 (by decide) ?_
  refine lv_iadd C.x C.b dX10_readsAct_24 ?_
  refine r_puti C hR hS t_r0 fl_X10_360 fp_X10_10_28 rfl dX10_readsAct_25 (fun H locs hR hS => ?_)
  obtain ⟨h7, e_h7⟩ : ∃ y, y = upI h6 r0 28 ((hpI h6 r0 28) + (1 : Int32)) := ⟨_, rfl⟩
  rw [← e_h7] at hR
  have hf := lt_e hf e_h7
  have hE := eI e_h7 hE
  have t_r0 := tI e_h7 t_r0
  refine lv_aload_n C.x C.b dX10_readsAct_28 rfl (lv_at hl 1 rfl) ?_
  obtain ⟨g8, hf⟩ := gd_e hf
  refine r_getr C hR t_r0 fl_X10_54 (by decide) (nz_e g8) dX10_readsAct_29 (fun tq9 => ?_)
  have tg8 := okA tq9 rfl
  refine lv_iload_n C.x C.b dX10_readsAct_32 rfl (lv_at hl 0 rfl) ?_
  obtain ⟨g10, hf⟩ := gd_e hf
  refine r_iald C hR tg8 g10 dX10_readsAct_33 ?_
  refine lv_if_ge (tgt := 39) C.x C.b dX10_readsAct_34 (by decide) (fun c11 => ?_) (fun c11 => ?_)
  · have hf := it_t hf c11
    refine lv_aload_n C.x C.b dX10_readsAct_39 rfl (lv_at hl 1 rfl) ?_
    refine r_getr C hR t_r0 fl_X10_54 (by decide) (nz_e g8) dX10_readsAct_40 (fun tq12 => ?_)
    refine lv_iload_n C.x C.b dX10_readsAct_43 rfl (lv_at hl 0 rfl) ?_
    obtain ⟨g13, hf⟩ := gd_e hf
    refine r_iald C hR tg8 g13 dX10_readsAct_44 ?_
    refine lv_if_ne (tgt := 52) C.x C.b dX10_readsAct_45 (by decide) (fun c14 => ?_) (fun c14 => ?_)
    · have hf := it_f hf c14
      refine lv_aload_n C.x C.b dX10_readsAct_52 rfl (lv_at hl 1 rfl) ?_
      refine r_getr C hR t_r0 fl_X10_54 (by decide) (nz_e g8) dX10_readsAct_53 (fun tq15 => ?_)
      refine lv_iload_n C.x C.b dX10_readsAct_56 rfl (lv_at hl 0 rfl) ?_
      obtain ⟨g16, hf⟩ := gd_e hf
      refine r_iald C hR tg8 g16 dX10_readsAct_57 ?_
      refine lv_iconst (v := (4 : Int32)) C.x C.b dX10_readsAct_58 (by decide) ?_
      refine lv_icmp_ge (tgt := 66) C.x C.b dX10_readsAct_59 (by decide) (fun c17 => ?_) (fun c17 => ?_)
      · simp only [if_pos c17] at hf
        refine lv_bipush (v := (6 : Int32)) C.x C.b dX10_readsAct_66 (by decide) ?_
        exact w_X10_readsAct_68 C hr hlk _ _ _ _ _ _ hf hE hR hS t_r0 (lv_sub hl [1, 0] rfl)
      · simp only [if_neg c17] at hf
        refine lv_iconst (v := (2 : Int32)) C.x C.b dX10_readsAct_62 (by decide) ?_
        refine lv_goto (tgt := 68) C.x C.b dX10_readsAct_63 (by decide) ?_
        exact w_X10_readsAct_68 C hr hlk _ _ _ _ _ _ hf hE hR hS t_r0 (lv_sub hl [1, 0] rfl)
    · have hf := it_t hf c14
      refine lv_iconst (v := (1 : Int32)) C.x C.b dX10_readsAct_48 (by decide) ?_
      refine lv_goto (tgt := 68) C.x C.b dX10_readsAct_49 (by decide) ?_
      exact w_X10_readsAct_68 C hr hlk _ _ _ _ _ _ hf hE hR hS t_r0 (lv_sub hl [1, 0] rfl)
  · have hf := it_f hf c11
    refine lv_iconst (v := (0 : Int32)) C.x C.b dX10_readsAct_37 (by decide) ?_
    have hf := so_e hf
    subst hf
    exact r_zret C hr hlk hR hE hS z_0 dX10_readsAct_38

