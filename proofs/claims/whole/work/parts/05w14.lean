def rm_X10_least : Room := { frames := 4, cells := 0, slots := 0, locals := 99 }
def P_X10_least_198 (G : Gt) (l : Launch) (p : Program) (e : Env) (s : State) (m : MethodId) (args : Array Value) (below : List Frame) (meth : Method) (c : Code) (h0 : Hp) (out : (Int32 × Hp)) (r0 : Nat) (x1 : Int32) (x2 : Int32) (k : Hp → Int32 → Int32 → Int32 → Int32 → Int32 → Option (Int32 × Hp)) : Prop := ∀ (H : Heap) (locs : List Loc) (ls : Array Slot) (h : Hp) (s0 : Int32) (s1 : Int32) (x3 : Int32) (x4 : Int32) (x6 : Int32), k h s0 s1 x3 x4 x6 = some out → Ext h0 h → Rel G h H → va_S (AA G.2.2) s.heap H locs → hpT h r0 = (1, 10) → lv_has ls 8 [(0, .ref (G.2.2 + r0)), (1, .int x1), (2, .int x2), (3, .int x3), (4, .int x4), (6, .int x6)] → W p l e rm_X10_least s m args below meth c H locs 0 0 (MQ below (Qm G h0 out.2 (some (.int out.1)) 0) args s 0 0 (AA G.2.2)) (F0 m 198 ls [.int s1, .int s0])
def P_X10_least_197 (G : Gt) (l : Launch) (p : Program) (e : Env) (s : State) (m : MethodId) (args : Array Value) (below : List Frame) (meth : Method) (c : Code) (h0 : Hp) (out : (Int32 × Hp)) (r0 : Nat) (x1 : Int32) (x2 : Int32) (k : Hp → Int32 → Int32 → Int32 → Int32 → Option (Int32 × Hp)) : Prop := ∀ (H : Heap) (locs : List Loc) (ls : Array Slot) (h : Hp) (s0 : Int32) (x3 : Int32) (x4 : Int32) (x6 : Int32), k h s0 x3 x4 x6 = some out → Ext h0 h → Rel G h H → va_S (AA G.2.2) s.heap H locs → hpT h r0 = (1, 10) → lv_has ls 8 [(0, .ref (G.2.2 + r0)), (1, .int x1), (2, .int x2), (3, .int x3), (4, .int x4), (6, .int x6)] → W p l e rm_X10_least s m args below meth c H locs 0 0 (MQ below (Qm G h0 out.2 (some (.int out.1)) 0) args s 0 0 (AA G.2.2)) (F0 m 197 ls [.int s0])
def P_X10_least_141 (G : Gt) (l : Launch) (p : Program) (e : Env) (s : State) (m : MethodId) (args : Array Value) (below : List Frame) (meth : Method) (c : Code) (h0 : Hp) (out : (Int32 × Hp)) (r0 : Nat) (x1 : Int32) (x2 : Int32) (k : Hp → Int32 → Int32 → Int32 → Int32 → Option (Int32 × Hp)) : Prop := ∀ (H : Heap) (locs : List Loc) (ls : Array Slot) (h : Hp) (x3 : Int32) (x4 : Int32) (x5 : Int32) (x6 : Int32), k h x3 x4 x5 x6 = some out → Ext h0 h → Rel G h H → va_S (AA G.2.2) s.heap H locs → hpT h r0 = (1, 10) → lv_has ls 8 [(0, .ref (G.2.2 + r0)), (1, .int x1), (2, .int x2), (3, .int x3), (4, .int x4), (5, .int x5), (6, .int x6)] → W p l e rm_X10_least s m args below meth c H locs 0 0 (MQ below (Qm G h0 out.2 (some (.int out.1)) 0) args s 0 0 (AA G.2.2)) (F0 m 141 ls [])
def P_X10_least_122 (G : Gt) (l : Launch) (p : Program) (e : Env) (s : State) (m : MethodId) (args : Array Value) (below : List Frame) (meth : Method) (c : Code) (h0 : Hp) (out : (Int32 × Hp)) (r0 : Nat) (x1 : Int32) (x2 : Int32) (k : Hp → Int32 → Int32 → Int32 → Option (Int32 × Hp)) : Prop := ∀ (H : Heap) (locs : List Loc) (ls : Array Slot) (h : Hp) (x3 : Int32) (x4 : Int32) (x5 : Int32), k h x3 x4 x5 = some out → Ext h0 h → Rel G h H → va_S (AA G.2.2) s.heap H locs → hpT h r0 = (1, 10) → lv_has ls 8 [(0, .ref (G.2.2 + r0)), (1, .int x1), (2, .int x2), (3, .int x3), (4, .int x4), (5, .int x5)] → W p l e rm_X10_least s m args below meth c H locs 0 0 (MQ below (Qm G h0 out.2 (some (.int out.1)) 0) args s 0 0 (AA G.2.2)) (F0 m 122 ls [])
def P_X10_least_112 (G : Gt) (l : Launch) (p : Program) (e : Env) (s : State) (m : MethodId) (args : Array Value) (below : List Frame) (meth : Method) (c : Code) (h0 : Hp) (out : (Int32 × Hp)) (r0 : Nat) (x1 : Int32) (x2 : Int32) (k : Hp → Int32 → Int32 → Int32 → Int32 → Option (Int32 × Hp)) : Prop := ∀ (H : Heap) (locs : List Loc) (ls : Array Slot) (h : Hp) (s0 : Int32) (x4 : Int32) (x5 : Int32) (x6 : Int32), k h s0 x4 x5 x6 = some out → Ext h0 h → Rel G h H → va_S (AA G.2.2) s.heap H locs → hpT h r0 = (1, 10) → lv_has ls 8 [(0, .ref (G.2.2 + r0)), (1, .int x1), (2, .int x2), (4, .int x4), (5, .int x5), (6, .int x6)] → W p l e rm_X10_least s m args below meth c H locs 0 0 (MQ below (Qm G h0 out.2 (some (.int out.1)) 0) args s 0 0 (AA G.2.2)) (F0 m 112 ls [.int s0])
def P_X10_least_90 (G : Gt) (l : Launch) (p : Program) (e : Env) (s : State) (m : MethodId) (args : Array Value) (below : List Frame) (meth : Method) (c : Code) (h0 : Hp) (out : (Int32 × Hp)) (r0 : Nat) (x1 : Int32) (x2 : Int32) (k : Hp → Int32 → Int32 → Int32 → Int32 → Int32 → Int32 → Option (Int32 × Hp)) : Prop := ∀ (H : Heap) (locs : List Loc) (ls : Array Slot) (h : Hp) (s0 : Int32) (s1 : Int32) (x3 : Int32) (x4 : Int32) (x5 : Int32) (x7 : Int32), k h s0 s1 x3 x4 x5 x7 = some out → Ext h0 h → Rel G h H → va_S (AA G.2.2) s.heap H locs → hpT h r0 = (1, 10) → lv_has ls 8 [(0, .ref (G.2.2 + r0)), (1, .int x1), (2, .int x2), (3, .int x3), (4, .int x4), (5, .int x5), (7, .int x7)] → W p l e rm_X10_least s m args below meth c H locs 0 0 (MQ below (Qm G h0 out.2 (some (.int out.1)) 0) args s 0 0 (AA G.2.2)) (F0 m 90 ls [.int s1, .int s0])
def P_X10_least_52 (G : Gt) (l : Launch) (p : Program) (e : Env) (s : State) (m : MethodId) (args : Array Value) (below : List Frame) (meth : Method) (c : Code) (h0 : Hp) (out : (Int32 × Hp)) (r0 : Nat) (x1 : Int32) (x2 : Int32) (k : Hp → Int32 → Int32 → Int32 → Int32 → Int32 → Option (Int32 × Hp)) : Prop := ∀ (H : Heap) (locs : List Loc) (ls : Array Slot) (h : Hp) (x3 : Int32) (x4 : Int32) (x5 : Int32) (x6 : Int32) (x7 : Int32), k h x3 x4 x5 x6 x7 = some out → Ext h0 h → Rel G h H → va_S (AA G.2.2) s.heap H locs → hpT h r0 = (1, 10) → lv_has ls 8 [(0, .ref (G.2.2 + r0)), (1, .int x1), (2, .int x2), (3, .int x3), (4, .int x4), (5, .int x5), (6, .int x6), (7, .int x7)] → W p l e rm_X10_least s m args below meth c H locs 0 0 (MQ below (Qm G h0 out.2 (some (.int out.1)) 0) args s 0 0 (AA G.2.2)) (F0 m 52 ls [])
def P_X10_least_26 (G : Gt) (l : Launch) (p : Program) (e : Env) (s : State) (m : MethodId) (args : Array Value) (below : List Frame) (meth : Method) (c : Code) (h0 : Hp) (out : (Int32 × Hp)) (r0 : Nat) (x1 : Int32) (x2 : Int32) (k : Hp → Int32 → Int32 → Int32 → Option (Int32 × Hp)) : Prop := ∀ (H : Heap) (locs : List Loc) (ls : Array Slot) (h : Hp) (x3 : Int32) (x4 : Int32) (x5 : Int32), k h x3 x4 x5 = some out → Ext h0 h → Rel G h H → va_S (AA G.2.2) s.heap H locs → hpT h r0 = (1, 10) → lv_has ls 8 [(0, .ref (G.2.2 + r0)), (1, .int x1), (2, .int x2), (3, .int x3), (4, .int x4), (5, .int x5)] → W p l e rm_X10_least s m args below meth c H locs 0 0 (MQ below (Qm G h0 out.2 (some (.int out.1)) 0) args s 0 0 (AA G.2.2)) (F0 m 26 ls [])
set_option maxRecDepth 100000 in
set_option maxHeartbeats 4000000 in
theorem w_X10_least_198 {G : Gt} {l : Launch} {p : Program} {e : Env} {s : State} {m : MethodId} {args : Array Value} {below : List Frame} {meth : Method} {c : Code} {h0 : Hp} {out : (Int32 × Hp)} {r0 : Nat} {x1 : Int32} {x2 : Int32} {k141 : Hp → Int32 → Int32 → Int32 → Int32 → Option (Int32 × Hp)} (C : Cx G p m c cX10_least 8 s args RX10) (hr : meth.sig.returnType = some .int) (hlk : meth.locks = false) (hk141 : P_X10_least_141 G l p e s m args below meth c h0 out r0 x1 x2 k141) : P_X10_least_198 G l p e s m args below meth c h0 out r0 x1 x2 (f_X10_least_198 r0 x1 x2 k141) := by
  intro H locs ls h s0 s1 x3 x4 x6 hf hE hR hS t_r0 hl
  rw [f_X10_least_198] at hf
  refine lv_ior C.x C.b dX10_least_198 ?_
  refine lv_topi (fun v36 e_v36 => ?_)
  have hf := lt_e hf e_v36
  refine lv_istore (lv' := [(5, .int v36), (0, .ref (G.2.2 + r0)), (1, .int x1), (2, .int x2), (3, .int x3), (4, .int x4), (6, .int x6)]) C.x C.b dX10_least_199 hl (by decide) rfl (fun ls hl => ?_)
  obtain ⟨v37, e_v37⟩ : ∃ y : Int32, y = x6 + (1 : Int32) := ⟨_, rfl⟩
  have hf := lt_e hf e_v37
  refine lv_iinc (v := v37) (lv' := [(6, .int v37), (5, .int v36), (0, .ref (G.2.2 + r0)), (1, .int x1), (2, .int x2), (3, .int x3), (4, .int x4)]) C.x C.b dX10_least_201 hl (k := 6) rfl (by rw [e_v37]; rfl) (by decide) rfl (fun ls hl => ?_)
  refine lv_goto (tgt := 141) C.x C.b dX10_least_204 (by decide) ?_
  exact hk141 _ _ _ _ _ _ _ _ hf hE hR hS t_r0 (lv_sub hl [2, 3, 4, 5, 6, 1, 0] rfl)
set_option maxRecDepth 100000 in
set_option maxHeartbeats 4000000 in
theorem w_X10_least_197 {G : Gt} {l : Launch} {p : Program} {e : Env} {s : State} {m : MethodId} {args : Array Value} {below : List Frame} {meth : Method} {c : Code} {h0 : Hp} {out : (Int32 × Hp)} {r0 : Nat} {x1 : Int32} {x2 : Int32} {k141 : Hp → Int32 → Int32 → Int32 → Int32 → Option (Int32 × Hp)} (C : Cx G p m c cX10_least 8 s args RX10) (hr : meth.sig.returnType = some .int) (hlk : meth.locks = false) (hk141 : P_X10_least_141 G l p e s m args below meth c h0 out r0 x1 x2 k141) : P_X10_least_197 G l p e s m args below meth c h0 out r0 x1 x2 (f_X10_least_197 r0 x1 x2 k141) := by
  intro H locs ls h s0 x3 x4 x6 hf hE hR hS t_r0 hl
  rw [f_X10_least_197] at hf
  refine lv_iconst (v := (0 : Int32)) C.x C.b dX10_least_197 (by decide) ?_
  exact w_X10_least_198 C hr hlk hk141 _ _ _ _ _ _ _ _ _ hf hE hR hS t_r0 (lv_sub hl [0, 1, 2, 3, 4, 5] rfl)
set_option maxRecDepth 100000 in
set_option maxHeartbeats 4000000 in
theorem w_X10_least_141 {G : Gt} {l : Launch} {p : Program} {e : Env} {s : State} {m : MethodId} {args : Array Value} {below : List Frame} {meth : Method} {c : Code} {h0 : Hp} {out : (Int32 × Hp)} {r0 : Nat} {x1 : Int32} {x2 : Int32}  (C : Cx G p m c cX10_least 8 s args RX10) (hr : meth.sig.returnType = some .int) (hlk : meth.locks = false)  (n : Nat) : P_X10_least_141 G l p e s m args below meth c h0 out r0 x1 x2 (f_X10_least_141 r0 x1 x2 n) := by
  induction n with
  | zero => intro H locs ls h x3 x4 x5 x6 hf hE hR hS t_r0 hl; cases hf
  | succ n hk141 =>
    intro H locs ls h x3 x4 x5 x6 hf hE hR hS t_r0 hl
    rw [f_X10_least_141] at hf
    obtain ⟨k141, e_k141⟩ : ∃ y, y = f_X10_least_141 r0 x1 x2 n := ⟨_, rfl⟩
    have hf := lt_e hf e_k141
    rw [← e_k141] at hk141
    refine lv_iload C.x C.b dX10_least_141 (lv_at hl 6 rfl) ?_
    refine lv_aload_n C.x C.b dX10_least_143 rfl (lv_at hl 0 rfl) ?_
    obtain ⟨g21, hf⟩ := gd_e hf
    refine r_getr C hR t_r0 fl_X10_20 (by decide) (nz_e g21) dX10_least_144 (fun tq22 => ?_)
    have tg21 := okA tq22 rfl
    refine lv_bipush (v := (48 : Int32)) C.x C.b dX10_least_147 (by decide) ?_
    obtain ⟨g23, hf⟩ := gd_e hf
    refine r_iald C hR tg21 g23 dX10_least_149 ?_
    refine lv_icmp_ge (tgt := 207) C.x C.b dX10_least_150 (by decide) (fun c24 => ?_) (fun c24 => ?_)
    · have hf := it_t hf c24
      refine lv_aload_n C.x C.b dX10_least_207 rfl (lv_at hl 0 rfl) ?_
      refine lv_iconst (v := (0 : Int32)) C.x C.b dX10_least_208 (by decide) ?_
      refine r_puti C hR hS t_r0 fl_X10_110 fp_X10_10_1 rfl dX10_least_209 (fun H locs hR hS => ?_)
      obtain ⟨h25, e_h25⟩ : ∃ y, y = upI h r0 1 (0 : Int32) := ⟨_, rfl⟩
      rw [← e_h25] at hR
      have hf := lt_e hf e_h25
      have hE := eI e_h25 hE
      have t_r0 := tI e_h25 t_r0
      refine lv_aload_n C.x C.b dX10_least_212 rfl (lv_at hl 0 rfl) ?_
      refine lv_iload C.x C.b dX10_least_213 (lv_at hl 4 rfl) ?_
      refine lv_i2l C.x C.b dX10_least_215 rfl ?_
      obtain ⟨q26, h_q26, hf⟩ := bd_e hf
      refine r_callV (As := [.long (x4.toInt64)]) (rest := []) C hR hS t_r0 rfl mk_X10_enters cl_X10_339 (k_X10_enters t_r0 h_q26) ⟨⟨Nat.le_of_ble_eq_true rfl, Nat.le_of_ble_eq_true rfl⟩, ⟨rfl, rfl⟩, Nat.le_of_ble_eq_true rfl, Nat.le_of_ble_eq_true rfl⟩ rfl hl.1 rfl (Nat.le_of_ble_eq_true rfl) dX10_least_216 (fun H locs hR hS hE1 z_q26 => ?_)
      have hE := hE.tr hE1
      have t_r0 := hE1.at t_r0 (by decide)
      refine lv_aload_n C.x C.b dX10_least_219 rfl (lv_at hl 0 rfl) ?_
      refine lv_iload C.x C.b dX10_least_220 (lv_at hl 5 rfl) ?_
      refine lv_i2l C.x C.b dX10_least_222 rfl ?_
      obtain ⟨q27, h_q27, hf⟩ := bd_e hf
      refine r_callV (As := [.long (x5.toInt64)]) (rest := []) C hR hS t_r0 rfl mk_X10_enters cl_X10_339 (k_X10_enters t_r0 h_q27) ⟨⟨Nat.le_of_ble_eq_true rfl, Nat.le_of_ble_eq_true rfl⟩, ⟨rfl, rfl⟩, Nat.le_of_ble_eq_true rfl, Nat.le_of_ble_eq_true rfl⟩ rfl hl.1 rfl (Nat.le_of_ble_eq_true rfl) dX10_least_223 (fun H locs hR hS hE1 z_q27 => ?_)
      have hE := hE.tr hE1
      have t_r0 := hE1.at t_r0 (by decide)
      refine lv_iload_n C.x C.b dX10_least_226 rfl (lv_at hl 3 rfl) ?_
      have hf := so_e hf
      subst hf
      exact r_iret C hr hlk hR hE hS dX10_least_227
    · have hf := it_f hf c24
      refine lv_iload C.x C.b dX10_least_153 (lv_at hl 5 rfl) ?_
      refine lv_aload_n C.x C.b dX10_least_155 rfl (lv_at hl 0 rfl) ?_
      refine r_getr C hR t_r0 fl_X10_20 (by decide) (nz_e g21) dX10_least_156 (fun tq28 => ?_)
      refine lv_iload C.x C.b dX10_least_159 (lv_at hl 6 rfl) ?_
      obtain ⟨q29, h_q29, hf⟩ := bd_e hf
      refine r_callS (As := [.ref (G.2.2 + (hpR h r0 6)), .int x6]) (rest := [.int x5]) C hR hS mk_X10_isOn cl_X10_129 (k_X10_isOn tg21 h_q29) ⟨⟨Nat.le_of_ble_eq_true rfl, Nat.le_of_ble_eq_true rfl⟩, ⟨rfl, rfl⟩, Nat.le_of_ble_eq_true rfl, Nat.le_of_ble_eq_true rfl⟩ rfl hl.1 rfl (Nat.le_of_ble_eq_true rfl) dX10_least_161 (fun H locs hR hS hE1 z_q29 => ?_)
      have z_q29 := z_q29 _ rfl
      refine lv_if_eq (tgt := 197) C.x C.b dX10_least_164 (by decide) (fun c30 => ?_) (fun c30 => ?_)
      · have hf := it_t hf c30
        exact w_X10_least_197 C hr hlk hk141 _ _ _ _ _ _ _ _ hf hE hR hS t_r0 (lv_sub hl [0, 1, 2, 3, 4, 6] rfl)
      · have hf := it_f hf c30
        refine lv_aload_n C.x C.b dX10_least_167 rfl (lv_at hl 0 rfl) ?_
        refine lv_aload_n C.x C.b dX10_least_168 rfl (lv_at hl 0 rfl) ?_
        refine r_getr C hR t_r0 fl_X10_20 (by decide) (nz_e g21) dX10_least_169 (fun tq31 => ?_)
        refine lv_iload C.x C.b dX10_least_172 (lv_at hl 6 rfl) ?_
        obtain ⟨q32, h_q32, hf⟩ := bd_e hf
        refine r_callV (As := [.ref (G.2.2 + (hpR h r0 6)), .int x6]) (rest := [.int x5]) C hR hS t_r0 rfl mk_X10_areaOf cl_X10_141 (k_X10_areaOf t_r0 tg21 h_q32) ⟨⟨Nat.le_of_ble_eq_true rfl, Nat.le_of_ble_eq_true rfl⟩, ⟨rfl, rfl⟩, Nat.le_of_ble_eq_true rfl, Nat.le_of_ble_eq_true rfl⟩ rfl hl.1 rfl (Nat.le_of_ble_eq_true rfl) dX10_least_174 (fun H locs hR hS hE1 z_q32 => ?_)
        refine lv_aload_n C.x C.b dX10_least_177 rfl (lv_at hl 0 rfl) ?_
        refine lv_iload_n C.x C.b dX10_least_178 rfl (lv_at hl 3 rfl) ?_
        refine lv_iload_n C.x C.b dX10_least_179 rfl (lv_at hl 1 rfl) ?_
        refine lv_iload_n C.x C.b dX10_least_180 rfl (lv_at hl 2 rfl) ?_
        obtain ⟨q33, h_q33, hf⟩ := bd_e hf
        refine r_callV (As := [.int x3, .int x1, .int x2]) (rest := [.long q32, .int x5]) C hR hS t_r0 rfl mk_X10_area cl_X10_125 (k_X10_area t_r0 h_q33) ⟨⟨Nat.le_of_ble_eq_true rfl, Nat.le_of_ble_eq_true rfl⟩, ⟨rfl, rfl⟩, Nat.le_of_ble_eq_true rfl, Nat.le_of_ble_eq_true rfl⟩ rfl hl.1 rfl (Nat.le_of_ble_eq_true rfl) dX10_least_181 (fun H locs hR hS hE1 z_q33 => ?_)
        refine lv_land C.x C.b dX10_least_184 ?_
        refine lv_lconst (v := (0 : Int64)) C.x C.b dX10_least_185 (by decide) ?_
        refine W.lcmp C.x C.b dX10_least_186 ?_
        refine lv_if_eq (tgt := 197) C.x C.b dX10_least_187 (by decide) (fun c34 => ?_) (fun c34 => ?_)
        · have hf := it_t hf c34
          exact w_X10_least_197 C hr hlk hk141 _ _ _ _ _ _ _ _ hf hE hR hS t_r0 (lv_sub hl [0, 1, 2, 3, 4, 6] rfl)
        · have hf := it_f hf c34
          refine lv_iconst (v := (1 : Int32)) C.x C.b dX10_least_190 (by decide) ?_
          refine lv_iload C.x C.b dX10_least_191 (lv_at hl 6 rfl) ?_
          refine lv_ishl C.x C.b dX10_least_193 ?_
          refine lv_topi (fun v35 e_v35 => ?_)
          have hf := lt_e hf e_v35
          refine lv_goto (tgt := 198) C.x C.b dX10_least_194 (by decide) ?_
          exact w_X10_least_198 C hr hlk hk141 _ _ _ _ _ _ _ _ _ hf hE hR hS t_r0 (lv_sub hl [0, 1, 2, 3, 4, 6] rfl)
set_option maxRecDepth 100000 in
set_option maxHeartbeats 4000000 in
theorem w_X10_least_122 {G : Gt} {l : Launch} {p : Program} {e : Env} {s : State} {m : MethodId} {args : Array Value} {below : List Frame} {meth : Method} {c : Code} {h0 : Hp} {out : (Int32 × Hp)} {r0 : Nat} {x1 : Int32} {x2 : Int32} {k26 : Hp → Int32 → Int32 → Int32 → Option (Int32 × Hp)} (C : Cx G p m c cX10_least 8 s args RX10) (hr : meth.sig.returnType = some .int) (hlk : meth.locks = false) (hk26 : P_X10_least_26 G l p e s m args below meth c h0 out r0 x1 x2 k26) : P_X10_least_122 G l p e s m args below meth c h0 out r0 x1 x2 (f_X10_least_122 r0 x1 x2 k26) := by
  intro H locs ls h x3 x4 x5 hf hE hR hS t_r0 hl
  rw [f_X10_least_122] at hf
  obtain ⟨v20, e_v20⟩ : ∃ y : Int32, y = x5 + (1 : Int32) := ⟨_, rfl⟩
  have hf := lt_e hf e_v20
  refine lv_iinc (v := v20) (lv' := [(5, .int v20), (0, .ref (G.2.2 + r0)), (1, .int x1), (2, .int x2), (3, .int x3), (4, .int x4)]) C.x C.b dX10_least_122 hl (k := 5) rfl (by rw [e_v20]; rfl) (by decide) rfl (fun ls hl => ?_)
  refine lv_goto (tgt := 26) C.x C.b dX10_least_125 (by decide) ?_
  exact hk26 _ _ _ _ _ _ _ hf hE hR hS t_r0 (lv_sub hl [1, 2, 3, 4, 5, 0] rfl)
set_option maxRecDepth 100000 in
set_option maxHeartbeats 4000000 in
theorem w_X10_least_112 {G : Gt} {l : Launch} {p : Program} {e : Env} {s : State} {m : MethodId} {args : Array Value} {below : List Frame} {meth : Method} {c : Code} {h0 : Hp} {out : (Int32 × Hp)} {r0 : Nat} {x1 : Int32} {x2 : Int32} {k26 : Hp → Int32 → Int32 → Int32 → Option (Int32 × Hp)} (C : Cx G p m c cX10_least 8 s args RX10) (hr : meth.sig.returnType = some .int) (hlk : meth.locks = false) (hk26 : P_X10_least_26 G l p e s m args below meth c h0 out r0 x1 x2 k26) : P_X10_least_112 G l p e s m args below meth c h0 out r0 x1 x2 (f_X10_least_112 r0 x1 x2 k26) := by
  intro H locs ls h s0 x4 x5 x6 hf hE hR hS t_r0 hl
  rw [f_X10_least_112] at hf
  refine lv_istore_n (lv' := [(3, .int s0), (0, .ref (G.2.2 + r0)), (1, .int x1), (2, .int x2), (4, .int x4), (5, .int x5), (6, .int x6)]) C.x C.b dX10_least_112 rfl hl (by decide) rfl (fun ls hl => ?_)
  refine lv_iload C.x C.b dX10_least_113 (lv_at hl 4 rfl) ?_
  refine lv_iload C.x C.b dX10_least_115 (lv_at hl 6 rfl) ?_
  refine va_mmin C.x C.b (C.ml.trans hl.1.symm) C.ow (C.ts _ lk_X10_154) (C.ts _ lk_Mmin_s) (C.ts _ lk_Math) (C.ts _ lk_Mmin_c) (Nat.le_of_ble_eq_true rfl) (Nat.le_of_ble_eq_true rfl) (Nat.le_of_ble_eq_true rfl) (Nat.le_of_ble_eq_true rfl) dX10_least_117 ?_
  refine lv_topi (fun v19 e_v19 => ?_)
  have hf := lt_e hf e_v19
  refine lv_istore (lv' := [(4, .int v19), (3, .int s0), (0, .ref (G.2.2 + r0)), (1, .int x1), (2, .int x2), (5, .int x5), (6, .int x6)]) C.x C.b dX10_least_120 hl (by decide) rfl (fun ls hl => ?_)
  exact w_X10_least_122 C hr hlk hk26 _ _ _ _ _ _ _ hf hE hR hS t_r0 (lv_sub hl [2, 3, 4, 1, 0, 5] rfl)
set_option maxRecDepth 100000 in
set_option maxHeartbeats 4000000 in
theorem w_X10_least_90 {G : Gt} {l : Launch} {p : Program} {e : Env} {s : State} {m : MethodId} {args : Array Value} {below : List Frame} {meth : Method} {c : Code} {h0 : Hp} {out : (Int32 × Hp)} {r0 : Nat} {x1 : Int32} {x2 : Int32} {k26 : Hp → Int32 → Int32 → Int32 → Option (Int32 × Hp)} {k52 : Hp → Int32 → Int32 → Int32 → Int32 → Int32 → Option (Int32 × Hp)} (C : Cx G p m c cX10_least 8 s args RX10) (hr : meth.sig.returnType = some .int) (hlk : meth.locks = false) (hk26 : P_X10_least_26 G l p e s m args below meth c h0 out r0 x1 x2 k26) (hk52 : P_X10_least_52 G l p e s m args below meth c h0 out r0 x1 x2 k52) : P_X10_least_90 G l p e s m args below meth c h0 out r0 x1 x2 (f_X10_least_90 r0 x1 x2 k26 k52) := by
  intro H locs ls h s0 s1 x3 x4 x5 x7 hf hE hR hS t_r0 hl
  rw [f_X10_least_90] at hf
  refine lv_iadd C.x C.b dX10_least_90 ?_
  refine lv_topi (fun v17 e_v17 => ?_)
  have hf := lt_e hf e_v17
  refine lv_istore (lv' := [(6, .int v17), (0, .ref (G.2.2 + r0)), (1, .int x1), (2, .int x2), (3, .int x3), (4, .int x4), (5, .int x5), (7, .int x7)]) C.x C.b dX10_least_91 hl (by decide) rfl (fun ls hl => ?_)
  obtain ⟨v18, e_v18⟩ : ∃ y : Int32, y = x7 + (1 : Int32) := ⟨_, rfl⟩
  have hf := lt_e hf e_v18
  refine lv_iinc (v := v18) (lv' := [(7, .int v18), (6, .int v17), (0, .ref (G.2.2 + r0)), (1, .int x1), (2, .int x2), (3, .int x3), (4, .int x4), (5, .int x5)]) C.x C.b dX10_least_93 hl (k := 7) rfl (by rw [e_v18]; rfl) (by decide) rfl (fun ls hl => ?_)
  refine lv_goto (tgt := 52) C.x C.b dX10_least_96 (by decide) ?_
  exact hk52 _ _ _ _ _ _ _ _ _ hf hE hR hS t_r0 (lv_sub hl [2, 3, 4, 5, 6, 7, 1, 0] rfl)
set_option maxRecDepth 100000 in
set_option maxHeartbeats 4000000 in
theorem w_X10_least_52 {G : Gt} {l : Launch} {p : Program} {e : Env} {s : State} {m : MethodId} {args : Array Value} {below : List Frame} {meth : Method} {c : Code} {h0 : Hp} {out : (Int32 × Hp)} {r0 : Nat} {x1 : Int32} {x2 : Int32} {k26 : Hp → Int32 → Int32 → Int32 → Option (Int32 × Hp)} (C : Cx G p m c cX10_least 8 s args RX10) (hr : meth.sig.returnType = some .int) (hlk : meth.locks = false) (hk26 : P_X10_least_26 G l p e s m args below meth c h0 out r0 x1 x2 k26) (n : Nat) : P_X10_least_52 G l p e s m args below meth c h0 out r0 x1 x2 (f_X10_least_52 r0 x1 x2 k26 n) := by
  induction n with
  | zero => intro H locs ls h x3 x4 x5 x6 x7 hf hE hR hS t_r0 hl; cases hf
  | succ n hk52 =>
    intro H locs ls h x3 x4 x5 x6 x7 hf hE hR hS t_r0 hl
    rw [f_X10_least_52] at hf
    obtain ⟨k52, e_k52⟩ : ∃ y, y = f_X10_least_52 r0 x1 x2 k26 n := ⟨_, rfl⟩
    have hf := lt_e hf e_k52
    rw [← e_k52] at hk52
    refine lv_iload C.x C.b dX10_least_52 (lv_at hl 7 rfl) ?_
    refine lv_aload_n C.x C.b dX10_least_54 rfl (lv_at hl 0 rfl) ?_
    obtain ⟨q9, h_q9, hf⟩ := bd_e hf
    refine r_callV (As := []) (rest := [.int x7]) C hR hS t_r0 rfl mk_X10_cells cl_X10_113 (k_X10_cells t_r0 h_q9) ⟨⟨Nat.le_of_ble_eq_true rfl, Nat.le_of_ble_eq_true rfl⟩, ⟨rfl, rfl⟩, Nat.le_of_ble_eq_true rfl, Nat.le_of_ble_eq_true rfl⟩ rfl hl.1 rfl (Nat.le_of_ble_eq_true rfl) dX10_least_55 (fun H locs hR hS hE1 z_q9 => ?_)
    refine lv_icmp_ge (tgt := 99) C.x C.b dX10_least_58 (by decide) (fun c10 => ?_) (fun c10 => ?_)
    · have hf := it_t hf c10
      refine lv_iload C.x C.b dX10_least_99 (lv_at hl 6 rfl) ?_
      refine lv_iload C.x C.b dX10_least_101 (lv_at hl 4 rfl) ?_
      refine lv_icmp_ge (tgt := 111) C.x C.b dX10_least_103 (by decide) (fun c11 => ?_) (fun c11 => ?_)
      · simp only [if_pos c11] at hf
        refine lv_iload_n C.x C.b dX10_least_111 rfl (lv_at hl 3 rfl) ?_
        exact w_X10_least_112 C hr hlk hk26 _ _ _ _ _ _ _ _ hf hE hR hS t_r0 (lv_sub hl [0, 1, 2, 4, 5, 6] rfl)
      · simp only [if_neg c11] at hf
        refine lv_iload C.x C.b dX10_least_106 (lv_at hl 5 rfl) ?_
        refine lv_goto (tgt := 112) C.x C.b dX10_least_108 (by decide) ?_
        exact w_X10_least_112 C hr hlk hk26 _ _ _ _ _ _ _ _ hf hE hR hS t_r0 (lv_sub hl [0, 1, 2, 4, 5, 6] rfl)
    · have hf := it_f hf c10
      refine lv_iload C.x C.b dX10_least_61 (lv_at hl 6 rfl) ?_
      refine lv_aload_n C.x C.b dX10_least_63 rfl (lv_at hl 0 rfl) ?_
      refine lv_iload C.x C.b dX10_least_64 (lv_at hl 5 rfl) ?_
      refine lv_iload_n C.x C.b dX10_least_66 rfl (lv_at hl 1 rfl) ?_
      refine lv_iload_n C.x C.b dX10_least_67 rfl (lv_at hl 2 rfl) ?_
      refine lv_iload C.x C.b dX10_least_68 (lv_at hl 7 rfl) ?_
      obtain ⟨q12, h_q12, hf⟩ := bd_e hf
      refine r_callV (As := [.int x5, .int x1, .int x2, .int x7]) (rest := [.int x6]) C hR hS t_r0 rfl mk_X10_isOver cl_X10_121 (k_X10_isOver t_r0 h_q12) ⟨⟨Nat.le_of_ble_eq_true rfl, Nat.le_of_ble_eq_true rfl⟩, ⟨rfl, rfl⟩, Nat.le_of_ble_eq_true rfl, Nat.le_of_ble_eq_true rfl⟩ rfl hl.1 rfl (Nat.le_of_ble_eq_true rfl) dX10_least_70 (fun H locs hR hS hE1 z_q12 => ?_)
      have z_q12 := z_q12 _ rfl
      refine lv_if_eq (tgt := 89) C.x C.b dX10_least_73 (by decide) (fun c13 => ?_) (fun c13 => ?_)
      · have hf := it_t hf c13
        refine lv_iconst (v := (0 : Int32)) C.x C.b dX10_least_89 (by decide) ?_
        exact w_X10_least_90 C hr hlk hk26 hk52 _ _ _ _ _ _ _ _ _ _ hf hE hR hS t_r0 (lv_sub hl [0, 1, 2, 3, 4, 5, 7] rfl)
      · have hf := it_f hf c13
        refine lv_aload_n C.x C.b dX10_least_76 rfl (lv_at hl 0 rfl) ?_
        refine lv_aload_n C.x C.b dX10_least_77 rfl (lv_at hl 0 rfl) ?_
        obtain ⟨g14, hf⟩ := gd_e hf
        refine r_getr C hR t_r0 fl_X10_20 (by decide) (nz_e g14) dX10_least_78 (fun tq15 => ?_)
        have tg14 := okA tq15 rfl
        refine lv_iload C.x C.b dX10_least_81 (lv_at hl 7 rfl) ?_
        obtain ⟨q16, h_q16, hf⟩ := bd_e hf
        refine r_callV (As := [.ref (G.2.2 + (hpR h r0 6)), .int x7]) (rest := [.int x6]) C hR hS t_r0 rfl mk_X10_strengthOn cl_X10_297 (k_X10_strengthOn t_r0 tg14 h_q16) ⟨⟨Nat.le_of_ble_eq_true rfl, Nat.le_of_ble_eq_true rfl⟩, ⟨rfl, rfl⟩, Nat.le_of_ble_eq_true rfl, Nat.le_of_ble_eq_true rfl⟩ rfl hl.1 rfl (Nat.le_of_ble_eq_true rfl) dX10_least_83 (fun H locs hR hS hE1 z_q16 => ?_)
        refine lv_goto (tgt := 90) C.x C.b dX10_least_86 (by decide) ?_
        exact w_X10_least_90 C hr hlk hk26 hk52 _ _ _ _ _ _ _ _ _ _ hf hE hR hS t_r0 (lv_sub hl [0, 1, 2, 3, 4, 5, 7] rfl)
set_option maxRecDepth 100000 in
set_option maxHeartbeats 4000000 in
theorem w_X10_least_26 {G : Gt} {l : Launch} {p : Program} {e : Env} {s : State} {m : MethodId} {args : Array Value} {below : List Frame} {meth : Method} {c : Code} {h0 : Hp} {out : (Int32 × Hp)} {r0 : Nat} {x1 : Int32} {x2 : Int32}  (C : Cx G p m c cX10_least 8 s args RX10) (hr : meth.sig.returnType = some .int) (hlk : meth.locks = false)  (n : Nat) : P_X10_least_26 G l p e s m args below meth c h0 out r0 x1 x2 (f_X10_least_26 r0 x1 x2 n) := by
  induction n with
  | zero => intro H locs ls h x3 x4 x5 hf hE hR hS t_r0 hl; cases hf
  | succ n hk26 =>
    intro H locs ls h x3 x4 x5 hf hE hR hS t_r0 hl
    rw [f_X10_least_26] at hf
    obtain ⟨k26, e_k26⟩ : ∃ y, y = f_X10_least_26 r0 x1 x2 n := ⟨_, rfl⟩
    have hf := lt_e hf e_k26
    rw [← e_k26] at hk26
    refine lv_iload C.x C.b dX10_least_26 (lv_at hl 5 rfl) ?_
    refine lv_aload_n C.x C.b dX10_least_28 rfl (lv_at hl 0 rfl) ?_
    obtain ⟨q4, h_q4, hf⟩ := bd_e hf
    refine r_callV (As := []) (rest := [.int x5]) C hR hS t_r0 rfl mk_X10_cells cl_X10_113 (k_X10_cells t_r0 h_q4) ⟨⟨Nat.le_of_ble_eq_true rfl, Nat.le_of_ble_eq_true rfl⟩, ⟨rfl, rfl⟩, Nat.le_of_ble_eq_true rfl, Nat.le_of_ble_eq_true rfl⟩ rfl hl.1 rfl (Nat.le_of_ble_eq_true rfl) dX10_least_29 (fun H locs hR hS hE1 z_q4 => ?_)
    refine lv_icmp_ge (tgt := 128) C.x C.b dX10_least_32 (by decide) (fun c5 => ?_) (fun c5 => ?_)
    · have hf := it_t hf c5
      refine lv_iload_n C.x C.b dX10_least_128 rfl (lv_at hl 3 rfl) ?_
      refine lv_if_ge (tgt := 135) C.x C.b dX10_least_129 (by decide) (fun c6 => ?_) (fun c6 => ?_)
      · have hf := it_t hf c6
        refine lv_iconst (v := (0 : Int32)) C.x C.b dX10_least_135 (by decide) ?_
        refine lv_istore (lv' := [(5, .int (0 : Int32)), (0, .ref (G.2.2 + r0)), (1, .int x1), (2, .int x2), (3, .int x3), (4, .int x4)]) C.x C.b dX10_least_136 hl (by decide) rfl (fun ls hl => ?_)
        refine lv_iconst (v := (0 : Int32)) C.x C.b dX10_least_138 (by decide) ?_
        refine lv_istore (lv' := [(6, .int (0 : Int32)), (5, .int (0 : Int32)), (0, .ref (G.2.2 + r0)), (1, .int x1), (2, .int x2), (3, .int x3), (4, .int x4)]) C.x C.b dX10_least_139 hl (by decide) rfl (fun ls hl => ?_)
        exact w_X10_least_141 C hr hlk FU _ _ _ _ _ _ _ _ hf hE hR hS t_r0 (lv_sub hl [2, 3, 4, 5, 6, 1, 0] rfl)
      · have hf := it_f hf c6
        refine lv_bipush (v := (-2 : Int32)) C.x C.b dX10_least_132 (by decide) ?_
        have hf := so_e hf
        subst hf
        exact r_iret C hr hlk hR hE hS dX10_least_134
    · have hf := it_f hf c5
      refine lv_aload_n C.x C.b dX10_least_35 rfl (lv_at hl 0 rfl) ?_
      refine lv_iload C.x C.b dX10_least_36 (lv_at hl 5 rfl) ?_
      refine lv_iload_n C.x C.b dX10_least_38 rfl (lv_at hl 1 rfl) ?_
      refine lv_iload_n C.x C.b dX10_least_39 rfl (lv_at hl 2 rfl) ?_
      obtain ⟨q7, h_q7, hf⟩ := bd_e hf
      refine r_callV (As := [.int x5, .int x1, .int x2]) (rest := []) C hR hS t_r0 rfl mk_X10_isIn cl_X10_324 (k_X10_isIn t_r0 h_q7) ⟨⟨Nat.le_of_ble_eq_true rfl, Nat.le_of_ble_eq_true rfl⟩, ⟨rfl, rfl⟩, Nat.le_of_ble_eq_true rfl, Nat.le_of_ble_eq_true rfl⟩ rfl hl.1 rfl (Nat.le_of_ble_eq_true rfl) dX10_least_40 (fun H locs hR hS hE1 z_q7 => ?_)
      have z_q7 := z_q7 _ rfl
      refine lv_if_eq (tgt := 122) C.x C.b dX10_least_43 (by decide) (fun c8 => ?_) (fun c8 => ?_)
      · have hf := it_t hf c8
        exact w_X10_least_122 C hr hlk hk26 _ _ _ _ _ _ _ hf hE hR hS t_r0 (lv_sub hl [0, 1, 2, 3, 4, 5] rfl)
      · have hf := it_f hf c8
        refine lv_iconst (v := (0 : Int32)) C.x C.b dX10_least_46 (by decide) ?_
        refine lv_istore (lv' := [(6, .int (0 : Int32)), (0, .ref (G.2.2 + r0)), (1, .int x1), (2, .int x2), (3, .int x3), (4, .int x4), (5, .int x5)]) C.x C.b dX10_least_47 hl (by decide) rfl (fun ls hl => ?_)
        refine lv_iconst (v := (0 : Int32)) C.x C.b dX10_least_49 (by decide) ?_
        refine lv_istore (lv' := [(7, .int (0 : Int32)), (6, .int (0 : Int32)), (0, .ref (G.2.2 + r0)), (1, .int x1), (2, .int x2), (3, .int x3), (4, .int x4), (5, .int x5)]) C.x C.b dX10_least_50 hl (by decide) rfl (fun ls hl => ?_)
        exact w_X10_least_52 C hr hlk hk26 FU _ _ _ _ _ _ _ _ _ hf hE hR hS t_r0 (lv_sub hl [2, 3, 4, 5, 6, 7, 1, 0] rfl)
set_option maxRecDepth 100000 in
set_option maxHeartbeats 4000000 in
theorem k_X10_least {G : Gt} {l : Launch} {h : Hp} {r0 : Nat} {x1 : Int32} {x2 : Int32} {out : (Int32 × Hp)} (t_r0 : hpT h r0 = (1, 10))  (hf : f_X10_least h r0 x1 x2 = some out) : Mt G l yX10_least cX10_least 8 (some .int) rm_X10_least [.ref (G.2.2 + r0), .int x1, .int x2] h (some (.int out.1)) out.2 0 0 0 := by
  refine r_met (by decide +kernel) (Nat.le_of_ble_eq_true rfl) ?_
  intro p e s m args below meth c ls C hr hlk hnm hR hS hl
  have hE : Ext h h := Ext.rf
  have hl : lv_has ls 8 [(0, .ref (G.2.2 + r0)), (1, .int x1), (2, .int x2)] := hl
  rw [f_X10_least] at hf
  refine lv_aload_n C.x C.b dX10_least_0 rfl (lv_at hl 0 rfl) ?_
  refine lv_iconst (v := (0 : Int32)) C.x C.b dX10_least_1 (by decide) ?_
  refine r_puti C hR hS t_r0 fl_X10_103 fp_X10_10_0 rfl dX10_least_2 (fun H locs hR hS => ?_)
  obtain ⟨h1, e_h1⟩ : ∃ y, y = upI h r0 0 (0 : Int32) := ⟨_, rfl⟩
  rw [← e_h1] at hR
  have hf := lt_e hf e_h1
  have hE := eI e_h1 hE
  have t_r0 := tI e_h1 t_r0
  refine lv_iload_n C.x C.b dX10_least_5 rfl (lv_at hl 1 rfl) ?_
  refine lv_iload_n C.x C.b dX10_least_6 rfl (lv_at hl 2 rfl) ?_
  obtain ⟨q2, h_q2, hf⟩ := bd_e hf
  refine r_callS (As := [.int x1, .int x2]) (rest := []) C hR hS mk_X10_isSize cl_X10_384 (k_X10_isSize h_q2) ⟨⟨Nat.le_of_ble_eq_true rfl, Nat.le_of_ble_eq_true rfl⟩, ⟨rfl, rfl⟩, Nat.le_of_ble_eq_true rfl, Nat.le_of_ble_eq_true rfl⟩ rfl hl.1 rfl (Nat.le_of_ble_eq_true rfl) dX10_least_7 (fun H locs hR hS hE1 z_q2 => ?_)
  have z_q2 := z_q2 _ rfl
  refine lv_if_ne (tgt := 15) C.x C.b dX10_least_10 (by decide) (fun c3 => ?_) (fun c3 => ?_)
  · have hf := it_f hf c3
    refine lv_bipush (v := (-2 : Int32)) C.x C.b dX10_least_15 (by decide) ?_
    refine lv_istore_n (lv' := [(3, .int (-2 : Int32)), (0, .ref (G.2.2 + r0)), (1, .int x1), (2, .int x2)]) C.x C.b dX10_least_17 rfl hl (by decide) rfl (fun ls hl => ?_)
    refine lv_ldcw C.x C.b C.ow (C.ts _ lk_X10_392) dX10_least_18 ?_
    refine lv_istore (lv' := [(4, .int (1000000 : Int32)), (3, .int (-2 : Int32)), (0, .ref (G.2.2 + r0)), (1, .int x1), (2, .int x2)]) C.x C.b dX10_least_21 hl (by decide) rfl (fun ls hl => ?_)
    refine lv_iconst (v := (0 : Int32)) C.x C.b dX10_least_23 (by decide) ?_
    refine lv_istore (lv' := [(5, .int (0 : Int32)), (4, .int (1000000 : Int32)), (3, .int (-2 : Int32)), (0, .ref (G.2.2 + r0)), (1, .int x1), (2, .int x2)]) C.x C.b dX10_least_24 hl (by decide) rfl (fun ls hl => ?_)
    exact w_X10_least_26 C hr hlk FU _ _ _ _ _ _ _ hf hE hR hS t_r0 (lv_sub hl [3, 4, 5, 2, 1, 0] rfl)
  · have hf := it_t hf c3
    refine lv_iconst (v := (-1 : Int32)) C.x C.b dX10_least_13 (by decide) ?_
    have hf := so_e hf
    subst hf
    exact r_iret C hr hlk hR hE hS dX10_least_14

def rm_X10_largest : Room := { frames := 5, cells := 0, slots := 0, locals := 124 }
def P_X10_largest_131 (G : Gt) (l : Launch) (p : Program) (e : Env) (s : State) (m : MethodId) (args : Array Value) (below : List Frame) (meth : Method) (c : Code) (h0 : Hp) (out : (Int32 × Hp)) (r0 : Nat) (k : Hp → Int64 → Int32 → Int32 → Int32 → Int32 → Option (Int32 × Hp)) : Prop := ∀ (H : Heap) (locs : List Loc) (ls : Array Slot) (h : Hp) (y1 : Int64) (x3 : Int32) (x4 : Int32) (x5 : Int32) (x6 : Int32), k h y1 x3 x4 x5 x6 = some out → Ext h0 h → Rel G h H → va_S (AA G.2.2) s.heap H locs → hpT h r0 = (1, 10) → lv_has ls 7 [(0, .ref (G.2.2 + r0)), (1, .long y1), (3, .int x3), (4, .int x4), (5, .int x5), (6, .int x6)] → W p l e rm_X10_largest s m args below meth c H locs 0 0 (MQ below (Qm G h0 out.2 (some (.int out.1)) 0) args s 0 0 (AA G.2.2)) (F0 m 131 ls [])
def P_X10_largest_51 (G : Gt) (l : Launch) (p : Program) (e : Env) (s : State) (m : MethodId) (args : Array Value) (below : List Frame) (meth : Method) (c : Code) (h0 : Hp) (out : (Int32 × Hp)) (r0 : Nat) (k : Hp → Int64 → Int32 → Int32 → Int32 → Int32 → Option (Int32 × Hp)) : Prop := ∀ (H : Heap) (locs : List Loc) (ls : Array Slot) (h : Hp) (y1 : Int64) (x3 : Int32) (x4 : Int32) (x5 : Int32) (x6 : Int32), k h y1 x3 x4 x5 x6 = some out → Ext h0 h → Rel G h H → va_S (AA G.2.2) s.heap H locs → hpT h r0 = (1, 10) → lv_has ls 7 [(0, .ref (G.2.2 + r0)), (1, .long y1), (3, .int x3), (4, .int x4), (5, .int x5), (6, .int x6)] → W p l e rm_X10_largest s m args below meth c H locs 0 0 (MQ below (Qm G h0 out.2 (some (.int out.1)) 0) args s 0 0 (AA G.2.2)) (F0 m 51 ls [])
def P_X10_largest_39 (G : Gt) (l : Launch) (p : Program) (e : Env) (s : State) (m : MethodId) (args : Array Value) (below : List Frame) (meth : Method) (c : Code) (h0 : Hp) (out : (Int32 × Hp)) (r0 : Nat) (k : Hp → Int64 → Int32 → Int32 → Int32 → Option (Int32 × Hp)) : Prop := ∀ (H : Heap) (locs : List Loc) (ls : Array Slot) (h : Hp) (y1 : Int64) (x3 : Int32) (x4 : Int32) (x5 : Int32), k h y1 x3 x4 x5 = some out → Ext h0 h → Rel G h H → va_S (AA G.2.2) s.heap H locs → hpT h r0 = (1, 10) → lv_has ls 7 [(0, .ref (G.2.2 + r0)), (1, .long y1), (3, .int x3), (4, .int x4), (5, .int x5)] → W p l e rm_X10_largest s m args below meth c H locs 0 0 (MQ below (Qm G h0 out.2 (some (.int out.1)) 0) args s 0 0 (AA G.2.2)) (F0 m 39 ls [])
def P_X10_largest_27 (G : Gt) (l : Launch) (p : Program) (e : Env) (s : State) (m : MethodId) (args : Array Value) (below : List Frame) (meth : Method) (c : Code) (h0 : Hp) (out : (Int32 × Hp)) (r0 : Nat) (k : Hp → Int64 → Int32 → Int32 → Option (Int32 × Hp)) : Prop := ∀ (H : Heap) (locs : List Loc) (ls : Array Slot) (h : Hp) (y1 : Int64) (x3 : Int32) (x4 : Int32), k h y1 x3 x4 = some out → Ext h0 h → Rel G h H → va_S (AA G.2.2) s.heap H locs → hpT h r0 = (1, 10) → lv_has ls 7 [(0, .ref (G.2.2 + r0)), (1, .long y1), (3, .int x3), (4, .int x4)] → W p l e rm_X10_largest s m args below meth c H locs 0 0 (MQ below (Qm G h0 out.2 (some (.int out.1)) 0) args s 0 0 (AA G.2.2)) (F0 m 27 ls [])
set_option maxRecDepth 100000 in
set_option maxHeartbeats 4000000 in
theorem w_X10_largest_131 {G : Gt} {l : Launch} {p : Program} {e : Env} {s : State} {m : MethodId} {args : Array Value} {below : List Frame} {meth : Method} {c : Code} {h0 : Hp} {out : (Int32 × Hp)} {r0 : Nat} {k27 : Hp → Int64 → Int32 → Int32 → Option (Int32 × Hp)} {k39 : Hp → Int64 → Int32 → Int32 → Int32 → Option (Int32 × Hp)} {k51 : Hp → Int64 → Int32 → Int32 → Int32 → Int32 → Option (Int32 × Hp)} (C : Cx G p m c cX10_largest 7 s args RX10) (hr : meth.sig.returnType = some .int) (hlk : meth.locks = false) (hk27 : P_X10_largest_27 G l p e s m args below meth c h0 out r0 k27) (hk39 : P_X10_largest_39 G l p e s m args below meth c h0 out r0 k39) (hk51 : P_X10_largest_51 G l p e s m args below meth c h0 out r0 k51) : P_X10_largest_131 G l p e s m args below meth c h0 out r0 (f_X10_largest_131 r0 k27 k39 k51) := by
  intro H locs ls h y1 x3 x4 x5 x6 hf hE hR hS t_r0 hl
  rw [f_X10_largest_131] at hf
  obtain ⟨v22, e_v22⟩ : ∃ y : Int32, y = x6 + (1 : Int32) := ⟨_, rfl⟩
  have hf := lt_e hf e_v22
  refine lv_iinc (v := v22) (lv' := [(6, .int v22), (0, .ref (G.2.2 + r0)), (1, .long y1), (3, .int x3), (4, .int x4), (5, .int x5)]) C.x C.b dX10_largest_131 hl (k := 5) rfl (by rw [e_v22]; rfl) (by decide) rfl (fun ls hl => ?_)
  refine lv_goto (tgt := 51) C.x C.b dX10_largest_134 (by decide) ?_
  exact hk51 _ _ _ _ _ _ _ _ _ hf hE hR hS t_r0 (lv_sub hl [1, 2, 3, 4, 5, 0] rfl)
set_option maxRecDepth 100000 in
set_option maxHeartbeats 4000000 in
theorem w_X10_largest_51 {G : Gt} {l : Launch} {p : Program} {e : Env} {s : State} {m : MethodId} {args : Array Value} {below : List Frame} {meth : Method} {c : Code} {h0 : Hp} {out : (Int32 × Hp)} {r0 : Nat} {k27 : Hp → Int64 → Int32 → Int32 → Option (Int32 × Hp)} {k39 : Hp → Int64 → Int32 → Int32 → Int32 → Option (Int32 × Hp)} (C : Cx G p m c cX10_largest 7 s args RX10) (hr : meth.sig.returnType = some .int) (hlk : meth.locks = false) (hk27 : P_X10_largest_27 G l p e s m args below meth c h0 out r0 k27) (hk39 : P_X10_largest_39 G l p e s m args below meth c h0 out r0 k39) (n : Nat) : P_X10_largest_51 G l p e s m args below meth c h0 out r0 (f_X10_largest_51 r0 k27 k39 n) := by
  induction n with
  | zero => intro H locs ls h y1 x3 x4 x5 x6 hf hE hR hS t_r0 hl; cases hf
  | succ n hk51 =>
    intro H locs ls h y1 x3 x4 x5 x6 hf hE hR hS t_r0 hl
    rw [f_X10_largest_51] at hf
    obtain ⟨k51, e_k51⟩ : ∃ y, y = f_X10_largest_51 r0 k27 k39 n := ⟨_, rfl⟩
    have hf := lt_e hf e_k51
    rw [← e_k51] at hk51
    refine lv_iload C.x C.b dX10_largest_51 (lv_at hl 5 rfl) ?_
    refine lv_aload_n C.x C.b dX10_largest_53 rfl (lv_at hl 0 rfl) ?_
    refine r_geti C hR t_r0 fl_X10_17 rfl dX10_largest_54 ?_
    refine lv_icmp_gt (tgt := 137) C.x C.b dX10_largest_57 (by decide) (fun c10 => ?_) (fun c10 => ?_)
    · have hf := it_t hf c10
      obtain ⟨v11, e_v11⟩ : ∃ y : Int32, y = x5 + (1 : Int32) := ⟨_, rfl⟩
      have hf := lt_e hf e_v11
      refine lv_iinc (v := v11) (lv' := [(5, .int v11), (0, .ref (G.2.2 + r0)), (1, .long y1), (3, .int x3), (4, .int x4), (6, .int x6)]) C.x C.b dX10_largest_137 hl (k := 4) rfl (by rw [e_v11]; rfl) (by decide) rfl (fun ls hl => ?_)
      refine lv_goto (tgt := 39) C.x C.b dX10_largest_140 (by decide) ?_
      exact hk39 _ _ _ _ _ _ _ _ hf hE hR hS t_r0 (lv_sub hl [1, 2, 3, 4, 0] rfl)
    · have hf := it_f hf c10
      refine lv_iload C.x C.b dX10_largest_60 (lv_at hl 4 rfl) ?_
      refine lv_iload C.x C.b dX10_largest_62 (lv_at hl 5 rfl) ?_
      refine lv_imul C.x C.b dX10_largest_64 ?_
      refine lv_iload_n C.x C.b dX10_largest_65 rfl (lv_at hl 2 rfl) ?_
      refine lv_icmp_le (tgt := 131) C.x C.b dX10_largest_66 (by decide) (fun c12 => ?_) (fun c12 => ?_)
      · have hf := it_t hf c12
        exact w_X10_largest_131 C hr hlk hk27 hk39 hk51 _ _ _ _ _ _ _ _ _ hf hE hR hS t_r0 (lv_sub hl [0, 1, 2, 3, 4, 5] rfl)
      · have hf := it_f hf c12
        refine lv_aload_n C.x C.b dX10_largest_69 rfl (lv_at hl 0 rfl) ?_
        refine lv_iload C.x C.b dX10_largest_70 (lv_at hl 3 rfl) ?_
        refine lv_iload C.x C.b dX10_largest_72 (lv_at hl 4 rfl) ?_
        refine lv_iload C.x C.b dX10_largest_74 (lv_at hl 5 rfl) ?_
        obtain ⟨q13, h_q13, hf⟩ := bd_e hf
        refine r_callV (As := [.int x4, .int x5, .int x6]) (rest := []) C hR hS t_r0 rfl mk_X10_isIn cl_X10_324 (k_X10_isIn t_r0 h_q13) ⟨⟨Nat.le_of_ble_eq_true rfl, Nat.le_of_ble_eq_true rfl⟩, ⟨rfl, rfl⟩, Nat.le_of_ble_eq_true rfl, Nat.le_of_ble_eq_true rfl⟩ rfl hl.1 rfl (Nat.le_of_ble_eq_true rfl) dX10_largest_76 (fun H locs hR hS hE1 z_q13 => ?_)
        have z_q13 := z_q13 _ rfl
        refine lv_if_eq (tgt := 131) C.x C.b dX10_largest_79 (by decide) (fun c14 => ?_) (fun c14 => ?_)
        · have hf := it_t hf c14
          exact w_X10_largest_131 C hr hlk hk27 hk39 hk51 _ _ _ _ _ _ _ _ _ hf hE hR hS t_r0 (lv_sub hl [0, 1, 2, 3, 4, 5] rfl)
        · have hf := it_f hf c14
          refine lv_aload_n C.x C.b dX10_largest_82 rfl (lv_at hl 0 rfl) ?_
          refine lv_iload C.x C.b dX10_largest_83 (lv_at hl 3 rfl) ?_
          refine lv_iload C.x C.b dX10_largest_85 (lv_at hl 4 rfl) ?_
          refine lv_iload C.x C.b dX10_largest_87 (lv_at hl 5 rfl) ?_
          obtain ⟨q15, h_q15, hf⟩ := bd_e hf
          refine r_callV (As := [.int x4, .int x5, .int x6]) (rest := []) C hR hS t_r0 rfl mk_X10_area cl_X10_125 (k_X10_area t_r0 h_q15) ⟨⟨Nat.le_of_ble_eq_true rfl, Nat.le_of_ble_eq_true rfl⟩, ⟨rfl, rfl⟩, Nat.le_of_ble_eq_true rfl, Nat.le_of_ble_eq_true rfl⟩ rfl hl.1 rfl (Nat.le_of_ble_eq_true rfl) dX10_largest_89 (fun H locs hR hS hE1 z_q15 => ?_)
          refine lv_lload_n C.x C.b dX10_largest_92 rfl (lv_at hl 1 rfl) ?_
          refine lv_land C.x C.b dX10_largest_93 ?_
          refine lv_lconst (v := (0 : Int64)) C.x C.b dX10_largest_94 (by decide) ?_
          refine W.lcmp C.x C.b dX10_largest_95 ?_
          refine lv_if_ne (tgt := 131) C.x C.b dX10_largest_96 (by decide) (fun c16 => ?_) (fun c16 => ?_)
          · have hf := it_f hf c16
            exact w_X10_largest_131 C hr hlk hk27 hk39 hk51 _ _ _ _ _ _ _ _ _ hf hE hR hS t_r0 (lv_sub hl [0, 1, 2, 3, 4, 5] rfl)
          · have hf := it_t hf c16
            refine lv_iload C.x C.b dX10_largest_99 (lv_at hl 4 rfl) ?_
            refine lv_iload C.x C.b dX10_largest_101 (lv_at hl 5 rfl) ?_
            refine lv_imul C.x C.b dX10_largest_103 ?_
            refine lv_topi (fun v17 e_v17 => ?_)
            have hf := lt_e hf e_v17
            refine lv_istore_n (lv' := [(3, .int v17), (0, .ref (G.2.2 + r0)), (1, .long y1), (4, .int x4), (5, .int x5), (6, .int x6)]) C.x C.b dX10_largest_104 rfl hl (by decide) rfl (fun ls hl => ?_)
            refine lv_aload_n C.x C.b dX10_largest_105 rfl (lv_at hl 1 rfl) ?_
            refine lv_iconst (v := (0 : Int32)) C.x C.b dX10_largest_106 (by decide) ?_
            refine r_puti C hR hS t_r0 fl_X10_110 fp_X10_10_1 rfl dX10_largest_107 (fun H locs hR hS => ?_)
            obtain ⟨h18, e_h18⟩ : ∃ y, y = upI h r0 1 (0 : Int32) := ⟨_, rfl⟩
            rw [← e_h18] at hR
            have hf := lt_e hf e_h18
            have hE := eI e_h18 hE
            have t_r0 := tI e_h18 t_r0
            refine lv_aload_n C.x C.b dX10_largest_110 rfl (lv_at hl 1 rfl) ?_
            refine lv_iload C.x C.b dX10_largest_111 (lv_at hl 3 rfl) ?_
            refine lv_i2l C.x C.b dX10_largest_113 rfl ?_
            obtain ⟨q19, h_q19, hf⟩ := bd_e hf
            refine r_callV (As := [.long (x4.toInt64)]) (rest := []) C hR hS t_r0 rfl mk_X10_enters cl_X10_339 (k_X10_enters t_r0 h_q19) ⟨⟨Nat.le_of_ble_eq_true rfl, Nat.le_of_ble_eq_true rfl⟩, ⟨rfl, rfl⟩, Nat.le_of_ble_eq_true rfl, Nat.le_of_ble_eq_true rfl⟩ rfl hl.1 rfl (Nat.le_of_ble_eq_true rfl) dX10_largest_114 (fun H locs hR hS hE1 z_q19 => ?_)
            have hE := hE.tr hE1
            have t_r0 := hE1.at t_r0 (by decide)
            refine lv_aload_n C.x C.b dX10_largest_117 rfl (lv_at hl 1 rfl) ?_
            refine lv_iload C.x C.b dX10_largest_118 (lv_at hl 4 rfl) ?_
            refine lv_i2l C.x C.b dX10_largest_120 rfl ?_
            obtain ⟨q20, h_q20, hf⟩ := bd_e hf
            refine r_callV (As := [.long (x5.toInt64)]) (rest := []) C hR hS t_r0 rfl mk_X10_enters cl_X10_339 (k_X10_enters t_r0 h_q20) ⟨⟨Nat.le_of_ble_eq_true rfl, Nat.le_of_ble_eq_true rfl⟩, ⟨rfl, rfl⟩, Nat.le_of_ble_eq_true rfl, Nat.le_of_ble_eq_true rfl⟩ rfl hl.1 rfl (Nat.le_of_ble_eq_true rfl) dX10_largest_121 (fun H locs hR hS hE1 z_q20 => ?_)
            have hE := hE.tr hE1
            have t_r0 := hE1.at t_r0 (by decide)
            refine lv_aload_n C.x C.b dX10_largest_124 rfl (lv_at hl 1 rfl) ?_
            refine lv_iload C.x C.b dX10_largest_125 (lv_at hl 5 rfl) ?_
            refine lv_i2l C.x C.b dX10_largest_127 rfl ?_
            obtain ⟨q21, h_q21, hf⟩ := bd_e hf
            refine r_callV (As := [.long (x6.toInt64)]) (rest := []) C hR hS t_r0 rfl mk_X10_enters cl_X10_339 (k_X10_enters t_r0 h_q21) ⟨⟨Nat.le_of_ble_eq_true rfl, Nat.le_of_ble_eq_true rfl⟩, ⟨rfl, rfl⟩, Nat.le_of_ble_eq_true rfl, Nat.le_of_ble_eq_true rfl⟩ rfl hl.1 rfl (Nat.le_of_ble_eq_true rfl) dX10_largest_128 (fun H locs hR hS hE1 z_q21 => ?_)
            have hE := hE.tr hE1
            have t_r0 := hE1.at t_r0 (by decide)
            exact w_X10_largest_131 C hr hlk hk27 hk39 hk51 _ _ _ _ _ _ _ _ _ hf hE hR hS t_r0 (lv_sub hl [1, 2, 0, 3, 4, 5] rfl)
set_option maxRecDepth 100000 in
set_option maxHeartbeats 4000000 in
theorem w_X10_largest_39 {G : Gt} {l : Launch} {p : Program} {e : Env} {s : State} {m : MethodId} {args : Array Value} {below : List Frame} {meth : Method} {c : Code} {h0 : Hp} {out : (Int32 × Hp)} {r0 : Nat} {k27 : Hp → Int64 → Int32 → Int32 → Option (Int32 × Hp)} (C : Cx G p m c cX10_largest 7 s args RX10) (hr : meth.sig.returnType = some .int) (hlk : meth.locks = false) (hk27 : P_X10_largest_27 G l p e s m args below meth c h0 out r0 k27) (n : Nat) : P_X10_largest_39 G l p e s m args below meth c h0 out r0 (f_X10_largest_39 r0 k27 n) := by
  induction n with
  | zero => intro H locs ls h y1 x3 x4 x5 hf hE hR hS t_r0 hl; cases hf
  | succ n hk39 =>
    intro H locs ls h y1 x3 x4 x5 hf hE hR hS t_r0 hl
    rw [f_X10_largest_39] at hf
    obtain ⟨k39, e_k39⟩ : ∃ y, y = f_X10_largest_39 r0 k27 n := ⟨_, rfl⟩
    have hf := lt_e hf e_k39
    rw [← e_k39] at hk39
    refine lv_iload C.x C.b dX10_largest_39 (lv_at hl 4 rfl) ?_
    refine lv_aload_n C.x C.b dX10_largest_41 rfl (lv_at hl 0 rfl) ?_
    refine r_geti C hR t_r0 fl_X10_13 rfl dX10_largest_42 ?_
    refine lv_icmp_gt (tgt := 143) C.x C.b dX10_largest_45 (by decide) (fun c8 => ?_) (fun c8 => ?_)
    · have hf := it_t hf c8
      obtain ⟨v9, e_v9⟩ : ∃ y : Int32, y = x4 + (1 : Int32) := ⟨_, rfl⟩
      have hf := lt_e hf e_v9
      refine lv_iinc (v := v9) (lv' := [(4, .int v9), (0, .ref (G.2.2 + r0)), (1, .long y1), (3, .int x3), (5, .int x5)]) C.x C.b dX10_largest_143 hl (k := 3) rfl (by rw [e_v9]; rfl) (by decide) rfl (fun ls hl => ?_)
      refine lv_goto (tgt := 27) C.x C.b dX10_largest_146 (by decide) ?_
      exact hk27 _ _ _ _ _ _ _ hf hE hR hS t_r0 (lv_sub hl [1, 2, 3, 0] rfl)
    · have hf := it_f hf c8
      refine lv_iconst (v := (1 : Int32)) C.x C.b dX10_largest_48 (by decide) ?_
      refine lv_istore (lv' := [(6, .int (1 : Int32)), (0, .ref (G.2.2 + r0)), (1, .long y1), (3, .int x3), (4, .int x4), (5, .int x5)]) C.x C.b dX10_largest_49 hl (by decide) rfl (fun ls hl => ?_)
      exact w_X10_largest_51 C hr hlk hk27 hk39 FU _ _ _ _ _ _ _ _ _ hf hE hR hS t_r0 (lv_sub hl [1, 2, 3, 4, 5, 0] rfl)
set_option maxRecDepth 100000 in
set_option maxHeartbeats 4000000 in
theorem w_X10_largest_27 {G : Gt} {l : Launch} {p : Program} {e : Env} {s : State} {m : MethodId} {args : Array Value} {below : List Frame} {meth : Method} {c : Code} {h0 : Hp} {out : (Int32 × Hp)} {r0 : Nat}  (C : Cx G p m c cX10_largest 7 s args RX10) (hr : meth.sig.returnType = some .int) (hlk : meth.locks = false)  (n : Nat) : P_X10_largest_27 G l p e s m args below meth c h0 out r0 (f_X10_largest_27 r0 n) := by
  induction n with
  | zero => intro H locs ls h y1 x3 x4 hf hE hR hS t_r0 hl; cases hf
  | succ n hk27 =>
    intro H locs ls h y1 x3 x4 hf hE hR hS t_r0 hl
    rw [f_X10_largest_27] at hf
    obtain ⟨k27, e_k27⟩ : ∃ y, y = f_X10_largest_27 r0 n := ⟨_, rfl⟩
    have hf := lt_e hf e_k27
    rw [← e_k27] at hk27
    refine lv_iload C.x C.b dX10_largest_27 (lv_at hl 3 rfl) ?_
    refine lv_aload_n C.x C.b dX10_largest_29 rfl (lv_at hl 0 rfl) ?_
    obtain ⟨q6, h_q6, hf⟩ := bd_e hf
    refine r_callV (As := []) (rest := [.int x4]) C hR hS t_r0 rfl mk_X10_cells cl_X10_113 (k_X10_cells t_r0 h_q6) ⟨⟨Nat.le_of_ble_eq_true rfl, Nat.le_of_ble_eq_true rfl⟩, ⟨rfl, rfl⟩, Nat.le_of_ble_eq_true rfl, Nat.le_of_ble_eq_true rfl⟩ rfl hl.1 rfl (Nat.le_of_ble_eq_true rfl) dX10_largest_30 (fun H locs hR hS hE1 z_q6 => ?_)
    refine lv_icmp_ge (tgt := 149) C.x C.b dX10_largest_33 (by decide) (fun c7 => ?_) (fun c7 => ?_)
    · have hf := it_t hf c7
      refine lv_iload_n C.x C.b dX10_largest_149 rfl (lv_at hl 2 rfl) ?_
      have hf := so_e hf
      subst hf
      exact r_iret C hr hlk hR hE hS dX10_largest_150
    · have hf := it_f hf c7
      refine lv_iconst (v := (1 : Int32)) C.x C.b dX10_largest_36 (by decide) ?_
      refine lv_istore (lv' := [(5, .int (1 : Int32)), (0, .ref (G.2.2 + r0)), (1, .long y1), (3, .int x3), (4, .int x4)]) C.x C.b dX10_largest_37 hl (by decide) rfl (fun ls hl => ?_)
      exact w_X10_largest_39 C hr hlk hk27 FU _ _ _ _ _ _ _ _ hf hE hR hS t_r0 (lv_sub hl [1, 2, 3, 4, 0] rfl)
set_option maxRecDepth 100000 in
set_option maxHeartbeats 4000000 in
theorem k_X10_largest {G : Gt} {l : Launch} {h : Hp} {r0 : Nat} {out : (Int32 × Hp)} (t_r0 : hpT h r0 = (1, 10))  (hf : f_X10_largest h r0 = some out) : Mt G l yX10_largest cX10_largest 7 (some .int) rm_X10_largest [.ref (G.2.2 + r0)] h (some (.int out.1)) out.2 0 0 0 := by
  refine r_met (by decide +kernel) (Nat.le_of_ble_eq_true rfl) ?_
  intro p e s m args below meth c ls C hr hlk hnm hR hS hl
  have hE : Ext h h := Ext.rf
  have hl : lv_has ls 7 [(0, .ref (G.2.2 + r0))] := hl
  rw [f_X10_largest] at hf
  refine lv_aload_n C.x C.b dX10_largest_0 rfl (lv_at hl 0 rfl) ?_
  refine lv_iconst (v := (0 : Int32)) C.x C.b dX10_largest_1 (by decide) ?_
  refine r_puti C hR hS t_r0 fl_X10_103 fp_X10_10_0 rfl dX10_largest_2 (fun H locs hR hS => ?_)
  obtain ⟨h1, e_h1⟩ : ∃ y, y = upI h r0 0 (0 : Int32) := ⟨_, rfl⟩
  rw [← e_h1] at hR
  have hf := lt_e hf e_h1
  have hE := eI e_h1 hE
  have t_r0 := tI e_h1 t_r0
  refine lv_aload_n C.x C.b dX10_largest_5 rfl (lv_at hl 0 rfl) ?_
  refine lv_aload_n C.x C.b dX10_largest_6 rfl (lv_at hl 0 rfl) ?_
  obtain ⟨g2, hf⟩ := gd_e hf
  refine r_getr C hR t_r0 fl_X10_20 (by decide) (nz_e g2) dX10_largest_7 (fun tq3 => ?_)
  have tg2 := okA tq3 rfl
  refine lv_sipush (v := (255 : Int32)) C.x C.b dX10_largest_10 (by decide) ?_
  obtain ⟨q4, h_q4, hf⟩ := bd_e hf
  refine r_callV (As := [.ref (G.2.2 + (hpR h1 r0 6)), .int (255 : Int32)]) (rest := []) C hR hS t_r0 rfl mk_X10_sleptBy cl_X10_328 (k_X10_sleptBy t_r0 tg2 h_q4) ⟨⟨Nat.le_of_ble_eq_true rfl, Nat.le_of_ble_eq_true rfl⟩, ⟨rfl, rfl⟩, Nat.le_of_ble_eq_true rfl, Nat.le_of_ble_eq_true rfl⟩ rfl hl.1 rfl (Nat.le_of_ble_eq_true rfl) dX10_largest_13 (fun H locs hR hS hE1 z_q4 => ?_)
  refine lv_lstore_n (lv' := [(1, .long q4), (0, .ref (G.2.2 + r0))]) C.x C.b dX10_largest_16 rfl hl (by decide) rfl (fun ls hl => ?_)
  refine lv_iconst (v := (0 : Int32)) C.x C.b dX10_largest_17 (by decide) ?_
  refine lv_istore_n (lv' := [(3, .int (0 : Int32)), (1, .long q4), (0, .ref (G.2.2 + r0))]) C.x C.b dX10_largest_18 rfl hl (by decide) rfl (fun ls hl => ?_)
  refine lv_aload_n C.x C.b dX10_largest_19 rfl (lv_at hl 2 rfl) ?_
  refine lv_iconst (v := (0 : Int32)) C.x C.b dX10_largest_20 (by decide) ?_
  refine r_puti C hR hS t_r0 fl_X10_110 fp_X10_10_1 rfl dX10_largest_21 (fun H locs hR hS => ?_)
  obtain ⟨h5, e_h5⟩ : ∃ y, y = upI h1 r0 1 (0 : Int32) := ⟨_, rfl⟩
  rw [← e_h5] at hR
  have hf := lt_e hf e_h5
  have hE := eI e_h5 hE
  have t_r0 := tI e_h5 t_r0
  refine lv_iconst (v := (0 : Int32)) C.x C.b dX10_largest_24 (by decide) ?_
  refine lv_istore (lv' := [(4, .int (0 : Int32)), (3, .int (0 : Int32)), (1, .long q4), (0, .ref (G.2.2 + r0))]) C.x C.b dX10_largest_25 hl (by decide) rfl (fun ls hl => ?_)
  exact w_X10_largest_27 C hr hlk FU _ _ _ _ _ _ _ hf hE hR hS t_r0 (lv_sub hl [3, 2, 1, 0] rfl)

def rm_X10_isFewer : Room := { frames := 1, cells := 0, slots := 0, locals := 20 }
def P_X10_isFewer_15 (G : Gt) (l : Launch) (p : Program) (e : Env) (s : State) (m : MethodId) (args : Array Value) (below : List Frame) (meth : Method) (c : Code) (h : Hp) (out : Int32) (x0 : Int32) (x1 : Int32) (k : Option Int32) : Prop := ∀ (H : Heap) (locs : List Loc) (ls : Array Slot), k = some out → Rel G h H → va_S (AA G.2.2) s.heap H locs → lv_has ls 2 [(0, .int x0), (1, .int x1)] → W p l e rm_X10_isFewer s m args below meth c H locs 0 0 (MQ below (Qm G h h (some (.int out)) 1) args s 0 0 (AA G.2.2)) (F0 m 15 ls [])
set_option maxRecDepth 100000 in
set_option maxHeartbeats 4000000 in
theorem w_X10_isFewer_15 {G : Gt} {l : Launch} {p : Program} {e : Env} {s : State} {m : MethodId} {args : Array Value} {below : List Frame} {meth : Method} {c : Code} {h : Hp} {out : Int32} {x0 : Int32} {x1 : Int32}  (C : Cx G p m c cX10_isFewer 2 s args RX10) (hr : meth.sig.returnType = some .boolean) (hlk : meth.locks = false)  : P_X10_isFewer_15 G l p e s m args below meth c h out x0 x1 (f_X10_isFewer_15 h x0 x1) := by
  intro H locs ls  hf hR hS  hl
  rw [f_X10_isFewer_15] at hf
  refine lv_iconst (v := (1 : Int32)) C.x C.b dX10_isFewer_15 (by decide) ?_
  refine lv_goto (tgt := 20) C.x C.b dX10_isFewer_16 (by decide) ?_
  have hf := so_e hf
  subst hf
  exact r_zret C hr hlk hR Ext.rf hS z_1 dX10_isFewer_20
set_option maxRecDepth 100000 in
set_option maxHeartbeats 4000000 in
theorem k_X10_isFewer {G : Gt} {l : Launch} {h : Hp} {x0 : Int32} {x1 : Int32} {out : Int32}   (hf : f_X10_isFewer h x0 x1 = some out) : Mt G l yX10_isFewer cX10_isFewer 2 (some .boolean) rm_X10_isFewer [.int x0, .int x1] h (some (.int out)) h 1 0 0 := by
  refine r_met (by decide +kernel) (Nat.le_of_ble_eq_true rfl) ?_
  intro p e s m args below meth c ls C hr hlk hnm hR hS hl
  have hl : lv_has ls 2 [(0, .int x0), (1, .int x1)] := hl
  rw [f_X10_isFewer] at hf
  refine lv_iload_n C.x C.b dX10_isFewer_0 rfl (lv_at hl 1 rfl) ?_
  refine lv_if_lt (tgt := 15) C.x C.b dX10_isFewer_1 (by decide) (fun c1 => ?_) (fun c1 => ?_)
  · have hf := it_t hf c1
    exact w_X10_isFewer_15 C hr hlk _ _ _ hf hR hS (lv_sub hl [0, 1] rfl)
  · have hf := it_f hf c1
    refine lv_iload_n C.x C.b dX10_isFewer_4 rfl (lv_at hl 0 rfl) ?_
    obtain ⟨q2, h_q2, hf⟩ := bd_e hf
    refine r_callS (As := [.int x0]) (rest := []) C hR hS mk_J6_bitCount_0f7a4 cl_X10_264 (k_J6_bitCount_0f7a4 h_q2) ⟨⟨Nat.le_of_ble_eq_true rfl, Nat.le_of_ble_eq_true rfl⟩, ⟨rfl, rfl⟩, Nat.le_of_ble_eq_true rfl, Nat.le_of_ble_eq_true rfl⟩ rfl hl.1 rfl (Nat.le_of_ble_eq_true rfl) dX10_isFewer_5 (fun H locs hR hS hE1 z_q2 => ?_)
    refine lv_iload_n C.x C.b dX10_isFewer_8 rfl (lv_at hl 1 rfl) ?_
    obtain ⟨q3, h_q3, hf⟩ := bd_e hf
    refine r_callS (As := [.int x1]) (rest := [.int q2]) C hR hS mk_J6_bitCount_0f7a4 cl_X10_264 (k_J6_bitCount_0f7a4 h_q3) ⟨⟨Nat.le_of_ble_eq_true rfl, Nat.le_of_ble_eq_true rfl⟩, ⟨rfl, rfl⟩, Nat.le_of_ble_eq_true rfl, Nat.le_of_ble_eq_true rfl⟩ rfl hl.1 rfl (Nat.le_of_ble_eq_true rfl) dX10_isFewer_9 (fun H locs hR hS hE1 z_q3 => ?_)
    refine lv_icmp_ge (tgt := 19) C.x C.b dX10_isFewer_12 (by decide) (fun c4 => ?_) (fun c4 => ?_)
    · have hf := it_t hf c4
      refine lv_iconst (v := (0 : Int32)) C.x C.b dX10_isFewer_19 (by decide) ?_
      have hf := so_e hf
      subst hf
      exact r_zret C hr hlk hR Ext.rf hS z_0 dX10_isFewer_20
    · have hf := it_f hf c4
      exact w_X10_isFewer_15 C hr hlk _ _ _ hf hR hS (lv_sub hl [0, 1] rfl)

def rm_X10_makes : Room := { frames := 5, cells := 0, slots := 0, locals := 124 }
def P_X10_makes_74 (G : Gt) (l : Launch) (p : Program) (e : Env) (s : State) (m : MethodId) (args : Array Value) (below : List Frame) (meth : Method) (c : Code) (h0 : Hp) (out : (Int32 × Hp)) (r0 : Nat) (x1 : Int32) (x2 : Int32) (k : Hp → Int32 → Int32 → Option (Int32 × Hp)) : Prop := ∀ (H : Heap) (locs : List Loc) (ls : Array Slot) (h : Hp) (s0 : Int32) (x4 : Int32), k h s0 x4 = some out → Ext h0 h → Rel G h H → va_S (AA G.2.2) s.heap H locs → hpT h r0 = (1, 10) → lv_has ls 5 [(0, .ref (G.2.2 + r0)), (1, .int x1), (2, .int x2), (4, .int x4)] → W p l e rm_X10_makes s m args below meth c H locs 0 0 (MQ below (Qm G h0 out.2 (some (.int out.1)) 0) args s 0 0 (AA G.2.2)) (F0 m 74 ls [.int s0])
def P_X10_makes_73 (G : Gt) (l : Launch) (p : Program) (e : Env) (s : State) (m : MethodId) (args : Array Value) (below : List Frame) (meth : Method) (c : Code) (h0 : Hp) (out : (Int32 × Hp)) (r0 : Nat) (x1 : Int32) (x2 : Int32) (k : Hp → Int32 → Int32 → Option (Int32 × Hp)) : Prop := ∀ (H : Heap) (locs : List Loc) (ls : Array Slot) (h : Hp) (x3 : Int32) (x4 : Int32), k h x3 x4 = some out → Ext h0 h → Rel G h H → va_S (AA G.2.2) s.heap H locs → hpT h r0 = (1, 10) → lv_has ls 5 [(0, .ref (G.2.2 + r0)), (1, .int x1), (2, .int x2), (3, .int x3), (4, .int x4)] → W p l e rm_X10_makes s m args below meth c H locs 0 0 (MQ below (Qm G h0 out.2 (some (.int out.1)) 0) args s 0 0 (AA G.2.2)) (F0 m 73 ls [])
def P_X10_makes_20 (G : Gt) (l : Launch) (p : Program) (e : Env) (s : State) (m : MethodId) (args : Array Value) (below : List Frame) (meth : Method) (c : Code) (h0 : Hp) (out : (Int32 × Hp)) (r0 : Nat) (x1 : Int32) (x2 : Int32) (k : Hp → Int32 → Int32 → Option (Int32 × Hp)) : Prop := ∀ (H : Heap) (locs : List Loc) (ls : Array Slot) (h : Hp) (x3 : Int32) (x4 : Int32), k h x3 x4 = some out → Ext h0 h → Rel G h H → va_S (AA G.2.2) s.heap H locs → hpT h r0 = (1, 10) → lv_has ls 5 [(0, .ref (G.2.2 + r0)), (1, .int x1), (2, .int x2), (3, .int x3), (4, .int x4)] → W p l e rm_X10_makes s m args below meth c H locs 0 0 (MQ below (Qm G h0 out.2 (some (.int out.1)) 0) args s 0 0 (AA G.2.2)) (F0 m 20 ls [])
set_option maxRecDepth 100000 in
set_option maxHeartbeats 4000000 in
theorem w_X10_makes_74 {G : Gt} {l : Launch} {p : Program} {e : Env} {s : State} {m : MethodId} {args : Array Value} {below : List Frame} {meth : Method} {c : Code} {h0 : Hp} {out : (Int32 × Hp)} {r0 : Nat} {x1 : Int32} {x2 : Int32} {k20 : Hp → Int32 → Int32 → Option (Int32 × Hp)} (C : Cx G p m c cX10_makes 5 s args RX10) (hr : meth.sig.returnType = some .int) (hlk : meth.locks = false) (hk20 : P_X10_makes_20 G l p e s m args below meth c h0 out r0 x1 x2 k20) : P_X10_makes_74 G l p e s m args below meth c h0 out r0 x1 x2 (f_X10_makes_74 r0 x1 x2 k20) := by
  intro H locs ls h s0 x4 hf hE hR hS t_r0 hl
  rw [f_X10_makes_74] at hf
  refine lv_istore_n (lv' := [(3, .int s0), (0, .ref (G.2.2 + r0)), (1, .int x1), (2, .int x2), (4, .int x4)]) C.x C.b dX10_makes_74 rfl hl (by decide) rfl (fun ls hl => ?_)
  obtain ⟨v19, e_v19⟩ : ∃ y : Int32, y = x4 + (1 : Int32) := ⟨_, rfl⟩
  have hf := lt_e hf e_v19
  refine lv_iinc (v := v19) (lv' := [(4, .int v19), (3, .int s0), (0, .ref (G.2.2 + r0)), (1, .int x1), (2, .int x2)]) C.x C.b dX10_makes_75 hl (k := 4) rfl (by rw [e_v19]; rfl) (by decide) rfl (fun ls hl => ?_)
  refine lv_goto (tgt := 20) C.x C.b dX10_makes_78 (by decide) ?_
  exact hk20 _ _ _ _ _ _ hf hE hR hS t_r0 (lv_sub hl [2, 3, 4, 1, 0] rfl)
set_option maxRecDepth 100000 in
set_option maxHeartbeats 4000000 in
theorem w_X10_makes_73 {G : Gt} {l : Launch} {p : Program} {e : Env} {s : State} {m : MethodId} {args : Array Value} {below : List Frame} {meth : Method} {c : Code} {h0 : Hp} {out : (Int32 × Hp)} {r0 : Nat} {x1 : Int32} {x2 : Int32} {k20 : Hp → Int32 → Int32 → Option (Int32 × Hp)} (C : Cx G p m c cX10_makes 5 s args RX10) (hr : meth.sig.returnType = some .int) (hlk : meth.locks = false) (hk20 : P_X10_makes_20 G l p e s m args below meth c h0 out r0 x1 x2 k20) : P_X10_makes_73 G l p e s m args below meth c h0 out r0 x1 x2 (f_X10_makes_73 r0 x1 x2 k20) := by
  intro H locs ls h x3 x4 hf hE hR hS t_r0 hl
  rw [f_X10_makes_73] at hf
  refine lv_iload_n C.x C.b dX10_makes_73 rfl (lv_at hl 3 rfl) ?_
  exact w_X10_makes_74 C hr hlk hk20 _ _ _ _ _ _ hf hE hR hS t_r0 (lv_sub hl [0, 1, 2, 4] rfl)
set_option maxRecDepth 100000 in
set_option maxHeartbeats 4000000 in
theorem w_X10_makes_20 {G : Gt} {l : Launch} {p : Program} {e : Env} {s : State} {m : MethodId} {args : Array Value} {below : List Frame} {meth : Method} {c : Code} {h0 : Hp} {out : (Int32 × Hp)} {r0 : Nat} {x1 : Int32} {x2 : Int32}  (C : Cx G p m c cX10_makes 5 s args RX10) (hr : meth.sig.returnType = some .int) (hlk : meth.locks = false)  (n : Nat) : P_X10_makes_20 G l p e s m args below meth c h0 out r0 x1 x2 (f_X10_makes_20 r0 x1 x2 n) := by
  induction n with
  | zero => intro H locs ls h x3 x4 hf hE hR hS t_r0 hl; cases hf
  | succ n hk20 =>
    intro H locs ls h x3 x4 hf hE hR hS t_r0 hl
    rw [f_X10_makes_20] at hf
    obtain ⟨k20, e_k20⟩ : ∃ y, y = f_X10_makes_20 r0 x1 x2 n := ⟨_, rfl⟩
    have hf := lt_e hf e_k20
    rw [← e_k20] at hk20
    refine lv_iload C.x C.b dX10_makes_20 (lv_at hl 4 rfl) ?_
    refine lv_iconst (v := (1 : Int32)) C.x C.b dX10_makes_22 (by decide) ?_
    refine lv_aload_n C.x C.b dX10_makes_23 rfl (lv_at hl 0 rfl) ?_
    obtain ⟨g4, hf⟩ := gd_e hf
    refine r_getr C hR t_r0 fl_X10_20 (by decide) (nz_e g4) dX10_makes_24 (fun tq5 => ?_)
    have tg4 := okA tq5 rfl
    refine lv_bipush (v := (48 : Int32)) C.x C.b dX10_makes_27 (by decide) ?_
    obtain ⟨g6, hf⟩ := gd_e hf
    refine r_iald C hR tg4 g6 dX10_makes_29 ?_
    refine lv_ishl C.x C.b dX10_makes_30 ?_
    refine lv_topi (fun v7 e_v7 => ?_)
    have hf := lt_e hf e_v7
    refine lv_icmp_ge (tgt := 81) C.x C.b dX10_makes_31 (by decide) (fun c8 => ?_) (fun c8 => ?_)
    · have hf := it_t hf c8
      refine lv_iload_n C.x C.b dX10_makes_81 rfl (lv_at hl 3 rfl) ?_
      refine lv_if_ge (tgt := 88) C.x C.b dX10_makes_82 (by decide) (fun c9 => ?_) (fun c9 => ?_)
      · have hf := it_t hf c9
        refine lv_aload_n C.x C.b dX10_makes_88 rfl (lv_at hl 0 rfl) ?_
        refine lv_iconst (v := (0 : Int32)) C.x C.b dX10_makes_89 (by decide) ?_
        refine r_puti C hR hS t_r0 fl_X10_110 fp_X10_10_1 rfl dX10_makes_90 (fun H locs hR hS => ?_)
        obtain ⟨h10, e_h10⟩ : ∃ y, y = upI h r0 1 (0 : Int32) := ⟨_, rfl⟩
        rw [← e_h10] at hR
        have hf := lt_e hf e_h10
        have hE := eI e_h10 hE
        have t_r0 := tI e_h10 t_r0
        refine lv_aload_n C.x C.b dX10_makes_93 rfl (lv_at hl 0 rfl) ?_
        refine lv_iload_n C.x C.b dX10_makes_94 rfl (lv_at hl 3 rfl) ?_
        refine lv_i2l C.x C.b dX10_makes_95 rfl ?_
        obtain ⟨q11, h_q11, hf⟩ := bd_e hf
        refine r_callV (As := [.long (x3.toInt64)]) (rest := []) C hR hS t_r0 rfl mk_X10_enters cl_X10_339 (k_X10_enters t_r0 h_q11) ⟨⟨Nat.le_of_ble_eq_true rfl, Nat.le_of_ble_eq_true rfl⟩, ⟨rfl, rfl⟩, Nat.le_of_ble_eq_true rfl, Nat.le_of_ble_eq_true rfl⟩ rfl hl.1 rfl (Nat.le_of_ble_eq_true rfl) dX10_makes_96 (fun H locs hR hS hE1 z_q11 => ?_)
        have hE := hE.tr hE1
        have t_r0 := hE1.at t_r0 (by decide)
        refine lv_iload_n C.x C.b dX10_makes_99 rfl (lv_at hl 3 rfl) ?_
        obtain ⟨q12, h_q12, hf⟩ := bd_e hf
        refine r_callS (As := [.int x3]) (rest := []) C hR hS mk_J6_bitCount_0f7a4 cl_X10_264 (k_J6_bitCount_0f7a4 h_q12) ⟨⟨Nat.le_of_ble_eq_true rfl, Nat.le_of_ble_eq_true rfl⟩, ⟨rfl, rfl⟩, Nat.le_of_ble_eq_true rfl, Nat.le_of_ble_eq_true rfl⟩ rfl hl.1 rfl (Nat.le_of_ble_eq_true rfl) dX10_makes_100 (fun H locs hR hS hE1 z_q12 => ?_)
        have hf := so_e hf
        subst hf
        exact r_iret C hr hlk hR hE hS dX10_makes_103
      · have hf := it_f hf c9
        refine lv_bipush (v := (-2 : Int32)) C.x C.b dX10_makes_85 (by decide) ?_
        have hf := so_e hf
        subst hf
        exact r_iret C hr hlk hR hE hS dX10_makes_87
    · have hf := it_f hf c8
      refine lv_iload C.x C.b dX10_makes_34 (lv_at hl 4 rfl) ?_
      refine lv_iload_n C.x C.b dX10_makes_36 rfl (lv_at hl 3 rfl) ?_
      obtain ⟨q13, h_q13, hf⟩ := bd_e hf
      refine r_callS (As := [.int x4, .int x3]) (rest := []) C hR hS mk_X10_isFewer cl_X10_393 (k_X10_isFewer h_q13) ⟨⟨Nat.le_of_ble_eq_true rfl, Nat.le_of_ble_eq_true rfl⟩, ⟨rfl, rfl⟩, Nat.le_of_ble_eq_true rfl, Nat.le_of_ble_eq_true rfl⟩ rfl hl.1 rfl (Nat.le_of_ble_eq_true rfl) dX10_makes_37 (fun H locs hR hS hE1 z_q13 => ?_)
      have z_q13 := z_q13 _ rfl
      refine lv_if_eq (tgt := 73) C.x C.b dX10_makes_40 (by decide) (fun c14 => ?_) (fun c14 => ?_)
      · have hf := it_t hf c14
        exact w_X10_makes_73 C hr hlk hk20 _ _ _ _ _ _ hf hE hR hS t_r0 (lv_sub hl [0, 1, 2, 3, 4] rfl)
      · have hf := it_f hf c14
        refine lv_aload_n C.x C.b dX10_makes_43 rfl (lv_at hl 0 rfl) ?_
        refine lv_aload_n C.x C.b dX10_makes_44 rfl (lv_at hl 0 rfl) ?_
        refine lv_aload_n C.x C.b dX10_makes_45 rfl (lv_at hl 0 rfl) ?_
        refine r_getr C hR t_r0 fl_X10_20 (by decide) (nz_e g4) dX10_makes_46 (fun tq15 => ?_)
        refine lv_sipush (v := (255 : Int32)) C.x C.b dX10_makes_49 (by decide) ?_
        refine lv_iload C.x C.b dX10_makes_52 (lv_at hl 4 rfl) ?_
        refine lv_iconst (v := (-1 : Int32)) C.x C.b dX10_makes_54 (by decide) ?_
        refine lv_ixor C.x C.b dX10_makes_55 ?_
        refine lv_iand C.x C.b dX10_makes_56 ?_
        obtain ⟨q16, h_q16, hf⟩ := bd_e hf
        refine r_callV (As := [.ref (G.2.2 + (hpR h r0 6)), .int ((255 : Int32) &&& (x4 ^^^ (-1 : Int32)))]) (rest := [.ref (G.2.2 + r0)]) C hR hS t_r0 rfl mk_X10_sleptBy cl_X10_328 (k_X10_sleptBy t_r0 tg4 h_q16) ⟨⟨Nat.le_of_ble_eq_true rfl, Nat.le_of_ble_eq_true rfl⟩, ⟨rfl, rfl⟩, Nat.le_of_ble_eq_true rfl, Nat.le_of_ble_eq_true rfl⟩ rfl hl.1 rfl (Nat.le_of_ble_eq_true rfl) dX10_makes_57 (fun H locs hR hS hE1 z_q16 => ?_)
        refine lv_iload_n C.x C.b dX10_makes_60 rfl (lv_at hl 1 rfl) ?_
        refine lv_iload_n C.x C.b dX10_makes_61 rfl (lv_at hl 2 rfl) ?_
        obtain ⟨q17, h_q17, hf⟩ := bd_e hf
        refine r_callV (As := [.long q16, .int x1, .int x2]) (rest := []) C hR hS t_r0 rfl mk_X10_roomOf cl_X10_388 (k_X10_roomOf t_r0 h_q17) ⟨⟨Nat.le_of_ble_eq_true rfl, Nat.le_of_ble_eq_true rfl⟩, ⟨rfl, rfl⟩, Nat.le_of_ble_eq_true rfl, Nat.le_of_ble_eq_true rfl⟩ rfl hl.1 rfl (Nat.le_of_ble_eq_true rfl) dX10_makes_62 (fun H locs hR hS hE1 z_q17 => ?_)
        have hE := hE.tr hE1
        have t_r0 := hE1.at t_r0 (by decide)
        refine lv_if_lt (tgt := 73) C.x C.b dX10_makes_65 (by decide) (fun c18 => ?_) (fun c18 => ?_)
        · have hf := it_t hf c18
          exact w_X10_makes_73 C hr hlk hk20 _ _ _ _ _ _ hf hE hR hS t_r0 (lv_sub hl [0, 1, 2, 3, 4] rfl)
        · have hf := it_f hf c18
          refine lv_iload C.x C.b dX10_makes_68 (lv_at hl 4 rfl) ?_
          refine lv_goto (tgt := 74) C.x C.b dX10_makes_70 (by decide) ?_
          exact w_X10_makes_74 C hr hlk hk20 _ _ _ _ _ _ hf hE hR hS t_r0 (lv_sub hl [0, 1, 2, 4] rfl)
set_option maxRecDepth 100000 in
set_option maxHeartbeats 4000000 in
theorem k_X10_makes {G : Gt} {l : Launch} {h : Hp} {r0 : Nat} {x1 : Int32} {x2 : Int32} {out : (Int32 × Hp)} (t_r0 : hpT h r0 = (1, 10))  (hf : f_X10_makes h r0 x1 x2 = some out) : Mt G l yX10_makes cX10_makes 5 (some .int) rm_X10_makes [.ref (G.2.2 + r0), .int x1, .int x2] h (some (.int out.1)) out.2 0 0 0 := by
  refine r_met (by decide +kernel) (Nat.le_of_ble_eq_true rfl) ?_
  intro p e s m args below meth c ls C hr hlk hnm hR hS hl
  have hE : Ext h h := Ext.rf
  have hl : lv_has ls 5 [(0, .ref (G.2.2 + r0)), (1, .int x1), (2, .int x2)] := hl
  rw [f_X10_makes] at hf
  refine lv_aload_n C.x C.b dX10_makes_0 rfl (lv_at hl 0 rfl) ?_
  refine lv_iconst (v := (0 : Int32)) C.x C.b dX10_makes_1 (by decide) ?_
  refine r_puti C hR hS t_r0 fl_X10_103 fp_X10_10_0 rfl dX10_makes_2 (fun H locs hR hS => ?_)
  obtain ⟨h1, e_h1⟩ : ∃ y, y = upI h r0 0 (0 : Int32) := ⟨_, rfl⟩
  rw [← e_h1] at hR
  have hf := lt_e hf e_h1
  have hE := eI e_h1 hE
  have t_r0 := tI e_h1 t_r0
  refine lv_iload_n C.x C.b dX10_makes_5 rfl (lv_at hl 1 rfl) ?_
  refine lv_iload_n C.x C.b dX10_makes_6 rfl (lv_at hl 2 rfl) ?_
  obtain ⟨q2, h_q2, hf⟩ := bd_e hf
  refine r_callS (As := [.int x1, .int x2]) (rest := []) C hR hS mk_X10_isSize cl_X10_384 (k_X10_isSize h_q2) ⟨⟨Nat.le_of_ble_eq_true rfl, Nat.le_of_ble_eq_true rfl⟩, ⟨rfl, rfl⟩, Nat.le_of_ble_eq_true rfl, Nat.le_of_ble_eq_true rfl⟩ rfl hl.1 rfl (Nat.le_of_ble_eq_true rfl) dX10_makes_7 (fun H locs hR hS hE1 z_q2 => ?_)
  have z_q2 := z_q2 _ rfl
  refine lv_if_ne (tgt := 15) C.x C.b dX10_makes_10 (by decide) (fun c3 => ?_) (fun c3 => ?_)
  · have hf := it_f hf c3
    refine lv_iconst (v := (-1 : Int32)) C.x C.b dX10_makes_15 (by decide) ?_
    refine lv_istore_n (lv' := [(3, .int (-1 : Int32)), (0, .ref (G.2.2 + r0)), (1, .int x1), (2, .int x2)]) C.x C.b dX10_makes_16 rfl hl (by decide) rfl (fun ls hl => ?_)
    refine lv_iconst (v := (0 : Int32)) C.x C.b dX10_makes_17 (by decide) ?_
    refine lv_istore (lv' := [(4, .int (0 : Int32)), (3, .int (-1 : Int32)), (0, .ref (G.2.2 + r0)), (1, .int x1), (2, .int x2)]) C.x C.b dX10_makes_18 hl (by decide) rfl (fun ls hl => ?_)
    exact w_X10_makes_20 C hr hlk FU _ _ _ _ _ _ hf hE hR hS t_r0 (lv_sub hl [2, 3, 4, 1, 0] rfl)
  · have hf := it_t hf c3
    refine lv_iconst (v := (-1 : Int32)) C.x C.b dX10_makes_13 (by decide) ?_
    have hf := so_e hf
    subst hf
    exact r_iret C hr hlk hR hE hS dX10_makes_14

def rm_X10_beside : Room := { frames := 1, cells := 0, slots := 0, locals := 25 }
def P_X10_beside_51 (G : Gt) (l : Launch) (p : Program) (e : Env) (s : State) (m : MethodId) (args : Array Value) (below : List Frame) (meth : Method) (c : Code) (h : Hp) (out : Int32) (r0 : Nat) (x1 : Int32) (x2 : Int32) (k : Int32 → Int32 → Int32 → Option Int32) : Prop := ∀ (H : Heap) (locs : List Loc) (ls : Array Slot) (s0 : Int32) (s1 : Int32) (x3 : Int32), k s0 s1 x3 = some out → Rel G h H → va_S (AA G.2.2) s.heap H locs → hpT h r0 = (1, 10) → lv_has ls 5 [(0, .ref (G.2.2 + r0)), (1, .int x1), (2, .int x2), (3, .int x3)] → W p l e rm_X10_beside s m args below meth c H locs 0 0 (MQ below (Qm G h h (some (.int out)) 0) args s 0 0 (AA G.2.2)) (F0 m 51 ls [.int s1, .int s0])
def P_X10_beside_24 (G : Gt) (l : Launch) (p : Program) (e : Env) (s : State) (m : MethodId) (args : Array Value) (below : List Frame) (meth : Method) (c : Code) (h : Hp) (out : Int32) (r0 : Nat) (x1 : Int32) (x2 : Int32) (k : Int32 → Int32 → Option Int32) : Prop := ∀ (H : Heap) (locs : List Loc) (ls : Array Slot) (s0 : Int32) (s1 : Int32), k s0 s1 = some out → Rel G h H → va_S (AA G.2.2) s.heap H locs → hpT h r0 = (1, 10) → lv_has ls 5 [(0, .ref (G.2.2 + r0)), (1, .int x1), (2, .int x2)] → W p l e rm_X10_beside s m args below meth c H locs 0 0 (MQ below (Qm G h h (some (.int out)) 0) args s 0 0 (AA G.2.2)) (F0 m 24 ls [.int s1, .int s0])
set_option maxRecDepth 100000 in
set_option maxHeartbeats 4000000 in
theorem w_X10_beside_51 {G : Gt} {l : Launch} {p : Program} {e : Env} {s : State} {m : MethodId} {args : Array Value} {below : List Frame} {meth : Method} {c : Code} {h : Hp} {out : Int32} {r0 : Nat} {x1 : Int32} {x2 : Int32}  (C : Cx G p m c cX10_beside 5 s args RX10) (hr : meth.sig.returnType = some .int) (hlk : meth.locks = false)  : P_X10_beside_51 G l p e s m args below meth c h out r0 x1 x2 (f_X10_beside_51 h r0 x1 x2) := by
  intro H locs ls s0 s1 x3 hf hR hS t_r0 hl
  rw [f_X10_beside_51] at hf
  refine lv_iadd C.x C.b dX10_beside_51 ?_
  refine lv_topi (fun v9 e_v9 => ?_)
  have hf := lt_e hf e_v9
  refine lv_istore (lv' := [(4, .int v9), (0, .ref (G.2.2 + r0)), (1, .int x1), (2, .int x2), (3, .int x3)]) C.x C.b dX10_beside_52 hl (by decide) rfl (fun ls hl => ?_)
  refine lv_iload_n C.x C.b dX10_beside_54 rfl (lv_at hl 4 rfl) ?_
  refine lv_i2l C.x C.b dX10_beside_55 rfl ?_
  refine lv_lconst (v := (0 : Int64)) C.x C.b dX10_beside_56 (by decide) ?_
  refine lv_aload_n C.x C.b dX10_beside_57 rfl (lv_at hl 1 rfl) ?_
  refine r_geti C hR t_r0 fl_X10_13 rfl dX10_beside_58 ?_
  refine lv_iconst (v := (1 : Int32)) C.x C.b dX10_beside_61 (by decide) ?_
  refine lv_isub C.x C.b dX10_beside_62 ?_
  refine lv_i2l C.x C.b dX10_beside_63 rfl ?_
  obtain ⟨q10, h_q10, hf⟩ := bd_e hf
  refine r_callS (As := [.long (x3.toInt64), .long (0 : Int64), .long (((hpI h r0 3) - (1 : Int32)).toInt64)]) (rest := []) C hR hS mk_X10_in cl_X10_117 (k_X10_in h_q10) ⟨⟨Nat.le_of_ble_eq_true rfl, Nat.le_of_ble_eq_true rfl⟩, ⟨rfl, rfl⟩, Nat.le_of_ble_eq_true rfl, Nat.le_of_ble_eq_true rfl⟩ rfl hl.1 rfl (Nat.le_of_ble_eq_true rfl) dX10_beside_64 (fun H locs hR hS hE1 z_q10 => ?_)
  have z_q10 := z_q10 _ rfl
  refine lv_if_eq (tgt := 99) C.x C.b dX10_beside_67 (by decide) (fun c11 => ?_) (fun c11 => ?_)
  · have hf := it_t hf c11
    refine lv_iconst (v := (-1 : Int32)) C.x C.b dX10_beside_99 (by decide) ?_
    have hf := so_e hf
    subst hf
    exact r_iret C hr hlk hR Ext.rf hS dX10_beside_100
  · have hf := it_f hf c11
    refine lv_iload C.x C.b dX10_beside_70 (lv_at hl 0 rfl) ?_
    refine lv_i2l C.x C.b dX10_beside_72 rfl ?_
    refine lv_lconst (v := (0 : Int64)) C.x C.b dX10_beside_73 (by decide) ?_
    refine lv_aload_n C.x C.b dX10_beside_74 rfl (lv_at hl 1 rfl) ?_
    refine r_geti C hR t_r0 fl_X10_17 rfl dX10_beside_75 ?_
    refine lv_iconst (v := (1 : Int32)) C.x C.b dX10_beside_78 (by decide) ?_
    refine lv_isub C.x C.b dX10_beside_79 ?_
    refine lv_i2l C.x C.b dX10_beside_80 rfl ?_
    obtain ⟨q12, h_q12, hf⟩ := bd_e hf
    refine r_callS (As := [.long (v9.toInt64), .long (0 : Int64), .long (((hpI h r0 4) - (1 : Int32)).toInt64)]) (rest := []) C hR hS mk_X10_in cl_X10_117 (k_X10_in h_q12) ⟨⟨Nat.le_of_ble_eq_true rfl, Nat.le_of_ble_eq_true rfl⟩, ⟨rfl, rfl⟩, Nat.le_of_ble_eq_true rfl, Nat.le_of_ble_eq_true rfl⟩ rfl hl.1 rfl (Nat.le_of_ble_eq_true rfl) dX10_beside_81 (fun H locs hR hS hE1 z_q12 => ?_)
    have z_q12 := z_q12 _ rfl
    refine lv_if_eq (tgt := 99) C.x C.b dX10_beside_84 (by decide) (fun c13 => ?_) (fun c13 => ?_)
    · have hf := it_t hf c13
      refine lv_iconst (v := (-1 : Int32)) C.x C.b dX10_beside_99 (by decide) ?_
      have hf := so_e hf
      subst hf
      exact r_iret C hr hlk hR Ext.rf hS dX10_beside_100
    · have hf := it_f hf c13
      refine lv_aload_n C.x C.b dX10_beside_87 rfl (lv_at hl 1 rfl) ?_
      refine r_geti C hR t_r0 fl_X10_17 rfl dX10_beside_88 ?_
      refine lv_iload_n C.x C.b dX10_beside_91 rfl (lv_at hl 4 rfl) ?_
      refine lv_imul C.x C.b dX10_beside_92 ?_
      refine lv_iload C.x C.b dX10_beside_93 (lv_at hl 0 rfl) ?_
      refine lv_iadd C.x C.b dX10_beside_95 ?_
      refine lv_goto (tgt := 100) C.x C.b dX10_beside_96 (by decide) ?_
      have hf := so_e hf
      subst hf
      exact r_iret C hr hlk hR Ext.rf hS dX10_beside_100
set_option maxRecDepth 100000 in
set_option maxHeartbeats 4000000 in
theorem w_X10_beside_24 {G : Gt} {l : Launch} {p : Program} {e : Env} {s : State} {m : MethodId} {args : Array Value} {below : List Frame} {meth : Method} {c : Code} {h : Hp} {out : Int32} {r0 : Nat} {x1 : Int32} {x2 : Int32}  (C : Cx G p m c cX10_beside 5 s args RX10) (hr : meth.sig.returnType = some .int) (hlk : meth.locks = false)  : P_X10_beside_24 G l p e s m args below meth c h out r0 x1 x2 (f_X10_beside_24 h r0 x1 x2) := by
  intro H locs ls s0 s1 hf hR hS t_r0 hl
  rw [f_X10_beside_24] at hf
  refine lv_iadd C.x C.b dX10_beside_24 ?_
  refine lv_topi (fun v4 e_v4 => ?_)
  have hf := lt_e hf e_v4
  refine lv_istore_n (lv' := [(3, .int v4), (0, .ref (G.2.2 + r0)), (1, .int x1), (2, .int x2)]) C.x C.b dX10_beside_25 rfl hl (by decide) rfl (fun ls hl => ?_)
  refine lv_iload_n C.x C.b dX10_beside_26 rfl (lv_at hl 2 rfl) ?_
  refine lv_aload_n C.x C.b dX10_beside_27 rfl (lv_at hl 1 rfl) ?_
  refine r_geti C hR t_r0 fl_X10_17 rfl dX10_beside_28 ?_
  obtain ⟨g5, hf⟩ := gd_e hf
  refine lv_irem C.x C.b dX10_beside_31 (nz32_e g5) ?_
  refine lv_topi (fun v6 e_v6 => ?_)
  have hf := lt_e hf e_v6
  refine lv_iload_n C.x C.b dX10_beside_32 rfl (lv_at hl 3 rfl) ?_
  refine lv_iconst (v := (1 : Int32)) C.x C.b dX10_beside_33 (by decide) ?_
  refine lv_icmp_ne (tgt := 41) C.x C.b dX10_beside_34 (by decide) (fun c7 => ?_) (fun c7 => ?_)
  · simp only [if_neg c7] at hf
    refine lv_iload_n C.x C.b dX10_beside_41 rfl (lv_at hl 3 rfl) ?_
    refine lv_iconst (v := (3 : Int32)) C.x C.b dX10_beside_42 (by decide) ?_
    refine lv_icmp_ne (tgt := 50) C.x C.b dX10_beside_43 (by decide) (fun c8 => ?_) (fun c8 => ?_)
    · simp only [if_neg c8] at hf
      refine lv_iconst (v := (0 : Int32)) C.x C.b dX10_beside_50 (by decide) ?_
      exact w_X10_beside_51 C hr hlk _ _ _ _ _ _ hf hR hS t_r0 (lv_sub hl [1, 2, 3, 0] rfl)
    · simp only [if_pos c8] at hf
      refine lv_iconst (v := (-1 : Int32)) C.x C.b dX10_beside_46 (by decide) ?_
      refine lv_goto (tgt := 51) C.x C.b dX10_beside_47 (by decide) ?_
      exact w_X10_beside_51 C hr hlk _ _ _ _ _ _ hf hR hS t_r0 (lv_sub hl [1, 2, 3, 0] rfl)
  · simp only [if_pos c7] at hf
    refine lv_iconst (v := (1 : Int32)) C.x C.b dX10_beside_37 (by decide) ?_
    refine lv_goto (tgt := 51) C.x C.b dX10_beside_38 (by decide) ?_
    exact w_X10_beside_51 C hr hlk _ _ _ _ _ _ hf hR hS t_r0 (lv_sub hl [1, 2, 3, 0] rfl)
set_option maxRecDepth 100000 in
set_option maxHeartbeats 4000000 in
theorem k_X10_beside {G : Gt} {l : Launch} {h : Hp} {r0 : Nat} {x1 : Int32} {x2 : Int32} {out : Int32} (t_r0 : hpT h r0 = (1, 10))  (hf : f_X10_beside h r0 x1 x2 = some out) : Mt G l yX10_beside cX10_beside 5 (some .int) rm_X10_beside [.ref (G.2.2 + r0), .int x1, .int x2] h (some (.int out)) h 0 0 0 := by
  refine r_met (by decide +kernel) (Nat.le_of_ble_eq_true rfl) ?_
  intro p e s m args below meth c ls C hr hlk hnm hR hS hl
  have hl : lv_has ls 5 [(0, .ref (G.2.2 + r0)), (1, .int x1), (2, .int x2)] := hl
  rw [f_X10_beside] at hf
  refine lv_iload_n C.x C.b dX10_beside_0 rfl (lv_at hl 1 rfl) ?_
  refine lv_aload_n C.x C.b dX10_beside_1 rfl (lv_at hl 0 rfl) ?_
  refine r_geti C hR t_r0 fl_X10_17 rfl dX10_beside_2 ?_
  obtain ⟨g1, hf⟩ := gd_e hf
  refine lv_idiv C.x C.b dX10_beside_5 (nz32_e g1) ?_
  refine lv_iload_n C.x C.b dX10_beside_6 rfl (lv_at hl 2 rfl) ?_
  refine lv_iconst (v := (2 : Int32)) C.x C.b dX10_beside_7 (by decide) ?_
  refine lv_icmp_ne (tgt := 15) C.x C.b dX10_beside_8 (by decide) (fun c2 => ?_) (fun c2 => ?_)
  · simp only [if_neg c2] at hf
    refine lv_iload_n C.x C.b dX10_beside_15 rfl (lv_at hl 2 rfl) ?_
    refine lv_if_ne (tgt := 23) C.x C.b dX10_beside_16 (by decide) (fun c3 => ?_) (fun c3 => ?_)
    · simp only [if_neg c3] at hf
      refine lv_iconst (v := (0 : Int32)) C.x C.b dX10_beside_23 (by decide) ?_
      exact w_X10_beside_24 C hr hlk _ _ _ _ _ hf hR hS t_r0 (lv_sub hl [0, 1, 2] rfl)
    · simp only [if_pos c3] at hf
      refine lv_iconst (v := (-1 : Int32)) C.x C.b dX10_beside_19 (by decide) ?_
      refine lv_goto (tgt := 24) C.x C.b dX10_beside_20 (by decide) ?_
      exact w_X10_beside_24 C hr hlk _ _ _ _ _ hf hR hS t_r0 (lv_sub hl [0, 1, 2] rfl)
  · simp only [if_pos c2] at hf
    refine lv_iconst (v := (1 : Int32)) C.x C.b dX10_beside_11 (by decide) ?_
    refine lv_goto (tgt := 24) C.x C.b dX10_beside_12 (by decide) ?_
    exact w_X10_beside_24 C hr hlk _ _ _ _ _ hf hR hS t_r0 (lv_sub hl [0, 1, 2] rfl)

def rm_X10_state : Room := { frames := 0, cells := 0, slots := 0, locals := 0 }
set_option maxRecDepth 100000 in
set_option maxHeartbeats 4000000 in
theorem k_X10_state {G : Gt} {l : Launch} {h : Hp} {x0 : Int32} {x1 : Int32} {out : Int32}   (hf : f_X10_state h x0 x1 = some out) : Mt G l yX10_state cX10_state 2 (some .int) rm_X10_state [.int x0, .int x1] h (some (.int out)) h 0 0 0 := by
  refine r_met (by decide +kernel) (Nat.le_of_ble_eq_true rfl) ?_
  intro p e s m args below meth c ls C hr hlk hnm hR hS hl
  have hl : lv_has ls 2 [(0, .int x0), (1, .int x1)] := hl
  rw [f_X10_state] at hf
  refine lv_iload_n C.x C.b dX10_state_0 rfl (lv_at hl 0 rfl) ?_
  refine lv_bipush (v := (8 : Int32)) C.x C.b dX10_state_1 (by decide) ?_
  refine lv_ishl C.x C.b dX10_state_3 ?_
  refine lv_topi (fun v1 e_v1 => ?_)
  have hf := lt_e hf e_v1
  refine lv_iload_n C.x C.b dX10_state_4 rfl (lv_at hl 1 rfl) ?_
  refine lv_ior C.x C.b dX10_state_5 ?_
  have hf := so_e hf
  subst hf
  exact r_iret C hr hlk hR Ext.rf hS dX10_state_6

def rm_X10_laysYet : Room := { frames := 4, cells := 0, slots := 0, locals := 98 }
def P_X10_laysYet_47 (G : Gt) (l : Launch) (p : Program) (e : Env) (s : State) (m : MethodId) (args : Array Value) (below : List Frame) (meth : Method) (c : Code) (h0 : Hp) (out : Hp) (r0 : Nat) (x1 : Int32) (x2 : Int32) (k : Hp → Nat → Int32 → Int32 → Int32 → Int32 → Option Hp) : Prop := ∀ (H : Heap) (locs : List Loc) (ls : Array Slot) (h : Hp) (s0 : Nat) (s1 : Int32) (s2 : Int32) (x3 : Int32) (x4 : Int32), k h s0 s1 s2 x3 x4 = some out → Ext h0 h → Rel G h H → va_S (AA G.2.2) s.heap H locs → hpT h r0 = (1, 10) → (hpT h s0).1 = 2 → lv_has ls 9 [(0, .ref (G.2.2 + r0)), (1, .int x1), (2, .int x2), (3, .int x3), (4, .int x4)] → W p l e rm_X10_laysYet s m args below meth c H locs 0 0 (MQ below (Qm G h0 out (none) 0) args s 0 0 (AA G.2.2)) (F0 m 47 ls [.int s2, .int s1, .ref (G.2.2 + s0)])
def P_X10_laysYet_44 (G : Gt) (l : Launch) (p : Program) (e : Env) (s : State) (m : MethodId) (args : Array Value) (below : List Frame) (meth : Method) (c : Code) (h0 : Hp) (out : Hp) (r0 : Nat) (x1 : Int32) (x2 : Int32) (k : Hp → Nat → Int32 → Int32 → Int32 → Option Hp) : Prop := ∀ (H : Heap) (locs : List Loc) (ls : Array Slot) (h : Hp) (s0 : Nat) (s1 : Int32) (x3 : Int32) (x4 : Int32), k h s0 s1 x3 x4 = some out → Ext h0 h → Rel G h H → va_S (AA G.2.2) s.heap H locs → hpT h r0 = (1, 10) → (hpT h s0).1 = 2 → lv_has ls 9 [(0, .ref (G.2.2 + r0)), (1, .int x1), (2, .int x2), (3, .int x3), (4, .int x4)] → W p l e rm_X10_laysYet s m args below meth c H locs 0 0 (MQ below (Qm G h0 out (none) 0) args s 0 0 (AA G.2.2)) (F0 m 44 ls [.int s1, .ref (G.2.2 + s0)])
def P_X10_laysYet_13 (G : Gt) (l : Launch) (p : Program) (e : Env) (s : State) (m : MethodId) (args : Array Value) (below : List Frame) (meth : Method) (c : Code) (h0 : Hp) (out : Hp) (r0 : Nat) (x1 : Int32) (x2 : Int32) (k : Hp → Int32 → Int32 → Option Hp) : Prop := ∀ (H : Heap) (locs : List Loc) (ls : Array Slot) (h : Hp) (x3 : Int32) (x4 : Int32), k h x3 x4 = some out → Ext h0 h → Rel G h H → va_S (AA G.2.2) s.heap H locs → hpT h r0 = (1, 10) → lv_has ls 9 [(0, .ref (G.2.2 + r0)), (1, .int x1), (2, .int x2), (3, .int x3), (4, .int x4)] → W p l e rm_X10_laysYet s m args below meth c H locs 0 0 (MQ below (Qm G h0 out (none) 0) args s 0 0 (AA G.2.2)) (F0 m 13 ls [])
def P_X10_laysYet_196 (G : Gt) (l : Launch) (p : Program) (e : Env) (s : State) (m : MethodId) (args : Array Value) (below : List Frame) (meth : Method) (c : Code) (h0 : Hp) (out : Hp) (r0 : Nat) (x1 : Int32) (x2 : Int32) (k : Hp → Int32 → Int32 → Int32 → Int32 → Option Hp) : Prop := ∀ (H : Heap) (locs : List Loc) (ls : Array Slot) (h : Hp) (x3 : Int32) (x4 : Int32) (x5 : Int32) (x6 : Int32), k h x3 x4 x5 x6 = some out → Ext h0 h → Rel G h H → va_S (AA G.2.2) s.heap H locs → hpT h r0 = (1, 10) → narrow .boolean (.int x3) = .int x3 → lv_has ls 9 [(0, .ref (G.2.2 + r0)), (1, .int x1), (2, .int x2), (3, .int x3), (4, .int x4), (5, .int x5), (6, .int x6)] → W p l e rm_X10_laysYet s m args below meth c H locs 0 0 (MQ below (Qm G h0 out (none) 0) args s 0 0 (AA G.2.2)) (F0 m 196 ls [])
def P_X10_laysYet_161 (G : Gt) (l : Launch) (p : Program) (e : Env) (s : State) (m : MethodId) (args : Array Value) (below : List Frame) (meth : Method) (c : Code) (h0 : Hp) (out : Hp) (r0 : Nat) (x1 : Int32) (x2 : Int32) (k : Hp → Int32 → Int32 → Int32 → Int32 → Int32 → Option Hp) : Prop := ∀ (H : Heap) (locs : List Loc) (ls : Array Slot) (h : Hp) (s0 : Int32) (x3 : Int32) (x4 : Int32) (x5 : Int32) (x6 : Int32), k h s0 x3 x4 x5 x6 = some out → Ext h0 h → Rel G h H → va_S (AA G.2.2) s.heap H locs → hpT h r0 = (1, 10) → narrow .boolean (.int x3) = .int x3 → lv_has ls 9 [(0, .ref (G.2.2 + r0)), (1, .int x1), (2, .int x2), (3, .int x3), (4, .int x4), (5, .int x5), (6, .int x6)] → W p l e rm_X10_laysYet s m args below meth c H locs 0 0 (MQ below (Qm G h0 out (none) 0) args s 0 0 (AA G.2.2)) (F0 m 161 ls [.int s0])
def P_X10_laysYet_202 (G : Gt) (l : Launch) (p : Program) (e : Env) (s : State) (m : MethodId) (args : Array Value) (below : List Frame) (meth : Method) (c : Code) (h0 : Hp) (out : Hp) (r0 : Nat) (x1 : Int32) (x2 : Int32) (k : Hp → Int32 → Int32 → Int32 → Option Hp) : Prop := ∀ (H : Heap) (locs : List Loc) (ls : Array Slot) (h : Hp) (x3 : Int32) (x4 : Int32) (x5 : Int32), k h x3 x4 x5 = some out → Ext h0 h → Rel G h H → va_S (AA G.2.2) s.heap H locs → hpT h r0 = (1, 10) → narrow .boolean (.int x3) = .int x3 → lv_has ls 9 [(0, .ref (G.2.2 + r0)), (1, .int x1), (2, .int x2), (3, .int x3), (4, .int x4), (5, .int x5)] → W p l e rm_X10_laysYet s m args below meth c H locs 0 0 (MQ below (Qm G h0 out (none) 0) args s 0 0 (AA G.2.2)) (F0 m 202 ls [])
def P_X10_laysYet_92 (G : Gt) (l : Launch) (p : Program) (e : Env) (s : State) (m : MethodId) (args : Array Value) (below : List Frame) (meth : Method) (c : Code) (h0 : Hp) (out : Hp) (r0 : Nat) (x1 : Int32) (x2 : Int32) (k : Hp → Int32 → Int32 → Int32 → Int32 → Option Hp) : Prop := ∀ (H : Heap) (locs : List Loc) (ls : Array Slot) (h : Hp) (x3 : Int32) (x4 : Int32) (x5 : Int32) (x6 : Int32), k h x3 x4 x5 x6 = some out → Ext h0 h → Rel G h H → va_S (AA G.2.2) s.heap H locs → hpT h r0 = (1, 10) → narrow .boolean (.int x3) = .int x3 → lv_has ls 9 [(0, .ref (G.2.2 + r0)), (1, .int x1), (2, .int x2), (3, .int x3), (4, .int x4), (5, .int x5), (6, .int x6)] → W p l e rm_X10_laysYet s m args below meth c H locs 0 0 (MQ below (Qm G h0 out (none) 0) args s 0 0 (AA G.2.2)) (F0 m 92 ls [])
def P_X10_laysYet_83 (G : Gt) (l : Launch) (p : Program) (e : Env) (s : State) (m : MethodId) (args : Array Value) (below : List Frame) (meth : Method) (c : Code) (h0 : Hp) (out : Hp) (r0 : Nat) (x1 : Int32) (x2 : Int32) (k : Hp → Int32 → Int32 → Int32 → Option Hp) : Prop := ∀ (H : Heap) (locs : List Loc) (ls : Array Slot) (h : Hp) (x3 : Int32) (x4 : Int32) (x5 : Int32), k h x3 x4 x5 = some out → Ext h0 h → Rel G h H → va_S (AA G.2.2) s.heap H locs → hpT h r0 = (1, 10) → narrow .boolean (.int x3) = .int x3 → lv_has ls 9 [(0, .ref (G.2.2 + r0)), (1, .int x1), (2, .int x2), (3, .int x3), (4, .int x4), (5, .int x5)] → W p l e rm_X10_laysYet s m args below meth c H locs 0 0 (MQ below (Qm G h0 out (none) 0) args s 0 0 (AA G.2.2)) (F0 m 83 ls [])
def P_X10_laysYet_71 (G : Gt) (l : Launch) (p : Program) (e : Env) (s : State) (m : MethodId) (args : Array Value) (below : List Frame) (meth : Method) (c : Code) (h0 : Hp) (out : Hp) (r0 : Nat) (x1 : Int32) (x2 : Int32) (k : Hp → Int32 → Int32 → Option Hp) : Prop := ∀ (H : Heap) (locs : List Loc) (ls : Array Slot) (h : Hp) (x3 : Int32) (x4 : Int32), k h x3 x4 = some out → Ext h0 h → Rel G h H → va_S (AA G.2.2) s.heap H locs → hpT h r0 = (1, 10) → narrow .boolean (.int x3) = .int x3 → lv_has ls 9 [(0, .ref (G.2.2 + r0)), (1, .int x1), (2, .int x2), (3, .int x3), (4, .int x4)] → W p l e rm_X10_laysYet s m args below meth c H locs 0 0 (MQ below (Qm G h0 out (none) 0) args s 0 0 (AA G.2.2)) (F0 m 71 ls [])
def P_X10_laysYet_62 (G : Gt) (l : Launch) (p : Program) (e : Env) (s : State) (m : MethodId) (args : Array Value) (below : List Frame) (meth : Method) (c : Code) (h0 : Hp) (out : Hp) (r0 : Nat) (x1 : Int32) (x2 : Int32) (k : Hp → Int32 → Option Hp) : Prop := ∀ (H : Heap) (locs : List Loc) (ls : Array Slot) (h : Hp) (x3 : Int32), k h x3 = some out → Ext h0 h → Rel G h H → va_S (AA G.2.2) s.heap H locs → hpT h r0 = (1, 10) → narrow .boolean (.int x3) = .int x3 → lv_has ls 9 [(0, .ref (G.2.2 + r0)), (1, .int x1), (2, .int x2), (3, .int x3)] → W p l e rm_X10_laysYet s m args below meth c H locs 0 0 (MQ below (Qm G h0 out (none) 0) args s 0 0 (AA G.2.2)) (F0 m 62 ls [])
def P_X10_laysYet_2 (G : Gt) (l : Launch) (p : Program) (e : Env) (s : State) (m : MethodId) (args : Array Value) (below : List Frame) (meth : Method) (c : Code) (h0 : Hp) (out : Hp) (r0 : Nat) (x1 : Int32) (x2 : Int32) (k : Hp → Int32 → Option Hp) : Prop := ∀ (H : Heap) (locs : List Loc) (ls : Array Slot) (h : Hp) (x3 : Int32), k h x3 = some out → Ext h0 h → Rel G h H → va_S (AA G.2.2) s.heap H locs → hpT h r0 = (1, 10) → lv_has ls 9 [(0, .ref (G.2.2 + r0)), (1, .int x1), (2, .int x2), (3, .int x3)] → W p l e rm_X10_laysYet s m args below meth c H locs 0 0 (MQ below (Qm G h0 out (none) 0) args s 0 0 (AA G.2.2)) (F0 m 2 ls [])
set_option maxRecDepth 100000 in
set_option maxHeartbeats 4000000 in
theorem w_X10_laysYet_47 {G : Gt} {l : Launch} {p : Program} {e : Env} {s : State} {m : MethodId} {args : Array Value} {below : List Frame} {meth : Method} {c : Code} {h0 : Hp} {out : Hp} {r0 : Nat} {x1 : Int32} {x2 : Int32} {k2 : Hp → Int32 → Option Hp} {k13 : Hp → Int32 → Int32 → Option Hp} (C : Cx G p m c cX10_laysYet 9 s args RX10) (hr : meth.sig.returnType = none) (hlk : meth.locks = false) (hk2 : P_X10_laysYet_2 G l p e s m args below meth c h0 out r0 x1 x2 k2) (hk13 : P_X10_laysYet_13 G l p e s m args below meth c h0 out r0 x1 x2 k13) : P_X10_laysYet_47 G l p e s m args below meth c h0 out r0 x1 x2 (f_X10_laysYet_47 r0 x1 x2 k2 k13) := by
  intro H locs ls h s0 s1 s2 x3 x4 hf hE hR hS t_r0 t_s0 hl
  rw [f_X10_laysYet_47] at hf
  obtain ⟨g10, hf⟩ := gd_e hf
  refine r_iast C hR hS t_s0 g10 dX10_laysYet_47 (fun H locs hR hS => ?_)
  obtain ⟨h11, e_h11⟩ : ∃ y, y = upI h s0 (ix s1) s2 := ⟨_, rfl⟩
  rw [← e_h11] at hR
  have hf := lt_e hf e_h11
  have hE := eI e_h11 hE
  have t_r0 := tI e_h11 t_r0
  obtain ⟨v12, e_v12⟩ : ∃ y : Int32, y = x4 + (1 : Int32) := ⟨_, rfl⟩
  have hf := lt_e hf e_v12
  refine lv_iinc (v := v12) (lv' := [(4, .int v12), (0, .ref (G.2.2 + r0)), (1, .int x1), (2, .int x2), (3, .int x3)]) C.x C.b dX10_laysYet_48 hl (k := 4) rfl (by rw [e_v12]; rfl) (by decide) rfl (fun ls hl => ?_)
  refine lv_goto (tgt := 13) C.x C.b dX10_laysYet_51 (by decide) ?_
  exact hk13 _ _ _ _ _ _ hf hE hR hS t_r0 (lv_sub hl [1, 2, 3, 4, 0] rfl)
set_option maxRecDepth 100000 in
set_option maxHeartbeats 4000000 in
theorem w_X10_laysYet_44 {G : Gt} {l : Launch} {p : Program} {e : Env} {s : State} {m : MethodId} {args : Array Value} {below : List Frame} {meth : Method} {c : Code} {h0 : Hp} {out : Hp} {r0 : Nat} {x1 : Int32} {x2 : Int32} {k2 : Hp → Int32 → Option Hp} {k13 : Hp → Int32 → Int32 → Option Hp} (C : Cx G p m c cX10_laysYet 9 s args RX10) (hr : meth.sig.returnType = none) (hlk : meth.locks = false) (hk2 : P_X10_laysYet_2 G l p e s m args below meth c h0 out r0 x1 x2 k2) (hk13 : P_X10_laysYet_13 G l p e s m args below meth c h0 out r0 x1 x2 k13) : P_X10_laysYet_44 G l p e s m args below meth c h0 out r0 x1 x2 (f_X10_laysYet_44 r0 x1 x2 k2 k13) := by
  intro H locs ls h s0 s1 x3 x4 hf hE hR hS t_r0 t_s0 hl
  rw [f_X10_laysYet_44] at hf
  refine lv_ldcw C.x C.b C.ow (C.ts _ lk_X10_392) dX10_laysYet_44 ?_
  exact w_X10_laysYet_47 C hr hlk hk2 hk13 _ _ _ _ _ _ _ _ _ hf hE hR hS t_r0 t_s0 (lv_sub hl [0, 1, 2, 3, 4] rfl)
set_option maxRecDepth 100000 in
set_option maxHeartbeats 4000000 in
theorem w_X10_laysYet_13 {G : Gt} {l : Launch} {p : Program} {e : Env} {s : State} {m : MethodId} {args : Array Value} {below : List Frame} {meth : Method} {c : Code} {h0 : Hp} {out : Hp} {r0 : Nat} {x1 : Int32} {x2 : Int32} {k2 : Hp → Int32 → Option Hp} (C : Cx G p m c cX10_laysYet 9 s args RX10) (hr : meth.sig.returnType = none) (hlk : meth.locks = false) (hk2 : P_X10_laysYet_2 G l p e s m args below meth c h0 out r0 x1 x2 k2) (n : Nat) : P_X10_laysYet_13 G l p e s m args below meth c h0 out r0 x1 x2 (f_X10_laysYet_13 r0 x1 x2 k2 n) := by
  induction n with
  | zero => intro H locs ls h x3 x4 hf hE hR hS t_r0 hl; cases hf
  | succ n hk13 =>
    intro H locs ls h x3 x4 hf hE hR hS t_r0 hl
    rw [f_X10_laysYet_13] at hf
    obtain ⟨k13, e_k13⟩ : ∃ y, y = f_X10_laysYet_13 r0 x1 x2 k2 n := ⟨_, rfl⟩
    have hf := lt_e hf e_k13
    rw [← e_k13] at hk13
    refine lv_iload C.x C.b dX10_laysYet_13 (lv_at hl 4 rfl) ?_
    refine lv_iload_n C.x C.b dX10_laysYet_15 rfl (lv_at hl 2 rfl) ?_
    refine lv_icmp_gt (tgt := 54) C.x C.b dX10_laysYet_16 (by decide) (fun c3 => ?_) (fun c3 => ?_)
    · have hf := it_t hf c3
      obtain ⟨v4, e_v4⟩ : ∃ y : Int32, y = x3 + (1 : Int32) := ⟨_, rfl⟩
      have hf := lt_e hf e_v4
      refine lv_iinc (v := v4) (lv' := [(3, .int v4), (0, .ref (G.2.2 + r0)), (1, .int x1), (2, .int x2), (4, .int x4)]) C.x C.b dX10_laysYet_54 hl (k := 3) rfl (by rw [e_v4]; rfl) (by decide) rfl (fun ls hl => ?_)
      refine lv_goto (tgt := 2) C.x C.b dX10_laysYet_57 (by decide) ?_
      exact hk2 _ _ _ _ _ hf hE hR hS t_r0 (lv_sub hl [1, 2, 3, 0] rfl)
    · have hf := it_f hf c3
      refine lv_aload_n C.x C.b dX10_laysYet_19 rfl (lv_at hl 0 rfl) ?_
      obtain ⟨g5, hf⟩ := gd_e hf
      refine r_getr C hR t_r0 fl_X10_60 (by decide) (nz_e g5) dX10_laysYet_20 (fun tq6 => ?_)
      have tg5 := okA tq6 rfl
      refine lv_iload_n C.x C.b dX10_laysYet_23 rfl (lv_at hl 3 rfl) ?_
      refine lv_iload C.x C.b dX10_laysYet_24 (lv_at hl 4 rfl) ?_
      obtain ⟨q7, h_q7, hf⟩ := bd_e hf
      refine r_callS (As := [.int x3, .int x4]) (rest := [.ref (G.2.2 + (hpR h r0 29))]) C hR hS mk_X10_state cl_X10_396 (k_X10_state h_q7) ⟨⟨Nat.le_of_ble_eq_true rfl, Nat.le_of_ble_eq_true rfl⟩, ⟨rfl, rfl⟩, Nat.le_of_ble_eq_true rfl, Nat.le_of_ble_eq_true rfl⟩ rfl hl.1 rfl (Nat.le_of_ble_eq_true rfl) dX10_laysYet_26 (fun H locs hR hS hE1 z_q7 => ?_)
      refine lv_iload_n C.x C.b dX10_laysYet_29 rfl (lv_at hl 3 rfl) ?_
      refine lv_iload_n C.x C.b dX10_laysYet_30 rfl (lv_at hl 1 rfl) ?_
      refine lv_icmp_ne (tgt := 44) C.x C.b dX10_laysYet_31 (by decide) (fun c8 => ?_) (fun c8 => ?_)
      · have hf := it_f hf c8
        exact w_X10_laysYet_44 C hr hlk hk2 hk13 _ _ _ _ _ _ _ _ hf hE hR hS t_r0 tg5 (lv_sub hl [0, 1, 2, 3, 4] rfl)
      · have hf := it_t hf c8
        refine lv_iload C.x C.b dX10_laysYet_34 (lv_at hl 4 rfl) ?_
        refine lv_iload_n C.x C.b dX10_laysYet_36 rfl (lv_at hl 2 rfl) ?_
        refine lv_icmp_ne (tgt := 44) C.x C.b dX10_laysYet_37 (by decide) (fun c9 => ?_) (fun c9 => ?_)
        · have hf := it_f hf c9
          exact w_X10_laysYet_44 C hr hlk hk2 hk13 _ _ _ _ _ _ _ _ hf hE hR hS t_r0 tg5 (lv_sub hl [0, 1, 2, 3, 4] rfl)
        · have hf := it_t hf c9
          refine lv_iconst (v := (0 : Int32)) C.x C.b dX10_laysYet_40 (by decide) ?_
          refine lv_goto (tgt := 47) C.x C.b dX10_laysYet_41 (by decide) ?_
          exact w_X10_laysYet_47 C hr hlk hk2 hk13 _ _ _ _ _ _ _ _ _ hf hE hR hS t_r0 tg5 (lv_sub hl [0, 1, 2, 3, 4] rfl)
set_option maxRecDepth 100000 in
set_option maxHeartbeats 4000000 in
theorem w_X10_laysYet_196 {G : Gt} {l : Launch} {p : Program} {e : Env} {s : State} {m : MethodId} {args : Array Value} {below : List Frame} {meth : Method} {c : Code} {h0 : Hp} {out : Hp} {r0 : Nat} {x1 : Int32} {x2 : Int32} {k62 : Hp → Int32 → Option Hp} {k71 : Hp → Int32 → Int32 → Option Hp} {k83 : Hp → Int32 → Int32 → Int32 → Option Hp} {k92 : Hp → Int32 → Int32 → Int32 → Int32 → Option Hp} (C : Cx G p m c cX10_laysYet 9 s args RX10) (hr : meth.sig.returnType = none) (hlk : meth.locks = false) (hk62 : P_X10_laysYet_62 G l p e s m args below meth c h0 out r0 x1 x2 k62) (hk71 : P_X10_laysYet_71 G l p e s m args below meth c h0 out r0 x1 x2 k71) (hk83 : P_X10_laysYet_83 G l p e s m args below meth c h0 out r0 x1 x2 k83) (hk92 : P_X10_laysYet_92 G l p e s m args below meth c h0 out r0 x1 x2 k92) : P_X10_laysYet_196 G l p e s m args below meth c h0 out r0 x1 x2 (f_X10_laysYet_196 r0 x1 x2 k62 k71 k83 k92) := by
  intro H locs ls h x3 x4 x5 x6 hf hE hR hS t_r0 z_x3 hl
  rw [f_X10_laysYet_196] at hf
  obtain ⟨v41, e_v41⟩ : ∃ y : Int32, y = x6 + (1 : Int32) := ⟨_, rfl⟩
  have hf := lt_e hf e_v41
  refine lv_iinc (v := v41) (lv' := [(6, .int v41), (0, .ref (G.2.2 + r0)), (1, .int x1), (2, .int x2), (3, .int x3), (4, .int x4), (5, .int x5)]) C.x C.b dX10_laysYet_196 hl (k := 6) rfl (by rw [e_v41]; rfl) (by decide) rfl (fun ls hl => ?_)
  refine lv_goto (tgt := 92) C.x C.b dX10_laysYet_199 (by decide) ?_
  exact hk92 _ _ _ _ _ _ _ _ hf hE hR hS t_r0 z_x3 (lv_sub hl [1, 2, 3, 4, 5, 6, 0] rfl)
set_option maxRecDepth 100000 in
set_option maxHeartbeats 4000000 in
theorem w_X10_laysYet_161 {G : Gt} {l : Launch} {p : Program} {e : Env} {s : State} {m : MethodId} {args : Array Value} {below : List Frame} {meth : Method} {c : Code} {h0 : Hp} {out : Hp} {r0 : Nat} {x1 : Int32} {x2 : Int32} {k62 : Hp → Int32 → Option Hp} {k71 : Hp → Int32 → Int32 → Option Hp} {k83 : Hp → Int32 → Int32 → Int32 → Option Hp} {k92 : Hp → Int32 → Int32 → Int32 → Int32 → Option Hp} (C : Cx G p m c cX10_laysYet 9 s args RX10) (hr : meth.sig.returnType = none) (hlk : meth.locks = false) (hk62 : P_X10_laysYet_62 G l p e s m args below meth c h0 out r0 x1 x2 k62) (hk71 : P_X10_laysYet_71 G l p e s m args below meth c h0 out r0 x1 x2 k71) (hk83 : P_X10_laysYet_83 G l p e s m args below meth c h0 out r0 x1 x2 k83) (hk92 : P_X10_laysYet_92 G l p e s m args below meth c h0 out r0 x1 x2 k92) : P_X10_laysYet_161 G l p e s m args below meth c h0 out r0 x1 x2 (f_X10_laysYet_161 r0 x1 x2 k62 k71 k83 k92) := by
  intro H locs ls h s0 x3 x4 x5 x6 hf hE hR hS t_r0 z_x3 hl
  rw [f_X10_laysYet_161] at hf
  refine lv_istore (lv' := [(8, .int s0), (0, .ref (G.2.2 + r0)), (1, .int x1), (2, .int x2), (3, .int x3), (4, .int x4), (5, .int x5), (6, .int x6)]) C.x C.b dX10_laysYet_161 hl (by decide) rfl (fun ls hl => ?_)
  refine lv_iload C.x C.b dX10_laysYet_163 (lv_at hl 0 rfl) ?_
  refine lv_aload_n C.x C.b dX10_laysYet_165 rfl (lv_at hl 1 rfl) ?_
  obtain ⟨g32, hf⟩ := gd_e hf
  refine r_getr C hR t_r0 fl_X10_60 (by decide) (nz_e g32) dX10_laysYet_166 (fun tq33 => ?_)
  have tg32 := okA tq33 rfl
  refine lv_iload C.x C.b dX10_laysYet_169 (lv_at hl 5 rfl) ?_
  refine lv_iload C.x C.b dX10_laysYet_171 (lv_at hl 6 rfl) ?_
  obtain ⟨q34, h_q34, hf⟩ := bd_e hf
  refine r_callS (As := [.int x4, .int x5]) (rest := [.ref (G.2.2 + (hpR h r0 29)), .int s0]) C hR hS mk_X10_state cl_X10_396 (k_X10_state h_q34) ⟨⟨Nat.le_of_ble_eq_true rfl, Nat.le_of_ble_eq_true rfl⟩, ⟨rfl, rfl⟩, Nat.le_of_ble_eq_true rfl, Nat.le_of_ble_eq_true rfl⟩ rfl hl.1 rfl (Nat.le_of_ble_eq_true rfl) dX10_laysYet_173 (fun H locs hR hS hE1 z_q34 => ?_)
  obtain ⟨g35, hf⟩ := gd_e hf
  refine r_iald C hR tg32 g35 dX10_laysYet_176 ?_
  refine lv_icmp_ge (tgt := 196) C.x C.b dX10_laysYet_177 (by decide) (fun c36 => ?_) (fun c36 => ?_)
  · have hf := it_t hf c36
    exact w_X10_laysYet_196 C hr hlk hk62 hk71 hk83 hk92 _ _ _ _ _ _ _ _ hf hE hR hS t_r0 z_x3 (lv_sub hl [1, 2, 3, 4, 5, 6, 7] rfl)
  · have hf := it_f hf c36
    refine lv_aload_n C.x C.b dX10_laysYet_180 rfl (lv_at hl 1 rfl) ?_
    refine r_getr C hR t_r0 fl_X10_60 (by decide) (nz_e g32) dX10_laysYet_181 (fun tq37 => ?_)
    refine lv_iload C.x C.b dX10_laysYet_184 (lv_at hl 5 rfl) ?_
    refine lv_iload C.x C.b dX10_laysYet_186 (lv_at hl 6 rfl) ?_
    obtain ⟨q38, h_q38, hf⟩ := bd_e hf
    refine r_callS (As := [.int x4, .int x5]) (rest := [.ref (G.2.2 + (hpR h r0 29))]) C hR hS mk_X10_state cl_X10_396 (k_X10_state h_q38) ⟨⟨Nat.le_of_ble_eq_true rfl, Nat.le_of_ble_eq_true rfl⟩, ⟨rfl, rfl⟩, Nat.le_of_ble_eq_true rfl, Nat.le_of_ble_eq_true rfl⟩ rfl hl.1 rfl (Nat.le_of_ble_eq_true rfl) dX10_laysYet_188 (fun H locs hR hS hE1 z_q38 => ?_)
    refine lv_iload C.x C.b dX10_laysYet_191 (lv_at hl 0 rfl) ?_
    obtain ⟨g39, hf⟩ := gd_e hf
    refine r_iast C hR hS tg32 g39 dX10_laysYet_193 (fun H locs hR hS => ?_)
    obtain ⟨h40, e_h40⟩ : ∃ y, y = upI h (hpR h r0 29) (ix q38) s0 := ⟨_, rfl⟩
    rw [← e_h40] at hR
    have hf := lt_e hf e_h40
    have hE := eI e_h40 hE
    have t_r0 := tI e_h40 t_r0
    refine lv_iconst (v := (1 : Int32)) C.x C.b dX10_laysYet_194 (by decide) ?_
    refine lv_istore_n (lv' := [(3, .int (1 : Int32)), (8, .int s0), (0, .ref (G.2.2 + r0)), (1, .int x1), (2, .int x2), (4, .int x4), (5, .int x5), (6, .int x6)]) C.x C.b dX10_laysYet_195 rfl hl (by decide) rfl (fun ls hl => ?_)
    exact w_X10_laysYet_196 C hr hlk hk62 hk71 hk83 hk92 _ _ _ _ _ _ _ _ hf hE hR hS t_r0 z_1 (lv_sub hl [2, 3, 4, 0, 5, 6, 7] rfl)
set_option maxRecDepth 100000 in
set_option maxHeartbeats 4000000 in
theorem w_X10_laysYet_202 {G : Gt} {l : Launch} {p : Program} {e : Env} {s : State} {m : MethodId} {args : Array Value} {below : List Frame} {meth : Method} {c : Code} {h0 : Hp} {out : Hp} {r0 : Nat} {x1 : Int32} {x2 : Int32} {k62 : Hp → Int32 → Option Hp} {k71 : Hp → Int32 → Int32 → Option Hp} {k83 : Hp → Int32 → Int32 → Int32 → Option Hp} (C : Cx G p m c cX10_laysYet 9 s args RX10) (hr : meth.sig.returnType = none) (hlk : meth.locks = false) (hk62 : P_X10_laysYet_62 G l p e s m args below meth c h0 out r0 x1 x2 k62) (hk71 : P_X10_laysYet_71 G l p e s m args below meth c h0 out r0 x1 x2 k71) (hk83 : P_X10_laysYet_83 G l p e s m args below meth c h0 out r0 x1 x2 k83) : P_X10_laysYet_202 G l p e s m args below meth c h0 out r0 x1 x2 (f_X10_laysYet_202 r0 x1 x2 k62 k71 k83) := by
  intro H locs ls h x3 x4 x5 hf hE hR hS t_r0 z_x3 hl
  rw [f_X10_laysYet_202] at hf
  obtain ⟨v42, e_v42⟩ : ∃ y : Int32, y = x5 + (1 : Int32) := ⟨_, rfl⟩
  have hf := lt_e hf e_v42
  refine lv_iinc (v := v42) (lv' := [(5, .int v42), (0, .ref (G.2.2 + r0)), (1, .int x1), (2, .int x2), (3, .int x3), (4, .int x4)]) C.x C.b dX10_laysYet_202 hl (k := 5) rfl (by rw [e_v42]; rfl) (by decide) rfl (fun ls hl => ?_)
  refine lv_goto (tgt := 83) C.x C.b dX10_laysYet_205 (by decide) ?_
  exact hk83 _ _ _ _ _ _ _ hf hE hR hS t_r0 z_x3 (lv_sub hl [1, 2, 3, 4, 5, 0] rfl)
set_option maxRecDepth 100000 in
set_option maxHeartbeats 4000000 in
theorem w_X10_laysYet_92 {G : Gt} {l : Launch} {p : Program} {e : Env} {s : State} {m : MethodId} {args : Array Value} {below : List Frame} {meth : Method} {c : Code} {h0 : Hp} {out : Hp} {r0 : Nat} {x1 : Int32} {x2 : Int32} {k62 : Hp → Int32 → Option Hp} {k71 : Hp → Int32 → Int32 → Option Hp} {k83 : Hp → Int32 → Int32 → Int32 → Option Hp} (C : Cx G p m c cX10_laysYet 9 s args RX10) (hr : meth.sig.returnType = none) (hlk : meth.locks = false) (hk62 : P_X10_laysYet_62 G l p e s m args below meth c h0 out r0 x1 x2 k62) (hk71 : P_X10_laysYet_71 G l p e s m args below meth c h0 out r0 x1 x2 k71) (hk83 : P_X10_laysYet_83 G l p e s m args below meth c h0 out r0 x1 x2 k83) (n : Nat) : P_X10_laysYet_92 G l p e s m args below meth c h0 out r0 x1 x2 (f_X10_laysYet_92 r0 x1 x2 k62 k71 k83 n) := by
  induction n with
  | zero => intro H locs ls h x3 x4 x5 x6 hf hE hR hS t_r0 z_x3 hl; cases hf
  | succ n hk92 =>
    intro H locs ls h x3 x4 x5 x6 hf hE hR hS t_r0 z_x3 hl
    rw [f_X10_laysYet_92] at hf
    obtain ⟨k92, e_k92⟩ : ∃ y, y = f_X10_laysYet_92 r0 x1 x2 k62 k71 k83 n := ⟨_, rfl⟩
    have hf := lt_e hf e_k92
    rw [← e_k92] at hk92
    refine lv_iload C.x C.b dX10_laysYet_92 (lv_at hl 6 rfl) ?_
    refine lv_iconst (v := (4 : Int32)) C.x C.b dX10_laysYet_94 (by decide) ?_
    refine lv_icmp_ge (tgt := 202) C.x C.b dX10_laysYet_95 (by decide) (fun c18 => ?_) (fun c18 => ?_)
    · have hf := it_t hf c18
      exact w_X10_laysYet_202 C hr hlk hk62 hk71 hk83 _ _ _ _ _ _ _ hf hE hR hS t_r0 z_x3 (lv_sub hl [0, 1, 2, 3, 4, 5] rfl)
    · have hf := it_f hf c18
      refine lv_iload C.x C.b dX10_laysYet_98 (lv_at hl 5 rfl) ?_
      refine lv_iload_n C.x C.b dX10_laysYet_100 rfl (lv_at hl 2 rfl) ?_
      refine lv_iconst (v := (-1 : Int32)) C.x C.b dX10_laysYet_101 (by decide) ?_
      refine lv_ixor C.x C.b dX10_laysYet_102 ?_
      refine lv_iand C.x C.b dX10_laysYet_103 ?_
      refine lv_if_ne (tgt := 202) C.x C.b dX10_laysYet_104 (by decide) (fun c19 => ?_) (fun c19 => ?_)
      · have hf := it_f hf c19
        exact w_X10_laysYet_202 C hr hlk hk62 hk71 hk83 _ _ _ _ _ _ _ hf hE hR hS t_r0 z_x3 (lv_sub hl [0, 1, 2, 3, 4, 5] rfl)
      · have hf := it_t hf c19
        refine lv_aload_n C.x C.b dX10_laysYet_107 rfl (lv_at hl 0 rfl) ?_
        refine lv_iload C.x C.b dX10_laysYet_108 (lv_at hl 4 rfl) ?_
        refine lv_iload C.x C.b dX10_laysYet_110 (lv_at hl 6 rfl) ?_
        obtain ⟨q20, h_q20, hf⟩ := bd_e hf
        refine r_callV (As := [.int x4, .int x6]) (rest := []) C hR hS t_r0 rfl mk_X10_beside cl_X10_399 (k_X10_beside t_r0 h_q20) ⟨⟨Nat.le_of_ble_eq_true rfl, Nat.le_of_ble_eq_true rfl⟩, ⟨rfl, rfl⟩, Nat.le_of_ble_eq_true rfl, Nat.le_of_ble_eq_true rfl⟩ rfl hl.1 rfl (Nat.le_of_ble_eq_true rfl) dX10_laysYet_112 (fun H locs hR hS hE1 z_q20 => ?_)
        refine lv_istore (lv' := [(7, .int q20), (0, .ref (G.2.2 + r0)), (1, .int x1), (2, .int x2), (3, .int x3), (4, .int x4), (5, .int x5), (6, .int x6)]) C.x C.b dX10_laysYet_115 hl (by decide) rfl (fun ls hl => ?_)
        refine lv_iload C.x C.b dX10_laysYet_117 (lv_at hl 0 rfl) ?_
        refine lv_if_ge (tgt := 128) C.x C.b dX10_laysYet_119 (by decide) (fun c21 => ?_) (fun c21 => ?_)
        · have hf := it_t hf c21
          refine lv_aload_n C.x C.b dX10_laysYet_128 rfl (lv_at hl 1 rfl) ?_
          obtain ⟨g22, hf⟩ := gd_e hf
          refine r_getr C hR t_r0 fl_X10_60 (by decide) (nz_e g22) dX10_laysYet_129 (fun tq23 => ?_)
          have tg22 := okA tq23 rfl
          refine lv_iload C.x C.b dX10_laysYet_132 (lv_at hl 0 rfl) ?_
          refine lv_iload C.x C.b dX10_laysYet_134 (lv_at hl 6 rfl) ?_
          refine lv_aload_n C.x C.b dX10_laysYet_136 rfl (lv_at hl 1 rfl) ?_
          refine lv_aload_n C.x C.b dX10_laysYet_137 rfl (lv_at hl 1 rfl) ?_
          obtain ⟨g24, hf⟩ := gd_e hf
          refine r_getr C hR t_r0 fl_X10_20 (by decide) (nz_e g24) dX10_laysYet_138 (fun tq25 => ?_)
          have tg24 := okA tq25 rfl
          refine lv_iload C.x C.b dX10_laysYet_141 (lv_at hl 0 rfl) ?_
          obtain ⟨q26, h_q26, hf⟩ := bd_e hf
          refine r_callV (As := [.ref (G.2.2 + (hpR h r0 6)), .int q20]) (rest := [.int x5, .int q20, .ref (G.2.2 + (hpR h r0 29))]) C hR hS t_r0 rfl mk_X10_campsOver cl_X10_294 (k_X10_campsOver t_r0 tg24 h_q26) ⟨⟨Nat.le_of_ble_eq_true rfl, Nat.le_of_ble_eq_true rfl⟩, ⟨rfl, rfl⟩, Nat.le_of_ble_eq_true rfl, Nat.le_of_ble_eq_true rfl⟩ rfl hl.1 rfl (Nat.le_of_ble_eq_true rfl) dX10_laysYet_143 (fun H locs hR hS hE1 z_q26 => ?_)
          refine lv_iload_n C.x C.b dX10_laysYet_146 rfl (lv_at hl 3 rfl) ?_
          refine lv_iand C.x C.b dX10_laysYet_147 ?_
          refine lv_ior C.x C.b dX10_laysYet_148 ?_
          obtain ⟨q27, h_q27, hf⟩ := bd_e hf
          refine r_callS (As := [.int q20, .int (x5 ||| (q26 &&& x2))]) (rest := [.ref (G.2.2 + (hpR h r0 29))]) C hR hS mk_X10_state cl_X10_396 (k_X10_state h_q27) ⟨⟨Nat.le_of_ble_eq_true rfl, Nat.le_of_ble_eq_true rfl⟩, ⟨rfl, rfl⟩, Nat.le_of_ble_eq_true rfl, Nat.le_of_ble_eq_true rfl⟩ rfl hl.1 rfl (Nat.le_of_ble_eq_true rfl) dX10_laysYet_149 (fun H locs hR hS hE1 z_q27 => ?_)
          obtain ⟨g28, hf⟩ := gd_e hf
          refine r_iald C hR tg22 g28 dX10_laysYet_152 ?_
          refine lv_aload_n C.x C.b dX10_laysYet_153 rfl (lv_at hl 1 rfl) ?_
          obtain ⟨g29, hf⟩ := gd_e hf
          refine r_getr C hR t_r0 fl_X10_63 (by decide) (nz_e g29) dX10_laysYet_154 (fun tq30 => ?_)
          have tg29 := okA tq30 rfl
          refine lv_iload C.x C.b dX10_laysYet_157 (lv_at hl 0 rfl) ?_
          obtain ⟨g31, hf⟩ := gd_e hf
          refine r_iald C hR tg29 g31 dX10_laysYet_159 ?_
          refine lv_iadd C.x C.b dX10_laysYet_160 ?_
          exact w_X10_laysYet_161 C hr hlk hk62 hk71 hk83 hk92 _ _ _ _ _ _ _ _ _ hf hE hR hS t_r0 z_x3 (lv_sub hl [1, 2, 3, 4, 5, 6, 7] rfl)
        · have hf := it_f hf c21
          refine lv_ldcw C.x C.b C.ow (C.ts _ lk_X10_392) dX10_laysYet_122 ?_
          refine lv_goto (tgt := 161) C.x C.b dX10_laysYet_125 (by decide) ?_
          exact w_X10_laysYet_161 C hr hlk hk62 hk71 hk83 hk92 _ _ _ _ _ _ _ _ _ hf hE hR hS t_r0 z_x3 (lv_sub hl [1, 2, 3, 4, 5, 6, 7] rfl)
set_option maxRecDepth 100000 in
set_option maxHeartbeats 4000000 in
theorem w_X10_laysYet_83 {G : Gt} {l : Launch} {p : Program} {e : Env} {s : State} {m : MethodId} {args : Array Value} {below : List Frame} {meth : Method} {c : Code} {h0 : Hp} {out : Hp} {r0 : Nat} {x1 : Int32} {x2 : Int32} {k62 : Hp → Int32 → Option Hp} {k71 : Hp → Int32 → Int32 → Option Hp} (C : Cx G p m c cX10_laysYet 9 s args RX10) (hr : meth.sig.returnType = none) (hlk : meth.locks = false) (hk62 : P_X10_laysYet_62 G l p e s m args below meth c h0 out r0 x1 x2 k62) (hk71 : P_X10_laysYet_71 G l p e s m args below meth c h0 out r0 x1 x2 k71) (n : Nat) : P_X10_laysYet_83 G l p e s m args below meth c h0 out r0 x1 x2 (f_X10_laysYet_83 r0 x1 x2 k62 k71 n) := by
  induction n with
  | zero => intro H locs ls h x3 x4 x5 hf hE hR hS t_r0 z_x3 hl; cases hf
  | succ n hk83 =>
    intro H locs ls h x3 x4 x5 hf hE hR hS t_r0 z_x3 hl
    rw [f_X10_laysYet_83] at hf
    obtain ⟨k83, e_k83⟩ : ∃ y, y = f_X10_laysYet_83 r0 x1 x2 k62 k71 n := ⟨_, rfl⟩
    have hf := lt_e hf e_k83
    rw [← e_k83] at hk83
    refine lv_iload C.x C.b dX10_laysYet_83 (lv_at hl 5 rfl) ?_
    refine lv_iload_n C.x C.b dX10_laysYet_85 rfl (lv_at hl 2 rfl) ?_
    refine lv_icmp_gt (tgt := 208) C.x C.b dX10_laysYet_86 (by decide) (fun c16 => ?_) (fun c16 => ?_)
    · have hf := it_t hf c16
      obtain ⟨v17, e_v17⟩ : ∃ y : Int32, y = x4 + (1 : Int32) := ⟨_, rfl⟩
      have hf := lt_e hf e_v17
      refine lv_iinc (v := v17) (lv' := [(4, .int v17), (0, .ref (G.2.2 + r0)), (1, .int x1), (2, .int x2), (3, .int x3), (5, .int x5)]) C.x C.b dX10_laysYet_208 hl (k := 4) rfl (by rw [e_v17]; rfl) (by decide) rfl (fun ls hl => ?_)
      refine lv_goto (tgt := 71) C.x C.b dX10_laysYet_211 (by decide) ?_
      exact hk71 _ _ _ _ _ _ hf hE hR hS t_r0 z_x3 (lv_sub hl [1, 2, 3, 4, 0] rfl)
    · have hf := it_f hf c16
      refine lv_iconst (v := (0 : Int32)) C.x C.b dX10_laysYet_89 (by decide) ?_
      refine lv_istore (lv' := [(6, .int (0 : Int32)), (0, .ref (G.2.2 + r0)), (1, .int x1), (2, .int x2), (3, .int x3), (4, .int x4), (5, .int x5)]) C.x C.b dX10_laysYet_90 hl (by decide) rfl (fun ls hl => ?_)
      exact w_X10_laysYet_92 C hr hlk hk62 hk71 hk83 FU _ _ _ _ _ _ _ _ hf hE hR hS t_r0 z_x3 (lv_sub hl [1, 2, 3, 4, 5, 6, 0] rfl)
set_option maxRecDepth 100000 in
set_option maxHeartbeats 4000000 in
theorem w_X10_laysYet_71 {G : Gt} {l : Launch} {p : Program} {e : Env} {s : State} {m : MethodId} {args : Array Value} {below : List Frame} {meth : Method} {c : Code} {h0 : Hp} {out : Hp} {r0 : Nat} {x1 : Int32} {x2 : Int32} {k62 : Hp → Int32 → Option Hp} (C : Cx G p m c cX10_laysYet 9 s args RX10) (hr : meth.sig.returnType = none) (hlk : meth.locks = false) (hk62 : P_X10_laysYet_62 G l p e s m args below meth c h0 out r0 x1 x2 k62) (n : Nat) : P_X10_laysYet_71 G l p e s m args below meth c h0 out r0 x1 x2 (f_X10_laysYet_71 r0 x1 x2 k62 n) := by
  induction n with
  | zero => intro H locs ls h x3 x4 hf hE hR hS t_r0 z_x3 hl; cases hf
  | succ n hk71 =>
    intro H locs ls h x3 x4 hf hE hR hS t_r0 z_x3 hl
    rw [f_X10_laysYet_71] at hf
    obtain ⟨k71, e_k71⟩ : ∃ y, y = f_X10_laysYet_71 r0 x1 x2 k62 n := ⟨_, rfl⟩
    have hf := lt_e hf e_k71
    rw [← e_k71] at hk71
    refine lv_iload C.x C.b dX10_laysYet_71 (lv_at hl 4 rfl) ?_
    refine lv_aload_n C.x C.b dX10_laysYet_73 rfl (lv_at hl 0 rfl) ?_
    obtain ⟨q14, h_q14, hf⟩ := bd_e hf
    refine r_callV (As := []) (rest := [.int x4]) C hR hS t_r0 rfl mk_X10_cells cl_X10_113 (k_X10_cells t_r0 h_q14) ⟨⟨Nat.le_of_ble_eq_true rfl, Nat.le_of_ble_eq_true rfl⟩, ⟨rfl, rfl⟩, Nat.le_of_ble_eq_true rfl, Nat.le_of_ble_eq_true rfl⟩ rfl hl.1 rfl (Nat.le_of_ble_eq_true rfl) dX10_laysYet_74 (fun H locs hR hS hE1 z_q14 => ?_)
    refine lv_icmp_ge (tgt := 214) C.x C.b dX10_laysYet_77 (by decide) (fun c15 => ?_) (fun c15 => ?_)
    · have hf := it_t hf c15
      refine lv_goto (tgt := 62) C.x C.b dX10_laysYet_214 (by decide) ?_
      exact hk62 _ _ _ _ _ hf hE hR hS t_r0 z_x3 (lv_sub hl [0, 1, 2, 3] rfl)
    · have hf := it_f hf c15
      refine lv_iconst (v := (0 : Int32)) C.x C.b dX10_laysYet_80 (by decide) ?_
      refine lv_istore (lv' := [(5, .int (0 : Int32)), (0, .ref (G.2.2 + r0)), (1, .int x1), (2, .int x2), (3, .int x3), (4, .int x4)]) C.x C.b dX10_laysYet_81 hl (by decide) rfl (fun ls hl => ?_)
      exact w_X10_laysYet_83 C hr hlk hk62 hk71 FU _ _ _ _ _ _ _ hf hE hR hS t_r0 z_x3 (lv_sub hl [1, 2, 3, 4, 5, 0] rfl)
set_option maxRecDepth 100000 in
set_option maxHeartbeats 4000000 in
theorem w_X10_laysYet_62 {G : Gt} {l : Launch} {p : Program} {e : Env} {s : State} {m : MethodId} {args : Array Value} {below : List Frame} {meth : Method} {c : Code} {h0 : Hp} {out : Hp} {r0 : Nat} {x1 : Int32} {x2 : Int32}  (C : Cx G p m c cX10_laysYet 9 s args RX10) (hr : meth.sig.returnType = none) (hlk : meth.locks = false)  (n : Nat) : P_X10_laysYet_62 G l p e s m args below meth c h0 out r0 x1 x2 (f_X10_laysYet_62 r0 x1 x2 n) := by
  induction n with
  | zero => intro H locs ls h x3 hf hE hR hS t_r0 z_x3 hl; cases hf
  | succ n hk62 =>
    intro H locs ls h x3 hf hE hR hS t_r0 z_x3 hl
    rw [f_X10_laysYet_62] at hf
    obtain ⟨k62, e_k62⟩ : ∃ y, y = f_X10_laysYet_62 r0 x1 x2 n := ⟨_, rfl⟩
    have hf := lt_e hf e_k62
    rw [← e_k62] at hk62
    refine lv_iload_n C.x C.b dX10_laysYet_62 rfl (lv_at hl 3 rfl) ?_
    refine lv_if_eq (tgt := 217) C.x C.b dX10_laysYet_63 (by decide) (fun c13 => ?_) (fun c13 => ?_)
    · have hf := it_t hf c13
      have hf := so_e hf
      subst hf
      exact r_vret C hr hlk hR hE hS dX10_laysYet_217
    · have hf := it_f hf c13
      refine lv_iconst (v := (0 : Int32)) C.x C.b dX10_laysYet_66 (by decide) ?_
      refine lv_istore_n (lv' := [(3, .int (0 : Int32)), (0, .ref (G.2.2 + r0)), (1, .int x1), (2, .int x2)]) C.x C.b dX10_laysYet_67 rfl hl (by decide) rfl (fun ls hl => ?_)
      refine lv_iconst (v := (0 : Int32)) C.x C.b dX10_laysYet_68 (by decide) ?_
      refine lv_istore (lv' := [(4, .int (0 : Int32)), (3, .int (0 : Int32)), (0, .ref (G.2.2 + r0)), (1, .int x1), (2, .int x2)]) C.x C.b dX10_laysYet_69 hl (by decide) rfl (fun ls hl => ?_)
      exact w_X10_laysYet_71 C hr hlk hk62 FU _ _ _ _ _ _ hf hE hR hS t_r0 z_0 (lv_sub hl [2, 3, 4, 1, 0] rfl)
set_option maxRecDepth 100000 in
set_option maxHeartbeats 4000000 in
theorem w_X10_laysYet_2 {G : Gt} {l : Launch} {p : Program} {e : Env} {s : State} {m : MethodId} {args : Array Value} {below : List Frame} {meth : Method} {c : Code} {h0 : Hp} {out : Hp} {r0 : Nat} {x1 : Int32} {x2 : Int32}  (C : Cx G p m c cX10_laysYet 9 s args RX10) (hr : meth.sig.returnType = none) (hlk : meth.locks = false)  (n : Nat) : P_X10_laysYet_2 G l p e s m args below meth c h0 out r0 x1 x2 (f_X10_laysYet_2 r0 x1 x2 n) := by
  induction n with
  | zero => intro H locs ls h x3 hf hE hR hS t_r0 hl; cases hf
  | succ n hk2 =>
    intro H locs ls h x3 hf hE hR hS t_r0 hl
    rw [f_X10_laysYet_2] at hf
    obtain ⟨k2, e_k2⟩ : ∃ y, y = f_X10_laysYet_2 r0 x1 x2 n := ⟨_, rfl⟩
    have hf := lt_e hf e_k2
    rw [← e_k2] at hk2
    refine lv_iload_n C.x C.b dX10_laysYet_2 rfl (lv_at hl 3 rfl) ?_
    refine lv_aload_n C.x C.b dX10_laysYet_3 rfl (lv_at hl 0 rfl) ?_
    obtain ⟨q1, h_q1, hf⟩ := bd_e hf
    refine r_callV (As := []) (rest := [.int x3]) C hR hS t_r0 rfl mk_X10_cells cl_X10_113 (k_X10_cells t_r0 h_q1) ⟨⟨Nat.le_of_ble_eq_true rfl, Nat.le_of_ble_eq_true rfl⟩, ⟨rfl, rfl⟩, Nat.le_of_ble_eq_true rfl, Nat.le_of_ble_eq_true rfl⟩ rfl hl.1 rfl (Nat.le_of_ble_eq_true rfl) dX10_laysYet_4 (fun H locs hR hS hE1 z_q1 => ?_)
    refine lv_icmp_ge (tgt := 60) C.x C.b dX10_laysYet_7 (by decide) (fun c2 => ?_) (fun c2 => ?_)
    · have hf := it_t hf c2
      refine lv_iconst (v := (1 : Int32)) C.x C.b dX10_laysYet_60 (by decide) ?_
      refine lv_istore_n (lv' := [(3, .int (1 : Int32)), (0, .ref (G.2.2 + r0)), (1, .int x1), (2, .int x2)]) C.x C.b dX10_laysYet_61 rfl hl (by decide) rfl (fun ls hl => ?_)
      exact w_X10_laysYet_62 C hr hlk FU _ _ _ _ _ hf hE hR hS t_r0 z_1 (lv_sub hl [1, 2, 3, 0] rfl)
    · have hf := it_f hf c2
      refine lv_iconst (v := (0 : Int32)) C.x C.b dX10_laysYet_10 (by decide) ?_
      refine lv_istore (lv' := [(4, .int (0 : Int32)), (0, .ref (G.2.2 + r0)), (1, .int x1), (2, .int x2), (3, .int x3)]) C.x C.b dX10_laysYet_11 hl (by decide) rfl (fun ls hl => ?_)
      exact w_X10_laysYet_13 C hr hlk hk2 FU _ _ _ _ _ _ hf hE hR hS t_r0 (lv_sub hl [1, 2, 3, 4, 0] rfl)
set_option maxRecDepth 100000 in
set_option maxHeartbeats 4000000 in
theorem k_X10_laysYet {G : Gt} {l : Launch} {h : Hp} {r0 : Nat} {x1 : Int32} {x2 : Int32} {out : Hp} (t_r0 : hpT h r0 = (1, 10))  (hf : f_X10_laysYet h r0 x1 x2 = some out) : Mt G l yX10_laysYet cX10_laysYet 9 (none) rm_X10_laysYet [.ref (G.2.2 + r0), .int x1, .int x2] h (none) out 0 0 0 := by
  refine r_met (by decide +kernel) (Nat.le_of_ble_eq_true rfl) ?_
  intro p e s m args below meth c ls C hr hlk hnm hR hS hl
  have hE : Ext h h := Ext.rf
  have hl : lv_has ls 9 [(0, .ref (G.2.2 + r0)), (1, .int x1), (2, .int x2)] := hl
  rw [f_X10_laysYet] at hf
  refine lv_iconst (v := (0 : Int32)) C.x C.b dX10_laysYet_0 (by decide) ?_
  refine lv_istore_n (lv' := [(3, .int (0 : Int32)), (0, .ref (G.2.2 + r0)), (1, .int x1), (2, .int x2)]) C.x C.b dX10_laysYet_1 rfl hl (by decide) rfl (fun ls hl => ?_)
  exact w_X10_laysYet_2 C hr hlk FU _ _ _ _ _ hf hE hR hS t_r0 (lv_sub hl [1, 2, 3, 0] rfl)

def rm_X10_tellsWay : Room := { frames := 4, cells := 0, slots := 0, locals := 98 }
def P_X10_tellsWay_144 (G : Gt) (l : Launch) (p : Program) (e : Env) (s : State) (m : MethodId) (args : Array Value) (below : List Frame) (meth : Method) (c : Code) (h0 : Hp) (out : (Int32 × Hp)) (r0 : Nat) (x1 : Int32) (x2 : Int32) (k : Hp → Int32 → Int32 → Int32 → Int32 → Option (Int32 × Hp)) : Prop := ∀ (H : Heap) (locs : List Loc) (ls : Array Slot) (h : Hp) (s0 : Int32) (x3 : Int32) (x4 : Int32) (x6 : Int32), k h s0 x3 x4 x6 = some out → Ext h0 h → Rel G h H → va_S (AA G.2.2) s.heap H locs → hpT h r0 = (1, 10) → lv_has ls 9 [(0, .ref (G.2.2 + r0)), (1, .int x1), (2, .int x2), (3, .int x3), (4, .int x4), (6, .int x6)] → W p l e rm_X10_tellsWay s m args below meth c H locs 0 0 (MQ below (Qm G h0 out.2 (some (.int out.1)) 0) args s 0 0 (AA G.2.2)) (F0 m 144 ls [.int s0])
def P_X10_tellsWay_142 (G : Gt) (l : Launch) (p : Program) (e : Env) (s : State) (m : MethodId) (args : Array Value) (below : List Frame) (meth : Method) (c : Code) (h0 : Hp) (out : (Int32 × Hp)) (r0 : Nat) (x1 : Int32) (x2 : Int32) (k : Hp → Int32 → Int32 → Int32 → Int32 → Option (Int32 × Hp)) : Prop := ∀ (H : Heap) (locs : List Loc) (ls : Array Slot) (h : Hp) (x3 : Int32) (x4 : Int32) (x5 : Int32) (x6 : Int32), k h x3 x4 x5 x6 = some out → Ext h0 h → Rel G h H → va_S (AA G.2.2) s.heap H locs → hpT h r0 = (1, 10) → lv_has ls 9 [(0, .ref (G.2.2 + r0)), (1, .int x1), (2, .int x2), (3, .int x3), (4, .int x4), (5, .int x5), (6, .int x6)] → W p l e rm_X10_tellsWay s m args below meth c H locs 0 0 (MQ below (Qm G h0 out.2 (some (.int out.1)) 0) args s 0 0 (AA G.2.2)) (F0 m 142 ls [])
def P_X10_tellsWay_137 (G : Gt) (l : Launch) (p : Program) (e : Env) (s : State) (m : MethodId) (args : Array Value) (below : List Frame) (meth : Method) (c : Code) (h0 : Hp) (out : (Int32 × Hp)) (r0 : Nat) (x1 : Int32) (x2 : Int32) (k : Hp → Int32 → Int32 → Int32 → Int32 → Option (Int32 × Hp)) : Prop := ∀ (H : Heap) (locs : List Loc) (ls : Array Slot) (h : Hp) (x3 : Int32) (x4 : Int32) (x6 : Int32) (x7 : Int32), k h x3 x4 x6 x7 = some out → Ext h0 h → Rel G h H → va_S (AA G.2.2) s.heap H locs → hpT h r0 = (1, 10) → lv_has ls 9 [(0, .ref (G.2.2 + r0)), (1, .int x1), (2, .int x2), (3, .int x3), (4, .int x4), (6, .int x6), (7, .int x7)] → W p l e rm_X10_tellsWay s m args below meth c H locs 0 0 (MQ below (Qm G h0 out.2 (some (.int out.1)) 0) args s 0 0 (AA G.2.2)) (F0 m 137 ls [])
def P_X10_tellsWay_118 (G : Gt) (l : Launch) (p : Program) (e : Env) (s : State) (m : MethodId) (args : Array Value) (below : List Frame) (meth : Method) (c : Code) (h0 : Hp) (out : (Int32 × Hp)) (r0 : Nat) (x1 : Int32) (x2 : Int32) (k : Hp → Int32 → Int32 → Int32 → Int32 → Int32 → Int32 → Option (Int32 × Hp)) : Prop := ∀ (H : Heap) (locs : List Loc) (ls : Array Slot) (h : Hp) (s0 : Int32) (x3 : Int32) (x4 : Int32) (x5 : Int32) (x6 : Int32) (x7 : Int32), k h s0 x3 x4 x5 x6 x7 = some out → Ext h0 h → Rel G h H → va_S (AA G.2.2) s.heap H locs → hpT h r0 = (1, 10) → narrow .boolean (.int s0) = .int s0 → lv_has ls 9 [(0, .ref (G.2.2 + r0)), (1, .int x1), (2, .int x2), (3, .int x3), (4, .int x4), (5, .int x5), (6, .int x6), (7, .int x7)] → W p l e rm_X10_tellsWay s m args below meth c H locs 0 0 (MQ below (Qm G h0 out.2 (some (.int out.1)) 0) args s 0 0 (AA G.2.2)) (F0 m 118 ls [.int s0])
def P_X10_tellsWay_117 (G : Gt) (l : Launch) (p : Program) (e : Env) (s : State) (m : MethodId) (args : Array Value) (below : List Frame) (meth : Method) (c : Code) (h0 : Hp) (out : (Int32 × Hp)) (r0 : Nat) (x1 : Int32) (x2 : Int32) (k : Hp → Int32 → Int32 → Int32 → Int32 → Int32 → Option (Int32 × Hp)) : Prop := ∀ (H : Heap) (locs : List Loc) (ls : Array Slot) (h : Hp) (x3 : Int32) (x4 : Int32) (x5 : Int32) (x6 : Int32) (x7 : Int32), k h x3 x4 x5 x6 x7 = some out → Ext h0 h → Rel G h H → va_S (AA G.2.2) s.heap H locs → hpT h r0 = (1, 10) → lv_has ls 9 [(0, .ref (G.2.2 + r0)), (1, .int x1), (2, .int x2), (3, .int x3), (4, .int x4), (5, .int x5), (6, .int x6), (7, .int x7)] → W p l e rm_X10_tellsWay s m args below meth c H locs 0 0 (MQ below (Qm G h0 out.2 (some (.int out.1)) 0) args s 0 0 (AA G.2.2)) (F0 m 117 ls [])
def P_X10_tellsWay_46 (G : Gt) (l : Launch) (p : Program) (e : Env) (s : State) (m : MethodId) (args : Array Value) (below : List Frame) (meth : Method) (c : Code) (h0 : Hp) (out : (Int32 × Hp)) (r0 : Nat) (x1 : Int32) (x2 : Int32) (k : Hp → Int32 → Int32 → Int32 → Int32 → Option (Int32 × Hp)) : Prop := ∀ (H : Heap) (locs : List Loc) (ls : Array Slot) (h : Hp) (x3 : Int32) (x4 : Int32) (x5 : Int32) (x6 : Int32), k h x3 x4 x5 x6 = some out → Ext h0 h → Rel G h H → va_S (AA G.2.2) s.heap H locs → hpT h r0 = (1, 10) → lv_has ls 9 [(0, .ref (G.2.2 + r0)), (1, .int x1), (2, .int x2), (3, .int x3), (4, .int x4), (5, .int x5), (6, .int x6)] → W p l e rm_X10_tellsWay s m args below meth c H locs 0 0 (MQ below (Qm G h0 out.2 (some (.int out.1)) 0) args s 0 0 (AA G.2.2)) (F0 m 46 ls [])
def P_X10_tellsWay_26 (G : Gt) (l : Launch) (p : Program) (e : Env) (s : State) (m : MethodId) (args : Array Value) (below : List Frame) (meth : Method) (c : Code) (h0 : Hp) (out : (Int32 × Hp)) (r0 : Nat) (x1 : Int32) (x2 : Int32) (k : Hp → Int32 → Int32 → Option (Int32 × Hp)) : Prop := ∀ (H : Heap) (locs : List Loc) (ls : Array Slot) (h : Hp) (x3 : Int32) (x4 : Int32), k h x3 x4 = some out → Ext h0 h → Rel G h H → va_S (AA G.2.2) s.heap H locs → hpT h r0 = (1, 10) → lv_has ls 9 [(0, .ref (G.2.2 + r0)), (1, .int x1), (2, .int x2), (3, .int x3), (4, .int x4)] → W p l e rm_X10_tellsWay s m args below meth c H locs 0 0 (MQ below (Qm G h0 out.2 (some (.int out.1)) 0) args s 0 0 (AA G.2.2)) (F0 m 26 ls [])
set_option maxRecDepth 100000 in
set_option maxHeartbeats 4000000 in
theorem w_X10_tellsWay_144 {G : Gt} {l : Launch} {p : Program} {e : Env} {s : State} {m : MethodId} {args : Array Value} {below : List Frame} {meth : Method} {c : Code} {h0 : Hp} {out : (Int32 × Hp)} {r0 : Nat} {x1 : Int32} {x2 : Int32} {k26 : Hp → Int32 → Int32 → Option (Int32 × Hp)} {k46 : Hp → Int32 → Int32 → Int32 → Int32 → Option (Int32 × Hp)} (C : Cx G p m c cX10_tellsWay 9 s args RX10) (hr : meth.sig.returnType = some .int) (hlk : meth.locks = false) (hk26 : P_X10_tellsWay_26 G l p e s m args below meth c h0 out r0 x1 x2 k26) (hk46 : P_X10_tellsWay_46 G l p e s m args below meth c h0 out r0 x1 x2 k46) : P_X10_tellsWay_144 G l p e s m args below meth c h0 out r0 x1 x2 (f_X10_tellsWay_144 r0 x1 x2 k26 k46) := by
  intro H locs ls h s0 x3 x4 x6 hf hE hR hS t_r0 hl
  rw [f_X10_tellsWay_144] at hf
  refine lv_istore (lv' := [(5, .int s0), (0, .ref (G.2.2 + r0)), (1, .int x1), (2, .int x2), (3, .int x3), (4, .int x4), (6, .int x6)]) C.x C.b dX10_tellsWay_144 hl (by decide) rfl (fun ls hl => ?_)
  obtain ⟨v37, e_v37⟩ : ∃ y : Int32, y = x6 + (1 : Int32) := ⟨_, rfl⟩
  have hf := lt_e hf e_v37
  refine lv_iinc (v := v37) (lv' := [(6, .int v37), (5, .int s0), (0, .ref (G.2.2 + r0)), (1, .int x1), (2, .int x2), (3, .int x3), (4, .int x4)]) C.x C.b dX10_tellsWay_146 hl (k := 6) rfl (by rw [e_v37]; rfl) (by decide) rfl (fun ls hl => ?_)
  refine lv_goto (tgt := 46) C.x C.b dX10_tellsWay_149 (by decide) ?_
  exact hk46 _ _ _ _ _ _ _ _ hf hE hR hS t_r0 (lv_sub hl [2, 3, 4, 5, 6, 1, 0] rfl)
set_option maxRecDepth 100000 in
set_option maxHeartbeats 4000000 in
theorem w_X10_tellsWay_142 {G : Gt} {l : Launch} {p : Program} {e : Env} {s : State} {m : MethodId} {args : Array Value} {below : List Frame} {meth : Method} {c : Code} {h0 : Hp} {out : (Int32 × Hp)} {r0 : Nat} {x1 : Int32} {x2 : Int32} {k26 : Hp → Int32 → Int32 → Option (Int32 × Hp)} {k46 : Hp → Int32 → Int32 → Int32 → Int32 → Option (Int32 × Hp)} (C : Cx G p m c cX10_tellsWay 9 s args RX10) (hr : meth.sig.returnType = some .int) (hlk : meth.locks = false) (hk26 : P_X10_tellsWay_26 G l p e s m args below meth c h0 out r0 x1 x2 k26) (hk46 : P_X10_tellsWay_46 G l p e s m args below meth c h0 out r0 x1 x2 k46) : P_X10_tellsWay_142 G l p e s m args below meth c h0 out r0 x1 x2 (f_X10_tellsWay_142 r0 x1 x2 k26 k46) := by
  intro H locs ls h x3 x4 x5 x6 hf hE hR hS t_r0 hl
  rw [f_X10_tellsWay_142] at hf
  refine lv_iload C.x C.b dX10_tellsWay_142 (lv_at hl 5 rfl) ?_
  exact w_X10_tellsWay_144 C hr hlk hk26 hk46 _ _ _ _ _ _ _ _ hf hE hR hS t_r0 (lv_sub hl [0, 1, 2, 3, 4, 6] rfl)
set_option maxRecDepth 100000 in
set_option maxHeartbeats 4000000 in
theorem w_X10_tellsWay_137 {G : Gt} {l : Launch} {p : Program} {e : Env} {s : State} {m : MethodId} {args : Array Value} {below : List Frame} {meth : Method} {c : Code} {h0 : Hp} {out : (Int32 × Hp)} {r0 : Nat} {x1 : Int32} {x2 : Int32} {k26 : Hp → Int32 → Int32 → Option (Int32 × Hp)} {k46 : Hp → Int32 → Int32 → Int32 → Int32 → Option (Int32 × Hp)} (C : Cx G p m c cX10_tellsWay 9 s args RX10) (hr : meth.sig.returnType = some .int) (hlk : meth.locks = false) (hk26 : P_X10_tellsWay_26 G l p e s m args below meth c h0 out r0 x1 x2 k26) (hk46 : P_X10_tellsWay_46 G l p e s m args below meth c h0 out r0 x1 x2 k46) : P_X10_tellsWay_137 G l p e s m args below meth c h0 out r0 x1 x2 (f_X10_tellsWay_137 r0 x1 x2 k26 k46) := by
  intro H locs ls h x3 x4 x6 x7 hf hE hR hS t_r0 hl
  rw [f_X10_tellsWay_137] at hf
  refine lv_iload C.x C.b dX10_tellsWay_137 (lv_at hl 6 rfl) ?_
  refine lv_goto (tgt := 144) C.x C.b dX10_tellsWay_139 (by decide) ?_
  exact w_X10_tellsWay_144 C hr hlk hk26 hk46 _ _ _ _ _ _ _ _ hf hE hR hS t_r0 (lv_sub hl [0, 1, 2, 3, 4, 5] rfl)
set_option maxRecDepth 100000 in
set_option maxHeartbeats 4000000 in
theorem w_X10_tellsWay_118 {G : Gt} {l : Launch} {p : Program} {e : Env} {s : State} {m : MethodId} {args : Array Value} {below : List Frame} {meth : Method} {c : Code} {h0 : Hp} {out : (Int32 × Hp)} {r0 : Nat} {x1 : Int32} {x2 : Int32} {k26 : Hp → Int32 → Int32 → Option (Int32 × Hp)} {k46 : Hp → Int32 → Int32 → Int32 → Int32 → Option (Int32 × Hp)} (C : Cx G p m c cX10_tellsWay 9 s args RX10) (hr : meth.sig.returnType = some .int) (hlk : meth.locks = false) (hk26 : P_X10_tellsWay_26 G l p e s m args below meth c h0 out r0 x1 x2 k26) (hk46 : P_X10_tellsWay_46 G l p e s m args below meth c h0 out r0 x1 x2 k46) : P_X10_tellsWay_118 G l p e s m args below meth c h0 out r0 x1 x2 (f_X10_tellsWay_118 r0 x1 x2 k26 k46) := by
  intro H locs ls h s0 x3 x4 x5 x6 x7 hf hE hR hS t_r0 z_s0 hl
  rw [f_X10_tellsWay_118] at hf
  refine lv_istore (lv' := [(8, .int s0), (0, .ref (G.2.2 + r0)), (1, .int x1), (2, .int x2), (3, .int x3), (4, .int x4), (5, .int x5), (6, .int x6), (7, .int x7)]) C.x C.b dX10_tellsWay_118 hl (by decide) rfl (fun ls hl => ?_)
  refine lv_iload C.x C.b dX10_tellsWay_120 (lv_at hl 0 rfl) ?_
  refine lv_if_eq (tgt := 142) C.x C.b dX10_tellsWay_122 (by decide) (fun c34 => ?_) (fun c34 => ?_)
  · have hf := it_t hf c34
    exact w_X10_tellsWay_142 C hr hlk hk26 hk46 _ _ _ _ _ _ _ _ hf hE hR hS t_r0 (lv_sub hl [1, 2, 3, 4, 5, 6, 7] rfl)
  · have hf := it_f hf c34
    refine lv_iload C.x C.b dX10_tellsWay_125 (lv_at hl 6 rfl) ?_
    refine lv_if_lt (tgt := 137) C.x C.b dX10_tellsWay_127 (by decide) (fun c35 => ?_) (fun c35 => ?_)
    · have hf := it_t hf c35
      exact w_X10_tellsWay_137 C hr hlk hk26 hk46 _ _ _ _ _ _ _ _ hf hE hR hS t_r0 (lv_sub hl [1, 2, 3, 4, 5, 7, 8] rfl)
    · have hf := it_f hf c35
      refine lv_iload C.x C.b dX10_tellsWay_130 (lv_at hl 8 rfl) ?_
      refine lv_iload C.x C.b dX10_tellsWay_132 (lv_at hl 6 rfl) ?_
      refine lv_icmp_ge (tgt := 142) C.x C.b dX10_tellsWay_134 (by decide) (fun c36 => ?_) (fun c36 => ?_)
      · have hf := it_t hf c36
        exact w_X10_tellsWay_142 C hr hlk hk26 hk46 _ _ _ _ _ _ _ _ hf hE hR hS t_r0 (lv_sub hl [1, 2, 3, 4, 5, 6, 7] rfl)
      · have hf := it_f hf c36
        exact w_X10_tellsWay_137 C hr hlk hk26 hk46 _ _ _ _ _ _ _ _ hf hE hR hS t_r0 (lv_sub hl [1, 2, 3, 4, 5, 7, 8] rfl)
set_option maxRecDepth 100000 in
set_option maxHeartbeats 4000000 in
theorem w_X10_tellsWay_117 {G : Gt} {l : Launch} {p : Program} {e : Env} {s : State} {m : MethodId} {args : Array Value} {below : List Frame} {meth : Method} {c : Code} {h0 : Hp} {out : (Int32 × Hp)} {r0 : Nat} {x1 : Int32} {x2 : Int32} {k26 : Hp → Int32 → Int32 → Option (Int32 × Hp)} {k46 : Hp → Int32 → Int32 → Int32 → Int32 → Option (Int32 × Hp)} (C : Cx G p m c cX10_tellsWay 9 s args RX10) (hr : meth.sig.returnType = some .int) (hlk : meth.locks = false) (hk26 : P_X10_tellsWay_26 G l p e s m args below meth c h0 out r0 x1 x2 k26) (hk46 : P_X10_tellsWay_46 G l p e s m args below meth c h0 out r0 x1 x2 k46) : P_X10_tellsWay_117 G l p e s m args below meth c h0 out r0 x1 x2 (f_X10_tellsWay_117 r0 x1 x2 k26 k46) := by
  intro H locs ls h x3 x4 x5 x6 x7 hf hE hR hS t_r0 hl
  rw [f_X10_tellsWay_117] at hf
  refine lv_iconst (v := (0 : Int32)) C.x C.b dX10_tellsWay_117 (by decide) ?_
  exact w_X10_tellsWay_118 C hr hlk hk26 hk46 _ _ _ _ _ _ _ _ _ _ hf hE hR hS t_r0 z_0 (lv_sub hl [0, 1, 2, 3, 4, 5, 6, 7] rfl)
set_option maxRecDepth 100000 in
set_option maxHeartbeats 4000000 in
theorem w_X10_tellsWay_46 {G : Gt} {l : Launch} {p : Program} {e : Env} {s : State} {m : MethodId} {args : Array Value} {below : List Frame} {meth : Method} {c : Code} {h0 : Hp} {out : (Int32 × Hp)} {r0 : Nat} {x1 : Int32} {x2 : Int32} {k26 : Hp → Int32 → Int32 → Option (Int32 × Hp)} (C : Cx G p m c cX10_tellsWay 9 s args RX10) (hr : meth.sig.returnType = some .int) (hlk : meth.locks = false) (hk26 : P_X10_tellsWay_26 G l p e s m args below meth c h0 out r0 x1 x2 k26) (n : Nat) : P_X10_tellsWay_46 G l p e s m args below meth c h0 out r0 x1 x2 (f_X10_tellsWay_46 r0 x1 x2 k26 n) := by
  induction n with
  | zero => intro H locs ls h x3 x4 x5 x6 hf hE hR hS t_r0 hl; cases hf
  | succ n hk46 =>
    intro H locs ls h x3 x4 x5 x6 hf hE hR hS t_r0 hl
    rw [f_X10_tellsWay_46] at hf
    obtain ⟨k46, e_k46⟩ : ∃ y, y = f_X10_tellsWay_46 r0 x1 x2 k26 n := ⟨_, rfl⟩
    have hf := lt_e hf e_k46
    rw [← e_k46] at hk46
    refine lv_iload C.x C.b dX10_tellsWay_46 (lv_at hl 6 rfl) ?_
    refine lv_iconst (v := (4 : Int32)) C.x C.b dX10_tellsWay_48 (by decide) ?_
    refine lv_icmp_ge (tgt := 152) C.x C.b dX10_tellsWay_49 (by decide) (fun c12 => ?_) (fun c12 => ?_)
    · have hf := it_t hf c12
      refine lv_iload C.x C.b dX10_tellsWay_152 (lv_at hl 5 rfl) ?_
      refine lv_istore_n (lv' := [(3, .int x5), (0, .ref (G.2.2 + r0)), (1, .int x1), (2, .int x2), (4, .int x4), (5, .int x5), (6, .int x6)]) C.x C.b dX10_tellsWay_154 rfl hl (by decide) rfl (fun ls hl => ?_)
      refine lv_iload C.x C.b dX10_tellsWay_155 (lv_at hl 4 rfl) ?_
      refine lv_aload_n C.x C.b dX10_tellsWay_157 rfl (lv_at hl 1 rfl) ?_
      refine lv_aload_n C.x C.b dX10_tellsWay_158 rfl (lv_at hl 1 rfl) ?_
      obtain ⟨g13, hf⟩ := gd_e hf
      refine r_getr C hR t_r0 fl_X10_20 (by decide) (nz_e g13) dX10_tellsWay_159 (fun tq14 => ?_)
      have tg13 := okA tq14 rfl
      refine lv_iload_n C.x C.b dX10_tellsWay_162 rfl (lv_at hl 0 rfl) ?_
      obtain ⟨q15, h_q15, hf⟩ := bd_e hf
      refine r_callV (As := [.ref (G.2.2 + (hpR h r0 6)), .int x5]) (rest := [.int x4]) C hR hS t_r0 rfl mk_X10_campsOver cl_X10_294 (k_X10_campsOver t_r0 tg13 h_q15) ⟨⟨Nat.le_of_ble_eq_true rfl, Nat.le_of_ble_eq_true rfl⟩, ⟨rfl, rfl⟩, Nat.le_of_ble_eq_true rfl, Nat.le_of_ble_eq_true rfl⟩ rfl hl.1 rfl (Nat.le_of_ble_eq_true rfl) dX10_tellsWay_163 (fun H locs hR hS hE1 z_q15 => ?_)
      refine lv_iload_n C.x C.b dX10_tellsWay_166 rfl (lv_at hl 3 rfl) ?_
      refine lv_iand C.x C.b dX10_tellsWay_167 ?_
      refine lv_ior C.x C.b dX10_tellsWay_168 ?_
      refine lv_topi (fun v16 e_v16 => ?_)
      have hf := lt_e hf e_v16
      refine lv_istore (lv' := [(4, .int v16), (3, .int x5), (0, .ref (G.2.2 + r0)), (1, .int x1), (2, .int x2), (5, .int x5), (6, .int x6)]) C.x C.b dX10_tellsWay_169 hl (by decide) rfl (fun ls hl => ?_)
      refine lv_aload_n C.x C.b dX10_tellsWay_171 rfl (lv_at hl 2 rfl) ?_
      refine lv_iload_n C.x C.b dX10_tellsWay_172 rfl (lv_at hl 1 rfl) ?_
      refine lv_i2l C.x C.b dX10_tellsWay_173 rfl ?_
      obtain ⟨q17, h_q17, hf⟩ := bd_e hf
      refine r_callV (As := [.long (x5.toInt64)]) (rest := []) C hR hS t_r0 rfl mk_X10_enters cl_X10_339 (k_X10_enters t_r0 h_q17) ⟨⟨Nat.le_of_ble_eq_true rfl, Nat.le_of_ble_eq_true rfl⟩, ⟨rfl, rfl⟩, Nat.le_of_ble_eq_true rfl, Nat.le_of_ble_eq_true rfl⟩ rfl hl.1 rfl (Nat.le_of_ble_eq_true rfl) dX10_tellsWay_174 (fun H locs hR hS hE1 z_q17 => ?_)
      have hE := hE.tr hE1
      have t_r0 := hE1.at t_r0 (by decide)
      refine lv_goto (tgt := 26) C.x C.b dX10_tellsWay_177 (by decide) ?_
      exact hk26 _ _ _ _ _ _ hf hE hR hS t_r0 (lv_sub hl [2, 3, 4, 1, 0] rfl)
    · have hf := it_f hf c12
      refine lv_aload_n C.x C.b dX10_tellsWay_52 rfl (lv_at hl 0 rfl) ?_
      refine lv_iload_n C.x C.b dX10_tellsWay_53 rfl (lv_at hl 3 rfl) ?_
      refine lv_iload C.x C.b dX10_tellsWay_54 (lv_at hl 6 rfl) ?_
      obtain ⟨q18, h_q18, hf⟩ := bd_e hf
      refine r_callV (As := [.int x3, .int x6]) (rest := []) C hR hS t_r0 rfl mk_X10_beside cl_X10_399 (k_X10_beside t_r0 h_q18) ⟨⟨Nat.le_of_ble_eq_true rfl, Nat.le_of_ble_eq_true rfl⟩, ⟨rfl, rfl⟩, Nat.le_of_ble_eq_true rfl, Nat.le_of_ble_eq_true rfl⟩ rfl hl.1 rfl (Nat.le_of_ble_eq_true rfl) dX10_tellsWay_56 (fun H locs hR hS hE1 z_q18 => ?_)
      refine lv_istore (lv' := [(7, .int q18), (0, .ref (G.2.2 + r0)), (1, .int x1), (2, .int x2), (3, .int x3), (4, .int x4), (5, .int x5), (6, .int x6)]) C.x C.b dX10_tellsWay_59 hl (by decide) rfl (fun ls hl => ?_)
      refine lv_iload C.x C.b dX10_tellsWay_61 (lv_at hl 0 rfl) ?_
      refine lv_if_lt (tgt := 117) C.x C.b dX10_tellsWay_63 (by decide) (fun c19 => ?_) (fun c19 => ?_)
      · have hf := it_t hf c19
        exact w_X10_tellsWay_117 C hr hlk hk26 hk46 _ _ _ _ _ _ _ _ _ hf hE hR hS t_r0 (lv_sub hl [1, 2, 3, 4, 5, 6, 7, 0] rfl)
      · have hf := it_f hf c19
        refine lv_aload_n C.x C.b dX10_tellsWay_66 rfl (lv_at hl 1 rfl) ?_
        obtain ⟨g20, hf⟩ := gd_e hf
        refine r_getr C hR t_r0 fl_X10_60 (by decide) (nz_e g20) dX10_tellsWay_67 (fun tq21 => ?_)
        have tg20 := okA tq21 rfl
        refine lv_iload C.x C.b dX10_tellsWay_70 (lv_at hl 0 rfl) ?_
        refine lv_iload C.x C.b dX10_tellsWay_72 (lv_at hl 5 rfl) ?_
        refine lv_aload_n C.x C.b dX10_tellsWay_74 rfl (lv_at hl 1 rfl) ?_
        refine lv_aload_n C.x C.b dX10_tellsWay_75 rfl (lv_at hl 1 rfl) ?_
        obtain ⟨g22, hf⟩ := gd_e hf
        refine r_getr C hR t_r0 fl_X10_20 (by decide) (nz_e g22) dX10_tellsWay_76 (fun tq23 => ?_)
        have tg22 := okA tq23 rfl
        refine lv_iload C.x C.b dX10_tellsWay_79 (lv_at hl 0 rfl) ?_
        obtain ⟨q24, h_q24, hf⟩ := bd_e hf
        refine r_callV (As := [.ref (G.2.2 + (hpR h r0 6)), .int q18]) (rest := [.int x4, .int q18, .ref (G.2.2 + (hpR h r0 29))]) C hR hS t_r0 rfl mk_X10_campsOver cl_X10_294 (k_X10_campsOver t_r0 tg22 h_q24) ⟨⟨Nat.le_of_ble_eq_true rfl, Nat.le_of_ble_eq_true rfl⟩, ⟨rfl, rfl⟩, Nat.le_of_ble_eq_true rfl, Nat.le_of_ble_eq_true rfl⟩ rfl hl.1 rfl (Nat.le_of_ble_eq_true rfl) dX10_tellsWay_81 (fun H locs hR hS hE1 z_q24 => ?_)
        refine lv_iload_n C.x C.b dX10_tellsWay_84 rfl (lv_at hl 3 rfl) ?_
        refine lv_iand C.x C.b dX10_tellsWay_85 ?_
        refine lv_ior C.x C.b dX10_tellsWay_86 ?_
        obtain ⟨q25, h_q25, hf⟩ := bd_e hf
        refine r_callS (As := [.int q18, .int (x4 ||| (q24 &&& x2))]) (rest := [.ref (G.2.2 + (hpR h r0 29))]) C hR hS mk_X10_state cl_X10_396 (k_X10_state h_q25) ⟨⟨Nat.le_of_ble_eq_true rfl, Nat.le_of_ble_eq_true rfl⟩, ⟨rfl, rfl⟩, Nat.le_of_ble_eq_true rfl, Nat.le_of_ble_eq_true rfl⟩ rfl hl.1 rfl (Nat.le_of_ble_eq_true rfl) dX10_tellsWay_87 (fun H locs hR hS hE1 z_q25 => ?_)
        obtain ⟨g26, hf⟩ := gd_e hf
        refine r_iald C hR tg20 g26 dX10_tellsWay_90 ?_
        refine lv_aload_n C.x C.b dX10_tellsWay_91 rfl (lv_at hl 1 rfl) ?_
        obtain ⟨g27, hf⟩ := gd_e hf
        refine r_getr C hR t_r0 fl_X10_63 (by decide) (nz_e g27) dX10_tellsWay_92 (fun tq28 => ?_)
        have tg27 := okA tq28 rfl
        refine lv_iload C.x C.b dX10_tellsWay_95 (lv_at hl 0 rfl) ?_
        obtain ⟨g29, hf⟩ := gd_e hf
        refine r_iald C hR tg27 g29 dX10_tellsWay_97 ?_
        refine lv_iadd C.x C.b dX10_tellsWay_98 ?_
        refine lv_aload_n C.x C.b dX10_tellsWay_99 rfl (lv_at hl 1 rfl) ?_
        refine r_getr C hR t_r0 fl_X10_60 (by decide) (nz_e g20) dX10_tellsWay_100 (fun tq30 => ?_)
        refine lv_iload_n C.x C.b dX10_tellsWay_103 rfl (lv_at hl 4 rfl) ?_
        refine lv_iload C.x C.b dX10_tellsWay_104 (lv_at hl 5 rfl) ?_
        obtain ⟨q31, h_q31, hf⟩ := bd_e hf
        refine r_callS (As := [.int x3, .int x4]) (rest := [.ref (G.2.2 + (hpR h r0 29)), .int ((hpI h (hpR h r0 29) (ix q25)) + (hpI h (hpR h r0 30) (ix q18)))]) C hR hS mk_X10_state cl_X10_396 (k_X10_state h_q31) ⟨⟨Nat.le_of_ble_eq_true rfl, Nat.le_of_ble_eq_true rfl⟩, ⟨rfl, rfl⟩, Nat.le_of_ble_eq_true rfl, Nat.le_of_ble_eq_true rfl⟩ rfl hl.1 rfl (Nat.le_of_ble_eq_true rfl) dX10_tellsWay_106 (fun H locs hR hS hE1 z_q31 => ?_)
        obtain ⟨g32, hf⟩ := gd_e hf
        refine r_iald C hR tg20 g32 dX10_tellsWay_109 ?_
        refine lv_icmp_ne (tgt := 117) C.x C.b dX10_tellsWay_110 (by decide) (fun c33 => ?_) (fun c33 => ?_)
        · have hf := it_f hf c33
          exact w_X10_tellsWay_117 C hr hlk hk26 hk46 _ _ _ _ _ _ _ _ _ hf hE hR hS t_r0 (lv_sub hl [1, 2, 3, 4, 5, 6, 7, 0] rfl)
        · have hf := it_t hf c33
          refine lv_iconst (v := (1 : Int32)) C.x C.b dX10_tellsWay_113 (by decide) ?_
          refine lv_goto (tgt := 118) C.x C.b dX10_tellsWay_114 (by decide) ?_
          exact w_X10_tellsWay_118 C hr hlk hk26 hk46 _ _ _ _ _ _ _ _ _ _ hf hE hR hS t_r0 z_1 (lv_sub hl [1, 2, 3, 4, 5, 6, 7, 0] rfl)
set_option maxRecDepth 100000 in
set_option maxHeartbeats 4000000 in
theorem w_X10_tellsWay_26 {G : Gt} {l : Launch} {p : Program} {e : Env} {s : State} {m : MethodId} {args : Array Value} {below : List Frame} {meth : Method} {c : Code} {h0 : Hp} {out : (Int32 × Hp)} {r0 : Nat} {x1 : Int32} {x2 : Int32}  (C : Cx G p m c cX10_tellsWay 9 s args RX10) (hr : meth.sig.returnType = some .int) (hlk : meth.locks = false)  (n : Nat) : P_X10_tellsWay_26 G l p e s m args below meth c h0 out r0 x1 x2 (f_X10_tellsWay_26 r0 x1 x2 n) := by
  induction n with
  | zero => intro H locs ls h x3 x4 hf hE hR hS t_r0 hl; cases hf
  | succ n hk26 =>
    intro H locs ls h x3 x4 hf hE hR hS t_r0 hl
    rw [f_X10_tellsWay_26] at hf
    obtain ⟨k26, e_k26⟩ : ∃ y, y = f_X10_tellsWay_26 r0 x1 x2 n := ⟨_, rfl⟩
    have hf := lt_e hf e_k26
    rw [← e_k26] at hk26
    refine lv_aload_n C.x C.b dX10_tellsWay_26 rfl (lv_at hl 0 rfl) ?_
    obtain ⟨g7, hf⟩ := gd_e hf
    refine r_getr C hR t_r0 fl_X10_60 (by decide) (nz_e g7) dX10_tellsWay_27 (fun tq8 => ?_)
    have tg7 := okA tq8 rfl
    refine lv_iload_n C.x C.b dX10_tellsWay_30 rfl (lv_at hl 3 rfl) ?_
    refine lv_iload C.x C.b dX10_tellsWay_31 (lv_at hl 4 rfl) ?_
    obtain ⟨q9, h_q9, hf⟩ := bd_e hf
    refine r_callS (As := [.int x3, .int x4]) (rest := [.ref (G.2.2 + (hpR h r0 29))]) C hR hS mk_X10_state cl_X10_396 (k_X10_state h_q9) ⟨⟨Nat.le_of_ble_eq_true rfl, Nat.le_of_ble_eq_true rfl⟩, ⟨rfl, rfl⟩, Nat.le_of_ble_eq_true rfl, Nat.le_of_ble_eq_true rfl⟩ rfl hl.1 rfl (Nat.le_of_ble_eq_true rfl) dX10_tellsWay_33 (fun H locs hR hS hE1 z_q9 => ?_)
    obtain ⟨g10, hf⟩ := gd_e hf
    refine r_iald C hR tg7 g10 dX10_tellsWay_36 ?_
    refine lv_if_le (tgt := 180) C.x C.b dX10_tellsWay_37 (by decide) (fun c11 => ?_) (fun c11 => ?_)
    · have hf := it_t hf c11
      refine lv_aload_n C.x C.b dX10_tellsWay_180 rfl (lv_at hl 0 rfl) ?_
      refine r_geti C hR t_r0 fl_X10_110 rfl dX10_tellsWay_181 ?_
      have hf := so_e hf
      subst hf
      exact r_iret C hr hlk hR hE hS dX10_tellsWay_184
    · have hf := it_f hf c11
      refine lv_iconst (v := (-1 : Int32)) C.x C.b dX10_tellsWay_40 (by decide) ?_
      refine lv_istore (lv' := [(5, .int (-1 : Int32)), (0, .ref (G.2.2 + r0)), (1, .int x1), (2, .int x2), (3, .int x3), (4, .int x4)]) C.x C.b dX10_tellsWay_41 hl (by decide) rfl (fun ls hl => ?_)
      refine lv_iconst (v := (0 : Int32)) C.x C.b dX10_tellsWay_43 (by decide) ?_
      refine lv_istore (lv' := [(6, .int (0 : Int32)), (5, .int (-1 : Int32)), (0, .ref (G.2.2 + r0)), (1, .int x1), (2, .int x2), (3, .int x3), (4, .int x4)]) C.x C.b dX10_tellsWay_44 hl (by decide) rfl (fun ls hl => ?_)
      exact w_X10_tellsWay_46 C hr hlk hk26 FU _ _ _ _ _ _ _ _ hf hE hR hS t_r0 (lv_sub hl [2, 3, 4, 5, 6, 1, 0] rfl)
set_option maxRecDepth 100000 in
set_option maxHeartbeats 4000000 in
theorem k_X10_tellsWay {G : Gt} {l : Launch} {h : Hp} {r0 : Nat} {x1 : Int32} {x2 : Int32} {out : (Int32 × Hp)} (t_r0 : hpT h r0 = (1, 10))  (hf : f_X10_tellsWay h r0 x1 x2 = some out) : Mt G l yX10_tellsWay cX10_tellsWay 9 (some .int) rm_X10_tellsWay [.ref (G.2.2 + r0), .int x1, .int x2] h (some (.int out.1)) out.2 0 0 0 := by
  refine r_met (by decide +kernel) (Nat.le_of_ble_eq_true rfl) ?_
  intro p e s m args below meth c ls C hr hlk hnm hR hS hl
  have hE : Ext h h := Ext.rf
  have hl : lv_has ls 9 [(0, .ref (G.2.2 + r0)), (1, .int x1), (2, .int x2)] := hl
  rw [f_X10_tellsWay] at hf
  refine lv_iload_n C.x C.b dX10_tellsWay_0 rfl (lv_at hl 1 rfl) ?_
  refine lv_istore_n (lv' := [(3, .int x1), (0, .ref (G.2.2 + r0)), (1, .int x1), (2, .int x2)]) C.x C.b dX10_tellsWay_1 rfl hl (by decide) rfl (fun ls hl => ?_)
  refine lv_aload_n C.x C.b dX10_tellsWay_2 rfl (lv_at hl 1 rfl) ?_
  refine lv_aload_n C.x C.b dX10_tellsWay_3 rfl (lv_at hl 1 rfl) ?_
  obtain ⟨g1, hf⟩ := gd_e hf
  refine r_getr C hR t_r0 fl_X10_20 (by decide) (nz_e g1) dX10_tellsWay_4 (fun tq2 => ?_)
  have tg1 := okA tq2 rfl
  refine lv_iload_n C.x C.b dX10_tellsWay_7 rfl (lv_at hl 2 rfl) ?_
  obtain ⟨q3, h_q3, hf⟩ := bd_e hf
  refine r_callV (As := [.ref (G.2.2 + (hpR h r0 6)), .int x1]) (rest := []) C hR hS t_r0 rfl mk_X10_campsOver cl_X10_294 (k_X10_campsOver t_r0 tg1 h_q3) ⟨⟨Nat.le_of_ble_eq_true rfl, Nat.le_of_ble_eq_true rfl⟩, ⟨rfl, rfl⟩, Nat.le_of_ble_eq_true rfl, Nat.le_of_ble_eq_true rfl⟩ rfl hl.1 rfl (Nat.le_of_ble_eq_true rfl) dX10_tellsWay_8 (fun H locs hR hS hE1 z_q3 => ?_)
  refine lv_iload_n C.x C.b dX10_tellsWay_11 rfl (lv_at hl 3 rfl) ?_
  refine lv_iand C.x C.b dX10_tellsWay_12 ?_
  refine lv_topi (fun v4 e_v4 => ?_)
  have hf := lt_e hf e_v4
  refine lv_istore (lv' := [(4, .int v4), (3, .int x1), (0, .ref (G.2.2 + r0)), (1, .int x1), (2, .int x2)]) C.x C.b dX10_tellsWay_13 hl (by decide) rfl (fun ls hl => ?_)
  refine lv_aload_n C.x C.b dX10_tellsWay_15 rfl (lv_at hl 2 rfl) ?_
  refine lv_iconst (v := (0 : Int32)) C.x C.b dX10_tellsWay_16 (by decide) ?_
  refine r_puti C hR hS t_r0 fl_X10_110 fp_X10_10_1 rfl dX10_tellsWay_17 (fun H locs hR hS => ?_)
  obtain ⟨h5, e_h5⟩ : ∃ y, y = upI h r0 1 (0 : Int32) := ⟨_, rfl⟩
  rw [← e_h5] at hR
  have hf := lt_e hf e_h5
  have hE := eI e_h5 hE
  have t_r0 := tI e_h5 t_r0
  refine lv_aload_n C.x C.b dX10_tellsWay_20 rfl (lv_at hl 2 rfl) ?_
  refine lv_iload_n C.x C.b dX10_tellsWay_21 rfl (lv_at hl 1 rfl) ?_
  refine lv_i2l C.x C.b dX10_tellsWay_22 rfl ?_
  obtain ⟨q6, h_q6, hf⟩ := bd_e hf
  refine r_callV (As := [.long (x1.toInt64)]) (rest := []) C hR hS t_r0 rfl mk_X10_enters cl_X10_339 (k_X10_enters t_r0 h_q6) ⟨⟨Nat.le_of_ble_eq_true rfl, Nat.le_of_ble_eq_true rfl⟩, ⟨rfl, rfl⟩, Nat.le_of_ble_eq_true rfl, Nat.le_of_ble_eq_true rfl⟩ rfl hl.1 rfl (Nat.le_of_ble_eq_true rfl) dX10_tellsWay_23 (fun H locs hR hS hE1 z_q6 => ?_)
  have hE := hE.tr hE1
  have t_r0 := hE1.at t_r0 (by decide)
  exact w_X10_tellsWay_26 C hr hlk FU _ _ _ _ _ _ hf hE hR hS t_r0 (lv_sub hl [2, 3, 4, 1, 0] rfl)

def rm_X10_meets : Room := { frames := 5, cells := 0, slots := 0, locals := 126 }
def P_X10_meets_64 (G : Gt) (l : Launch) (p : Program) (e : Env) (s : State) (m : MethodId) (args : Array Value) (below : List Frame) (meth : Method) (c : Code) (h0 : Hp) (out : (Int32 × Hp)) (r0 : Nat) (x1 : Int32) (x2 : Int32) (x3 : Int32) (k : Hp → Int32 → Option (Int32 × Hp)) : Prop := ∀ (H : Heap) (locs : List Loc) (ls : Array Slot) (h : Hp) (x4 : Int32), k h x4 = some out → Ext h0 h → Rel G h H → va_S (AA G.2.2) s.heap H locs → hpT h r0 = (1, 10) → lv_has ls 5 [(0, .ref (G.2.2 + r0)), (1, .int x1), (2, .int x2), (3, .int x3), (4, .int x4)] → W p l e rm_X10_meets s m args below meth c H locs 0 0 (MQ below (Qm G h0 out.2 (some (.int out.1)) 0) args s 0 0 (AA G.2.2)) (F0 m 64 ls [])
set_option maxRecDepth 100000 in
set_option maxHeartbeats 4000000 in
theorem w_X10_meets_64 {G : Gt} {l : Launch} {p : Program} {e : Env} {s : State} {m : MethodId} {args : Array Value} {below : List Frame} {meth : Method} {c : Code} {h0 : Hp} {out : (Int32 × Hp)} {r0 : Nat} {x1 : Int32} {x2 : Int32} {x3 : Int32}  (C : Cx G p m c cX10_meets 5 s args RX10) (hr : meth.sig.returnType = some .int) (hlk : meth.locks = false)  (n : Nat) : P_X10_meets_64 G l p e s m args below meth c h0 out r0 x1 x2 x3 (f_X10_meets_64 r0 x1 x2 x3 n) := by
  induction n with
  | zero => intro H locs ls h x4 hf hE hR hS t_r0 hl; cases hf
  | succ n hk64 =>
    intro H locs ls h x4 hf hE hR hS t_r0 hl
    rw [f_X10_meets_64] at hf
    obtain ⟨k64, e_k64⟩ : ∃ y, y = f_X10_meets_64 r0 x1 x2 x3 n := ⟨_, rfl⟩
    have hf := lt_e hf e_k64
    rw [← e_k64] at hk64
    refine lv_iload C.x C.b dX10_meets_64 (lv_at hl 4 rfl) ?_
    refine lv_aload_n C.x C.b dX10_meets_66 rfl (lv_at hl 0 rfl) ?_
    obtain ⟨q15, h_q15, hf⟩ := bd_e hf
    refine r_callV (As := []) (rest := [.int x4]) C hR hS t_r0 rfl mk_X10_cells cl_X10_113 (k_X10_cells t_r0 h_q15) ⟨⟨Nat.le_of_ble_eq_true rfl, Nat.le_of_ble_eq_true rfl⟩, ⟨rfl, rfl⟩, Nat.le_of_ble_eq_true rfl, Nat.le_of_ble_eq_true rfl⟩ rfl hl.1 rfl (Nat.le_of_ble_eq_true rfl) dX10_meets_67 (fun H locs hR hS hE1 z_q15 => ?_)
    refine lv_icmp_ge (tgt := 87) C.x C.b dX10_meets_70 (by decide) (fun c16 => ?_) (fun c16 => ?_)
    · have hf := it_t hf c16
      refine lv_aload_n C.x C.b dX10_meets_87 rfl (lv_at hl 0 rfl) ?_
      refine lv_iload_n C.x C.b dX10_meets_88 rfl (lv_at hl 2 rfl) ?_
      refine lv_iload_n C.x C.b dX10_meets_89 rfl (lv_at hl 3 rfl) ?_
      obtain ⟨q17, h_q17, hf⟩ := bd_e hf
      refine r_callV (As := [.int x2, .int x3]) (rest := []) C hR hS t_r0 rfl mk_X10_laysYet cl_X10_402 (k_X10_laysYet t_r0 h_q17) ⟨⟨Nat.le_of_ble_eq_true rfl, Nat.le_of_ble_eq_true rfl⟩, ⟨rfl, rfl⟩, Nat.le_of_ble_eq_true rfl, Nat.le_of_ble_eq_true rfl⟩ rfl hl.1 rfl (Nat.le_of_ble_eq_true rfl) dX10_meets_90 (fun H locs hR hS hE1 z_q17 => ?_)
      have hE := hE.tr hE1
      have t_r0 := hE1.at t_r0 (by decide)
      refine lv_aload_n C.x C.b dX10_meets_93 rfl (lv_at hl 0 rfl) ?_
      refine lv_iload_n C.x C.b dX10_meets_94 rfl (lv_at hl 1 rfl) ?_
      refine lv_iload_n C.x C.b dX10_meets_95 rfl (lv_at hl 3 rfl) ?_
      obtain ⟨q18, h_q18, hf⟩ := bd_e hf
      refine r_callV (As := [.int x1, .int x3]) (rest := []) C hR hS t_r0 rfl mk_X10_tellsWay cl_X10_406 (k_X10_tellsWay t_r0 h_q18) ⟨⟨Nat.le_of_ble_eq_true rfl, Nat.le_of_ble_eq_true rfl⟩, ⟨rfl, rfl⟩, Nat.le_of_ble_eq_true rfl, Nat.le_of_ble_eq_true rfl⟩ rfl hl.1 rfl (Nat.le_of_ble_eq_true rfl) dX10_meets_96 (fun H locs hR hS hE1 z_q18 => ?_)
      have hE := hE.tr hE1
      have t_r0 := hE1.at t_r0 (by decide)
      refine lv_iconst (v := (1 : Int32)) C.x C.b dX10_meets_99 (by decide) ?_
      refine lv_isub C.x C.b dX10_meets_100 ?_
      have hf := so_e hf
      subst hf
      exact r_iret C hr hlk hR hE hS dX10_meets_101
    · have hf := it_f hf c16
      refine lv_aload_n C.x C.b dX10_meets_73 rfl (lv_at hl 0 rfl) ?_
      obtain ⟨g19, hf⟩ := gd_e hf
      refine r_getr C hR t_r0 fl_X10_63 (by decide) (nz_e g19) dX10_meets_74 (fun tq20 => ?_)
      have tg19 := okA tq20 rfl
      refine lv_iload C.x C.b dX10_meets_77 (lv_at hl 4 rfl) ?_
      refine lv_iconst (v := (1 : Int32)) C.x C.b dX10_meets_79 (by decide) ?_
      obtain ⟨g21, hf⟩ := gd_e hf
      refine r_iast C hR hS tg19 g21 dX10_meets_80 (fun H locs hR hS => ?_)
      obtain ⟨h22, e_h22⟩ : ∃ y, y = upI h (hpR h r0 30) (ix x4) (1 : Int32) := ⟨_, rfl⟩
      rw [← e_h22] at hR
      have hf := lt_e hf e_h22
      have hE := eI e_h22 hE
      have t_r0 := tI e_h22 t_r0
      obtain ⟨v23, e_v23⟩ : ∃ y : Int32, y = x4 + (1 : Int32) := ⟨_, rfl⟩
      have hf := lt_e hf e_v23
      refine lv_iinc (v := v23) (lv' := [(4, .int v23), (0, .ref (G.2.2 + r0)), (1, .int x1), (2, .int x2), (3, .int x3)]) C.x C.b dX10_meets_81 hl (k := 4) rfl (by rw [e_v23]; rfl) (by decide) rfl (fun ls hl => ?_)
      refine lv_goto (tgt := 64) C.x C.b dX10_meets_84 (by decide) ?_
      exact hk64 _ _ _ _ _ hf hE hR hS t_r0 (lv_sub hl [1, 2, 3, 4, 0] rfl)
set_option maxRecDepth 100000 in
set_option maxHeartbeats 4000000 in
theorem k_X10_meets {G : Gt} {l : Launch} {h : Hp} {r0 : Nat} {x1 : Int32} {x2 : Int32} {x3 : Int32} {out : (Int32 × Hp)} (t_r0 : hpT h r0 = (1, 10))  (hf : f_X10_meets h r0 x1 x2 x3 = some out) : Mt G l yX10_meets cX10_meets 5 (some .int) rm_X10_meets [.ref (G.2.2 + r0), .int x1, .int x2, .int x3] h (some (.int out.1)) out.2 0 0 0 := by
  refine r_met (by decide +kernel) (Nat.le_of_ble_eq_true rfl) ?_
  intro p e s m args below meth c ls C hr hlk hnm hR hS hl
  have hE : Ext h h := Ext.rf
  have hl : lv_has ls 5 [(0, .ref (G.2.2 + r0)), (1, .int x1), (2, .int x2), (3, .int x3)] := hl
  rw [f_X10_meets] at hf
  refine lv_aload_n C.x C.b dX10_meets_0 rfl (lv_at hl 0 rfl) ?_
  refine lv_iconst (v := (0 : Int32)) C.x C.b dX10_meets_1 (by decide) ?_
  refine r_puti C hR hS t_r0 fl_X10_103 fp_X10_10_0 rfl dX10_meets_2 (fun H locs hR hS => ?_)
  obtain ⟨h1, e_h1⟩ : ∃ y, y = upI h r0 0 (0 : Int32) := ⟨_, rfl⟩
  rw [← e_h1] at hR
  have hf := lt_e hf e_h1
  have hE := eI e_h1 hE
  have t_r0 := tI e_h1 t_r0
  refine lv_aload_n C.x C.b dX10_meets_5 rfl (lv_at hl 0 rfl) ?_
  refine lv_iload_n C.x C.b dX10_meets_6 rfl (lv_at hl 1 rfl) ?_
  obtain ⟨q2, h_q2, hf⟩ := bd_e hf
  refine r_callV (As := [.int x1]) (rest := []) C hR hS t_r0 rfl mk_X10_isCell cl_X10_289 (k_X10_isCell t_r0 h_q2) ⟨⟨Nat.le_of_ble_eq_true rfl, Nat.le_of_ble_eq_true rfl⟩, ⟨rfl, rfl⟩, Nat.le_of_ble_eq_true rfl, Nat.le_of_ble_eq_true rfl⟩ rfl hl.1 rfl (Nat.le_of_ble_eq_true rfl) dX10_meets_7 (fun H locs hR hS hE1 z_q2 => ?_)
  have z_q2 := z_q2 _ rfl
  refine lv_if_eq (tgt := 42) C.x C.b dX10_meets_10 (by decide) (fun c3 => ?_) (fun c3 => ?_)
  · have hf := it_t hf c3
    refine lv_iconst (v := (-1 : Int32)) C.x C.b dX10_meets_42 (by decide) ?_
    have hf := so_e hf
    subst hf
    exact r_iret C hr hlk hR hE hS dX10_meets_43
  · have hf := it_f hf c3
    refine lv_aload_n C.x C.b dX10_meets_13 rfl (lv_at hl 0 rfl) ?_
    refine lv_iload_n C.x C.b dX10_meets_14 rfl (lv_at hl 2 rfl) ?_
    obtain ⟨q4, h_q4, hf⟩ := bd_e hf
    refine r_callV (As := [.int x2]) (rest := []) C hR hS t_r0 rfl mk_X10_isCell cl_X10_289 (k_X10_isCell t_r0 h_q4) ⟨⟨Nat.le_of_ble_eq_true rfl, Nat.le_of_ble_eq_true rfl⟩, ⟨rfl, rfl⟩, Nat.le_of_ble_eq_true rfl, Nat.le_of_ble_eq_true rfl⟩ rfl hl.1 rfl (Nat.le_of_ble_eq_true rfl) dX10_meets_15 (fun H locs hR hS hE1 z_q4 => ?_)
    have z_q4 := z_q4 _ rfl
    refine lv_if_eq (tgt := 42) C.x C.b dX10_meets_18 (by decide) (fun c5 => ?_) (fun c5 => ?_)
    · have hf := it_t hf c5
      refine lv_iconst (v := (-1 : Int32)) C.x C.b dX10_meets_42 (by decide) ?_
      have hf := so_e hf
      subst hf
      exact r_iret C hr hlk hR hE hS dX10_meets_43
    · have hf := it_f hf c5
      refine lv_iload_n C.x C.b dX10_meets_21 rfl (lv_at hl 3 rfl) ?_
      refine lv_i2l C.x C.b dX10_meets_22 rfl ?_
      refine lv_lconst (v := (0 : Int64)) C.x C.b dX10_meets_23 (by decide) ?_
      refine lv_iconst (v := (1 : Int32)) C.x C.b dX10_meets_24 (by decide) ?_
      refine lv_aload_n C.x C.b dX10_meets_25 rfl (lv_at hl 0 rfl) ?_
      obtain ⟨g6, hf⟩ := gd_e hf
      refine r_getr C hR t_r0 fl_X10_20 (by decide) (nz_e g6) dX10_meets_26 (fun tq7 => ?_)
      have tg6 := okA tq7 rfl
      refine lv_bipush (v := (48 : Int32)) C.x C.b dX10_meets_29 (by decide) ?_
      obtain ⟨g8, hf⟩ := gd_e hf
      refine r_iald C hR tg6 g8 dX10_meets_31 ?_
      refine lv_ishl C.x C.b dX10_meets_32 ?_
      refine lv_topi (fun v9 e_v9 => ?_)
      have hf := lt_e hf e_v9
      refine lv_iconst (v := (1 : Int32)) C.x C.b dX10_meets_33 (by decide) ?_
      refine lv_isub C.x C.b dX10_meets_34 ?_
      refine lv_i2l C.x C.b dX10_meets_35 rfl ?_
      obtain ⟨q10, h_q10, hf⟩ := bd_e hf
      refine r_callS (As := [.long (x3.toInt64), .long (0 : Int64), .long ((v9 - (1 : Int32)).toInt64)]) (rest := []) C hR hS mk_X10_in cl_X10_117 (k_X10_in h_q10) ⟨⟨Nat.le_of_ble_eq_true rfl, Nat.le_of_ble_eq_true rfl⟩, ⟨rfl, rfl⟩, Nat.le_of_ble_eq_true rfl, Nat.le_of_ble_eq_true rfl⟩ rfl hl.1 rfl (Nat.le_of_ble_eq_true rfl) dX10_meets_36 (fun H locs hR hS hE1 z_q10 => ?_)
      have z_q10 := z_q10 _ rfl
      refine lv_if_ne (tgt := 44) C.x C.b dX10_meets_39 (by decide) (fun c11 => ?_) (fun c11 => ?_)
      · have hf := it_f hf c11
        refine lv_iload_n C.x C.b dX10_meets_44 rfl (lv_at hl 3 rfl) ?_
        refine lv_aload_n C.x C.b dX10_meets_45 rfl (lv_at hl 0 rfl) ?_
        refine r_getr C hR t_r0 fl_X10_20 (by decide) (nz_e g6) dX10_meets_46 (fun tq12 => ?_)
        obtain ⟨q13, h_q13, hf⟩ := bd_e hf
        refine r_callS (As := [.ref (G.2.2 + (hpR h1 r0 6))]) (rest := [.int x3]) C hR hS mk_X10_on cl_X10_311 (k_X10_on tg6 h_q13) ⟨⟨Nat.le_of_ble_eq_true rfl, Nat.le_of_ble_eq_true rfl⟩, ⟨rfl, rfl⟩, Nat.le_of_ble_eq_true rfl, Nat.le_of_ble_eq_true rfl⟩ rfl hl.1 rfl (Nat.le_of_ble_eq_true rfl) dX10_meets_49 (fun H locs hR hS hE1 z_q13 => ?_)
        refine lv_iconst (v := (-1 : Int32)) C.x C.b dX10_meets_52 (by decide) ?_
        refine lv_ixor C.x C.b dX10_meets_53 ?_
        refine lv_iand C.x C.b dX10_meets_54 ?_
        refine lv_if_eq (tgt := 61) C.x C.b dX10_meets_55 (by decide) (fun c14 => ?_) (fun c14 => ?_)
        · have hf := it_t hf c14
          refine lv_iconst (v := (0 : Int32)) C.x C.b dX10_meets_61 (by decide) ?_
          refine lv_istore (lv' := [(4, .int (0 : Int32)), (0, .ref (G.2.2 + r0)), (1, .int x1), (2, .int x2), (3, .int x3)]) C.x C.b dX10_meets_62 hl (by decide) rfl (fun ls hl => ?_)
          exact w_X10_meets_64 C hr hlk FU _ _ _ _ _ hf hE hR hS t_r0 (lv_sub hl [1, 2, 3, 4, 0] rfl)
        · have hf := it_f hf c14
          refine lv_bipush (v := (-2 : Int32)) C.x C.b dX10_meets_58 (by decide) ?_
          have hf := so_e hf
          subst hf
          exact r_iret C hr hlk hR hE hS dX10_meets_60
      · have hf := it_t hf c11
        refine lv_iconst (v := (-1 : Int32)) C.x C.b dX10_meets_42 (by decide) ?_
        have hf := so_e hf
        subst hf
        exact r_iret C hr hlk hR hE hS dX10_meets_43

