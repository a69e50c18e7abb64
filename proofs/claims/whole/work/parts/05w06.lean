def rm_X8_shortest : Room := { frames := 5, cells := 0, slots := 0, locals := 109 }
def P_X8_shortest_181 (G : Gt) (l : Launch) (p : Program) (e : Env) (s : State) (m : MethodId) (args : Array Value) (below : List Frame) (meth : Method) (c : Code) (h0 : Hp) (out : (Int32 × Hp)) (r0 : Nat) (r1 : Nat) (x2 : Int32) (x3 : Int32) (x4 : Int32) (y5 : Int64) (r7 : Nat) (k : Hp → Int32 → Int32 → Int32 → Int32 → Int32 → Option (Int32 × Hp)) : Prop := ∀ (H : Heap) (locs : List Loc) (ls : Array Slot) (h : Hp) (x8 : Int32) (x9 : Int32) (x11 : Int32) (x12 : Int32) (x13 : Int32), k h x8 x9 x11 x12 x13 = some out → Ext h0 h → Rel G h H → va_S (AA G.2.2) s.heap H locs → hpT h r0 = (1, 8) → hpT h r1 = (1, 0) → hpT h r7 = (1, 7) → lv_has ls 15 [(0, .ref (G.2.2 + r0)), (1, .ref (G.2.2 + r1)), (2, .int x2), (3, .int x3), (4, .int x4), (5, .long y5), (7, .ref (G.2.2 + r7)), (8, .int x8), (9, .int x9), (11, .int x11), (12, .int x12), (13, .int x13)] → W p l e rm_X8_shortest s m args below meth c H locs 0 0 (MQ below (Qm G h0 out.2 (some (.int out.1)) 0) args s 0 0 (AA G.2.2)) (F0 m 181 ls [])
def P_X8_shortest_133 (G : Gt) (l : Launch) (p : Program) (e : Env) (s : State) (m : MethodId) (args : Array Value) (below : List Frame) (meth : Method) (c : Code) (h0 : Hp) (out : (Int32 × Hp)) (r0 : Nat) (r1 : Nat) (x2 : Int32) (x3 : Int32) (x4 : Int32) (y5 : Int64) (r7 : Nat) (k : Hp → Int32 → Int32 → Int32 → Int32 → Int32 → Option (Int32 × Hp)) : Prop := ∀ (H : Heap) (locs : List Loc) (ls : Array Slot) (h : Hp) (x8 : Int32) (x9 : Int32) (x11 : Int32) (x12 : Int32) (x13 : Int32), k h x8 x9 x11 x12 x13 = some out → Ext h0 h → Rel G h H → va_S (AA G.2.2) s.heap H locs → hpT h r0 = (1, 8) → hpT h r1 = (1, 0) → hpT h r7 = (1, 7) → lv_has ls 15 [(0, .ref (G.2.2 + r0)), (1, .ref (G.2.2 + r1)), (2, .int x2), (3, .int x3), (4, .int x4), (5, .long y5), (7, .ref (G.2.2 + r7)), (8, .int x8), (9, .int x9), (11, .int x11), (12, .int x12), (13, .int x13)] → W p l e rm_X8_shortest s m args below meth c H locs 0 0 (MQ below (Qm G h0 out.2 (some (.int out.1)) 0) args s 0 0 (AA G.2.2)) (F0 m 133 ls [])
def P_X8_shortest_130 (G : Gt) (l : Launch) (p : Program) (e : Env) (s : State) (m : MethodId) (args : Array Value) (below : List Frame) (meth : Method) (c : Code) (h0 : Hp) (out : (Int32 × Hp)) (r0 : Nat) (r1 : Nat) (x2 : Int32) (x3 : Int32) (x4 : Int32) (y5 : Int64) (r7 : Nat) (k : Hp → Int32 → Int32 → Int32 → Int32 → Option (Int32 × Hp)) : Prop := ∀ (H : Heap) (locs : List Loc) (ls : Array Slot) (h : Hp) (x8 : Int32) (x9 : Int32) (x11 : Int32) (x12 : Int32), k h x8 x9 x11 x12 = some out → Ext h0 h → Rel G h H → va_S (AA G.2.2) s.heap H locs → hpT h r0 = (1, 8) → hpT h r1 = (1, 0) → hpT h r7 = (1, 7) → lv_has ls 15 [(0, .ref (G.2.2 + r0)), (1, .ref (G.2.2 + r1)), (2, .int x2), (3, .int x3), (4, .int x4), (5, .long y5), (7, .ref (G.2.2 + r7)), (8, .int x8), (9, .int x9), (11, .int x11), (12, .int x12)] → W p l e rm_X8_shortest s m args below meth c H locs 0 0 (MQ below (Qm G h0 out.2 (some (.int out.1)) 0) args s 0 0 (AA G.2.2)) (F0 m 130 ls [])
def P_X8_shortest_62 (G : Gt) (l : Launch) (p : Program) (e : Env) (s : State) (m : MethodId) (args : Array Value) (below : List Frame) (meth : Method) (c : Code) (h0 : Hp) (out : (Int32 × Hp)) (r0 : Nat) (r1 : Nat) (x2 : Int32) (x3 : Int32) (x4 : Int32) (y5 : Int64) (r7 : Nat) (k : Hp → Int32 → Int32 → Option (Int32 × Hp)) : Prop := ∀ (H : Heap) (locs : List Loc) (ls : Array Slot) (h : Hp) (x8 : Int32) (x9 : Int32), k h x8 x9 = some out → Ext h0 h → Rel G h H → va_S (AA G.2.2) s.heap H locs → hpT h r0 = (1, 8) → hpT h r1 = (1, 0) → hpT h r7 = (1, 7) → lv_has ls 15 [(0, .ref (G.2.2 + r0)), (1, .ref (G.2.2 + r1)), (2, .int x2), (3, .int x3), (4, .int x4), (5, .long y5), (7, .ref (G.2.2 + r7)), (8, .int x8), (9, .int x9)] → W p l e rm_X8_shortest s m args below meth c H locs 0 0 (MQ below (Qm G h0 out.2 (some (.int out.1)) 0) args s 0 0 (AA G.2.2)) (F0 m 62 ls [])
def P_X8_shortest_49 (G : Gt) (l : Launch) (p : Program) (e : Env) (s : State) (m : MethodId) (args : Array Value) (below : List Frame) (meth : Method) (c : Code) (h0 : Hp) (out : (Int32 × Hp)) (r0 : Nat) (r1 : Nat) (x2 : Int32) (x3 : Int32) (x4 : Int32) (y5 : Int64) (r7 : Nat) (k : Hp → Option (Int32 × Hp)) : Prop := ∀ (H : Heap) (locs : List Loc) (ls : Array Slot) (h : Hp), k h = some out → Ext h0 h → Rel G h H → va_S (AA G.2.2) s.heap H locs → hpT h r0 = (1, 8) → hpT h r1 = (1, 0) → hpT h r7 = (1, 7) → lv_has ls 15 [(0, .ref (G.2.2 + r0)), (1, .ref (G.2.2 + r1)), (2, .int x2), (3, .int x3), (4, .int x4), (5, .long y5), (7, .ref (G.2.2 + r7))] → W p l e rm_X8_shortest s m args below meth c H locs 0 0 (MQ below (Qm G h0 out.2 (some (.int out.1)) 0) args s 0 0 (AA G.2.2)) (F0 m 49 ls [])
def P_X8_shortest_11 (G : Gt) (l : Launch) (p : Program) (e : Env) (s : State) (m : MethodId) (args : Array Value) (below : List Frame) (meth : Method) (c : Code) (h0 : Hp) (out : (Int32 × Hp)) (r0 : Nat) (r1 : Nat) (x2 : Int32) (x3 : Int32) (x4 : Int32) (y5 : Int64) (r7 : Nat) (k : Hp → Int32 → Option (Int32 × Hp)) : Prop := ∀ (H : Heap) (locs : List Loc) (ls : Array Slot) (h : Hp) (x8 : Int32), k h x8 = some out → Ext h0 h → Rel G h H → va_S (AA G.2.2) s.heap H locs → hpT h r0 = (1, 8) → hpT h r1 = (1, 0) → hpT h r7 = (1, 7) → lv_has ls 15 [(0, .ref (G.2.2 + r0)), (1, .ref (G.2.2 + r1)), (2, .int x2), (3, .int x3), (4, .int x4), (5, .long y5), (7, .ref (G.2.2 + r7)), (8, .int x8)] → W p l e rm_X8_shortest s m args below meth c H locs 0 0 (MQ below (Qm G h0 out.2 (some (.int out.1)) 0) args s 0 0 (AA G.2.2)) (F0 m 11 ls [])
set_option maxRecDepth 100000 in
set_option maxHeartbeats 4000000 in
theorem w_X8_shortest_181 {G : Gt} {l : Launch} {p : Program} {e : Env} {s : State} {m : MethodId} {args : Array Value} {below : List Frame} {meth : Method} {c : Code}  {h0 : Hp} {out : (Int32 × Hp)} {r0 : Nat} {r1 : Nat} {x2 : Int32} {x3 : Int32} {x4 : Int32} {y5 : Int64} {r7 : Nat} {k62 : Hp → Int32 → Int32 → Option (Int32 × Hp)} {k133 : Hp → Int32 → Int32 → Int32 → Int32 → Int32 → Option (Int32 × Hp)} (C : Cx G p m c cX8_shortest 15 s args RX8) (hr : meth.sig.returnType = some .int) (hlk : meth.locks = false)  (hk62 : P_X8_shortest_62 G l p e s m args below meth c h0 out r0 r1 x2 x3 x4 y5 r7 k62) (hk133 : P_X8_shortest_133 G l p e s m args below meth c h0 out r0 r1 x2 x3 x4 y5 r7 k133) : P_X8_shortest_181 G l p e s m args below meth c h0 out r0 r1 x2 x3 x4 y5 r7 (f_X8_shortest_181 r0 r1 x2 x3 x4 y5 r7 k62 k133) := by
  intro H locs ls h x8 x9 x11 x12 x13 hf hE hR hS t_r0 t_r1 t_r7 hl
  rw [f_X8_shortest_181] at hf
  obtain ⟨v33, e_v33⟩ : ∃ y : Int32, y = x13 + (1 : Int32) := ⟨_, rfl⟩
  have hf := lt_e hf e_v33
  refine lv_iinc (v := v33) (lv' := [(13, .int v33), (0, .ref (G.2.2 + r0)), (1, .ref (G.2.2 + r1)), (2, .int x2), (3, .int x3), (4, .int x4), (5, .long y5), (7, .ref (G.2.2 + r7)), (8, .int x8), (9, .int x9), (11, .int x11), (12, .int x12)]) C.x C.b dX8_shortest_181 hl (k := 11) rfl (by rw [e_v33]; rfl) (by decide) rfl (fun ls hl => ?_)
  refine lv_goto (tgt := 133) C.x C.b dX8_shortest_184 (by decide) ?_
  exact hk133 _ _ _ _ _ _ _ _ _ hf hE hR hS t_r0 t_r1 t_r7 (lv_sub hl [1, 2, 3, 4, 5, 6, 7, 8, 9, 10, 11, 0] rfl)
set_option maxRecDepth 100000 in
set_option maxHeartbeats 4000000 in
theorem w_X8_shortest_133 {G : Gt} {l : Launch} {p : Program} {e : Env} {s : State} {m : MethodId} {args : Array Value} {below : List Frame} {meth : Method} {c : Code}  {h0 : Hp} {out : (Int32 × Hp)} {r0 : Nat} {r1 : Nat} {x2 : Int32} {x3 : Int32} {x4 : Int32} {y5 : Int64} {r7 : Nat} {k62 : Hp → Int32 → Int32 → Option (Int32 × Hp)} (C : Cx G p m c cX8_shortest 15 s args RX8) (hr : meth.sig.returnType = some .int) (hlk : meth.locks = false)  (hk62 : P_X8_shortest_62 G l p e s m args below meth c h0 out r0 r1 x2 x3 x4 y5 r7 k62) (n : Nat) : P_X8_shortest_133 G l p e s m args below meth c h0 out r0 r1 x2 x3 x4 y5 r7 (f_X8_shortest_133 r0 r1 x2 x3 x4 y5 r7 k62 n) := by
  induction n with
  | zero => intro H locs ls h x8 x9 x11 x12 x13 hf hE hR hS t_r0 t_r1 t_r7 hl; cases hf
  | succ n hk133 =>
    intro H locs ls h x8 x9 x11 x12 x13 hf hE hR hS t_r0 t_r1 t_r7 hl
    rw [f_X8_shortest_133] at hf
    obtain ⟨k133, e_k133⟩ : ∃ y, y = f_X8_shortest_133 r0 r1 x2 x3 x4 y5 r7 k62 n := ⟨_, rfl⟩
    have hf := lt_e hf e_k133
    rw [← e_k133] at hk133
    refine lv_iload C.x C.b dX8_shortest_133 (lv_at hl 11 rfl) ?_
    refine lv_iconst (v := (4 : Int32)) C.x C.b dX8_shortest_135 (by decide) ?_
    refine lv_icmp_ge (tgt := 187) C.x C.b dX8_shortest_136 (by decide) (fun c26 => ?_) (fun c26 => ?_)
    · have hf := it_t hf c26
      obtain ⟨v27, e_v27⟩ : ∃ y : Int32, y = x9 + (1 : Int32) := ⟨_, rfl⟩
      have hf := lt_e hf e_v27
      refine lv_iinc (v := v27) (lv' := [(9, .int v27), (0, .ref (G.2.2 + r0)), (1, .ref (G.2.2 + r1)), (2, .int x2), (3, .int x3), (4, .int x4), (5, .long y5), (7, .ref (G.2.2 + r7)), (8, .int x8), (11, .int x11), (12, .int x12), (13, .int x13)]) C.x C.b dX8_shortest_187 hl (k := 8) rfl (by rw [e_v27]; rfl) (by decide) rfl (fun ls hl => ?_)
      refine lv_goto (tgt := 62) C.x C.b dX8_shortest_190 (by decide) ?_
      exact hk62 _ _ _ _ _ _ hf hE hR hS t_r0 t_r1 t_r7 (lv_sub hl [1, 2, 3, 4, 5, 6, 7, 8, 0] rfl)
    · have hf := it_f hf c26
      refine lv_aload_n C.x C.b dX8_shortest_139 rfl (lv_at hl 1 rfl) ?_
      refine lv_iload C.x C.b dX8_shortest_140 (lv_at hl 9 rfl) ?_
      refine lv_iload C.x C.b dX8_shortest_142 (lv_at hl 11 rfl) ?_
      obtain ⟨q28, h_q28, hf⟩ := bd_e hf
      refine r_callV (As := [.int x11, .int x13]) (rest := []) C hR hS t_r1 rfl mk_X0_beside cl_X8_52 (k_X0_beside t_r1 h_q28) ⟨⟨Nat.le_of_ble_eq_true rfl, Nat.le_of_ble_eq_true rfl⟩, ⟨rfl, rfl⟩, Nat.le_of_ble_eq_true rfl, Nat.le_of_ble_eq_true rfl⟩ rfl hl.1 rfl (Nat.le_of_ble_eq_true rfl) dX8_shortest_144 (fun H locs hR hS hE1 z_q28 => ?_)
      refine lv_istore (lv' := [(14, .int q28), (0, .ref (G.2.2 + r0)), (1, .ref (G.2.2 + r1)), (2, .int x2), (3, .int x3), (4, .int x4), (5, .long y5), (7, .ref (G.2.2 + r7)), (8, .int x8), (9, .int x9), (11, .int x11), (12, .int x12), (13, .int x13)]) C.x C.b dX8_shortest_147 hl (by decide) rfl (fun ls hl => ?_)
      refine lv_iload C.x C.b dX8_shortest_149 (lv_at hl 0 rfl) ?_
      refine lv_iconst (v := (-1 : Int32)) C.x C.b dX8_shortest_151 (by decide) ?_
      refine lv_icmp_eq (tgt := 181) C.x C.b dX8_shortest_152 (by decide) (fun c29 => ?_) (fun c29 => ?_)
      · have hf := it_t hf c29
        exact w_X8_shortest_181 C hr hlk hk62 hk133 _ _ _ _ _ _ _ _ _ hf hE hR hS t_r0 t_r1 t_r7 (lv_sub hl [1, 2, 3, 4, 5, 6, 7, 8, 9, 10, 11, 12] rfl)
      · have hf := it_f hf c29
        refine lv_lload C.x C.b dX8_shortest_155 (lv_at hl 6 rfl) ?_
        refine lv_iload C.x C.b dX8_shortest_157 (lv_at hl 0 rfl) ?_
        refine lv_lshr C.x C.b dX8_shortest_159 rfl ?_
        refine lv_topl (fun v30 e_v30 => ?_)
        have hf := lt_e hf e_v30
        refine lv_lconst (v := (1 : Int64)) C.x C.b dX8_shortest_160 (by decide) ?_
        refine lv_land C.x C.b dX8_shortest_161 ?_
        refine lv_lconst (v := (0 : Int64)) C.x C.b dX8_shortest_162 (by decide) ?_
        refine W.lcmp C.x C.b dX8_shortest_163 ?_
        refine lv_if_eq (tgt := 181) C.x C.b dX8_shortest_164 (by decide) (fun c31 => ?_) (fun c31 => ?_)
        · have hf := it_t hf c31
          exact w_X8_shortest_181 C hr hlk hk62 hk133 _ _ _ _ _ _ _ _ _ hf hE hR hS t_r0 t_r1 t_r7 (lv_sub hl [1, 2, 3, 4, 5, 6, 7, 8, 9, 10, 11, 12] rfl)
        · have hf := it_f hf c31
          refine lv_aload_n C.x C.b dX8_shortest_167 rfl (lv_at hl 1 rfl) ?_
          refine lv_iload C.x C.b dX8_shortest_168 (lv_at hl 0 rfl) ?_
          refine lv_iload C.x C.b dX8_shortest_170 (lv_at hl 11 rfl) ?_
          refine lv_iload C.x C.b dX8_shortest_172 (lv_at hl 9 rfl) ?_
          refine lv_iload C.x C.b dX8_shortest_174 (lv_at hl 8 rfl) ?_
          obtain ⟨q32, h_q32, hf⟩ := bd_e hf
          refine r_callV (As := [.int q28, .int x12, .int x9, .int x8]) (rest := []) C hR hS t_r0 rfl mk_X8_reach cl_X8_44 (k_X8_reach t_r0 h_q32) ⟨⟨Nat.le_of_ble_eq_true rfl, Nat.le_of_ble_eq_true rfl⟩, ⟨rfl, rfl⟩, Nat.le_of_ble_eq_true rfl, Nat.le_of_ble_eq_true rfl⟩ rfl hl.1 rfl (Nat.le_of_ble_eq_true rfl) dX8_shortest_176 (fun H locs hR hS hE1 z_q32 => ?_)
          have hE := hE.tr hE1
          have t_r0 := hE1.at t_r0 (by decide)
          have t_r1 := hE1.at t_r1 (by decide)
          have t_r7 := hE1.at t_r7 (by decide)
          refine lv_istore (lv' := [(8, .int q32.1), (14, .int q28), (0, .ref (G.2.2 + r0)), (1, .ref (G.2.2 + r1)), (2, .int x2), (3, .int x3), (4, .int x4), (5, .long y5), (7, .ref (G.2.2 + r7)), (9, .int x9), (11, .int x11), (12, .int x12), (13, .int x13)]) C.x C.b dX8_shortest_179 hl (by decide) rfl (fun ls hl => ?_)
          exact w_X8_shortest_181 C hr hlk hk62 hk133 _ _ _ _ _ _ _ _ _ hf hE hR hS t_r0 t_r1 t_r7 (lv_sub hl [2, 3, 4, 5, 6, 7, 8, 0, 9, 10, 11, 12] rfl)
set_option maxRecDepth 100000 in
set_option maxHeartbeats 4000000 in
theorem w_X8_shortest_130 {G : Gt} {l : Launch} {p : Program} {e : Env} {s : State} {m : MethodId} {args : Array Value} {below : List Frame} {meth : Method} {c : Code}  {h0 : Hp} {out : (Int32 × Hp)} {r0 : Nat} {r1 : Nat} {x2 : Int32} {x3 : Int32} {x4 : Int32} {y5 : Int64} {r7 : Nat} {k62 : Hp → Int32 → Int32 → Option (Int32 × Hp)} (C : Cx G p m c cX8_shortest 15 s args RX8) (hr : meth.sig.returnType = some .int) (hlk : meth.locks = false)  (hk62 : P_X8_shortest_62 G l p e s m args below meth c h0 out r0 r1 x2 x3 x4 y5 r7 k62) : P_X8_shortest_130 G l p e s m args below meth c h0 out r0 r1 x2 x3 x4 y5 r7 (f_X8_shortest_130 r0 r1 x2 x3 x4 y5 r7 k62) := by
  intro H locs ls h x8 x9 x11 x12 hf hE hR hS t_r0 t_r1 t_r7 hl
  rw [f_X8_shortest_130] at hf
  refine lv_iconst (v := (0 : Int32)) C.x C.b dX8_shortest_130 (by decide) ?_
  refine lv_istore (lv' := [(13, .int (0 : Int32)), (0, .ref (G.2.2 + r0)), (1, .ref (G.2.2 + r1)), (2, .int x2), (3, .int x3), (4, .int x4), (5, .long y5), (7, .ref (G.2.2 + r7)), (8, .int x8), (9, .int x9), (11, .int x11), (12, .int x12)]) C.x C.b dX8_shortest_131 hl (by decide) rfl (fun ls hl => ?_)
  exact w_X8_shortest_133 C hr hlk hk62 FU _ _ _ _ _ _ _ _ _ hf hE hR hS t_r0 t_r1 t_r7 (lv_sub hl [1, 2, 3, 4, 5, 6, 7, 8, 9, 10, 11, 0] rfl)
set_option maxRecDepth 100000 in
set_option maxHeartbeats 4000000 in
theorem w_X8_shortest_62 {G : Gt} {l : Launch} {p : Program} {e : Env} {s : State} {m : MethodId} {args : Array Value} {below : List Frame} {meth : Method} {c : Code}  {h0 : Hp} {out : (Int32 × Hp)} {r0 : Nat} {r1 : Nat} {x2 : Int32} {x3 : Int32} {x4 : Int32} {y5 : Int64} {r7 : Nat}  (C : Cx G p m c cX8_shortest 15 s args RX8) (hr : meth.sig.returnType = some .int) (hlk : meth.locks = false)   (n : Nat) : P_X8_shortest_62 G l p e s m args below meth c h0 out r0 r1 x2 x3 x4 y5 r7 (f_X8_shortest_62 r0 r1 x2 x3 x4 y5 r7 n) := by
  induction n with
  | zero => intro H locs ls h x8 x9 hf hE hR hS t_r0 t_r1 t_r7 hl; cases hf
  | succ n hk62 =>
    intro H locs ls h x8 x9 hf hE hR hS t_r0 t_r1 t_r7 hl
    rw [f_X8_shortest_62] at hf
    obtain ⟨k62, e_k62⟩ : ∃ y, y = f_X8_shortest_62 r0 r1 x2 x3 x4 y5 r7 n := ⟨_, rfl⟩
    have hf := lt_e hf e_k62
    rw [← e_k62] at hk62
    refine lv_iload C.x C.b dX8_shortest_62 (lv_at hl 8 rfl) ?_
    refine lv_iload C.x C.b dX8_shortest_64 (lv_at hl 7 rfl) ?_
    refine lv_icmp_ge (tgt := 193) C.x C.b dX8_shortest_66 (by decide) (fun c14 => ?_) (fun c14 => ?_)
    · have hf := it_t hf c14
      refine lv_bipush (v := (-2 : Int32)) C.x C.b dX8_shortest_193 (by decide) ?_
      have hf := so_e hf
      subst hf
      exact r_iret C hr hlk hR hE hS dX8_shortest_195
    · have hf := it_f hf c14
      refine lv_iload C.x C.b dX8_shortest_69 (lv_at hl 8 rfl) ?_
      refine lv_aload_n C.x C.b dX8_shortest_71 rfl (lv_at hl 0 rfl) ?_
      obtain ⟨g15, hf⟩ := gd_e hf
      refine r_getr C hR t_r0 fl_X8_11 (by decide) (nz_e g15) dX8_shortest_72 (fun tq16 => ?_)
      have tg15 := okA tq16 rfl
      refine r_alen C hR (Or.inl tg15) dX8_shortest_75 ?_
      refine lv_icmp_ge (tgt := 193) C.x C.b dX8_shortest_76 (by decide) (fun c17 => ?_) (fun c17 => ?_)
      · have hf := it_t hf c17
        refine lv_bipush (v := (-2 : Int32)) C.x C.b dX8_shortest_193 (by decide) ?_
        have hf := so_e hf
        subst hf
        exact r_iret C hr hlk hR hE hS dX8_shortest_195
      · have hf := it_f hf c17
        refine lv_aload_n C.x C.b dX8_shortest_79 rfl (lv_at hl 0 rfl) ?_
        refine r_getr C hR t_r0 fl_X8_11 (by decide) (nz_e g15) dX8_shortest_80 (fun tq18 => ?_)
        refine lv_iload C.x C.b dX8_shortest_83 (lv_at hl 8 rfl) ?_
        obtain ⟨g19, hf⟩ := gd_e hf
        refine r_iald C hR tg15 g19 dX8_shortest_85 ?_
        refine lv_sipush (v := (16384 : Int32)) C.x C.b dX8_shortest_86 (by decide) ?_
        refine lv_irem C.x C.b dX8_shortest_89 (by decide) ?_
        refine lv_topi (fun v20 e_v20 => ?_)
        have hf := lt_e hf e_v20
        refine lv_istore (lv' := [(10, .int v20), (0, .ref (G.2.2 + r0)), (1, .ref (G.2.2 + r1)), (2, .int x2), (3, .int x3), (4, .int x4), (5, .long y5), (7, .ref (G.2.2 + r7)), (8, .int x8), (9, .int x9)]) C.x C.b dX8_shortest_90 hl (by decide) rfl (fun ls hl => ?_)
        refine lv_iload C.x C.b dX8_shortest_92 (lv_at hl 0 rfl) ?_
        refine lv_sipush (v := (256 : Int32)) C.x C.b dX8_shortest_94 (by decide) ?_
        refine lv_idiv C.x C.b dX8_shortest_97 (by decide) ?_
        refine lv_topi (fun v21 e_v21 => ?_)
        have hf := lt_e hf e_v21
        refine lv_istore (lv' := [(11, .int v21), (10, .int v20), (0, .ref (G.2.2 + r0)), (1, .ref (G.2.2 + r1)), (2, .int x2), (3, .int x3), (4, .int x4), (5, .long y5), (7, .ref (G.2.2 + r7)), (8, .int x8), (9, .int x9)]) C.x C.b dX8_shortest_98 hl (by decide) rfl (fun ls hl => ?_)
        refine lv_iload C.x C.b dX8_shortest_100 (lv_at hl 1 rfl) ?_
        refine lv_sipush (v := (256 : Int32)) C.x C.b dX8_shortest_102 (by decide) ?_
        refine lv_irem C.x C.b dX8_shortest_105 (by decide) ?_
        refine lv_topi (fun v22 e_v22 => ?_)
        have hf := lt_e hf e_v22
        refine lv_istore (lv' := [(12, .int v22), (11, .int v21), (10, .int v20), (0, .ref (G.2.2 + r0)), (1, .ref (G.2.2 + r1)), (2, .int x2), (3, .int x3), (4, .int x4), (5, .long y5), (7, .ref (G.2.2 + r7)), (8, .int x8), (9, .int x9)]) C.x C.b dX8_shortest_106 hl (by decide) rfl (fun ls hl => ?_)
        refine lv_iload C.x C.b dX8_shortest_108 (lv_at hl 1 rfl) ?_
        refine lv_iload_n C.x C.b dX8_shortest_110 rfl (lv_at hl 6 rfl) ?_
        refine lv_icmp_ne (tgt := 130) C.x C.b dX8_shortest_111 (by decide) (fun c23 => ?_) (fun c23 => ?_)
        · have hf := it_f hf c23
          exact w_X8_shortest_130 C hr hlk hk62 _ _ _ _ _ _ _ _ hf hE hR hS t_r0 t_r1 t_r7 (lv_sub hl [3, 4, 5, 6, 7, 8, 9, 10, 11, 1, 0] rfl)
        · have hf := it_t hf c23
          refine lv_iload C.x C.b dX8_shortest_114 (lv_at hl 0 rfl) ?_
          refine lv_iload C.x C.b dX8_shortest_116 (lv_at hl 7 rfl) ?_
          refine lv_icmp_ne (tgt := 130) C.x C.b dX8_shortest_118 (by decide) (fun c24 => ?_) (fun c24 => ?_)
          · have hf := it_f hf c24
            exact w_X8_shortest_130 C hr hlk hk62 _ _ _ _ _ _ _ _ hf hE hR hS t_r0 t_r1 t_r7 (lv_sub hl [3, 4, 5, 6, 7, 8, 9, 10, 11, 1, 0] rfl)
          · have hf := it_t hf c24
            refine lv_aload_n C.x C.b dX8_shortest_121 rfl (lv_at hl 3 rfl) ?_
            refine lv_iload C.x C.b dX8_shortest_122 (lv_at hl 11 rfl) ?_
            refine lv_aload C.x C.b dX8_shortest_124 (lv_at hl 9 rfl) ?_
            obtain ⟨q25, h_q25, hf⟩ := bd_e hf
            refine r_callV (As := [.int x9, .ref (G.2.2 + r7)]) (rest := []) C hR hS t_r0 rfl mk_X8_tellWay cl_X8_48 (k_X8_tellWay t_r0 t_r7 h_q25) ⟨⟨Nat.le_of_ble_eq_true rfl, Nat.le_of_ble_eq_true rfl⟩, ⟨rfl, rfl⟩, Nat.le_of_ble_eq_true rfl, Nat.le_of_ble_eq_true rfl⟩ rfl hl.1 rfl (Nat.le_of_ble_eq_true rfl) dX8_shortest_126 (fun H locs hR hS hE1 z_q25 => ?_)
            have hE := hE.tr hE1
            have t_r0 := hE1.at t_r0 (by decide)
            have t_r1 := hE1.at t_r1 (by decide)
            have t_r7 := hE1.at t_r7 (by decide)
            have hf := so_e hf
            subst hf
            exact r_iret C hr hlk hR hE hS dX8_shortest_129
set_option maxRecDepth 100000 in
set_option maxHeartbeats 4000000 in
theorem w_X8_shortest_49 {G : Gt} {l : Launch} {p : Program} {e : Env} {s : State} {m : MethodId} {args : Array Value} {below : List Frame} {meth : Method} {c : Code}  {h0 : Hp} {out : (Int32 × Hp)} {r0 : Nat} {r1 : Nat} {x2 : Int32} {x3 : Int32} {x4 : Int32} {y5 : Int64} {r7 : Nat}  (C : Cx G p m c cX8_shortest 15 s args RX8) (hr : meth.sig.returnType = some .int) (hlk : meth.locks = false)   : P_X8_shortest_49 G l p e s m args below meth c h0 out r0 r1 x2 x3 x4 y5 r7 (f_X8_shortest_49 r0 r1 x2 x3 x4 y5 r7) := by
  intro H locs ls h hf hE hR hS t_r0 t_r1 t_r7 hl
  rw [f_X8_shortest_49] at hf
  refine lv_aload_n C.x C.b dX8_shortest_49 rfl (lv_at hl 0 rfl) ?_
  refine lv_iload_n C.x C.b dX8_shortest_50 rfl (lv_at hl 2 rfl) ?_
  refine lv_iconst (v := (0 : Int32)) C.x C.b dX8_shortest_51 (by decide) ?_
  refine lv_iconst (v := (0 : Int32)) C.x C.b dX8_shortest_52 (by decide) ?_
  refine lv_iconst (v := (0 : Int32)) C.x C.b dX8_shortest_53 (by decide) ?_
  obtain ⟨q13, h_q13, hf⟩ := bd_e hf
  refine r_callV (As := [.int x2, .int (0 : Int32), .int (0 : Int32), .int (0 : Int32)]) (rest := []) C hR hS t_r0 rfl mk_X8_reach cl_X8_44 (k_X8_reach t_r0 h_q13) ⟨⟨Nat.le_of_ble_eq_true rfl, Nat.le_of_ble_eq_true rfl⟩, ⟨rfl, rfl⟩, Nat.le_of_ble_eq_true rfl, Nat.le_of_ble_eq_true rfl⟩ rfl hl.1 rfl (Nat.le_of_ble_eq_true rfl) dX8_shortest_54 (fun H locs hR hS hE1 z_q13 => ?_)
  have hE := hE.tr hE1
  have t_r0 := hE1.at t_r0 (by decide)
  have t_r1 := hE1.at t_r1 (by decide)
  have t_r7 := hE1.at t_r7 (by decide)
  refine lv_istore (lv' := [(8, .int q13.1), (0, .ref (G.2.2 + r0)), (1, .ref (G.2.2 + r1)), (2, .int x2), (3, .int x3), (4, .int x4), (5, .long y5), (7, .ref (G.2.2 + r7))]) C.x C.b dX8_shortest_57 hl (by decide) rfl (fun ls hl => ?_)
  refine lv_iconst (v := (0 : Int32)) C.x C.b dX8_shortest_59 (by decide) ?_
  refine lv_istore (lv' := [(9, .int (0 : Int32)), (8, .int q13.1), (0, .ref (G.2.2 + r0)), (1, .ref (G.2.2 + r1)), (2, .int x2), (3, .int x3), (4, .int x4), (5, .long y5), (7, .ref (G.2.2 + r7))]) C.x C.b dX8_shortest_60 hl (by decide) rfl (fun ls hl => ?_)
  exact w_X8_shortest_62 C hr hlk FU _ _ _ _ _ _ hf hE hR hS t_r0 t_r1 t_r7 (lv_sub hl [2, 3, 4, 5, 6, 7, 8, 1, 0] rfl)
set_option maxRecDepth 100000 in
set_option maxHeartbeats 4000000 in
theorem w_X8_shortest_11 {G : Gt} {l : Launch} {p : Program} {e : Env} {s : State} {m : MethodId} {args : Array Value} {below : List Frame} {meth : Method} {c : Code}  {h0 : Hp} {out : (Int32 × Hp)} {r0 : Nat} {r1 : Nat} {x2 : Int32} {x3 : Int32} {x4 : Int32} {y5 : Int64} {r7 : Nat}  (C : Cx G p m c cX8_shortest 15 s args RX8) (hr : meth.sig.returnType = some .int) (hlk : meth.locks = false)   (n : Nat) : P_X8_shortest_11 G l p e s m args below meth c h0 out r0 r1 x2 x3 x4 y5 r7 (f_X8_shortest_11 r0 r1 x2 x3 x4 y5 r7 n) := by
  induction n with
  | zero => intro H locs ls h x8 hf hE hR hS t_r0 t_r1 t_r7 hl; cases hf
  | succ n hk11 =>
    intro H locs ls h x8 hf hE hR hS t_r0 t_r1 t_r7 hl
    rw [f_X8_shortest_11] at hf
    obtain ⟨k11, e_k11⟩ : ∃ y, y = f_X8_shortest_11 r0 r1 x2 x3 x4 y5 r7 n := ⟨_, rfl⟩
    have hf := lt_e hf e_k11
    rw [← e_k11] at hk11
    refine lv_iload C.x C.b dX8_shortest_11 (lv_at hl 7 rfl) ?_
    refine lv_aload_n C.x C.b dX8_shortest_13 rfl (lv_at hl 1 rfl) ?_
    obtain ⟨q4, h_q4, hf⟩ := bd_e hf
    refine r_callV (As := []) (rest := [.int x8]) C hR hS t_r1 rfl mk_X0_cells cl_X8_34 (k_X0_cells t_r1 h_q4) ⟨⟨Nat.le_of_ble_eq_true rfl, Nat.le_of_ble_eq_true rfl⟩, ⟨rfl, rfl⟩, Nat.le_of_ble_eq_true rfl, Nat.le_of_ble_eq_true rfl⟩ rfl hl.1 rfl (Nat.le_of_ble_eq_true rfl) dX8_shortest_14 (fun H locs hR hS hE1 z_q4 => ?_)
    refine lv_icmp_ge (tgt := 49) C.x C.b dX8_shortest_17 (by decide) (fun c5 => ?_) (fun c5 => ?_)
    · have hf := it_t hf c5
      exact w_X8_shortest_49 C hr hlk _ _ _ _ hf hE hR hS t_r0 t_r1 t_r7 (lv_sub hl [0, 1, 2, 3, 4, 5, 6] rfl)
    · have hf := it_f hf c5
      refine lv_iload C.x C.b dX8_shortest_20 (lv_at hl 7 rfl) ?_
      refine lv_bipush (v := (36 : Int32)) C.x C.b dX8_shortest_22 (by decide) ?_
      refine lv_icmp_ge (tgt := 49) C.x C.b dX8_shortest_24 (by decide) (fun c6 => ?_) (fun c6 => ?_)
      · have hf := it_t hf c6
        exact w_X8_shortest_49 C hr hlk _ _ _ _ hf hE hR hS t_r0 t_r1 t_r7 (lv_sub hl [0, 1, 2, 3, 4, 5, 6] rfl)
      · have hf := it_f hf c6
        refine lv_aload_n C.x C.b dX8_shortest_27 rfl (lv_at hl 0 rfl) ?_
        obtain ⟨g7, hf⟩ := gd_e hf
        refine r_getr C hR t_r0 fl_X8_19 (by decide) (nz_e g7) dX8_shortest_28 (fun tq8 => ?_)
        have tg7 := okA tq8 rfl
        refine lv_iload C.x C.b dX8_shortest_31 (lv_at hl 7 rfl) ?_
        refine lv_aload_n C.x C.b dX8_shortest_33 rfl (lv_at hl 1 rfl) ?_
        refine lv_iload C.x C.b dX8_shortest_34 (lv_at hl 7 rfl) ?_
        obtain ⟨q9, h_q9, hf⟩ := bd_e hf
        refine r_callV (As := [.int x8]) (rest := [.int x8, .ref (G.2.2 + (hpR h r0 2))]) C hR hS t_r1 rfl mk_X0_onOver cl_X8_40 (k_X0_onOver t_r1 h_q9) ⟨⟨Nat.le_of_ble_eq_true rfl, Nat.le_of_ble_eq_true rfl⟩, ⟨rfl, rfl⟩, Nat.le_of_ble_eq_true rfl, Nat.le_of_ble_eq_true rfl⟩ rfl hl.1 rfl (Nat.le_of_ble_eq_true rfl) dX8_shortest_36 (fun H locs hR hS hE1 z_q9 => ?_)
        refine lv_iload C.x C.b dX8_shortest_39 (lv_at hl 4 rfl) ?_
        refine lv_iand C.x C.b dX8_shortest_41 ?_
        obtain ⟨g10, hf⟩ := gd_e hf
        refine r_iast C hR hS tg7 g10 dX8_shortest_42 (fun H locs hR hS => ?_)
        obtain ⟨h11, e_h11⟩ : ∃ y, y = upI h (hpR h r0 2) (ix x8) (q9 &&& x4) := ⟨_, rfl⟩
        rw [← e_h11] at hR
        have hf := lt_e hf e_h11
        have hE := eI e_h11 hE
        have t_r0 := tI e_h11 t_r0
        have t_r1 := tI e_h11 t_r1
        have t_r7 := tI e_h11 t_r7
        obtain ⟨v12, e_v12⟩ : ∃ y : Int32, y = x8 + (1 : Int32) := ⟨_, rfl⟩
        have hf := lt_e hf e_v12
        refine lv_iinc (v := v12) (lv' := [(8, .int v12), (0, .ref (G.2.2 + r0)), (1, .ref (G.2.2 + r1)), (2, .int x2), (3, .int x3), (4, .int x4), (5, .long y5), (7, .ref (G.2.2 + r7))]) C.x C.b dX8_shortest_43 hl (k := 7) rfl (by rw [e_v12]; rfl) (by decide) rfl (fun ls hl => ?_)
        refine lv_goto (tgt := 11) C.x C.b dX8_shortest_46 (by decide) ?_
        exact hk11 _ _ _ _ _ hf hE hR hS t_r0 t_r1 t_r7 (lv_sub hl [1, 2, 3, 4, 5, 6, 7, 0] rfl)
set_option maxRecDepth 100000 in
set_option maxHeartbeats 4000000 in
theorem k_X8_shortest {G : Gt} {l : Launch}  {h : Hp} {r0 : Nat} {r1 : Nat} {x2 : Int32} {x3 : Int32} {x4 : Int32} {y5 : Int64} {r7 : Nat} {out : (Int32 × Hp)} (t_r0 : hpT h r0 = (1, 8)) (t_r1 : hpT h r1 = (1, 0)) (t_r7 : hpT h r7 = (1, 7))  (hf : f_X8_shortest  h r0 r1 x2 x3 x4 y5 r7 = some out) : Mt G l yX8_shortest cX8_shortest 15 (some .int) rm_X8_shortest [.ref (G.2.2 + r0), .ref (G.2.2 + r1), .int x2, .int x3, .int x4, .long y5, .ref (G.2.2 + r7)] h (some (.int out.1)) out.2 0 0 0 := by
  refine r_met (by decide +kernel) (Nat.le_of_ble_eq_true rfl) ?_
  intro p e s m args below meth c ls C hr hlk hnm hR hS hl
  have hE : Ext h h := Ext.rf
  have hl : lv_has ls 15 [(0, .ref (G.2.2 + r0)), (1, .ref (G.2.2 + r1)), (2, .int x2), (3, .int x3), (4, .int x4), (5, .long y5), (7, .ref (G.2.2 + r7))] := hl
  rw [f_X8_shortest] at hf
  refine lv_aload_n C.x C.b dX8_shortest_0 rfl (lv_at hl 0 rfl) ?_
  obtain ⟨g1, hf⟩ := gd_e hf
  refine r_getr C hR t_r0 fl_X8_15 (by decide) (nz_e g1) dX8_shortest_1 (fun tq2 => ?_)
  have tg1 := okA tq2 rfl
  refine lv_lconst (v := (0 : Int64)) C.x C.b dX8_shortest_4 (by decide) ?_
  obtain ⟨q3, h_q3, hf⟩ := bd_e hf
  refine r_callS (As := [.ref (G.2.2 + (hpR h r0 1)), .long (0 : Int64)]) (rest := []) C hR hS mk_J7_fill_d0a16 cl_X8_28 (k_J7_fill_d0a16 tg1 h_q3) ⟨⟨Nat.le_of_ble_eq_true rfl, Nat.le_of_ble_eq_true rfl⟩, ⟨rfl, rfl⟩, Nat.le_of_ble_eq_true rfl, Nat.le_of_ble_eq_true rfl⟩ rfl hl.1 rfl (Nat.le_of_ble_eq_true rfl) dX8_shortest_5 (fun H locs hR hS hE1 z_q3 => ?_)
  have hE := hE.tr hE1
  have t_r0 := hE1.at t_r0 (by decide)
  have t_r1 := hE1.at t_r1 (by decide)
  have t_r7 := hE1.at t_r7 (by decide)
  refine lv_iconst (v := (0 : Int32)) C.x C.b dX8_shortest_8 (by decide) ?_
  refine lv_istore (lv' := [(8, .int (0 : Int32)), (0, .ref (G.2.2 + r0)), (1, .ref (G.2.2 + r1)), (2, .int x2), (3, .int x3), (4, .int x4), (5, .long y5), (7, .ref (G.2.2 + r7))]) C.x C.b dX8_shortest_9 hl (by decide) rfl (fun ls hl => ?_)
  exact w_X8_shortest_11 C hr hlk FU _ _ _ _ _ hf hE hR hS t_r0 t_r1 t_r7 (lv_sub hl [1, 2, 3, 4, 5, 6, 7, 0] rfl)

def rm_X8_improve : Room := { frames := 2, cells := 0, slots := 0, locals := 47 }
def P_X8_improve_91 (G : Gt) (l : Launch) (p : Program) (e : Env) (s : State) (m : MethodId) (args : Array Value) (below : List Frame) (meth : Method) (c : Code) (h0 : Hp) (out : (Int32 × Hp)) (r0 : Nat) (r1 : Nat) (x2 : Int32) (k : Hp → Int32 → Int32 → Int32 → Option (Int32 × Hp)) : Prop := ∀ (H : Heap) (locs : List Loc) (ls : Array Slot) (h : Hp) (x3 : Int32) (x4 : Int32) (x5 : Int32), k h x3 x4 x5 = some out → Ext h0 h → Rel G h H → va_S (AA G.2.2) s.heap H locs → hpT h r0 = (1, 8) → hpT h r1 = (1, 0) → narrow .boolean (.int x3) = .int x3 → lv_has ls 7 [(0, .ref (G.2.2 + r0)), (1, .ref (G.2.2 + r1)), (2, .int x2), (3, .int x3), (4, .int x4), (5, .int x5)] → W p l e rm_X8_improve s m args below meth c H locs 0 0 (MQ below (Qm G h0 out.2 (some (.int out.1)) 1) args s 0 0 (AA G.2.2)) (F0 m 91 ls [])
def P_X8_improve_14 (G : Gt) (l : Launch) (p : Program) (e : Env) (s : State) (m : MethodId) (args : Array Value) (below : List Frame) (meth : Method) (c : Code) (h0 : Hp) (out : (Int32 × Hp)) (r0 : Nat) (r1 : Nat) (x2 : Int32) (k : Hp → Int32 → Int32 → Int32 → Option (Int32 × Hp)) : Prop := ∀ (H : Heap) (locs : List Loc) (ls : Array Slot) (h : Hp) (x3 : Int32) (x4 : Int32) (x5 : Int32), k h x3 x4 x5 = some out → Ext h0 h → Rel G h H → va_S (AA G.2.2) s.heap H locs → hpT h r0 = (1, 8) → hpT h r1 = (1, 0) → narrow .boolean (.int x3) = .int x3 → lv_has ls 7 [(0, .ref (G.2.2 + r0)), (1, .ref (G.2.2 + r1)), (2, .int x2), (3, .int x3), (4, .int x4), (5, .int x5)] → W p l e rm_X8_improve s m args below meth c H locs 0 0 (MQ below (Qm G h0 out.2 (some (.int out.1)) 1) args s 0 0 (AA G.2.2)) (F0 m 14 ls [])
def P_X8_improve_5 (G : Gt) (l : Launch) (p : Program) (e : Env) (s : State) (m : MethodId) (args : Array Value) (below : List Frame) (meth : Method) (c : Code) (h0 : Hp) (out : (Int32 × Hp)) (r0 : Nat) (r1 : Nat) (x2 : Int32) (k : Hp → Int32 → Int32 → Option (Int32 × Hp)) : Prop := ∀ (H : Heap) (locs : List Loc) (ls : Array Slot) (h : Hp) (x3 : Int32) (x4 : Int32), k h x3 x4 = some out → Ext h0 h → Rel G h H → va_S (AA G.2.2) s.heap H locs → hpT h r0 = (1, 8) → hpT h r1 = (1, 0) → narrow .boolean (.int x3) = .int x3 → lv_has ls 7 [(0, .ref (G.2.2 + r0)), (1, .ref (G.2.2 + r1)), (2, .int x2), (3, .int x3), (4, .int x4)] → W p l e rm_X8_improve s m args below meth c H locs 0 0 (MQ below (Qm G h0 out.2 (some (.int out.1)) 1) args s 0 0 (AA G.2.2)) (F0 m 5 ls [])
set_option maxRecDepth 100000 in
set_option maxHeartbeats 4000000 in
theorem w_X8_improve_91 {G : Gt} {l : Launch} {p : Program} {e : Env} {s : State} {m : MethodId} {args : Array Value} {below : List Frame} {meth : Method} {c : Code}  {h0 : Hp} {out : (Int32 × Hp)} {r0 : Nat} {r1 : Nat} {x2 : Int32} {k5 : Hp → Int32 → Int32 → Option (Int32 × Hp)} {k14 : Hp → Int32 → Int32 → Int32 → Option (Int32 × Hp)} (C : Cx G p m c cX8_improve 7 s args RX8) (hr : meth.sig.returnType = some .boolean) (hlk : meth.locks = false)  (hk5 : P_X8_improve_5 G l p e s m args below meth c h0 out r0 r1 x2 k5) (hk14 : P_X8_improve_14 G l p e s m args below meth c h0 out r0 r1 x2 k14) : P_X8_improve_91 G l p e s m args below meth c h0 out r0 r1 x2 (f_X8_improve_91 r0 r1 x2 k5 k14) := by
  intro H locs ls h x3 x4 x5 hf hE hR hS t_r0 t_r1 z_x3 hl
  rw [f_X8_improve_91] at hf
  obtain ⟨v23, e_v23⟩ : ∃ y : Int32, y = x5 + (1 : Int32) := ⟨_, rfl⟩
  have hf := lt_e hf e_v23
  refine lv_iinc (v := v23) (lv' := [(5, .int v23), (0, .ref (G.2.2 + r0)), (1, .ref (G.2.2 + r1)), (2, .int x2), (3, .int x3), (4, .int x4)]) C.x C.b dX8_improve_91 hl (k := 5) rfl (by rw [e_v23]; rfl) (by decide) rfl (fun ls hl => ?_)
  refine lv_goto (tgt := 14) C.x C.b dX8_improve_94 (by decide) ?_
  exact hk14 _ _ _ _ _ _ _ hf hE hR hS t_r0 t_r1 z_x3 (lv_sub hl [1, 2, 3, 4, 5, 0] rfl)
set_option maxRecDepth 100000 in
set_option maxHeartbeats 4000000 in
theorem w_X8_improve_14 {G : Gt} {l : Launch} {p : Program} {e : Env} {s : State} {m : MethodId} {args : Array Value} {below : List Frame} {meth : Method} {c : Code}  {h0 : Hp} {out : (Int32 × Hp)} {r0 : Nat} {r1 : Nat} {x2 : Int32} {k5 : Hp → Int32 → Int32 → Option (Int32 × Hp)} (C : Cx G p m c cX8_improve 7 s args RX8) (hr : meth.sig.returnType = some .boolean) (hlk : meth.locks = false)  (hk5 : P_X8_improve_5 G l p e s m args below meth c h0 out r0 r1 x2 k5) (n : Nat) : P_X8_improve_14 G l p e s m args below meth c h0 out r0 r1 x2 (f_X8_improve_14 r0 r1 x2 k5 n) := by
  induction n with
  | zero => intro H locs ls h x3 x4 x5 hf hE hR hS t_r0 t_r1 z_x3 hl; cases hf
  | succ n hk14 =>
    intro H locs ls h x3 x4 x5 hf hE hR hS t_r0 t_r1 z_x3 hl
    rw [f_X8_improve_14] at hf
    obtain ⟨k14, e_k14⟩ : ∃ y, y = f_X8_improve_14 r0 r1 x2 k5 n := ⟨_, rfl⟩
    have hf := lt_e hf e_k14
    rw [← e_k14] at hk14
    refine lv_iload C.x C.b dX8_improve_14 (lv_at hl 5 rfl) ?_
    refine lv_iconst (v := (4 : Int32)) C.x C.b dX8_improve_16 (by decide) ?_
    refine lv_icmp_ge (tgt := 97) C.x C.b dX8_improve_17 (by decide) (fun c2 => ?_) (fun c2 => ?_)
    · have hf := it_t hf c2
      obtain ⟨v3, e_v3⟩ : ∃ y : Int32, y = x4 + (1 : Int32) := ⟨_, rfl⟩
      have hf := lt_e hf e_v3
      refine lv_iinc (v := v3) (lv' := [(4, .int v3), (0, .ref (G.2.2 + r0)), (1, .ref (G.2.2 + r1)), (2, .int x2), (3, .int x3), (5, .int x5)]) C.x C.b dX8_improve_97 hl (k := 4) rfl (by rw [e_v3]; rfl) (by decide) rfl (fun ls hl => ?_)
      refine lv_goto (tgt := 5) C.x C.b dX8_improve_100 (by decide) ?_
      exact hk5 _ _ _ _ _ _ hf hE hR hS t_r0 t_r1 z_x3 (lv_sub hl [1, 2, 3, 4, 0] rfl)
    · have hf := it_f hf c2
      refine lv_aload_n C.x C.b dX8_improve_20 rfl (lv_at hl 1 rfl) ?_
      refine lv_iload C.x C.b dX8_improve_21 (lv_at hl 4 rfl) ?_
      refine lv_iload C.x C.b dX8_improve_23 (lv_at hl 5 rfl) ?_
      obtain ⟨q4, h_q4, hf⟩ := bd_e hf
      refine r_callV (As := [.int x4, .int x5]) (rest := []) C hR hS t_r1 rfl mk_X0_beside cl_X8_52 (k_X0_beside t_r1 h_q4) ⟨⟨Nat.le_of_ble_eq_true rfl, Nat.le_of_ble_eq_true rfl⟩, ⟨rfl, rfl⟩, Nat.le_of_ble_eq_true rfl, Nat.le_of_ble_eq_true rfl⟩ rfl hl.1 rfl (Nat.le_of_ble_eq_true rfl) dX8_improve_25 (fun H locs hR hS hE1 z_q4 => ?_)
      refine lv_istore (lv' := [(6, .int q4), (0, .ref (G.2.2 + r0)), (1, .ref (G.2.2 + r1)), (2, .int x2), (3, .int x3), (4, .int x4), (5, .int x5)]) C.x C.b dX8_improve_28 hl (by decide) rfl (fun ls hl => ?_)
      refine lv_iload C.x C.b dX8_improve_30 (lv_at hl 0 rfl) ?_
      refine lv_if_lt (tgt := 91) C.x C.b dX8_improve_32 (by decide) (fun c5 => ?_) (fun c5 => ?_)
      · have hf := it_t hf c5
        exact w_X8_improve_91 C hr hlk hk5 hk14 _ _ _ _ _ _ _ hf hE hR hS t_r0 t_r1 z_x3 (lv_sub hl [1, 2, 3, 4, 5, 6] rfl)
      · have hf := it_f hf c5
        refine lv_iload C.x C.b dX8_improve_35 (lv_at hl 0 rfl) ?_
        refine lv_bipush (v := (36 : Int32)) C.x C.b dX8_improve_37 (by decide) ?_
        refine lv_icmp_ge (tgt := 91) C.x C.b dX8_improve_39 (by decide) (fun c6 => ?_) (fun c6 => ?_)
        · have hf := it_t hf c6
          exact w_X8_improve_91 C hr hlk hk5 hk14 _ _ _ _ _ _ _ hf hE hR hS t_r0 t_r1 z_x3 (lv_sub hl [1, 2, 3, 4, 5, 6] rfl)
        · have hf := it_f hf c6
          refine lv_aload_n C.x C.b dX8_improve_42 rfl (lv_at hl 1 rfl) ?_
          obtain ⟨g7, hf⟩ := gd_e hf
          refine r_getr C hR t_r0 fl_X8_22 (by decide) (nz_e g7) dX8_improve_43 (fun tq8 => ?_)
          have tg7 := okA tq8 rfl
          refine lv_iload C.x C.b dX8_improve_46 (lv_at hl 5 rfl) ?_
          obtain ⟨g9, hf⟩ := gd_e hf
          refine r_iald C hR tg7 g9 dX8_improve_48 ?_
          refine lv_aload_n C.x C.b dX8_improve_49 rfl (lv_at hl 1 rfl) ?_
          obtain ⟨g10, hf⟩ := gd_e hf
          refine r_getr C hR t_r0 fl_X8_25 (by decide) (nz_e g10) dX8_improve_50 (fun tq11 => ?_)
          have tg10 := okA tq11 rfl
          refine lv_iload C.x C.b dX8_improve_53 (lv_at hl 0 rfl) ?_
          obtain ⟨g12, hf⟩ := gd_e hf
          refine r_iald C hR tg10 g12 dX8_improve_55 ?_
          refine lv_iadd C.x C.b dX8_improve_56 ?_
          refine lv_aload_n C.x C.b dX8_improve_57 rfl (lv_at hl 1 rfl) ?_
          refine r_getr C hR t_r0 fl_X8_25 (by decide) (nz_e g10) dX8_improve_58 (fun tq13 => ?_)
          refine lv_iload C.x C.b dX8_improve_61 (lv_at hl 5 rfl) ?_
          obtain ⟨g14, hf⟩ := gd_e hf
          refine r_iald C hR tg10 g14 dX8_improve_63 ?_
          refine lv_icmp_ge (tgt := 91) C.x C.b dX8_improve_64 (by decide) (fun c15 => ?_) (fun c15 => ?_)
          · have hf := it_t hf c15
            exact w_X8_improve_91 C hr hlk hk5 hk14 _ _ _ _ _ _ _ hf hE hR hS t_r0 t_r1 z_x3 (lv_sub hl [1, 2, 3, 4, 5, 6] rfl)
          · have hf := it_f hf c15
            refine lv_aload_n C.x C.b dX8_improve_67 rfl (lv_at hl 1 rfl) ?_
            refine r_getr C hR t_r0 fl_X8_25 (by decide) (nz_e g10) dX8_improve_68 (fun tq16 => ?_)
            refine lv_iload C.x C.b dX8_improve_71 (lv_at hl 5 rfl) ?_
            refine lv_aload_n C.x C.b dX8_improve_73 rfl (lv_at hl 1 rfl) ?_
            refine r_getr C hR t_r0 fl_X8_22 (by decide) (nz_e g7) dX8_improve_74 (fun tq17 => ?_)
            refine lv_iload C.x C.b dX8_improve_77 (lv_at hl 5 rfl) ?_
            obtain ⟨g18, hf⟩ := gd_e hf
            refine r_iald C hR tg7 g18 dX8_improve_79 ?_
            refine lv_aload_n C.x C.b dX8_improve_80 rfl (lv_at hl 1 rfl) ?_
            refine r_getr C hR t_r0 fl_X8_25 (by decide) (nz_e g10) dX8_improve_81 (fun tq19 => ?_)
            refine lv_iload C.x C.b dX8_improve_84 (lv_at hl 0 rfl) ?_
            obtain ⟨g20, hf⟩ := gd_e hf
            refine r_iald C hR tg10 g20 dX8_improve_86 ?_
            refine lv_iadd C.x C.b dX8_improve_87 ?_
            obtain ⟨g21, hf⟩ := gd_e hf
            refine r_iast C hR hS tg10 g21 dX8_improve_88 (fun H locs hR hS => ?_)
            obtain ⟨h22, e_h22⟩ : ∃ y, y = upI h (hpR h r0 4) (ix x4) ((hpI h (hpR h r0 3) (ix x4)) + (hpI h (hpR h r0 4) (ix q4))) := ⟨_, rfl⟩
            rw [← e_h22] at hR
            have hf := lt_e hf e_h22
            have hE := eI e_h22 hE
            have t_r0 := tI e_h22 t_r0
            have t_r1 := tI e_h22 t_r1
            refine lv_iconst (v := (1 : Int32)) C.x C.b dX8_improve_89 (by decide) ?_
            refine lv_istore_n (lv' := [(3, .int (1 : Int32)), (6, .int q4), (0, .ref (G.2.2 + r0)), (1, .ref (G.2.2 + r1)), (2, .int x2), (4, .int x4), (5, .int x5)]) C.x C.b dX8_improve_90 rfl hl (by decide) rfl (fun ls hl => ?_)
            exact w_X8_improve_91 C hr hlk hk5 hk14 _ _ _ _ _ _ _ hf hE hR hS t_r0 t_r1 z_1 (lv_sub hl [2, 3, 4, 0, 5, 6] rfl)
set_option maxRecDepth 100000 in
set_option maxHeartbeats 4000000 in
theorem w_X8_improve_5 {G : Gt} {l : Launch} {p : Program} {e : Env} {s : State} {m : MethodId} {args : Array Value} {below : List Frame} {meth : Method} {c : Code}  {h0 : Hp} {out : (Int32 × Hp)} {r0 : Nat} {r1 : Nat} {x2 : Int32}  (C : Cx G p m c cX8_improve 7 s args RX8) (hr : meth.sig.returnType = some .boolean) (hlk : meth.locks = false)   (n : Nat) : P_X8_improve_5 G l p e s m args below meth c h0 out r0 r1 x2 (f_X8_improve_5 r0 r1 x2 n) := by
  induction n with
  | zero => intro H locs ls h x3 x4 hf hE hR hS t_r0 t_r1 z_x3 hl; cases hf
  | succ n hk5 =>
    intro H locs ls h x3 x4 hf hE hR hS t_r0 t_r1 z_x3 hl
    rw [f_X8_improve_5] at hf
    obtain ⟨k5, e_k5⟩ : ∃ y, y = f_X8_improve_5 r0 r1 x2 n := ⟨_, rfl⟩
    have hf := lt_e hf e_k5
    rw [← e_k5] at hk5
    refine lv_iload C.x C.b dX8_improve_5 (lv_at hl 4 rfl) ?_
    refine lv_iload_n C.x C.b dX8_improve_7 rfl (lv_at hl 2 rfl) ?_
    refine lv_icmp_ge (tgt := 103) C.x C.b dX8_improve_8 (by decide) (fun c1 => ?_) (fun c1 => ?_)
    · have hf := it_t hf c1
      refine lv_iload_n C.x C.b dX8_improve_103 rfl (lv_at hl 3 rfl) ?_
      have hf := so_e hf
      subst hf
      exact r_zret C hr hlk hR hE hS z_x3 dX8_improve_104
    · have hf := it_f hf c1
      refine lv_iconst (v := (0 : Int32)) C.x C.b dX8_improve_11 (by decide) ?_
      refine lv_istore (lv' := [(5, .int (0 : Int32)), (0, .ref (G.2.2 + r0)), (1, .ref (G.2.2 + r1)), (2, .int x2), (3, .int x3), (4, .int x4)]) C.x C.b dX8_improve_12 hl (by decide) rfl (fun ls hl => ?_)
      exact w_X8_improve_14 C hr hlk hk5 FU _ _ _ _ _ _ _ hf hE hR hS t_r0 t_r1 z_x3 (lv_sub hl [1, 2, 3, 4, 5, 0] rfl)
set_option maxRecDepth 100000 in
set_option maxHeartbeats 4000000 in
theorem k_X8_improve {G : Gt} {l : Launch}  {h : Hp} {r0 : Nat} {r1 : Nat} {x2 : Int32} {out : (Int32 × Hp)} (t_r0 : hpT h r0 = (1, 8)) (t_r1 : hpT h r1 = (1, 0))  (hf : f_X8_improve  h r0 r1 x2 = some out) : Mt G l yX8_improve cX8_improve 7 (some .boolean) rm_X8_improve [.ref (G.2.2 + r0), .ref (G.2.2 + r1), .int x2] h (some (.int out.1)) out.2 1 0 0 := by
  refine r_met (by decide +kernel) (Nat.le_of_ble_eq_true rfl) ?_
  intro p e s m args below meth c ls C hr hlk hnm hR hS hl
  have hE : Ext h h := Ext.rf
  have hl : lv_has ls 7 [(0, .ref (G.2.2 + r0)), (1, .ref (G.2.2 + r1)), (2, .int x2)] := hl
  rw [f_X8_improve] at hf
  refine lv_iconst (v := (0 : Int32)) C.x C.b dX8_improve_0 (by decide) ?_
  refine lv_istore_n (lv' := [(3, .int (0 : Int32)), (0, .ref (G.2.2 + r0)), (1, .ref (G.2.2 + r1)), (2, .int x2)]) C.x C.b dX8_improve_1 rfl hl (by decide) rfl (fun ls hl => ?_)
  refine lv_iconst (v := (0 : Int32)) C.x C.b dX8_improve_2 (by decide) ?_
  refine lv_istore (lv' := [(4, .int (0 : Int32)), (3, .int (0 : Int32)), (0, .ref (G.2.2 + r0)), (1, .ref (G.2.2 + r1)), (2, .int x2)]) C.x C.b dX8_improve_3 hl (by decide) rfl (fun ls hl => ?_)
  exact w_X8_improve_5 C hr hlk FU _ _ _ _ _ _ hf hE hR hS t_r0 t_r1 z_0 (lv_sub hl [2, 3, 4, 1, 0] rfl)

def rm_X8_softStep : Room := { frames := 2, cells := 0, slots := 0, locals := 47 }
def P_X8_softStep_53 (G : Gt) (l : Launch) (p : Program) (e : Env) (s : State) (m : MethodId) (args : Array Value) (below : List Frame) (meth : Method) (c : Code) (h : Hp) (out : Int32) (r0 : Nat) (r1 : Nat) (x2 : Int32) (k : Int32 → Option Int32) : Prop := ∀ (H : Heap) (locs : List Loc) (ls : Array Slot) (x3 : Int32), k x3 = some out → Rel G h H → va_S (AA G.2.2) s.heap H locs → hpT h r0 = (1, 8) → hpT h r1 = (1, 0) → lv_has ls 5 [(0, .ref (G.2.2 + r0)), (1, .ref (G.2.2 + r1)), (2, .int x2), (3, .int x3)] → W p l e rm_X8_softStep s m args below meth c H locs 0 0 (MQ below (Qm G h h (some (.int out)) 0) args s 0 0 (AA G.2.2)) (F0 m 53 ls [])
def P_X8_softStep_2 (G : Gt) (l : Launch) (p : Program) (e : Env) (s : State) (m : MethodId) (args : Array Value) (below : List Frame) (meth : Method) (c : Code) (h : Hp) (out : Int32) (r0 : Nat) (r1 : Nat) (x2 : Int32) (k : Int32 → Option Int32) : Prop := ∀ (H : Heap) (locs : List Loc) (ls : Array Slot) (x3 : Int32), k x3 = some out → Rel G h H → va_S (AA G.2.2) s.heap H locs → hpT h r0 = (1, 8) → hpT h r1 = (1, 0) → lv_has ls 5 [(0, .ref (G.2.2 + r0)), (1, .ref (G.2.2 + r1)), (2, .int x2), (3, .int x3)] → W p l e rm_X8_softStep s m args below meth c H locs 0 0 (MQ below (Qm G h h (some (.int out)) 0) args s 0 0 (AA G.2.2)) (F0 m 2 ls [])
set_option maxRecDepth 100000 in
set_option maxHeartbeats 4000000 in
theorem w_X8_softStep_53 {G : Gt} {l : Launch} {p : Program} {e : Env} {s : State} {m : MethodId} {args : Array Value} {below : List Frame} {meth : Method} {c : Code}  {h : Hp} {out : Int32} {r0 : Nat} {r1 : Nat} {x2 : Int32} {k2 : Int32 → Option Int32} (C : Cx G p m c cX8_softStep 5 s args RX8) (hr : meth.sig.returnType = some .int) (hlk : meth.locks = false)  (hk2 : P_X8_softStep_2 G l p e s m args below meth c h out r0 r1 x2 k2) : P_X8_softStep_53 G l p e s m args below meth c h out r0 r1 x2 (f_X8_softStep_53 h r0 r1 x2 k2) := by
  intro H locs ls x3 hf hR hS t_r0 t_r1 hl
  rw [f_X8_softStep_53] at hf
  obtain ⟨v14, e_v14⟩ : ∃ y : Int32, y = x3 + (1 : Int32) := ⟨_, rfl⟩
  have hf := lt_e hf e_v14
  refine lv_iinc (v := v14) (lv' := [(3, .int v14), (0, .ref (G.2.2 + r0)), (1, .ref (G.2.2 + r1)), (2, .int x2)]) C.x C.b dX8_softStep_53 hl (k := 3) rfl (by rw [e_v14]; rfl) (by decide) rfl (fun ls hl => ?_)
  refine lv_goto (tgt := 2) C.x C.b dX8_softStep_56 (by decide) ?_
  exact hk2 _ _ _ _ hf hR hS t_r0 t_r1 (lv_sub hl [1, 2, 3, 0] rfl)
set_option maxRecDepth 100000 in
set_option maxHeartbeats 4000000 in
theorem w_X8_softStep_2 {G : Gt} {l : Launch} {p : Program} {e : Env} {s : State} {m : MethodId} {args : Array Value} {below : List Frame} {meth : Method} {c : Code}  {h : Hp} {out : Int32} {r0 : Nat} {r1 : Nat} {x2 : Int32}  (C : Cx G p m c cX8_softStep 5 s args RX8) (hr : meth.sig.returnType = some .int) (hlk : meth.locks = false)   (n : Nat) : P_X8_softStep_2 G l p e s m args below meth c h out r0 r1 x2 (f_X8_softStep_2 h r0 r1 x2 n) := by
  induction n with
  | zero => intro H locs ls x3 hf hR hS t_r0 t_r1 hl; cases hf
  | succ n hk2 =>
    intro H locs ls x3 hf hR hS t_r0 t_r1 hl
    rw [f_X8_softStep_2] at hf
    obtain ⟨k2, e_k2⟩ : ∃ y, y = f_X8_softStep_2 h r0 r1 x2 n := ⟨_, rfl⟩
    have hf := lt_e hf e_k2
    rw [← e_k2] at hk2
    refine lv_iload_n C.x C.b dX8_softStep_2 rfl (lv_at hl 3 rfl) ?_
    refine lv_iconst (v := (4 : Int32)) C.x C.b dX8_softStep_3 (by decide) ?_
    refine lv_icmp_ge (tgt := 59) C.x C.b dX8_softStep_4 (by decide) (fun c1 => ?_) (fun c1 => ?_)
    · have hf := it_t hf c1
      refine lv_iload_n C.x C.b dX8_softStep_59 rfl (lv_at hl 2 rfl) ?_
      have hf := so_e hf
      subst hf
      exact r_iret C hr hlk hR Ext.rf hS dX8_softStep_60
    · have hf := it_f hf c1
      refine lv_aload_n C.x C.b dX8_softStep_7 rfl (lv_at hl 1 rfl) ?_
      refine lv_iload_n C.x C.b dX8_softStep_8 rfl (lv_at hl 2 rfl) ?_
      refine lv_iload_n C.x C.b dX8_softStep_9 rfl (lv_at hl 3 rfl) ?_
      obtain ⟨q2, h_q2, hf⟩ := bd_e hf
      refine r_callV (As := [.int x2, .int x3]) (rest := []) C hR hS t_r1 rfl mk_X0_beside cl_X8_52 (k_X0_beside t_r1 h_q2) ⟨⟨Nat.le_of_ble_eq_true rfl, Nat.le_of_ble_eq_true rfl⟩, ⟨rfl, rfl⟩, Nat.le_of_ble_eq_true rfl, Nat.le_of_ble_eq_true rfl⟩ rfl hl.1 rfl (Nat.le_of_ble_eq_true rfl) dX8_softStep_10 (fun H locs hR hS hE1 z_q2 => ?_)
      refine lv_istore (lv' := [(4, .int q2), (0, .ref (G.2.2 + r0)), (1, .ref (G.2.2 + r1)), (2, .int x2), (3, .int x3)]) C.x C.b dX8_softStep_13 hl (by decide) rfl (fun ls hl => ?_)
      refine lv_iload C.x C.b dX8_softStep_15 (lv_at hl 0 rfl) ?_
      refine lv_if_lt (tgt := 53) C.x C.b dX8_softStep_17 (by decide) (fun c3 => ?_) (fun c3 => ?_)
      · have hf := it_t hf c3
        exact w_X8_softStep_53 C hr hlk hk2 _ _ _ _ hf hR hS t_r0 t_r1 (lv_sub hl [1, 2, 3, 4] rfl)
      · have hf := it_f hf c3
        refine lv_iload C.x C.b dX8_softStep_20 (lv_at hl 0 rfl) ?_
        refine lv_bipush (v := (36 : Int32)) C.x C.b dX8_softStep_22 (by decide) ?_
        refine lv_icmp_ge (tgt := 53) C.x C.b dX8_softStep_24 (by decide) (fun c4 => ?_) (fun c4 => ?_)
        · have hf := it_t hf c4
          exact w_X8_softStep_53 C hr hlk hk2 _ _ _ _ hf hR hS t_r0 t_r1 (lv_sub hl [1, 2, 3, 4] rfl)
        · have hf := it_f hf c4
          refine lv_aload_n C.x C.b dX8_softStep_27 rfl (lv_at hl 1 rfl) ?_
          obtain ⟨g5, hf⟩ := gd_e hf
          refine r_getr C hR t_r0 fl_X8_25 (by decide) (nz_e g5) dX8_softStep_28 (fun tq6 => ?_)
          have tg5 := okA tq6 rfl
          refine lv_iload_n C.x C.b dX8_softStep_31 rfl (lv_at hl 3 rfl) ?_
          obtain ⟨g7, hf⟩ := gd_e hf
          refine r_iald C hR tg5 g7 dX8_softStep_32 ?_
          refine lv_aload_n C.x C.b dX8_softStep_33 rfl (lv_at hl 1 rfl) ?_
          obtain ⟨g8, hf⟩ := gd_e hf
          refine r_getr C hR t_r0 fl_X8_22 (by decide) (nz_e g8) dX8_softStep_34 (fun tq9 => ?_)
          have tg8 := okA tq9 rfl
          refine lv_iload_n C.x C.b dX8_softStep_37 rfl (lv_at hl 3 rfl) ?_
          obtain ⟨g10, hf⟩ := gd_e hf
          refine r_iald C hR tg8 g10 dX8_softStep_38 ?_
          refine lv_aload_n C.x C.b dX8_softStep_39 rfl (lv_at hl 1 rfl) ?_
          refine r_getr C hR t_r0 fl_X8_25 (by decide) (nz_e g5) dX8_softStep_40 (fun tq11 => ?_)
          refine lv_iload C.x C.b dX8_softStep_43 (lv_at hl 0 rfl) ?_
          obtain ⟨g12, hf⟩ := gd_e hf
          refine r_iald C hR tg5 g12 dX8_softStep_45 ?_
          refine lv_iadd C.x C.b dX8_softStep_46 ?_
          refine lv_icmp_ne (tgt := 53) C.x C.b dX8_softStep_47 (by decide) (fun c13 => ?_) (fun c13 => ?_)
          · have hf := it_f hf c13
            exact w_X8_softStep_53 C hr hlk hk2 _ _ _ _ hf hR hS t_r0 t_r1 (lv_sub hl [1, 2, 3, 4] rfl)
          · have hf := it_t hf c13
            refine lv_iload C.x C.b dX8_softStep_50 (lv_at hl 0 rfl) ?_
            have hf := so_e hf
            subst hf
            exact r_iret C hr hlk hR Ext.rf hS dX8_softStep_52
set_option maxRecDepth 100000 in
set_option maxHeartbeats 4000000 in
theorem k_X8_softStep {G : Gt} {l : Launch}  {h : Hp} {r0 : Nat} {r1 : Nat} {x2 : Int32} {out : Int32} (t_r0 : hpT h r0 = (1, 8)) (t_r1 : hpT h r1 = (1, 0))  (hf : f_X8_softStep  h r0 r1 x2 = some out) : Mt G l yX8_softStep cX8_softStep 5 (some .int) rm_X8_softStep [.ref (G.2.2 + r0), .ref (G.2.2 + r1), .int x2] h (some (.int out)) h 0 0 0 := by
  refine r_met (by decide +kernel) (Nat.le_of_ble_eq_true rfl) ?_
  intro p e s m args below meth c ls C hr hlk hnm hR hS hl
  have hl : lv_has ls 5 [(0, .ref (G.2.2 + r0)), (1, .ref (G.2.2 + r1)), (2, .int x2)] := hl
  rw [f_X8_softStep] at hf
  refine lv_iconst (v := (0 : Int32)) C.x C.b dX8_softStep_0 (by decide) ?_
  refine lv_istore_n (lv' := [(3, .int (0 : Int32)), (0, .ref (G.2.2 + r0)), (1, .ref (G.2.2 + r1)), (2, .int x2)]) C.x C.b dX8_softStep_1 rfl hl (by decide) rfl (fun ls hl => ?_)
  exact w_X8_softStep_2 C hr hlk FU _ _ _ _ hf hR hS t_r0 t_r1 (lv_sub hl [1, 2, 3, 0] rfl)

def rm_X8_softest : Room := { frames := 5, cells := 0, slots := 0, locals := 109 }
def P_X8_softest_175 (G : Gt) (l : Launch) (p : Program) (e : Env) (s : State) (m : MethodId) (args : Array Value) (below : List Frame) (meth : Method) (c : Code) (h0 : Hp) (out : (Int32 × Hp)) (r0 : Nat) (r1 : Nat) (x2 : Int32) (x3 : Int32) (r4 : Nat) (k : Hp → Option (Int32 × Hp)) : Prop := ∀ (H : Heap) (locs : List Loc) (ls : Array Slot) (h : Hp), k h = some out → Ext h0 h → Rel G h H → va_S (AA G.2.2) s.heap H locs → hpT h r0 = (1, 8) → hpT h r1 = (1, 0) → hpT h r4 = (1, 7) → lv_has ls 9 [(0, .ref (G.2.2 + r0)), (1, .ref (G.2.2 + r1)), (2, .int x2), (3, .int x3), (4, .ref (G.2.2 + r4))] → W p l e rm_X8_softest s m args below meth c H locs 0 0 (MQ below (Qm G h0 out.2 (some (.int out.1)) 0) args s 0 0 (AA G.2.2)) (F0 m 175 ls [])
def P_X8_softest_139 (G : Gt) (l : Launch) (p : Program) (e : Env) (s : State) (m : MethodId) (args : Array Value) (below : List Frame) (meth : Method) (c : Code) (h0 : Hp) (out : (Int32 × Hp)) (r0 : Nat) (r1 : Nat) (x2 : Int32) (x3 : Int32) (r4 : Nat) (k : Hp → Int32 → Int32 → Int32 → Option (Int32 × Hp)) : Prop := ∀ (H : Heap) (locs : List Loc) (ls : Array Slot) (h : Hp) (x5 : Int32) (x7 : Int32) (x8 : Int32), k h x5 x7 x8 = some out → Ext h0 h → Rel G h H → va_S (AA G.2.2) s.heap H locs → hpT h r0 = (1, 8) → hpT h r1 = (1, 0) → hpT h r4 = (1, 7) → lv_has ls 9 [(0, .ref (G.2.2 + r0)), (1, .ref (G.2.2 + r1)), (2, .int x2), (3, .int x3), (4, .ref (G.2.2 + r4)), (5, .int x5), (7, .int x7), (8, .int x8)] → W p l e rm_X8_softest s m args below meth c H locs 0 0 (MQ below (Qm G h0 out.2 (some (.int out.1)) 0) args s 0 0 (AA G.2.2)) (F0 m 139 ls [])
def P_X8_softest_121 (G : Gt) (l : Launch) (p : Program) (e : Env) (s : State) (m : MethodId) (args : Array Value) (below : List Frame) (meth : Method) (c : Code) (h0 : Hp) (out : (Int32 × Hp)) (r0 : Nat) (r1 : Nat) (x2 : Int32) (x3 : Int32) (r4 : Nat) (k : Hp → Int32 → Option (Int32 × Hp)) : Prop := ∀ (H : Heap) (locs : List Loc) (ls : Array Slot) (h : Hp) (x5 : Int32), k h x5 = some out → Ext h0 h → Rel G h H → va_S (AA G.2.2) s.heap H locs → hpT h r0 = (1, 8) → hpT h r1 = (1, 0) → hpT h r4 = (1, 7) → lv_has ls 9 [(0, .ref (G.2.2 + r0)), (1, .ref (G.2.2 + r1)), (2, .int x2), (3, .int x3), (4, .ref (G.2.2 + r4)), (5, .int x5)] → W p l e rm_X8_softest s m args below meth c H locs 0 0 (MQ below (Qm G h0 out.2 (some (.int out.1)) 0) args s 0 0 (AA G.2.2)) (F0 m 121 ls [])
def P_X8_softest_94 (G : Gt) (l : Launch) (p : Program) (e : Env) (s : State) (m : MethodId) (args : Array Value) (below : List Frame) (meth : Method) (c : Code) (h0 : Hp) (out : (Int32 × Hp)) (r0 : Nat) (r1 : Nat) (x2 : Int32) (x3 : Int32) (r4 : Nat) (k : Hp → Int32 → Int32 → Int32 → Option (Int32 × Hp)) : Prop := ∀ (H : Heap) (locs : List Loc) (ls : Array Slot) (h : Hp) (x5 : Int32) (x6 : Int32) (x7 : Int32), k h x5 x6 x7 = some out → Ext h0 h → Rel G h H → va_S (AA G.2.2) s.heap H locs → hpT h r0 = (1, 8) → hpT h r1 = (1, 0) → hpT h r4 = (1, 7) → narrow .boolean (.int x6) = .int x6 → lv_has ls 9 [(0, .ref (G.2.2 + r0)), (1, .ref (G.2.2 + r1)), (2, .int x2), (3, .int x3), (4, .ref (G.2.2 + r4)), (5, .int x5), (6, .int x6), (7, .int x7)] → W p l e rm_X8_softest s m args below meth c H locs 0 0 (MQ below (Qm G h0 out.2 (some (.int out.1)) 0) args s 0 0 (AA G.2.2)) (F0 m 94 ls [])
def P_X8_softest_36 (G : Gt) (l : Launch) (p : Program) (e : Env) (s : State) (m : MethodId) (args : Array Value) (below : List Frame) (meth : Method) (c : Code) (h0 : Hp) (out : (Int32 × Hp)) (r0 : Nat) (r1 : Nat) (x2 : Int32) (x3 : Int32) (r4 : Nat) (k : Hp → Int32 → Int32 → Option (Int32 × Hp)) : Prop := ∀ (H : Heap) (locs : List Loc) (ls : Array Slot) (h : Hp) (x5 : Int32) (x6 : Int32), k h x5 x6 = some out → Ext h0 h → Rel G h H → va_S (AA G.2.2) s.heap H locs → hpT h r0 = (1, 8) → hpT h r1 = (1, 0) → hpT h r4 = (1, 7) → lv_has ls 9 [(0, .ref (G.2.2 + r0)), (1, .ref (G.2.2 + r1)), (2, .int x2), (3, .int x3), (4, .ref (G.2.2 + r4)), (5, .int x5), (6, .int x6)] → W p l e rm_X8_softest s m args below meth c H locs 0 0 (MQ below (Qm G h0 out.2 (some (.int out.1)) 0) args s 0 0 (AA G.2.2)) (F0 m 36 ls [])
set_option maxRecDepth 100000 in
set_option maxHeartbeats 4000000 in
theorem w_X8_softest_175 {G : Gt} {l : Launch} {p : Program} {e : Env} {s : State} {m : MethodId} {args : Array Value} {below : List Frame} {meth : Method} {c : Code}  {h0 : Hp} {out : (Int32 × Hp)} {r0 : Nat} {r1 : Nat} {x2 : Int32} {x3 : Int32} {r4 : Nat}  (C : Cx G p m c cX8_softest 9 s args RX8) (hr : meth.sig.returnType = some .int) (hlk : meth.locks = false)   : P_X8_softest_175 G l p e s m args below meth c h0 out r0 r1 x2 x3 r4 (f_X8_softest_175 r0 r1 x2 x3 r4) := by
  intro H locs ls h hf hE hR hS t_r0 t_r1 t_r4 hl
  rw [f_X8_softest_175] at hf
  refine lv_aload_n C.x C.b dX8_softest_175 rfl (lv_at hl 0 rfl) ?_
  obtain ⟨g36, hf⟩ := gd_e hf
  refine r_getr C hR t_r0 fl_X8_25 (by decide) (nz_e g36) dX8_softest_176 (fun tq37 => ?_)
  have tg36 := okA tq37 rfl
  refine lv_iload_n C.x C.b dX8_softest_179 rfl (lv_at hl 2 rfl) ?_
  obtain ⟨g38, hf⟩ := gd_e hf
  refine r_iald C hR tg36 g38 dX8_softest_180 ?_
  refine lv_bipush (v := (64 : Int32)) C.x C.b dX8_softest_181 (by decide) ?_
  refine lv_idiv C.x C.b dX8_softest_183 (by decide) ?_
  have hf := so_e hf
  subst hf
  exact r_iret C hr hlk hR hE hS dX8_softest_184
set_option maxRecDepth 100000 in
set_option maxHeartbeats 4000000 in
theorem w_X8_softest_139 {G : Gt} {l : Launch} {p : Program} {e : Env} {s : State} {m : MethodId} {args : Array Value} {below : List Frame} {meth : Method} {c : Code}  {h0 : Hp} {out : (Int32 × Hp)} {r0 : Nat} {r1 : Nat} {x2 : Int32} {x3 : Int32} {r4 : Nat}  (C : Cx G p m c cX8_softest 9 s args RX8) (hr : meth.sig.returnType = some .int) (hlk : meth.locks = false)   (n : Nat) : P_X8_softest_139 G l p e s m args below meth c h0 out r0 r1 x2 x3 r4 (f_X8_softest_139 r0 r1 x2 x3 r4 n) := by
  induction n with
  | zero => intro H locs ls h x5 x7 x8 hf hE hR hS t_r0 t_r1 t_r4 hl; cases hf
  | succ n hk139 =>
    intro H locs ls h x5 x7 x8 hf hE hR hS t_r0 t_r1 t_r4 hl
    rw [f_X8_softest_139] at hf
    obtain ⟨k139, e_k139⟩ : ∃ y, y = f_X8_softest_139 r0 r1 x2 x3 r4 n := ⟨_, rfl⟩
    have hf := lt_e hf e_k139
    rw [← e_k139] at hk139
    refine lv_iload C.x C.b dX8_softest_139 (lv_at hl 7 rfl) ?_
    refine lv_iload C.x C.b dX8_softest_141 (lv_at hl 5 rfl) ?_
    refine lv_icmp_ge (tgt := 175) C.x C.b dX8_softest_143 (by decide) (fun c31 => ?_) (fun c31 => ?_)
    · have hf := it_t hf c31
      exact w_X8_softest_175 C hr hlk _ _ _ _ hf hE hR hS t_r0 t_r1 t_r4 (lv_sub hl [0, 1, 2, 3, 4] rfl)
    · have hf := it_f hf c31
      refine lv_iload C.x C.b dX8_softest_146 (lv_at hl 6 rfl) ?_
      refine lv_iload_n C.x C.b dX8_softest_148 rfl (lv_at hl 3 rfl) ?_
      refine lv_icmp_eq (tgt := 175) C.x C.b dX8_softest_149 (by decide) (fun c32 => ?_) (fun c32 => ?_)
      · have hf := it_t hf c32
        exact w_X8_softest_175 C hr hlk _ _ _ _ hf hE hR hS t_r0 t_r1 t_r4 (lv_sub hl [0, 1, 2, 3, 4] rfl)
      · have hf := it_f hf c32
        refine lv_aload_n C.x C.b dX8_softest_152 rfl (lv_at hl 0 rfl) ?_
        refine lv_aload_n C.x C.b dX8_softest_153 rfl (lv_at hl 1 rfl) ?_
        refine lv_iload C.x C.b dX8_softest_154 (lv_at hl 6 rfl) ?_
        obtain ⟨q33, h_q33, hf⟩ := bd_e hf
        refine r_callV (As := [.ref (G.2.2 + r1), .int x7]) (rest := []) C hR hS t_r0 rfl mk_X8_softStep cl_X8_85 (k_X8_softStep t_r0 t_r1 h_q33) ⟨⟨Nat.le_of_ble_eq_true rfl, Nat.le_of_ble_eq_true rfl⟩, ⟨rfl, rfl⟩, Nat.le_of_ble_eq_true rfl, Nat.le_of_ble_eq_true rfl⟩ rfl hl.1 rfl (Nat.le_of_ble_eq_true rfl) dX8_softest_156 (fun H locs hR hS hE1 z_q33 => ?_)
        refine lv_istore (lv' := [(7, .int q33), (0, .ref (G.2.2 + r0)), (1, .ref (G.2.2 + r1)), (2, .int x2), (3, .int x3), (4, .ref (G.2.2 + r4)), (5, .int x5), (8, .int x8)]) C.x C.b dX8_softest_159 hl (by decide) rfl (fun ls hl => ?_)
        refine lv_aload C.x C.b dX8_softest_161 (lv_at hl 5 rfl) ?_
        refine lv_iload C.x C.b dX8_softest_163 (lv_at hl 0 rfl) ?_
        refine lv_i2l C.x C.b dX8_softest_165 rfl ?_
        obtain ⟨q34, h_q34, hf⟩ := bd_e hf
        refine r_callV (As := [.long (q33.toInt64)]) (rest := []) C hR hS t_r4 rfl mk_X7_add cl_X8_61 (k_X7_add t_r4 h_q34) ⟨⟨Nat.le_of_ble_eq_true rfl, Nat.le_of_ble_eq_true rfl⟩, ⟨rfl, rfl⟩, Nat.le_of_ble_eq_true rfl, Nat.le_of_ble_eq_true rfl⟩ rfl hl.1 rfl (Nat.le_of_ble_eq_true rfl) dX8_softest_166 (fun H locs hR hS hE1 z_q34 => ?_)
        have hE := hE.tr hE1
        have t_r0 := hE1.at t_r0 (by decide)
        have t_r1 := hE1.at t_r1 (by decide)
        have t_r4 := hE1.at t_r4 (by decide)
        obtain ⟨v35, e_v35⟩ : ∃ y : Int32, y = x8 + (1 : Int32) := ⟨_, rfl⟩
        have hf := lt_e hf e_v35
        refine lv_iinc (v := v35) (lv' := [(8, .int v35), (7, .int q33), (0, .ref (G.2.2 + r0)), (1, .ref (G.2.2 + r1)), (2, .int x2), (3, .int x3), (4, .ref (G.2.2 + r4)), (5, .int x5)]) C.x C.b dX8_softest_169 hl (k := 7) rfl (by rw [e_v35]; rfl) (by decide) rfl (fun ls hl => ?_)
        refine lv_goto (tgt := 139) C.x C.b dX8_softest_172 (by decide) ?_
        exact hk139 _ _ _ _ _ _ _ hf hE hR hS t_r0 t_r1 t_r4 (lv_sub hl [2, 3, 4, 5, 6, 7, 1, 0] rfl)
set_option maxRecDepth 100000 in
set_option maxHeartbeats 4000000 in
theorem w_X8_softest_121 {G : Gt} {l : Launch} {p : Program} {e : Env} {s : State} {m : MethodId} {args : Array Value} {below : List Frame} {meth : Method} {c : Code}  {h0 : Hp} {out : (Int32 × Hp)} {r0 : Nat} {r1 : Nat} {x2 : Int32} {x3 : Int32} {r4 : Nat}  (C : Cx G p m c cX8_softest 9 s args RX8) (hr : meth.sig.returnType = some .int) (hlk : meth.locks = false)   : P_X8_softest_121 G l p e s m args below meth c h0 out r0 r1 x2 x3 r4 (f_X8_softest_121 r0 r1 x2 x3 r4) := by
  intro H locs ls h x5 hf hE hR hS t_r0 t_r1 t_r4 hl
  rw [f_X8_softest_121] at hf
  refine lv_aload C.x C.b dX8_softest_121 (lv_at hl 4 rfl) ?_
  obtain ⟨q29, h_q29, hf⟩ := bd_e hf
  refine r_callV (As := []) (rest := []) C hR hS t_r4 rfl mk_X7_start cl_X8_56 (k_X7_start t_r4 h_q29) ⟨⟨Nat.le_of_ble_eq_true rfl, Nat.le_of_ble_eq_true rfl⟩, ⟨rfl, rfl⟩, Nat.le_of_ble_eq_true rfl, Nat.le_of_ble_eq_true rfl⟩ rfl hl.1 rfl (Nat.le_of_ble_eq_true rfl) dX8_softest_123 (fun H locs hR hS hE1 z_q29 => ?_)
  have hE := hE.tr hE1
  have t_r0 := hE1.at t_r0 (by decide)
  have t_r1 := hE1.at t_r1 (by decide)
  have t_r4 := hE1.at t_r4 (by decide)
  refine lv_aload C.x C.b dX8_softest_126 (lv_at hl 4 rfl) ?_
  refine lv_iload_n C.x C.b dX8_softest_128 rfl (lv_at hl 2 rfl) ?_
  refine lv_i2l C.x C.b dX8_softest_129 rfl ?_
  obtain ⟨q30, h_q30, hf⟩ := bd_e hf
  refine r_callV (As := [.long (x2.toInt64)]) (rest := []) C hR hS t_r4 rfl mk_X7_add cl_X8_61 (k_X7_add t_r4 h_q30) ⟨⟨Nat.le_of_ble_eq_true rfl, Nat.le_of_ble_eq_true rfl⟩, ⟨rfl, rfl⟩, Nat.le_of_ble_eq_true rfl, Nat.le_of_ble_eq_true rfl⟩ rfl hl.1 rfl (Nat.le_of_ble_eq_true rfl) dX8_softest_130 (fun H locs hR hS hE1 z_q30 => ?_)
  have hE := hE.tr hE1
  have t_r0 := hE1.at t_r0 (by decide)
  have t_r1 := hE1.at t_r1 (by decide)
  have t_r4 := hE1.at t_r4 (by decide)
  refine lv_iload_n C.x C.b dX8_softest_133 rfl (lv_at hl 2 rfl) ?_
  refine lv_istore (lv' := [(7, .int x2), (0, .ref (G.2.2 + r0)), (1, .ref (G.2.2 + r1)), (2, .int x2), (3, .int x3), (4, .ref (G.2.2 + r4)), (5, .int x5)]) C.x C.b dX8_softest_134 hl (by decide) rfl (fun ls hl => ?_)
  refine lv_iconst (v := (0 : Int32)) C.x C.b dX8_softest_136 (by decide) ?_
  refine lv_istore (lv' := [(8, .int (0 : Int32)), (7, .int x2), (0, .ref (G.2.2 + r0)), (1, .ref (G.2.2 + r1)), (2, .int x2), (3, .int x3), (4, .ref (G.2.2 + r4)), (5, .int x5)]) C.x C.b dX8_softest_137 hl (by decide) rfl (fun ls hl => ?_)
  exact w_X8_softest_139 C hr hlk FU _ _ _ _ _ _ _ hf hE hR hS t_r0 t_r1 t_r4 (lv_sub hl [2, 3, 4, 5, 6, 7, 1, 0] rfl)
set_option maxRecDepth 100000 in
set_option maxHeartbeats 4000000 in
theorem w_X8_softest_94 {G : Gt} {l : Launch} {p : Program} {e : Env} {s : State} {m : MethodId} {args : Array Value} {below : List Frame} {meth : Method} {c : Code}  {h0 : Hp} {out : (Int32 × Hp)} {r0 : Nat} {r1 : Nat} {x2 : Int32} {x3 : Int32} {r4 : Nat}  (C : Cx G p m c cX8_softest 9 s args RX8) (hr : meth.sig.returnType = some .int) (hlk : meth.locks = false)   (n : Nat) : P_X8_softest_94 G l p e s m args below meth c h0 out r0 r1 x2 x3 r4 (f_X8_softest_94 r0 r1 x2 x3 r4 n) := by
  induction n with
  | zero => intro H locs ls h x5 x6 x7 hf hE hR hS t_r0 t_r1 t_r4 z_x6 hl; cases hf
  | succ n hk94 =>
    intro H locs ls h x5 x6 x7 hf hE hR hS t_r0 t_r1 t_r4 z_x6 hl
    rw [f_X8_softest_94] at hf
    obtain ⟨k94, e_k94⟩ : ∃ y, y = f_X8_softest_94 r0 r1 x2 x3 r4 n := ⟨_, rfl⟩
    have hf := lt_e hf e_k94
    rw [← e_k94] at hk94
    refine lv_iload C.x C.b dX8_softest_94 (lv_at hl 7 rfl) ?_
    refine lv_iload C.x C.b dX8_softest_96 (lv_at hl 5 rfl) ?_
    refine lv_icmp_ge (tgt := 121) C.x C.b dX8_softest_98 (by decide) (fun c25 => ?_) (fun c25 => ?_)
    · have hf := it_t hf c25
      exact w_X8_softest_121 C hr hlk _ _ _ _ _ hf hE hR hS t_r0 t_r1 t_r4 (lv_sub hl [0, 1, 2, 3, 4, 5] rfl)
    · have hf := it_f hf c25
      refine lv_iload C.x C.b dX8_softest_101 (lv_at hl 6 rfl) ?_
      refine lv_if_eq (tgt := 121) C.x C.b dX8_softest_103 (by decide) (fun c26 => ?_) (fun c26 => ?_)
      · have hf := it_t hf c26
        exact w_X8_softest_121 C hr hlk _ _ _ _ _ hf hE hR hS t_r0 t_r1 t_r4 (lv_sub hl [0, 1, 2, 3, 4, 5] rfl)
      · have hf := it_f hf c26
        refine lv_aload_n C.x C.b dX8_softest_106 rfl (lv_at hl 0 rfl) ?_
        refine lv_aload_n C.x C.b dX8_softest_107 rfl (lv_at hl 1 rfl) ?_
        refine lv_iload C.x C.b dX8_softest_108 (lv_at hl 5 rfl) ?_
        obtain ⟨q27, h_q27, hf⟩ := bd_e hf
        refine r_callV (As := [.ref (G.2.2 + r1), .int x5]) (rest := []) C hR hS t_r0 rfl mk_X8_improve cl_X8_81 (k_X8_improve t_r0 t_r1 h_q27) ⟨⟨Nat.le_of_ble_eq_true rfl, Nat.le_of_ble_eq_true rfl⟩, ⟨rfl, rfl⟩, Nat.le_of_ble_eq_true rfl, Nat.le_of_ble_eq_true rfl⟩ rfl hl.1 rfl (Nat.le_of_ble_eq_true rfl) dX8_softest_110 (fun H locs hR hS hE1 z_q27 => ?_)
        have hE := hE.tr hE1
        have t_r0 := hE1.at t_r0 (by decide)
        have t_r1 := hE1.at t_r1 (by decide)
        have t_r4 := hE1.at t_r4 (by decide)
        have z_q27 := z_q27 _ rfl
        refine lv_istore (lv' := [(6, .int q27.1), (0, .ref (G.2.2 + r0)), (1, .ref (G.2.2 + r1)), (2, .int x2), (3, .int x3), (4, .ref (G.2.2 + r4)), (5, .int x5), (7, .int x7)]) C.x C.b dX8_softest_113 hl (by decide) rfl (fun ls hl => ?_)
        obtain ⟨v28, e_v28⟩ : ∃ y : Int32, y = x7 + (1 : Int32) := ⟨_, rfl⟩
        have hf := lt_e hf e_v28
        refine lv_iinc (v := v28) (lv' := [(7, .int v28), (6, .int q27.1), (0, .ref (G.2.2 + r0)), (1, .ref (G.2.2 + r1)), (2, .int x2), (3, .int x3), (4, .ref (G.2.2 + r4)), (5, .int x5)]) C.x C.b dX8_softest_115 hl (k := 7) rfl (by rw [e_v28]; rfl) (by decide) rfl (fun ls hl => ?_)
        refine lv_goto (tgt := 94) C.x C.b dX8_softest_118 (by decide) ?_
        exact hk94 _ _ _ _ _ _ _ hf hE hR hS t_r0 t_r1 t_r4 z_q27 (lv_sub hl [2, 3, 4, 5, 6, 7, 1, 0] rfl)
set_option maxRecDepth 100000 in
set_option maxHeartbeats 4000000 in
theorem w_X8_softest_36 {G : Gt} {l : Launch} {p : Program} {e : Env} {s : State} {m : MethodId} {args : Array Value} {below : List Frame} {meth : Method} {c : Code}  {h0 : Hp} {out : (Int32 × Hp)} {r0 : Nat} {r1 : Nat} {x2 : Int32} {x3 : Int32} {r4 : Nat}  (C : Cx G p m c cX8_softest 9 s args RX8) (hr : meth.sig.returnType = some .int) (hlk : meth.locks = false)   (n : Nat) : P_X8_softest_36 G l p e s m args below meth c h0 out r0 r1 x2 x3 r4 (f_X8_softest_36 r0 r1 x2 x3 r4 n) := by
  induction n with
  | zero => intro H locs ls h x5 x6 hf hE hR hS t_r0 t_r1 t_r4 hl; cases hf
  | succ n hk36 =>
    intro H locs ls h x5 x6 hf hE hR hS t_r0 t_r1 t_r4 hl
    rw [f_X8_softest_36] at hf
    obtain ⟨k36, e_k36⟩ : ∃ y, y = f_X8_softest_36 r0 r1 x2 x3 r4 n := ⟨_, rfl⟩
    have hf := lt_e hf e_k36
    rw [← e_k36] at hk36
    refine lv_iload C.x C.b dX8_softest_36 (lv_at hl 6 rfl) ?_
    refine lv_iload C.x C.b dX8_softest_38 (lv_at hl 5 rfl) ?_
    refine lv_icmp_ge (tgt := 76) C.x C.b dX8_softest_40 (by decide) (fun c7 => ?_) (fun c7 => ?_)
    · have hf := it_t hf c7
      refine lv_aload_n C.x C.b dX8_softest_76 rfl (lv_at hl 0 rfl) ?_
      obtain ⟨g8, hf⟩ := gd_e hf
      refine r_getr C hR t_r0 fl_X8_25 (by decide) (nz_e g8) dX8_softest_77 (fun tq9 => ?_)
      have tg8 := okA tq9 rfl
      refine lv_iload_n C.x C.b dX8_softest_80 rfl (lv_at hl 3 rfl) ?_
      refine lv_aload_n C.x C.b dX8_softest_81 rfl (lv_at hl 0 rfl) ?_
      obtain ⟨g10, hf⟩ := gd_e hf
      refine r_getr C hR t_r0 fl_X8_22 (by decide) (nz_e g10) dX8_softest_82 (fun tq11 => ?_)
      have tg10 := okA tq11 rfl
      refine lv_iload_n C.x C.b dX8_softest_85 rfl (lv_at hl 3 rfl) ?_
      obtain ⟨g12, hf⟩ := gd_e hf
      refine r_iald C hR tg10 g12 dX8_softest_86 ?_
      obtain ⟨g13, hf⟩ := gd_e hf
      refine r_iast C hR hS tg8 g13 dX8_softest_87 (fun H locs hR hS => ?_)
      obtain ⟨h14, e_h14⟩ : ∃ y, y = upI h (hpR h r0 4) (ix x3) (hpI h (hpR h r0 3) (ix x3)) := ⟨_, rfl⟩
      rw [← e_h14] at hR
      have hf := lt_e hf e_h14
      have hE := eI e_h14 hE
      have t_r0 := tI e_h14 t_r0
      have t_r1 := tI e_h14 t_r1
      have t_r4 := tI e_h14 t_r4
      refine lv_iconst (v := (1 : Int32)) C.x C.b dX8_softest_88 (by decide) ?_
      refine lv_istore (lv' := [(6, .int (1 : Int32)), (0, .ref (G.2.2 + r0)), (1, .ref (G.2.2 + r1)), (2, .int x2), (3, .int x3), (4, .ref (G.2.2 + r4)), (5, .int x5)]) C.x C.b dX8_softest_89 hl (by decide) rfl (fun ls hl => ?_)
      refine lv_iconst (v := (0 : Int32)) C.x C.b dX8_softest_91 (by decide) ?_
      refine lv_istore (lv' := [(7, .int (0 : Int32)), (6, .int (1 : Int32)), (0, .ref (G.2.2 + r0)), (1, .ref (G.2.2 + r1)), (2, .int x2), (3, .int x3), (4, .ref (G.2.2 + r4)), (5, .int x5)]) C.x C.b dX8_softest_92 hl (by decide) rfl (fun ls hl => ?_)
      exact w_X8_softest_94 C hr hlk FU _ _ _ _ _ _ _ hf hE hR hS t_r0 t_r1 t_r4 z_1 (lv_sub hl [2, 3, 4, 5, 6, 7, 1, 0] rfl)
    · have hf := it_f hf c7
      refine lv_aload_n C.x C.b dX8_softest_43 rfl (lv_at hl 0 rfl) ?_
      obtain ⟨g15, hf⟩ := gd_e hf
      refine r_getr C hR t_r0 fl_X8_22 (by decide) (nz_e g15) dX8_softest_44 (fun tq16 => ?_)
      have tg15 := okA tq16 rfl
      refine lv_iload C.x C.b dX8_softest_47 (lv_at hl 6 rfl) ?_
      refine lv_aload_n C.x C.b dX8_softest_49 rfl (lv_at hl 1 rfl) ?_
      refine lv_iload C.x C.b dX8_softest_50 (lv_at hl 6 rfl) ?_
      obtain ⟨q17, h_q17, hf⟩ := bd_e hf
      refine r_callV (As := [.int x6]) (rest := [.int x6, .ref (G.2.2 + (hpR h r0 3))]) C hR hS t_r1 rfl mk_X0_strengthOver cl_X8_77 (k_X0_strengthOver t_r1 h_q17) ⟨⟨Nat.le_of_ble_eq_true rfl, Nat.le_of_ble_eq_true rfl⟩, ⟨rfl, rfl⟩, Nat.le_of_ble_eq_true rfl, Nat.le_of_ble_eq_true rfl⟩ rfl hl.1 rfl (Nat.le_of_ble_eq_true rfl) dX8_softest_52 (fun H locs hR hS hE1 z_q17 => ?_)
      refine lv_bipush (v := (64 : Int32)) C.x C.b dX8_softest_55 (by decide) ?_
      refine lv_imul C.x C.b dX8_softest_57 ?_
      refine lv_iconst (v := (1 : Int32)) C.x C.b dX8_softest_58 (by decide) ?_
      refine lv_iadd C.x C.b dX8_softest_59 ?_
      obtain ⟨g18, hf⟩ := gd_e hf
      refine r_iast C hR hS tg15 g18 dX8_softest_60 (fun H locs hR hS => ?_)
      obtain ⟨h19, e_h19⟩ : ∃ y, y = upI h (hpR h r0 3) (ix x6) ((q17 * (64 : Int32)) + (1 : Int32)) := ⟨_, rfl⟩
      rw [← e_h19] at hR
      have hf := lt_e hf e_h19
      have hE := eI e_h19 hE
      have t_r0 := tI e_h19 t_r0
      have t_r1 := tI e_h19 t_r1
      have t_r4 := tI e_h19 t_r4
      refine lv_aload_n C.x C.b dX8_softest_61 rfl (lv_at hl 0 rfl) ?_
      obtain ⟨g20, hf⟩ := gd_e hf
      refine r_getr C hR t_r0 fl_X8_25 (by decide) (nz_e g20) dX8_softest_62 (fun tq21 => ?_)
      have tg20 := okA tq21 rfl
      refine lv_iload C.x C.b dX8_softest_65 (lv_at hl 6 rfl) ?_
      refine lv_ldc C.x C.b C.ow (C.ts _ lk_X8_80) dX8_softest_67 ?_
      obtain ⟨g22, hf⟩ := gd_e hf
      refine r_iast C hR hS tg20 g22 dX8_softest_69 (fun H locs hR hS => ?_)
      obtain ⟨h23, e_h23⟩ : ∃ y, y = upI h19 (hpR h19 r0 4) (ix x6) (268435456 : Int32) := ⟨_, rfl⟩
      rw [← e_h23] at hR
      have hf := lt_e hf e_h23
      have hE := eI e_h23 hE
      have t_r0 := tI e_h23 t_r0
      have t_r1 := tI e_h23 t_r1
      have t_r4 := tI e_h23 t_r4
      obtain ⟨v24, e_v24⟩ : ∃ y : Int32, y = x6 + (1 : Int32) := ⟨_, rfl⟩
      have hf := lt_e hf e_v24
      refine lv_iinc (v := v24) (lv' := [(6, .int v24), (0, .ref (G.2.2 + r0)), (1, .ref (G.2.2 + r1)), (2, .int x2), (3, .int x3), (4, .ref (G.2.2 + r4)), (5, .int x5)]) C.x C.b dX8_softest_70 hl (k := 6) rfl (by rw [e_v24]; rfl) (by decide) rfl (fun ls hl => ?_)
      refine lv_goto (tgt := 36) C.x C.b dX8_softest_73 (by decide) ?_
      exact hk36 _ _ _ _ _ _ hf hE hR hS t_r0 t_r1 t_r4 (lv_sub hl [1, 2, 3, 4, 5, 6, 0] rfl)
set_option maxRecDepth 100000 in
set_option maxHeartbeats 4000000 in
theorem k_X8_softest {G : Gt} {l : Launch}  {h : Hp} {r0 : Nat} {r1 : Nat} {x2 : Int32} {x3 : Int32} {r4 : Nat} {out : (Int32 × Hp)} (t_r0 : hpT h r0 = (1, 8)) (t_r1 : hpT h r1 = (1, 0)) (t_r4 : hpT h r4 = (1, 7))  (hf : f_X8_softest  h r0 r1 x2 x3 r4 = some out) : Mt G l yX8_softest cX8_softest 9 (some .int) rm_X8_softest [.ref (G.2.2 + r0), .ref (G.2.2 + r1), .int x2, .int x3, .ref (G.2.2 + r4)] h (some (.int out.1)) out.2 0 0 0 := by
  refine r_met (by decide +kernel) (Nat.le_of_ble_eq_true rfl) ?_
  intro p e s m args below meth c ls C hr hlk hnm hR hS hl
  have hE : Ext h h := Ext.rf
  have hl : lv_has ls 9 [(0, .ref (G.2.2 + r0)), (1, .ref (G.2.2 + r1)), (2, .int x2), (3, .int x3), (4, .ref (G.2.2 + r4))] := hl
  rw [f_X8_softest] at hf
  refine lv_iload_n C.x C.b dX8_softest_0 rfl (lv_at hl 2 rfl) ?_
  refine lv_if_lt (tgt := 20) C.x C.b dX8_softest_1 (by decide) (fun c1 => ?_) (fun c1 => ?_)
  · have hf := it_t hf c1
    refine lv_iconst (v := (-1 : Int32)) C.x C.b dX8_softest_20 (by decide) ?_
    have hf := so_e hf
    subst hf
    exact r_iret C hr hlk hR hE hS dX8_softest_21
  · have hf := it_f hf c1
    refine lv_iload_n C.x C.b dX8_softest_4 rfl (lv_at hl 2 rfl) ?_
    refine lv_bipush (v := (36 : Int32)) C.x C.b dX8_softest_5 (by decide) ?_
    refine lv_icmp_ge (tgt := 20) C.x C.b dX8_softest_7 (by decide) (fun c2 => ?_) (fun c2 => ?_)
    · have hf := it_t hf c2
      refine lv_iconst (v := (-1 : Int32)) C.x C.b dX8_softest_20 (by decide) ?_
      have hf := so_e hf
      subst hf
      exact r_iret C hr hlk hR hE hS dX8_softest_21
    · have hf := it_f hf c2
      refine lv_iload_n C.x C.b dX8_softest_10 rfl (lv_at hl 3 rfl) ?_
      refine lv_if_lt (tgt := 20) C.x C.b dX8_softest_11 (by decide) (fun c3 => ?_) (fun c3 => ?_)
      · have hf := it_t hf c3
        refine lv_iconst (v := (-1 : Int32)) C.x C.b dX8_softest_20 (by decide) ?_
        have hf := so_e hf
        subst hf
        exact r_iret C hr hlk hR hE hS dX8_softest_21
      · have hf := it_f hf c3
        refine lv_iload_n C.x C.b dX8_softest_14 rfl (lv_at hl 3 rfl) ?_
        refine lv_bipush (v := (36 : Int32)) C.x C.b dX8_softest_15 (by decide) ?_
        refine lv_icmp_lt (tgt := 22) C.x C.b dX8_softest_17 (by decide) (fun c4 => ?_) (fun c4 => ?_)
        · have hf := it_t hf c4
          refine lv_aload_n C.x C.b dX8_softest_22 rfl (lv_at hl 1 rfl) ?_
          obtain ⟨q5, h_q5, hf⟩ := bd_e hf
          refine r_callV (As := []) (rest := []) C hR hS t_r1 rfl mk_X0_cells cl_X8_34 (k_X0_cells t_r1 h_q5) ⟨⟨Nat.le_of_ble_eq_true rfl, Nat.le_of_ble_eq_true rfl⟩, ⟨rfl, rfl⟩, Nat.le_of_ble_eq_true rfl, Nat.le_of_ble_eq_true rfl⟩ rfl hl.1 rfl (Nat.le_of_ble_eq_true rfl) dX8_softest_23 (fun H locs hR hS hE1 z_q5 => ?_)
          refine lv_bipush (v := (36 : Int32)) C.x C.b dX8_softest_26 (by decide) ?_
          refine va_mmin C.x C.b (C.ml.trans hl.1.symm) C.ow (C.ts _ lk_X8_72) (C.ts _ lk_Mmin_s) (C.ts _ lk_Math) (C.ts _ lk_Mmin_c) (Nat.le_of_ble_eq_true rfl) (Nat.le_of_ble_eq_true rfl) (Nat.le_of_ble_eq_true rfl) (Nat.le_of_ble_eq_true rfl) dX8_softest_28 ?_
          refine lv_topi (fun v6 e_v6 => ?_)
          have hf := lt_e hf e_v6
          refine lv_istore (lv' := [(5, .int v6), (0, .ref (G.2.2 + r0)), (1, .ref (G.2.2 + r1)), (2, .int x2), (3, .int x3), (4, .ref (G.2.2 + r4))]) C.x C.b dX8_softest_31 hl (by decide) rfl (fun ls hl => ?_)
          refine lv_iconst (v := (0 : Int32)) C.x C.b dX8_softest_33 (by decide) ?_
          refine lv_istore (lv' := [(6, .int (0 : Int32)), (5, .int v6), (0, .ref (G.2.2 + r0)), (1, .ref (G.2.2 + r1)), (2, .int x2), (3, .int x3), (4, .ref (G.2.2 + r4))]) C.x C.b dX8_softest_34 hl (by decide) rfl (fun ls hl => ?_)
          exact w_X8_softest_36 C hr hlk FU _ _ _ _ _ _ hf hE hR hS t_r0 t_r1 t_r4 (lv_sub hl [2, 3, 4, 5, 6, 1, 0] rfl)
        · have hf := it_f hf c4
          refine lv_iconst (v := (-1 : Int32)) C.x C.b dX8_softest_20 (by decide) ?_
          have hf := so_e hf
          subst hf
          exact r_iret C hr hlk hR hE hS dX8_softest_21

def rm_X9_init : Room := { frames := 3, cells := 200, slots := 12049, locals := 62 }
set_option maxRecDepth 100000 in
set_option maxHeartbeats 4000000 in
theorem k_X9_init {G : Gt} {l : Launch}  {h : Hp} {r0 : Nat} {out : Hp} (t_r0 : hpT h r0 = (1, 9))  (hf : f_X9_init  h r0 = some out) : Mt G l yX9_init cX9_init 2 (none) rm_X9_init [.ref (G.2.2 + r0)] h (none) out 0 200 12049 := by
  refine r_met (by decide +kernel) (Nat.le_of_ble_eq_true rfl) ?_
  intro p e s m args below meth c ls C hr hlk hnm hR hS hl
  have hE : Ext h h := Ext.rf
  have hl : lv_has ls 2 [(0, .ref (G.2.2 + r0))] := hl
  rw [f_X9_init] at hf
  refine lv_aload_n C.x C.b dX9_init_0 rfl (lv_at hl 0 rfl) ?_
  refine r_objinit C hl.1 lk_X9_1 lk_oi_i lk_oi_c (Nat.le_of_ble_eq_true rfl) (Nat.le_of_ble_eq_true rfl) dX9_init_1 ?_
  refine lv_aload_n C.x C.b dX9_init_4 rfl (lv_at hl 0 rfl) ?_
  refine r_newN C hR hS nl_X9_7 (Nat.le_of_ble_eq_true rfl) (Nat.le_of_ble_eq_true rfl) dX9_init_5 (fun H a1 e_a1 hR hS hE1 t_a1 => ?_)
  have hf := lt_e hf e_a1
  obtain ⟨h2, e_h2⟩ : ∃ y, y = hpNew h (1, 6) := ⟨_, rfl⟩
  rw [← e_h2] at hR hE1 t_a1
  have hf := lt_e hf e_h2
  have hE := hE.tr hE1
  have t_r0 := hE1.at t_r0 (by decide)
  refine lv_dup C.x C.b dX9_init_8 rfl ?_
  obtain ⟨q3, h_q3, hf⟩ := bd_e hf
  refine r_callIN (As := []) (rest := [.ref (G.2.2 + a1), .ref (G.2.2 + r0)]) C hR hS mk_X6_init cn_X9_9 (k_X6_init t_a1 h_q3) ⟨⟨Nat.le_of_ble_eq_true rfl, Nat.le_of_ble_eq_true rfl⟩, ⟨rfl, rfl⟩, Nat.le_of_ble_eq_true rfl, Nat.le_of_ble_eq_true rfl⟩ rfl hl.1 rfl (Nat.le_of_ble_eq_true rfl) dX9_init_9 (fun H locs hR hS hE1 z_q3 => ?_)
  have hE := hE.tr hE1
  have t_r0 := hE1.at t_r0 (by decide)
  have t_a1 := hE1.at t_a1 (by decide)
  refine r_putr C hR hS true (fun _ => hnm) (ne0 hR t_a1) t_r0 (okT_o t_a1 rfl) fl_X9_10 fp_X9_9_0 (by decide) dX9_init_12 (fun H locs hR hS => ?_)
  obtain ⟨h4, e_h4⟩ : ∃ y, y = upR q3 r0 0 a1 := ⟨_, rfl⟩
  rw [← e_h4] at hR
  have hf := lt_e hf e_h4
  have hE := eR e_h4 hE
  have t_r0 := tR e_h4 t_r0
  refine lv_aload_n C.x C.b dX9_init_15 rfl (lv_at hl 0 rfl) ?_
  refine r_newN C hR hS nl_X9_16 (Nat.le_of_ble_eq_true rfl) (Nat.le_of_ble_eq_true rfl) dX9_init_16 (fun H a5 e_a5 hR hS hE1 t_a5 => ?_)
  have hf := lt_e hf e_a5
  obtain ⟨h6, e_h6⟩ : ∃ y, y = hpNew h4 (1, 7) := ⟨_, rfl⟩
  rw [← e_h6] at hR hE1 t_a5
  have hf := lt_e hf e_h6
  have hE := hE.tr hE1
  have t_r0 := hE1.at t_r0 (by decide)
  refine lv_dup C.x C.b dX9_init_19 rfl ?_
  obtain ⟨q7, h_q7, hf⟩ := bd_e hf
  refine r_callIN (As := []) (rest := [.ref (G.2.2 + a5), .ref (G.2.2 + r0)]) C hR hS mk_X7_init cn_X9_18 (k_X7_init t_a5 h_q7) ⟨⟨Nat.le_of_ble_eq_true rfl, Nat.le_of_ble_eq_true rfl⟩, ⟨rfl, rfl⟩, Nat.le_of_ble_eq_true rfl, Nat.le_of_ble_eq_true rfl⟩ rfl hl.1 rfl (Nat.le_of_ble_eq_true rfl) dX9_init_20 (fun H locs hR hS hE1 z_q7 => ?_)
  have hE := hE.tr hE1
  have t_r0 := hE1.at t_r0 (by decide)
  have t_a5 := hE1.at t_a5 (by decide)
  refine r_putr C hR hS true (fun _ => hnm) (ne0 hR t_a5) t_r0 (okT_o t_a5 rfl) fl_X9_19 fp_X9_9_1 (by decide) dX9_init_23 (fun H locs hR hS => ?_)
  obtain ⟨h8, e_h8⟩ : ∃ y, y = upR q7 r0 1 a5 := ⟨_, rfl⟩
  rw [← e_h8] at hR
  have hf := lt_e hf e_h8
  have hE := eR e_h8 hE
  have t_r0 := tR e_h8 t_r0
  refine lv_aload_n C.x C.b dX9_init_26 rfl (lv_at hl 0 rfl) ?_
  refine r_newN C hR hS nl_X9_23 (Nat.le_of_ble_eq_true rfl) (Nat.le_of_ble_eq_true rfl) dX9_init_27 (fun H a9 e_a9 hR hS hE1 t_a9 => ?_)
  have hf := lt_e hf e_a9
  obtain ⟨h10, e_h10⟩ : ∃ y, y = hpNew h8 (1, 0) := ⟨_, rfl⟩
  rw [← e_h10] at hR hE1 t_a9
  have hf := lt_e hf e_h10
  have hE := hE.tr hE1
  have t_r0 := hE1.at t_r0 (by decide)
  refine lv_dup C.x C.b dX9_init_30 rfl ?_
  obtain ⟨q11, h_q11, hf⟩ := bd_e hf
  refine r_callIN (As := []) (rest := [.ref (G.2.2 + a9), .ref (G.2.2 + r0)]) C hR hS mk_X0_init cn_X9_25 (k_X0_init t_a9 h_q11) ⟨⟨Nat.le_of_ble_eq_true rfl, Nat.le_of_ble_eq_true rfl⟩, ⟨rfl, rfl⟩, Nat.le_of_ble_eq_true rfl, Nat.le_of_ble_eq_true rfl⟩ rfl hl.1 rfl (Nat.le_of_ble_eq_true rfl) dX9_init_31 (fun H locs hR hS hE1 z_q11 => ?_)
  have hE := hE.tr hE1
  have t_r0 := hE1.at t_r0 (by decide)
  have t_a9 := hE1.at t_a9 (by decide)
  refine r_putr C hR hS true (fun _ => hnm) (ne0 hR t_a9) t_r0 (okT_o t_a9 rfl) fl_X9_26 fp_X9_9_2 (by decide) dX9_init_34 (fun H locs hR hS => ?_)
  obtain ⟨h12, e_h12⟩ : ∃ y, y = upR q11 r0 2 a9 := ⟨_, rfl⟩
  rw [← e_h12] at hR
  have hf := lt_e hf e_h12
  have hE := eR e_h12 hE
  have t_r0 := tR e_h12 t_r0
  refine lv_aload_n C.x C.b dX9_init_37 rfl (lv_at hl 0 rfl) ?_
  refine r_newN C hR hS nl_X9_23 (Nat.le_of_ble_eq_true rfl) (Nat.le_of_ble_eq_true rfl) dX9_init_38 (fun H a13 e_a13 hR hS hE1 t_a13 => ?_)
  have hf := lt_e hf e_a13
  obtain ⟨h14, e_h14⟩ : ∃ y, y = hpNew h12 (1, 0) := ⟨_, rfl⟩
  rw [← e_h14] at hR hE1 t_a13
  have hf := lt_e hf e_h14
  have hE := hE.tr hE1
  have t_r0 := hE1.at t_r0 (by decide)
  refine lv_dup C.x C.b dX9_init_41 rfl ?_
  obtain ⟨q15, h_q15, hf⟩ := bd_e hf
  refine r_callIN (As := []) (rest := [.ref (G.2.2 + a13), .ref (G.2.2 + r0)]) C hR hS mk_X0_init cn_X9_25 (k_X0_init t_a13 h_q15) ⟨⟨Nat.le_of_ble_eq_true rfl, Nat.le_of_ble_eq_true rfl⟩, ⟨rfl, rfl⟩, Nat.le_of_ble_eq_true rfl, Nat.le_of_ble_eq_true rfl⟩ rfl hl.1 rfl (Nat.le_of_ble_eq_true rfl) dX9_init_42 (fun H locs hR hS hE1 z_q15 => ?_)
  have hE := hE.tr hE1
  have t_r0 := hE1.at t_r0 (by decide)
  have t_a13 := hE1.at t_a13 (by decide)
  refine r_putr C hR hS true (fun _ => hnm) (ne0 hR t_a13) t_r0 (okT_o t_a13 rfl) fl_X9_30 fp_X9_9_3 (by decide) dX9_init_45 (fun H locs hR hS => ?_)
  obtain ⟨h16, e_h16⟩ : ∃ y, y = upR q15 r0 3 a13 := ⟨_, rfl⟩
  rw [← e_h16] at hR
  have hf := lt_e hf e_h16
  have hE := eR e_h16 hE
  have t_r0 := tR e_h16 t_r0
  refine lv_aload_n C.x C.b dX9_init_48 rfl (lv_at hl 0 rfl) ?_
  refine r_newN C hR hS nl_X9_23 (Nat.le_of_ble_eq_true rfl) (Nat.le_of_ble_eq_true rfl) dX9_init_49 (fun H a17 e_a17 hR hS hE1 t_a17 => ?_)
  have hf := lt_e hf e_a17
  obtain ⟨h18, e_h18⟩ : ∃ y, y = hpNew h16 (1, 0) := ⟨_, rfl⟩
  rw [← e_h18] at hR hE1 t_a17
  have hf := lt_e hf e_h18
  have hE := hE.tr hE1
  have t_r0 := hE1.at t_r0 (by decide)
  refine lv_dup C.x C.b dX9_init_52 rfl ?_
  obtain ⟨q19, h_q19, hf⟩ := bd_e hf
  refine r_callIN (As := []) (rest := [.ref (G.2.2 + a17), .ref (G.2.2 + r0)]) C hR hS mk_X0_init cn_X9_25 (k_X0_init t_a17 h_q19) ⟨⟨Nat.le_of_ble_eq_true rfl, Nat.le_of_ble_eq_true rfl⟩, ⟨rfl, rfl⟩, Nat.le_of_ble_eq_true rfl, Nat.le_of_ble_eq_true rfl⟩ rfl hl.1 rfl (Nat.le_of_ble_eq_true rfl) dX9_init_53 (fun H locs hR hS hE1 z_q19 => ?_)
  have hE := hE.tr hE1
  have t_r0 := hE1.at t_r0 (by decide)
  have t_a17 := hE1.at t_a17 (by decide)
  refine r_putr C hR hS true (fun _ => hnm) (ne0 hR t_a17) t_r0 (okT_o t_a17 rfl) fl_X9_33 fp_X9_9_4 (by decide) dX9_init_56 (fun H locs hR hS => ?_)
  obtain ⟨h20, e_h20⟩ : ∃ y, y = upR q19 r0 4 a17 := ⟨_, rfl⟩
  rw [← e_h20] at hR
  have hf := lt_e hf e_h20
  have hE := eR e_h20 hE
  have t_r0 := tR e_h20 t_r0
  refine lv_aload_n C.x C.b dX9_init_59 rfl (lv_at hl 0 rfl) ?_
  refine r_newN C hR hS nl_X9_36 (Nat.le_of_ble_eq_true rfl) (Nat.le_of_ble_eq_true rfl) dX9_init_60 (fun H a21 e_a21 hR hS hE1 t_a21 => ?_)
  have hf := lt_e hf e_a21
  obtain ⟨h22, e_h22⟩ : ∃ y, y = hpNew h20 (1, 3) := ⟨_, rfl⟩
  rw [← e_h22] at hR hE1 t_a21
  have hf := lt_e hf e_h22
  have hE := hE.tr hE1
  have t_r0 := hE1.at t_r0 (by decide)
  refine lv_dup C.x C.b dX9_init_63 rfl ?_
  obtain ⟨q23, h_q23, hf⟩ := bd_e hf
  refine r_callI (As := []) (rest := [.ref (G.2.2 + a21), .ref (G.2.2 + r0)]) C hR hS mk_X3_init cl_X9_38 (k_X3_init t_a21 h_q23) ⟨⟨Nat.le_of_ble_eq_true rfl, Nat.le_of_ble_eq_true rfl⟩, ⟨rfl, rfl⟩, Nat.le_of_ble_eq_true rfl, Nat.le_of_ble_eq_true rfl⟩ rfl hl.1 rfl (Nat.le_of_ble_eq_true rfl) dX9_init_64 (fun H locs hR hS hE1 z_q23 => ?_)
  have hE := hE.tr hE1
  have t_r0 := hE1.at t_r0 (by decide)
  have t_a21 := hE1.at t_a21 (by decide)
  refine r_putr C hR hS true (fun _ => hnm) (ne0 hR t_a21) t_r0 (okT_o t_a21 rfl) fl_X9_39 fp_X9_9_5 (by decide) dX9_init_67 (fun H locs hR hS => ?_)
  obtain ⟨h24, e_h24⟩ : ∃ y, y = upR q23 r0 5 a21 := ⟨_, rfl⟩
  rw [← e_h24] at hR
  have hf := lt_e hf e_h24
  have hE := eR e_h24 hE
  have t_r0 := tR e_h24 t_r0
  refine lv_aload_n C.x C.b dX9_init_70 rfl (lv_at hl 0 rfl) ?_
  refine lv_iconst (v := (3 : Int32)) C.x C.b dX9_init_71 (by decide) ?_
  refine r_newqN C hR hS (3 : Int32) (by decide) (Nat.le_of_ble_eq_true rfl) lk_X9_23 (Nat.le_of_ble_eq_true rfl) (Nat.le_of_ble_eq_true rfl) dX9_init_72 (fun H a25 e_a25 hR hS hE1 t_a25 => ?_)
  have hf := lt_e hf e_a25
  obtain ⟨h26, e_h26⟩ : ∃ y, y = hpNew h24 (5, ix (3 : Int32)) := ⟨_, rfl⟩
  rw [← e_h26] at hR hE1 t_a25
  have hf := lt_e hf e_h26
  have hE := hE.tr hE1
  have t_r0 := hE1.at t_r0 (by decide)
  refine r_putr C hR hS true (fun _ => hnm) (ne0k hR t_a25 (by decide)) t_r0 (okT_a t_a25 rfl (by decide)) fl_X9_43 fp_X9_9_6 (by decide) dX9_init_75 (fun H locs hR hS => ?_)
  obtain ⟨h27, e_h27⟩ : ∃ y, y = upR h26 r0 6 a25 := ⟨_, rfl⟩
  rw [← e_h27] at hR
  have hf := lt_e hf e_h27
  have hE := eR e_h27 hE
  have t_r0 := tR e_h27 t_r0
  refine lv_aload_n C.x C.b dX9_init_78 rfl (lv_at hl 0 rfl) ?_
  refine r_newN C hR hS nl_X9_47 (Nat.le_of_ble_eq_true rfl) (Nat.le_of_ble_eq_true rfl) dX9_init_79 (fun H a28 e_a28 hR hS hE1 t_a28 => ?_)
  have hf := lt_e hf e_a28
  obtain ⟨h29, e_h29⟩ : ∃ y, y = hpNew h27 (1, 4) := ⟨_, rfl⟩
  rw [← e_h29] at hR hE1 t_a28
  have hf := lt_e hf e_h29
  have hE := hE.tr hE1
  have t_r0 := hE1.at t_r0 (by decide)
  refine lv_dup C.x C.b dX9_init_82 rfl ?_
  obtain ⟨q30, h_q30, hf⟩ := bd_e hf
  refine r_callIN (As := []) (rest := [.ref (G.2.2 + a28), .ref (G.2.2 + r0)]) C hR hS mk_X4_init cn_X9_49 (k_X4_init t_a28 h_q30) ⟨⟨Nat.le_of_ble_eq_true rfl, Nat.le_of_ble_eq_true rfl⟩, ⟨rfl, rfl⟩, Nat.le_of_ble_eq_true rfl, Nat.le_of_ble_eq_true rfl⟩ rfl hl.1 rfl (Nat.le_of_ble_eq_true rfl) dX9_init_83 (fun H locs hR hS hE1 z_q30 => ?_)
  have hE := hE.tr hE1
  have t_r0 := hE1.at t_r0 (by decide)
  have t_a28 := hE1.at t_a28 (by decide)
  refine r_putr C hR hS true (fun _ => hnm) (ne0 hR t_a28) t_r0 (okT_o t_a28 rfl) fl_X9_50 fp_X9_9_8 (by decide) dX9_init_86 (fun H locs hR hS => ?_)
  obtain ⟨h31, e_h31⟩ : ∃ y, y = upR q30 r0 8 a28 := ⟨_, rfl⟩
  rw [← e_h31] at hR
  have hf := lt_e hf e_h31
  have hE := eR e_h31 hE
  have t_r0 := tR e_h31 t_r0
  refine lv_aload_n C.x C.b dX9_init_89 rfl (lv_at hl 0 rfl) ?_
  refine r_newN C hR hS nl_X9_47 (Nat.le_of_ble_eq_true rfl) (Nat.le_of_ble_eq_true rfl) dX9_init_90 (fun H a32 e_a32 hR hS hE1 t_a32 => ?_)
  have hf := lt_e hf e_a32
  obtain ⟨h33, e_h33⟩ : ∃ y, y = hpNew h31 (1, 4) := ⟨_, rfl⟩
  rw [← e_h33] at hR hE1 t_a32
  have hf := lt_e hf e_h33
  have hE := hE.tr hE1
  have t_r0 := hE1.at t_r0 (by decide)
  refine lv_dup C.x C.b dX9_init_93 rfl ?_
  obtain ⟨q34, h_q34, hf⟩ := bd_e hf
  refine r_callIN (As := []) (rest := [.ref (G.2.2 + a32), .ref (G.2.2 + r0)]) C hR hS mk_X4_init cn_X9_49 (k_X4_init t_a32 h_q34) ⟨⟨Nat.le_of_ble_eq_true rfl, Nat.le_of_ble_eq_true rfl⟩, ⟨rfl, rfl⟩, Nat.le_of_ble_eq_true rfl, Nat.le_of_ble_eq_true rfl⟩ rfl hl.1 rfl (Nat.le_of_ble_eq_true rfl) dX9_init_94 (fun H locs hR hS hE1 z_q34 => ?_)
  have hE := hE.tr hE1
  have t_r0 := hE1.at t_r0 (by decide)
  have t_a32 := hE1.at t_a32 (by decide)
  refine r_putr C hR hS true (fun _ => hnm) (ne0 hR t_a32) t_r0 (okT_o t_a32 rfl) fl_X9_54 fp_X9_9_9 (by decide) dX9_init_97 (fun H locs hR hS => ?_)
  obtain ⟨h35, e_h35⟩ : ∃ y, y = upR q34 r0 9 a32 := ⟨_, rfl⟩
  rw [← e_h35] at hR
  have hf := lt_e hf e_h35
  have hE := eR e_h35 hE
  have t_r0 := tR e_h35 t_r0
  refine lv_aload_n C.x C.b dX9_init_100 rfl (lv_at hl 0 rfl) ?_
  refine r_newN C hR hS nl_X9_57 (Nat.le_of_ble_eq_true rfl) (Nat.le_of_ble_eq_true rfl) dX9_init_101 (fun H a36 e_a36 hR hS hE1 t_a36 => ?_)
  have hf := lt_e hf e_a36
  obtain ⟨h37, e_h37⟩ : ∃ y, y = hpNew h35 (1, 5) := ⟨_, rfl⟩
  rw [← e_h37] at hR hE1 t_a36
  have hf := lt_e hf e_h37
  have hE := hE.tr hE1
  have t_r0 := hE1.at t_r0 (by decide)
  refine lv_dup C.x C.b dX9_init_104 rfl ?_
  obtain ⟨q38, h_q38, hf⟩ := bd_e hf
  refine r_callIN (As := []) (rest := [.ref (G.2.2 + a36), .ref (G.2.2 + r0)]) C hR hS mk_X5_init cn_X9_59 (k_X5_init t_a36 h_q38) ⟨⟨Nat.le_of_ble_eq_true rfl, Nat.le_of_ble_eq_true rfl⟩, ⟨rfl, rfl⟩, Nat.le_of_ble_eq_true rfl, Nat.le_of_ble_eq_true rfl⟩ rfl hl.1 rfl (Nat.le_of_ble_eq_true rfl) dX9_init_105 (fun H locs hR hS hE1 z_q38 => ?_)
  have hE := hE.tr hE1
  have t_r0 := hE1.at t_r0 (by decide)
  have t_a36 := hE1.at t_a36 (by decide)
  refine r_putr C hR hS true (fun _ => hnm) (ne0 hR t_a36) t_r0 (okT_o t_a36 rfl) fl_X9_60 fp_X9_9_10 (by decide) dX9_init_108 (fun H locs hR hS => ?_)
  obtain ⟨h39, e_h39⟩ : ∃ y, y = upR q38 r0 10 a36 := ⟨_, rfl⟩
  rw [← e_h39] at hR
  have hf := lt_e hf e_h39
  have hE := eR e_h39 hE
  have t_r0 := tR e_h39 t_r0
  refine lv_aload_n C.x C.b dX9_init_111 rfl (lv_at hl 0 rfl) ?_
  refine r_newN C hR hS nl_X9_64 (Nat.le_of_ble_eq_true rfl) (Nat.le_of_ble_eq_true rfl) dX9_init_112 (fun H a40 e_a40 hR hS hE1 t_a40 => ?_)
  have hf := lt_e hf e_a40
  obtain ⟨h41, e_h41⟩ : ∃ y, y = hpNew h39 (1, 2) := ⟨_, rfl⟩
  rw [← e_h41] at hR hE1 t_a40
  have hf := lt_e hf e_h41
  have hE := hE.tr hE1
  have t_r0 := hE1.at t_r0 (by decide)
  refine lv_dup C.x C.b dX9_init_115 rfl ?_
  refine lv_bipush (v := (10 : Int32)) C.x C.b dX9_init_116 (by decide) ?_
  obtain ⟨q42, h_q42, hf⟩ := bd_e hf
  refine r_callI (As := [.int (10 : Int32)]) (rest := [.ref (G.2.2 + a40), .ref (G.2.2 + r0)]) C hR hS mk_X2_init cl_X9_66 (k_X2_init_10 t_a40 h_q42) ⟨⟨Nat.le_of_ble_eq_true rfl, Nat.le_of_ble_eq_true rfl⟩, ⟨rfl, rfl⟩, Nat.le_of_ble_eq_true rfl, Nat.le_of_ble_eq_true rfl⟩ rfl hl.1 rfl (Nat.le_of_ble_eq_true rfl) dX9_init_118 (fun H locs hR hS hE1 z_q42 => ?_)
  have hE := hE.tr hE1
  have t_r0 := hE1.at t_r0 (by decide)
  have t_a40 := hE1.at t_a40 (by decide)
  refine r_putr C hR hS true (fun _ => hnm) (ne0 hR t_a40) t_r0 (okT_o t_a40 rfl) fl_X9_69 fp_X9_9_11 (by decide) dX9_init_121 (fun H locs hR hS => ?_)
  obtain ⟨h43, e_h43⟩ : ∃ y, y = upR q42 r0 11 a40 := ⟨_, rfl⟩
  rw [← e_h43] at hR
  have hf := lt_e hf e_h43
  have hE := eR e_h43 hE
  have t_r0 := tR e_h43 t_r0
  refine lv_aload_n C.x C.b dX9_init_124 rfl (lv_at hl 0 rfl) ?_
  refine r_newN C hR hS nl_X9_64 (Nat.le_of_ble_eq_true rfl) (Nat.le_of_ble_eq_true rfl) dX9_init_125 (fun H a44 e_a44 hR hS hE1 t_a44 => ?_)
  have hf := lt_e hf e_a44
  obtain ⟨h45, e_h45⟩ : ∃ y, y = hpNew h43 (1, 2) := ⟨_, rfl⟩
  rw [← e_h45] at hR hE1 t_a44
  have hf := lt_e hf e_h45
  have hE := hE.tr hE1
  have t_r0 := hE1.at t_r0 (by decide)
  refine lv_dup C.x C.b dX9_init_128 rfl ?_
  refine lv_bipush (v := (12 : Int32)) C.x C.b dX9_init_129 (by decide) ?_
  obtain ⟨q46, h_q46, hf⟩ := bd_e hf
  refine r_callI (As := [.int (12 : Int32)]) (rest := [.ref (G.2.2 + a44), .ref (G.2.2 + r0)]) C hR hS mk_X2_init cl_X9_66 (k_X2_init_12 t_a44 h_q46) ⟨⟨Nat.le_of_ble_eq_true rfl, Nat.le_of_ble_eq_true rfl⟩, ⟨rfl, rfl⟩, Nat.le_of_ble_eq_true rfl, Nat.le_of_ble_eq_true rfl⟩ rfl hl.1 rfl (Nat.le_of_ble_eq_true rfl) dX9_init_131 (fun H locs hR hS hE1 z_q46 => ?_)
  have hE := hE.tr hE1
  have t_r0 := hE1.at t_r0 (by decide)
  have t_a44 := hE1.at t_a44 (by decide)
  refine r_putr C hR hS true (fun _ => hnm) (ne0 hR t_a44) t_r0 (okT_o t_a44 rfl) fl_X9_73 fp_X9_9_12 (by decide) dX9_init_134 (fun H locs hR hS => ?_)
  obtain ⟨h47, e_h47⟩ : ∃ y, y = upR q46 r0 12 a44 := ⟨_, rfl⟩
  rw [← e_h47] at hR
  have hf := lt_e hf e_h47
  have hE := eR e_h47 hE
  have t_r0 := tR e_h47 t_r0
  refine lv_aload_n C.x C.b dX9_init_137 rfl (lv_at hl 0 rfl) ?_
  refine r_newN C hR hS nl_X9_76 (Nat.le_of_ble_eq_true rfl) (Nat.le_of_ble_eq_true rfl) dX9_init_138 (fun H a48 e_a48 hR hS hE1 t_a48 => ?_)
  have hf := lt_e hf e_a48
  obtain ⟨h49, e_h49⟩ : ∃ y, y = hpNew h47 (1, 8) := ⟨_, rfl⟩
  rw [← e_h49] at hR hE1 t_a48
  have hf := lt_e hf e_h49
  have hE := hE.tr hE1
  have t_r0 := hE1.at t_r0 (by decide)
  refine lv_dup C.x C.b dX9_init_141 rfl ?_
  obtain ⟨q50, h_q50, hf⟩ := bd_e hf
  refine r_callIN (As := []) (rest := [.ref (G.2.2 + a48), .ref (G.2.2 + r0)]) C hR hS mk_X8_init cn_X9_78 (k_X8_init t_a48 h_q50) ⟨⟨Nat.le_of_ble_eq_true rfl, Nat.le_of_ble_eq_true rfl⟩, ⟨rfl, rfl⟩, Nat.le_of_ble_eq_true rfl, Nat.le_of_ble_eq_true rfl⟩ rfl hl.1 rfl (Nat.le_of_ble_eq_true rfl) dX9_init_142 (fun H locs hR hS hE1 z_q50 => ?_)
  have hE := hE.tr hE1
  have t_r0 := hE1.at t_r0 (by decide)
  have t_a48 := hE1.at t_a48 (by decide)
  refine r_putr C hR hS true (fun _ => hnm) (ne0 hR t_a48) t_r0 (okT_o t_a48 rfl) fl_X9_79 fp_X9_9_13 (by decide) dX9_init_145 (fun H locs hR hS => ?_)
  obtain ⟨h51, e_h51⟩ : ∃ y, y = upR q50 r0 13 a48 := ⟨_, rfl⟩
  rw [← e_h51] at hR
  have hf := lt_e hf e_h51
  have hE := eR e_h51 hE
  have t_r0 := tR e_h51 t_r0
  refine lv_aload_n C.x C.b dX9_init_148 rfl (lv_at hl 0 rfl) ?_
  refine lv_sipush (v := (496 : Int32)) C.x C.b dX9_init_149 (by decide) ?_
  refine r_newiN C hR hS (496 : Int32) (by decide) (Nat.le_of_ble_eq_true rfl) lk_arr_int (Nat.le_of_ble_eq_true rfl) (Nat.le_of_ble_eq_true rfl) dX9_init_152 (fun H a52 e_a52 hR hS hE1 t_a52 => ?_)
  have hf := lt_e hf e_a52
  obtain ⟨h53, e_h53⟩ : ∃ y, y = hpNew h51 (2, ix (496 : Int32)) := ⟨_, rfl⟩
  rw [← e_h53] at hR hE1 t_a52
  have hf := lt_e hf e_h53
  have hE := hE.tr hE1
  have t_r0 := hE1.at t_r0 (by decide)
  refine r_putr C hR hS true (fun _ => hnm) (ne0k hR t_a52 (by decide)) t_r0 (okT_a t_a52 rfl (by decide)) fl_X9_83 fp_X9_9_14 (by decide) dX9_init_154 (fun H locs hR hS => ?_)
  obtain ⟨h54, e_h54⟩ : ∃ y, y = upR h53 r0 14 a52 := ⟨_, rfl⟩
  rw [← e_h54] at hR
  have hf := lt_e hf e_h54
  have hE := eR e_h54 hE
  have t_r0 := tR e_h54 t_r0
  refine lv_aload_n C.x C.b dX9_init_157 rfl (lv_at hl 0 rfl) ?_
  refine lv_bipush (v := (41 : Int32)) C.x C.b dX9_init_158 (by decide) ?_
  refine r_newiN C hR hS (41 : Int32) (by decide) (Nat.le_of_ble_eq_true rfl) lk_arr_int (Nat.le_of_ble_eq_true rfl) (Nat.le_of_ble_eq_true rfl) dX9_init_160 (fun H a55 e_a55 hR hS hE1 t_a55 => ?_)
  have hf := lt_e hf e_a55
  obtain ⟨h56, e_h56⟩ : ∃ y, y = hpNew h54 (2, ix (41 : Int32)) := ⟨_, rfl⟩
  rw [← e_h56] at hR hE1 t_a55
  have hf := lt_e hf e_h56
  have hE := hE.tr hE1
  have t_r0 := hE1.at t_r0 (by decide)
  refine r_putr C hR hS true (fun _ => hnm) (ne0k hR t_a55 (by decide)) t_r0 (okT_a t_a55 rfl (by decide)) fl_X9_87 fp_X9_9_15 (by decide) dX9_init_162 (fun H locs hR hS => ?_)
  obtain ⟨h57, e_h57⟩ : ∃ y, y = upR h56 r0 15 a55 := ⟨_, rfl⟩
  rw [← e_h57] at hR
  have hf := lt_e hf e_h57
  have hE := eR e_h57 hE
  have t_r0 := tR e_h57 t_r0
  refine lv_iconst (v := (0 : Int32)) C.x C.b dX9_init_165 (by decide) ?_
  refine lv_istore_n (lv' := [(1, .int (0 : Int32)), (0, .ref (G.2.2 + r0))]) C.x C.b dX9_init_166 rfl hl (by decide) rfl (fun ls hl => ?_)
  refine lv_iload_n C.x C.b dX9_init_167 rfl (lv_at hl 0 rfl) ?_
  refine lv_iconst (v := (3 : Int32)) C.x C.b dX9_init_168 (by decide) ?_
  refine lv_icmp_ge (tgt := 191) C.x C.b dX9_init_169 (by decide) (fun c => absurd c (by decide)) (fun c => ?_)
  refine lv_aload_n C.x C.b dX9_init_172 rfl (lv_at hl 1 rfl) ?_
  obtain ⟨g58, hf⟩ := gd_e hf
  refine r_getr C hR t_r0 fl_X9_43 (by decide) (nz_e g58) dX9_init_173 (fun tq59 => ?_)
  have tg58 := okA tq59 rfl
  refine lv_iload_n C.x C.b dX9_init_176 rfl (lv_at hl 0 rfl) ?_
  refine r_newN C hR hS nl_X9_23 (Nat.le_of_ble_eq_true rfl) (Nat.le_of_ble_eq_true rfl) dX9_init_177 (fun H a60 e_a60 hR hS hE1 t_a60 => ?_)
  have hf := lt_e hf e_a60
  obtain ⟨h61, e_h61⟩ : ∃ y, y = hpNew h57 (1, 0) := ⟨_, rfl⟩
  rw [← e_h61] at hR hE1 t_a60
  have hf := lt_e hf e_h61
  have hE := hE.tr hE1
  have tg58 := hE1.k tg58 (by decide)
  have t_r0 := hE1.at t_r0 (by decide)
  refine lv_dup C.x C.b dX9_init_180 rfl ?_
  obtain ⟨q62, h_q62, hf⟩ := bd_e hf
  refine r_callIN (As := []) (rest := [.ref (G.2.2 + a60), .int (0 : Int32), .ref (G.2.2 + (hpR h57 r0 6))]) C hR hS mk_X0_init cn_X9_25 (k_X0_init t_a60 h_q62) ⟨⟨Nat.le_of_ble_eq_true rfl, Nat.le_of_ble_eq_true rfl⟩, ⟨rfl, rfl⟩, Nat.le_of_ble_eq_true rfl, Nat.le_of_ble_eq_true rfl⟩ rfl hl.1 rfl (Nat.le_of_ble_eq_true rfl) dX9_init_181 (fun H locs hR hS hE1 z_q62 => ?_)
  have hE := hE.tr hE1
  have tg58 := hE1.k tg58 (by decide)
  have t_a60 := hE1.at t_a60 (by decide)
  have t_r0 := hE1.at t_r0 (by decide)
  obtain ⟨g63, hf⟩ := gd_e hf
  refine r_aast C hR hS tg58 g63 (ne0 hR t_a60) t_a60 dX9_init_184 (fun H locs hR hS => ?_)
  obtain ⟨h64, e_h64⟩ : ∃ y, y = upR q62 (hpR h57 r0 6) (ix (0 : Int32)) a60 := ⟨_, rfl⟩
  rw [← e_h64] at hR
  have hf := lt_e hf e_h64
  have hE := eR e_h64 hE
  have t_r0 := tR e_h64 t_r0
  refine lv_iinc (v := (1 : Int32)) (lv' := [(1, .int (1 : Int32)), (0, .ref (G.2.2 + r0))]) C.x C.b dX9_init_185 hl (k := 0) rfl (by decide) (by decide) rfl (fun ls hl => ?_)
  refine lv_goto (tgt := 167) C.x C.b dX9_init_188 (by decide) ?_
  refine lv_iload_n C.x C.b dX9_init_167 rfl (lv_at hl 0 rfl) ?_
  refine lv_iconst (v := (3 : Int32)) C.x C.b dX9_init_168 (by decide) ?_
  refine lv_icmp_ge (tgt := 191) C.x C.b dX9_init_169 (by decide) (fun c => absurd c (by decide)) (fun c => ?_)
  refine lv_aload_n C.x C.b dX9_init_172 rfl (lv_at hl 1 rfl) ?_
  obtain ⟨g65, hf⟩ := gd_e hf
  refine r_getr C hR t_r0 fl_X9_43 (by decide) (nz_e g65) dX9_init_173 (fun tq66 => ?_)
  have tg65 := okA tq66 rfl
  refine lv_iload_n C.x C.b dX9_init_176 rfl (lv_at hl 0 rfl) ?_
  refine r_newN C hR hS nl_X9_23 (Nat.le_of_ble_eq_true rfl) (Nat.le_of_ble_eq_true rfl) dX9_init_177 (fun H a67 e_a67 hR hS hE1 t_a67 => ?_)
  have hf := lt_e hf e_a67
  obtain ⟨h68, e_h68⟩ : ∃ y, y = hpNew h64 (1, 0) := ⟨_, rfl⟩
  rw [← e_h68] at hR hE1 t_a67
  have hf := lt_e hf e_h68
  have hE := hE.tr hE1
  have tg65 := hE1.k tg65 (by decide)
  have t_r0 := hE1.at t_r0 (by decide)
  refine lv_dup C.x C.b dX9_init_180 rfl ?_
  obtain ⟨q69, h_q69, hf⟩ := bd_e hf
  refine r_callIN (As := []) (rest := [.ref (G.2.2 + a67), .int (1 : Int32), .ref (G.2.2 + (hpR h64 r0 6))]) C hR hS mk_X0_init cn_X9_25 (k_X0_init t_a67 h_q69) ⟨⟨Nat.le_of_ble_eq_true rfl, Nat.le_of_ble_eq_true rfl⟩, ⟨rfl, rfl⟩, Nat.le_of_ble_eq_true rfl, Nat.le_of_ble_eq_true rfl⟩ rfl hl.1 rfl (Nat.le_of_ble_eq_true rfl) dX9_init_181 (fun H locs hR hS hE1 z_q69 => ?_)
  have hE := hE.tr hE1
  have tg65 := hE1.k tg65 (by decide)
  have t_a67 := hE1.at t_a67 (by decide)
  have t_r0 := hE1.at t_r0 (by decide)
  obtain ⟨g70, hf⟩ := gd_e hf
  refine r_aast C hR hS tg65 g70 (ne0 hR t_a67) t_a67 dX9_init_184 (fun H locs hR hS => ?_)
  obtain ⟨h71, e_h71⟩ : ∃ y, y = upR q69 (hpR h64 r0 6) (ix (1 : Int32)) a67 := ⟨_, rfl⟩
  rw [← e_h71] at hR
  have hf := lt_e hf e_h71
  have hE := eR e_h71 hE
  have t_r0 := tR e_h71 t_r0
  refine lv_iinc (v := (2 : Int32)) (lv' := [(1, .int (2 : Int32)), (0, .ref (G.2.2 + r0))]) C.x C.b dX9_init_185 hl (k := 0) rfl (by decide) (by decide) rfl (fun ls hl => ?_)
  refine lv_goto (tgt := 167) C.x C.b dX9_init_188 (by decide) ?_
  refine lv_iload_n C.x C.b dX9_init_167 rfl (lv_at hl 0 rfl) ?_
  refine lv_iconst (v := (3 : Int32)) C.x C.b dX9_init_168 (by decide) ?_
  refine lv_icmp_ge (tgt := 191) C.x C.b dX9_init_169 (by decide) (fun c => absurd c (by decide)) (fun c => ?_)
  refine lv_aload_n C.x C.b dX9_init_172 rfl (lv_at hl 1 rfl) ?_
  obtain ⟨g72, hf⟩ := gd_e hf
  refine r_getr C hR t_r0 fl_X9_43 (by decide) (nz_e g72) dX9_init_173 (fun tq73 => ?_)
  have tg72 := okA tq73 rfl
  refine lv_iload_n C.x C.b dX9_init_176 rfl (lv_at hl 0 rfl) ?_
  refine r_newN C hR hS nl_X9_23 (Nat.le_of_ble_eq_true rfl) (Nat.le_of_ble_eq_true rfl) dX9_init_177 (fun H a74 e_a74 hR hS hE1 t_a74 => ?_)
  have hf := lt_e hf e_a74
  obtain ⟨h75, e_h75⟩ : ∃ y, y = hpNew h71 (1, 0) := ⟨_, rfl⟩
  rw [← e_h75] at hR hE1 t_a74
  have hf := lt_e hf e_h75
  have hE := hE.tr hE1
  have tg72 := hE1.k tg72 (by decide)
  have t_r0 := hE1.at t_r0 (by decide)
  refine lv_dup C.x C.b dX9_init_180 rfl ?_
  obtain ⟨q76, h_q76, hf⟩ := bd_e hf
  refine r_callIN (As := []) (rest := [.ref (G.2.2 + a74), .int (2 : Int32), .ref (G.2.2 + (hpR h71 r0 6))]) C hR hS mk_X0_init cn_X9_25 (k_X0_init t_a74 h_q76) ⟨⟨Nat.le_of_ble_eq_true rfl, Nat.le_of_ble_eq_true rfl⟩, ⟨rfl, rfl⟩, Nat.le_of_ble_eq_true rfl, Nat.le_of_ble_eq_true rfl⟩ rfl hl.1 rfl (Nat.le_of_ble_eq_true rfl) dX9_init_181 (fun H locs hR hS hE1 z_q76 => ?_)
  have hE := hE.tr hE1
  have tg72 := hE1.k tg72 (by decide)
  have t_a74 := hE1.at t_a74 (by decide)
  have t_r0 := hE1.at t_r0 (by decide)
  obtain ⟨g77, hf⟩ := gd_e hf
  refine r_aast C hR hS tg72 g77 (ne0 hR t_a74) t_a74 dX9_init_184 (fun H locs hR hS => ?_)
  obtain ⟨h78, e_h78⟩ : ∃ y, y = upR q76 (hpR h71 r0 6) (ix (2 : Int32)) a74 := ⟨_, rfl⟩
  rw [← e_h78] at hR
  have hf := lt_e hf e_h78
  have hE := eR e_h78 hE
  have t_r0 := tR e_h78 t_r0
  refine lv_iinc (v := (3 : Int32)) (lv' := [(1, .int (3 : Int32)), (0, .ref (G.2.2 + r0))]) C.x C.b dX9_init_185 hl (k := 0) rfl (by decide) (by decide) rfl (fun ls hl => ?_)
  refine lv_goto (tgt := 167) C.x C.b dX9_init_188 (by decide) ?_
  refine lv_iload_n C.x C.b dX9_init_167 rfl (lv_at hl 0 rfl) ?_
  refine lv_iconst (v := (3 : Int32)) C.x C.b dX9_init_168 (by decide) ?_
  refine lv_icmp_ge (tgt := 191) C.x C.b dX9_init_169 (by decide) (fun c => ?_) (fun c => absurd (by decide) c)
  refine lv_aload_n C.x C.b dX9_init_191 rfl (lv_at hl 1 rfl) ?_
  obtain ⟨g79, hf⟩ := gd_e hf
  refine r_getr C hR t_r0 fl_X9_50 (by decide) (nz_e g79) dX9_init_192 (fun tq80 => ?_)
  have tg79 := okO tq80 rfl
  obtain ⟨q81, h_q81, hf⟩ := bd_e hf
  refine r_callV (As := []) (rest := []) C hR hS tg79 rfl mk_X4_putNone cl_X9_90 (k_X4_putNone tg79 h_q81) ⟨⟨Nat.le_of_ble_eq_true rfl, Nat.le_of_ble_eq_true rfl⟩, ⟨rfl, rfl⟩, Nat.le_of_ble_eq_true rfl, Nat.le_of_ble_eq_true rfl⟩ rfl hl.1 rfl (Nat.le_of_ble_eq_true rfl) dX9_init_195 (fun H locs hR hS hE1 z_q81 => ?_)
  have hE := hE.tr hE1
  have t_r0 := hE1.at t_r0 (by decide)
  refine lv_aload_n C.x C.b dX9_init_198 rfl (lv_at hl 1 rfl) ?_
  obtain ⟨g82, hf⟩ := gd_e hf
  refine r_getr C hR t_r0 fl_X9_54 (by decide) (nz_e g82) dX9_init_199 (fun tq83 => ?_)
  have tg82 := okO tq83 rfl
  obtain ⟨q84, h_q84, hf⟩ := bd_e hf
  refine r_callV (As := []) (rest := []) C hR hS tg82 rfl mk_X4_putNone cl_X9_90 (k_X4_putNone tg82 h_q84) ⟨⟨Nat.le_of_ble_eq_true rfl, Nat.le_of_ble_eq_true rfl⟩, ⟨rfl, rfl⟩, Nat.le_of_ble_eq_true rfl, Nat.le_of_ble_eq_true rfl⟩ rfl hl.1 rfl (Nat.le_of_ble_eq_true rfl) dX9_init_202 (fun H locs hR hS hE1 z_q84 => ?_)
  have hE := hE.tr hE1
  have t_r0 := hE1.at t_r0 (by decide)
  have hf := so_e hf
  subst hf
  refine W.widen (k := 200) (n := 12049) (Nat.le_of_ble_eq_true rfl) (Nat.le_of_ble_eq_true rfl) ?_
  exact r_vret C hr hlk hR hE hS dX9_init_205

def rm_X9_sign : Room := { frames := 1, cells := 0, slots := 0, locals := 21 }
def P_X9_sign_19 (G : Gt) (l : Launch) (p : Program) (e : Env) (s : State) (m : MethodId) (args : Array Value) (below : List Frame) (meth : Method) (c : Code) (h0 : Hp) (out : (Int32 × Hp)) (r0 : Nat) (x1 : Int32) (k : Hp → Int32 → Option (Int32 × Hp)) : Prop := ∀ (H : Heap) (locs : List Loc) (ls : Array Slot) (h : Hp) (x2 : Int32), k h x2 = some out → Ext h0 h → Rel G h H → va_S (AA G.2.2) s.heap H locs → hpT h r0 = (1, 9) → lv_has ls 3 [(0, .ref (G.2.2 + r0)), (1, .int x1), (2, .int x2)] → W p l e rm_X9_sign s m args below meth c H locs 0 0 (MQ below (Qm G h0 out.2 (some (.int out.1)) 0) args s 0 0 (AA G.2.2)) (F0 m 19 ls [])
set_option maxRecDepth 100000 in
set_option maxHeartbeats 4000000 in
theorem w_X9_sign_19 {G : Gt} {l : Launch} {p : Program} {e : Env} {s : State} {m : MethodId} {args : Array Value} {below : List Frame} {meth : Method} {c : Code}  {h0 : Hp} {out : (Int32 × Hp)} {r0 : Nat} {x1 : Int32}  (C : Cx G p m c cX9_sign 3 s args RX9) (hr : meth.sig.returnType = some .int) (hlk : meth.locks = false)   (n : Nat) : P_X9_sign_19 G l p e s m args below meth c h0 out r0 x1 (f_X9_sign_19 r0 x1 n) := by
  induction n with
  | zero => intro H locs ls h x2 hf hE hR hS t_r0 hl; cases hf
  | succ n hk19 =>
    intro H locs ls h x2 hf hE hR hS t_r0 hl
    rw [f_X9_sign_19] at hf
    obtain ⟨k19, e_k19⟩ : ∃ y, y = f_X9_sign_19 r0 x1 n := ⟨_, rfl⟩
    have hf := lt_e hf e_k19
    rw [← e_k19] at hk19
    refine lv_iload_n C.x C.b dX9_sign_19 rfl (lv_at hl 2 rfl) ?_
    refine lv_if_lt (tgt := 43) C.x C.b dX9_sign_20 (by decide) (fun c4 => ?_) (fun c4 => ?_)
    · have hf := it_t hf c4
      refine lv_aload_n C.x C.b dX9_sign_43 rfl (lv_at hl 0 rfl) ?_
      obtain ⟨g5, hf⟩ := gd_e hf
      refine r_getr C hR t_r0 fl_X9_10 (by decide) (nz_e g5) dX9_sign_44 (fun tq6 => ?_)
      have tg5 := okO tq6 rfl
      refine r_geti C hR tg5 fl_X9_93 rfl dX9_sign_47 ?_
      have hf := so_e hf
      subst hf
      exact r_iret C hr hlk hR hE hS dX9_sign_50
    · have hf := it_f hf c4
      refine lv_aload_n C.x C.b dX9_sign_23 rfl (lv_at hl 0 rfl) ?_
      obtain ⟨g7, hf⟩ := gd_e hf
      refine r_getr C hR t_r0 fl_X9_10 (by decide) (nz_e g7) dX9_sign_24 (fun tq8 => ?_)
      have tg7 := okO tq8 rfl
      refine lv_iload_n C.x C.b dX9_sign_27 rfl (lv_at hl 1 rfl) ?_
      refine lv_iload_n C.x C.b dX9_sign_28 rfl (lv_at hl 2 rfl) ?_
      refine lv_iushr C.x C.b dX9_sign_29 rfl ?_
      refine lv_topi (fun v9 e_v9 => ?_)
      have hf := lt_e hf e_v9
      refine lv_sipush (v := (255 : Int32)) C.x C.b dX9_sign_30 (by decide) ?_
      refine lv_iand C.x C.b dX9_sign_33 ?_
      obtain ⟨q10, h_q10, hf⟩ := bd_e hf
      refine r_callV (As := [.int (v9 &&& (255 : Int32))]) (rest := []) C hR hS tg7 rfl mk_X6_add cl_X9_97 (k_X6_add tg7 h_q10) ⟨⟨Nat.le_of_ble_eq_true rfl, Nat.le_of_ble_eq_true rfl⟩, ⟨rfl, rfl⟩, Nat.le_of_ble_eq_true rfl, Nat.le_of_ble_eq_true rfl⟩ rfl hl.1 rfl (Nat.le_of_ble_eq_true rfl) dX9_sign_34 (fun H locs hR hS hE1 z_q10 => ?_)
      have hE := hE.tr hE1
      have t_r0 := hE1.at t_r0 (by decide)
      obtain ⟨v11, e_v11⟩ : ∃ y : Int32, y = x2 + (-8 : Int32) := ⟨_, rfl⟩
      have hf := lt_e hf e_v11
      refine lv_iinc (v := v11) (lv' := [(2, .int v11), (0, .ref (G.2.2 + r0)), (1, .int x1)]) C.x C.b dX9_sign_37 hl (k := 2) rfl (by rw [e_v11]; rfl) (by decide) rfl (fun ls hl => ?_)
      refine lv_goto (tgt := 19) C.x C.b dX9_sign_40 (by decide) ?_
      exact hk19 _ _ _ _ _ hf hE hR hS t_r0 (lv_sub hl [1, 2, 0] rfl)
set_option maxRecDepth 100000 in
set_option maxHeartbeats 4000000 in
theorem k_X9_sign {G : Gt} {l : Launch}  {h : Hp} {r0 : Nat} {x1 : Int32} {out : (Int32 × Hp)} (t_r0 : hpT h r0 = (1, 9))  (hf : f_X9_sign  h r0 x1 = some out) : Mt G l yX9_sign cX9_sign 3 (some .int) rm_X9_sign [.ref (G.2.2 + r0), .int x1] h (some (.int out.1)) out.2 0 0 0 := by
  refine r_met (by decide +kernel) (Nat.le_of_ble_eq_true rfl) ?_
  intro p e s m args below meth c ls C hr hlk hnm hR hS hl
  have hE : Ext h h := Ext.rf
  have hl : lv_has ls 3 [(0, .ref (G.2.2 + r0)), (1, .int x1)] := hl
  rw [f_X9_sign] at hf
  refine lv_aload_n C.x C.b dX9_sign_0 rfl (lv_at hl 0 rfl) ?_
  obtain ⟨g1, hf⟩ := gd_e hf
  refine r_getr C hR t_r0 fl_X9_10 (by decide) (nz_e g1) dX9_sign_1 (fun tq2 => ?_)
  have tg1 := okO tq2 rfl
  refine r_geti C hR tg1 fl_X9_93 rfl dX9_sign_4 ?_
  refine lv_iconst (v := (4 : Int32)) C.x C.b dX9_sign_7 (by decide) ?_
  refine lv_iadd C.x C.b dX9_sign_8 ?_
  refine lv_bipush (v := (80 : Int32)) C.x C.b dX9_sign_9 (by decide) ?_
  refine lv_icmp_le (tgt := 16) C.x C.b dX9_sign_11 (by decide) (fun c3 => ?_) (fun c3 => ?_)
  · have hf := it_t hf c3
    refine lv_bipush (v := (24 : Int32)) C.x C.b dX9_sign_16 (by decide) ?_
    refine lv_istore_n (lv' := [(2, .int (24 : Int32)), (0, .ref (G.2.2 + r0)), (1, .int x1)]) C.x C.b dX9_sign_18 rfl hl (by decide) rfl (fun ls hl => ?_)
    exact w_X9_sign_19 C hr hlk FU _ _ _ _ _ hf hE hR hS t_r0 (lv_sub hl [1, 2, 0] rfl)
  · have hf := it_f hf c3
    refine lv_iconst (v := (-1 : Int32)) C.x C.b dX9_sign_14 (by decide) ?_
    have hf := so_e hf
    subst hf
    exact r_iret C hr hlk hR hE hS dX9_sign_15

def rm_X9_end : Room := { frames := 0, cells := 0, slots := 0, locals := 0 }
set_option maxRecDepth 100000 in
set_option maxHeartbeats 4000000 in
theorem k_X9_end {G : Gt} {l : Launch}  {h : Hp} {r0 : Nat} {x1 : Int32} {out : (Int32 × Hp)} (t_r0 : hpT h r0 = (1, 9))  (hf : f_X9_end  h r0 x1 = some out) : Mt G l yX9_end cX9_end 2 (some .boolean) rm_X9_end [.ref (G.2.2 + r0), .int x1] h (some (.int out.1)) out.2 1 0 0 := by
  refine r_met (by decide +kernel) (Nat.le_of_ble_eq_true rfl) ?_
  intro p e s m args below meth c ls C hr hlk hnm hR hS hl
  have hE : Ext h h := Ext.rf
  have hl : lv_has ls 2 [(0, .ref (G.2.2 + r0)), (1, .int x1)] := hl
  rw [f_X9_end] at hf
  refine lv_iload_n C.x C.b dX9_end_0 rfl (lv_at hl 1 rfl) ?_
  refine lv_if_lt (tgt := 15) C.x C.b dX9_end_1 (by decide) (fun c1 => ?_) (fun c1 => ?_)
  · have hf := it_t hf c1
    refine lv_iconst (v := (0 : Int32)) C.x C.b dX9_end_15 (by decide) ?_
    have hf := so_e hf
    subst hf
    exact r_zret C hr hlk hR hE hS z_0 dX9_end_16
  · have hf := it_f hf c1
    refine lv_iload_n C.x C.b dX9_end_4 rfl (lv_at hl 1 rfl) ?_
    refine lv_aload_n C.x C.b dX9_end_5 rfl (lv_at hl 0 rfl) ?_
    obtain ⟨g2, hf⟩ := gd_e hf
    refine r_getr C hR t_r0 fl_X9_10 (by decide) (nz_e g2) dX9_end_6 (fun tq3 => ?_)
    have tg2 := okO tq3 rfl
    refine r_geti C hR tg2 fl_X9_93 rfl dX9_end_9 ?_
    refine lv_icmp_le (tgt := 17) C.x C.b dX9_end_12 (by decide) (fun c4 => ?_) (fun c4 => ?_)
    · have hf := it_t hf c4
      refine lv_aload_n C.x C.b dX9_end_17 rfl (lv_at hl 0 rfl) ?_
      refine r_getr C hR t_r0 fl_X9_10 (by decide) (nz_e g2) dX9_end_18 (fun tq5 => ?_)
      refine lv_iload_n C.x C.b dX9_end_21 rfl (lv_at hl 1 rfl) ?_
      refine r_puti C hR hS tg2 fl_X9_93 fp_X9_6_1 rfl dX9_end_22 (fun H locs hR hS => ?_)
      obtain ⟨h6, e_h6⟩ : ∃ y, y = upI h (hpR h r0 0) 1 x1 := ⟨_, rfl⟩
      rw [← e_h6] at hR
      have hf := lt_e hf e_h6
      have hE := eI e_h6 hE
      have t_r0 := tI e_h6 t_r0
      refine lv_iconst (v := (1 : Int32)) C.x C.b dX9_end_25 (by decide) ?_
      have hf := so_e hf
      subst hf
      exact r_zret C hr hlk hR hE hS z_1 dX9_end_26
    · have hf := it_f hf c4
      refine lv_iconst (v := (0 : Int32)) C.x C.b dX9_end_15 (by decide) ?_
      have hf := so_e hf
      subst hf
      exact r_zret C hr hlk hR hE hS z_0 dX9_end_16

def rm_X9_forgetStates : Room := { frames := 1, cells := 0, slots := 0, locals := 20 }
set_option maxRecDepth 100000 in
set_option maxHeartbeats 4000000 in
theorem k_X9_forgetStates {G : Gt} {l : Launch}  {h : Hp} {r0 : Nat} {out : Hp} (t_r0 : hpT h r0 = (1, 9))  (hf : f_X9_forgetStates  h r0 = some out) : Mt G l yX9_forgetStates cX9_forgetStates 1 (none) rm_X9_forgetStates [.ref (G.2.2 + r0)] h (none) out 0 0 0 := by
  refine r_met (by decide +kernel) (Nat.le_of_ble_eq_true rfl) ?_
  intro p e s m args below meth c ls C hr hlk hnm hR hS hl
  have hE : Ext h h := Ext.rf
  have hl : lv_has ls 1 [(0, .ref (G.2.2 + r0))] := hl
  rw [f_X9_forgetStates] at hf
  refine lv_aload_n C.x C.b dX9_forgetStates_0 rfl (lv_at hl 0 rfl) ?_
  obtain ⟨g1, hf⟩ := gd_e hf
  refine r_getr C hR t_r0 fl_X9_39 (by decide) (nz_e g1) dX9_forgetStates_1 (fun tq2 => ?_)
  have tg1 := okO tq2 rfl
  obtain ⟨q3, h_q3, hf⟩ := bd_e hf
  refine r_callV (As := []) (rest := []) C hR hS tg1 rfl mk_X3_wipe cl_X9_121 (k_X3_wipe tg1 h_q3) ⟨⟨Nat.le_of_ble_eq_true rfl, Nat.le_of_ble_eq_true rfl⟩, ⟨rfl, rfl⟩, Nat.le_of_ble_eq_true rfl, Nat.le_of_ble_eq_true rfl⟩ rfl hl.1 rfl (Nat.le_of_ble_eq_true rfl) dX9_forgetStates_4 (fun H locs hR hS hE1 z_q3 => ?_)
  have hE := hE.tr hE1
  have t_r0 := hE1.at t_r0 (by decide)
  refine lv_aload_n C.x C.b dX9_forgetStates_7 rfl (lv_at hl 0 rfl) ?_
  refine lv_iconst (v := (0 : Int32)) C.x C.b dX9_forgetStates_8 (by decide) ?_
  refine r_puti C hR hS t_r0 fl_X9_123 fp_X9_9_7 rfl dX9_forgetStates_9 (fun H locs hR hS => ?_)
  obtain ⟨h4, e_h4⟩ : ∃ y, y = upI q3 r0 7 (0 : Int32) := ⟨_, rfl⟩
  rw [← e_h4] at hR
  have hf := lt_e hf e_h4
  have hE := eI e_h4 hE
  have t_r0 := tI e_h4 t_r0
  have hf := so_e hf
  subst hf
  exact r_vret C hr hlk hR hE hS dX9_forgetStates_12

def rm_X9_fieldTold : Room := { frames := 2, cells := 0, slots := 0, locals := 44 }
def P_X9_fieldTold_34 (G : Gt) (l : Launch) (p : Program) (e : Env) (s : State) (m : MethodId) (args : Array Value) (below : List Frame) (meth : Method) (c : Code) (h0 : Hp) (out : (Int32 × Hp)) (r0 : Nat) (k : Hp → Int32 → Option (Int32 × Hp)) : Prop := ∀ (H : Heap) (locs : List Loc) (ls : Array Slot) (h : Hp) (x1 : Int32), k h x1 = some out → Ext h0 h → Rel G h H → va_S (AA G.2.2) s.heap H locs → hpT h r0 = (1, 9) → lv_has ls 3 [(0, .ref (G.2.2 + r0)), (1, .int x1)] → W p l e rm_X9_fieldTold s m args below meth c H locs 0 0 (MQ below (Qm G h0 out.2 (some (.int out.1)) 0) args s 0 0 (AA G.2.2)) (F0 m 34 ls [])
def P_X9_fieldTold_2 (G : Gt) (l : Launch) (p : Program) (e : Env) (s : State) (m : MethodId) (args : Array Value) (below : List Frame) (meth : Method) (c : Code) (h0 : Hp) (out : (Int32 × Hp)) (r0 : Nat) (k : Hp → Int32 → Option (Int32 × Hp)) : Prop := ∀ (H : Heap) (locs : List Loc) (ls : Array Slot) (h : Hp) (x1 : Int32), k h x1 = some out → Ext h0 h → Rel G h H → va_S (AA G.2.2) s.heap H locs → hpT h r0 = (1, 9) → lv_has ls 3 [(0, .ref (G.2.2 + r0)), (1, .int x1)] → W p l e rm_X9_fieldTold s m args below meth c H locs 0 0 (MQ below (Qm G h0 out.2 (some (.int out.1)) 0) args s 0 0 (AA G.2.2)) (F0 m 2 ls [])
set_option maxRecDepth 100000 in
set_option maxHeartbeats 4000000 in
theorem w_X9_fieldTold_34 {G : Gt} {l : Launch} {p : Program} {e : Env} {s : State} {m : MethodId} {args : Array Value} {below : List Frame} {meth : Method} {c : Code}  {h0 : Hp} {out : (Int32 × Hp)} {r0 : Nat}  (C : Cx G p m c cX9_fieldTold 3 s args RX9) (hr : meth.sig.returnType = some .int) (hlk : meth.locks = false)   : P_X9_fieldTold_34 G l p e s m args below meth c h0 out r0 (f_X9_fieldTold_34 r0) := by
  intro H locs ls h x1 hf hE hR hS t_r0 hl
  rw [f_X9_fieldTold_34] at hf
  refine lv_iconst (v := (-1 : Int32)) C.x C.b dX9_fieldTold_34 (by decide) ?_
  refine lv_iload_n C.x C.b dX9_fieldTold_35 rfl (lv_at hl 1 rfl) ?_
  refine lv_isub C.x C.b dX9_fieldTold_36 ?_
  have hf := so_e hf
  subst hf
  exact r_iret C hr hlk hR hE hS dX9_fieldTold_37
set_option maxRecDepth 100000 in
set_option maxHeartbeats 4000000 in
theorem w_X9_fieldTold_2 {G : Gt} {l : Launch} {p : Program} {e : Env} {s : State} {m : MethodId} {args : Array Value} {below : List Frame} {meth : Method} {c : Code}  {h0 : Hp} {out : (Int32 × Hp)} {r0 : Nat}  (C : Cx G p m c cX9_fieldTold 3 s args RX9) (hr : meth.sig.returnType = some .int) (hlk : meth.locks = false)   (n : Nat) : P_X9_fieldTold_2 G l p e s m args below meth c h0 out r0 (f_X9_fieldTold_2 r0 n) := by
  induction n with
  | zero => intro H locs ls h x1 hf hE hR hS t_r0 hl; cases hf
  | succ n hk2 =>
    intro H locs ls h x1 hf hE hR hS t_r0 hl
    rw [f_X9_fieldTold_2] at hf
    obtain ⟨k2, e_k2⟩ : ∃ y, y = f_X9_fieldTold_2 r0 n := ⟨_, rfl⟩
    have hf := lt_e hf e_k2
    rw [← e_k2] at hk2
    refine lv_iload_n C.x C.b dX9_fieldTold_2 rfl (lv_at hl 1 rfl) ?_
    refine lv_iconst (v := (2 : Int32)) C.x C.b dX9_fieldTold_3 (by decide) ?_
    refine lv_icmp_ge (tgt := 44) C.x C.b dX9_fieldTold_4 (by decide) (fun c1 => ?_) (fun c1 => ?_)
    · have hf := it_t hf c1
      refine lv_aload_n C.x C.b dX9_fieldTold_44 rfl (lv_at hl 0 rfl) ?_
      obtain ⟨g2, hf⟩ := gd_e hf
      refine r_getr C hR t_r0 fl_X9_10 (by decide) (nz_e g2) dX9_fieldTold_45 (fun tq3 => ?_)
      have tg2 := okO tq3 rfl
      refine r_geti C hR tg2 fl_X9_93 rfl dX9_fieldTold_48 ?_
      refine lv_iconst (v := (2 : Int32)) C.x C.b dX9_fieldTold_51 (by decide) ?_
      refine lv_icmp_le (tgt := 58) C.x C.b dX9_fieldTold_52 (by decide) (fun c4 => ?_) (fun c4 => ?_)
      · have hf := it_t hf c4
        refine lv_aload_n C.x C.b dX9_fieldTold_58 rfl (lv_at hl 0 rfl) ?_
        obtain ⟨g5, hf⟩ := gd_e hf
        refine r_getr C hR t_r0 fl_X9_26 (by decide) (nz_e g5) dX9_fieldTold_59 (fun tq6 => ?_)
        have tg5 := okO tq6 rfl
        refine lv_aload_n C.x C.b dX9_fieldTold_62 rfl (lv_at hl 0 rfl) ?_
        refine r_getr C hR t_r0 fl_X9_10 (by decide) (nz_e g2) dX9_fieldTold_63 (fun tq7 => ?_)
        refine lv_iconst (v := (0 : Int32)) C.x C.b dX9_fieldTold_66 (by decide) ?_
        refine lv_aload_n C.x C.b dX9_fieldTold_67 rfl (lv_at hl 0 rfl) ?_
        refine r_getr C hR t_r0 fl_X9_10 (by decide) (nz_e g2) dX9_fieldTold_68 (fun tq8 => ?_)
        refine r_geti C hR tg2 fl_X9_93 rfl dX9_fieldTold_71 ?_
        obtain ⟨q9, h_q9, hf⟩ := bd_e hf
        refine r_callV (As := [.int (0 : Int32), .int (hpI h (hpR h r0 0) 1)]) (rest := [.ref (G.2.2 + (hpR h r0 2))]) C hR hS tg2 rfl mk_X6_digit cl_X9_104 (k_X6_digit tg2 h_q9) ⟨⟨Nat.le_of_ble_eq_true rfl, Nat.le_of_ble_eq_true rfl⟩, ⟨rfl, rfl⟩, Nat.le_of_ble_eq_true rfl, Nat.le_of_ble_eq_true rfl⟩ rfl hl.1 rfl (Nat.le_of_ble_eq_true rfl) dX9_fieldTold_74 (fun H locs hR hS hE1 z_q9 => ?_)
        refine lv_aload_n C.x C.b dX9_fieldTold_77 rfl (lv_at hl 0 rfl) ?_
        refine r_getr C hR t_r0 fl_X9_10 (by decide) (nz_e g2) dX9_fieldTold_78 (fun tq10 => ?_)
        refine lv_iconst (v := (1 : Int32)) C.x C.b dX9_fieldTold_81 (by decide) ?_
        refine lv_aload_n C.x C.b dX9_fieldTold_82 rfl (lv_at hl 0 rfl) ?_
        refine r_getr C hR t_r0 fl_X9_10 (by decide) (nz_e g2) dX9_fieldTold_83 (fun tq11 => ?_)
        refine r_geti C hR tg2 fl_X9_93 rfl dX9_fieldTold_86 ?_
        obtain ⟨q12, h_q12, hf⟩ := bd_e hf
        refine r_callV (As := [.int (1 : Int32), .int (hpI h (hpR h r0 0) 1)]) (rest := [.int q9, .ref (G.2.2 + (hpR h r0 2))]) C hR hS tg2 rfl mk_X6_digit cl_X9_104 (k_X6_digit tg2 h_q12) ⟨⟨Nat.le_of_ble_eq_true rfl, Nat.le_of_ble_eq_true rfl⟩, ⟨rfl, rfl⟩, Nat.le_of_ble_eq_true rfl, Nat.le_of_ble_eq_true rfl⟩ rfl hl.1 rfl (Nat.le_of_ble_eq_true rfl) dX9_fieldTold_89 (fun H locs hR hS hE1 z_q12 => ?_)
        obtain ⟨q13, h_q13, hf⟩ := bd_e hf
        refine r_callV (As := [.int q9, .int q12]) (rest := []) C hR hS tg5 rfl mk_X0_layOut cl_X9_108 (k_X0_layOut tg5 h_q13) ⟨⟨Nat.le_of_ble_eq_true rfl, Nat.le_of_ble_eq_true rfl⟩, ⟨rfl, rfl⟩, Nat.le_of_ble_eq_true rfl, Nat.le_of_ble_eq_true rfl⟩ rfl hl.1 rfl (Nat.le_of_ble_eq_true rfl) dX9_fieldTold_92 (fun H locs hR hS hE1 z_q13 => ?_)
        have hE := hE.tr hE1
        have t_r0 := hE1.at t_r0 (by decide)
        refine lv_aload_n C.x C.b dX9_fieldTold_95 rfl (lv_at hl 0 rfl) ?_
        obtain ⟨q14, h_q14, hf⟩ := bd_e hf
        refine r_callV (As := []) (rest := []) C hR hS t_r0 rfl mk_X9_forgetStates cl_X9_112 (k_X9_forgetStates t_r0 h_q14) ⟨⟨Nat.le_of_ble_eq_true rfl, Nat.le_of_ble_eq_true rfl⟩, ⟨rfl, rfl⟩, Nat.le_of_ble_eq_true rfl, Nat.le_of_ble_eq_true rfl⟩ rfl hl.1 rfl (Nat.le_of_ble_eq_true rfl) dX9_fieldTold_96 (fun H locs hR hS hE1 z_q14 => ?_)
        have hE := hE.tr hE1
        have t_r0 := hE1.at t_r0 (by decide)
        refine lv_aload_n C.x C.b dX9_fieldTold_99 rfl (lv_at hl 0 rfl) ?_
        obtain ⟨g15, hf⟩ := gd_e hf
        refine r_getr C hR t_r0 fl_X9_69 (by decide) (nz_e g15) dX9_fieldTold_100 (fun tq16 => ?_)
        have tg15 := okO tq16 rfl
        obtain ⟨q17, h_q17, hf⟩ := bd_e hf
        refine r_callV (As := []) (rest := []) C hR hS tg15 rfl mk_X2_wipe cl_X9_115 (k_X2_wipe tg15 h_q17) ⟨⟨Nat.le_of_ble_eq_true rfl, Nat.le_of_ble_eq_true rfl⟩, ⟨rfl, rfl⟩, Nat.le_of_ble_eq_true rfl, Nat.le_of_ble_eq_true rfl⟩ rfl hl.1 rfl (Nat.le_of_ble_eq_true rfl) dX9_fieldTold_103 (fun H locs hR hS hE1 z_q17 => ?_)
        have hE := hE.tr hE1
        have t_r0 := hE1.at t_r0 (by decide)
        refine lv_pop C.x C.b dX9_fieldTold_106 rfl ?_
        refine lv_aload_n C.x C.b dX9_fieldTold_107 rfl (lv_at hl 0 rfl) ?_
        obtain ⟨g18, hf⟩ := gd_e hf
        refine r_getr C hR t_r0 fl_X9_26 (by decide) (nz_e g18) dX9_fieldTold_108 (fun tq19 => ?_)
        have tg18 := okO tq19 rfl
        obtain ⟨q20, h_q20, hf⟩ := bd_e hf
        refine r_callV (As := []) (rest := []) C hR hS tg18 rfl mk_X0_cells cl_X9_118 (k_X0_cells tg18 h_q20) ⟨⟨Nat.le_of_ble_eq_true rfl, Nat.le_of_ble_eq_true rfl⟩, ⟨rfl, rfl⟩, Nat.le_of_ble_eq_true rfl, Nat.le_of_ble_eq_true rfl⟩ rfl hl.1 rfl (Nat.le_of_ble_eq_true rfl) dX9_fieldTold_111 (fun H locs hR hS hE1 z_q20 => ?_)
        have hf := so_e hf
        subst hf
        exact r_iret C hr hlk hR hE hS dX9_fieldTold_114
      · have hf := it_f hf c4
        refine lv_bipush (v := (-3 : Int32)) C.x C.b dX9_fieldTold_55 (by decide) ?_
        have hf := so_e hf
        subst hf
        exact r_iret C hr hlk hR hE hS dX9_fieldTold_57
    · have hf := it_f hf c1
      refine lv_aload_n C.x C.b dX9_fieldTold_7 rfl (lv_at hl 0 rfl) ?_
      obtain ⟨g21, hf⟩ := gd_e hf
      refine r_getr C hR t_r0 fl_X9_10 (by decide) (nz_e g21) dX9_fieldTold_8 (fun tq22 => ?_)
      have tg21 := okO tq22 rfl
      refine lv_iload_n C.x C.b dX9_fieldTold_11 rfl (lv_at hl 1 rfl) ?_
      refine lv_aload_n C.x C.b dX9_fieldTold_12 rfl (lv_at hl 0 rfl) ?_
      refine r_getr C hR t_r0 fl_X9_10 (by decide) (nz_e g21) dX9_fieldTold_13 (fun tq23 => ?_)
      refine r_geti C hR tg21 fl_X9_93 rfl dX9_fieldTold_16 ?_
      obtain ⟨q24, h_q24, hf⟩ := bd_e hf
      refine r_callV (As := [.int x1, .int (hpI h (hpR h r0 0) 1)]) (rest := []) C hR hS tg21 rfl mk_X6_digit cl_X9_104 (k_X6_digit tg21 h_q24) ⟨⟨Nat.le_of_ble_eq_true rfl, Nat.le_of_ble_eq_true rfl⟩, ⟨rfl, rfl⟩, Nat.le_of_ble_eq_true rfl, Nat.le_of_ble_eq_true rfl⟩ rfl hl.1 rfl (Nat.le_of_ble_eq_true rfl) dX9_fieldTold_19 (fun H locs hR hS hE1 z_q24 => ?_)
      refine lv_istore_n (lv' := [(2, .int q24), (0, .ref (G.2.2 + r0)), (1, .int x1)]) C.x C.b dX9_fieldTold_22 rfl hl (by decide) rfl (fun ls hl => ?_)
      refine lv_iload_n C.x C.b dX9_fieldTold_23 rfl (lv_at hl 0 rfl) ?_
      refine lv_iconst (v := (3 : Int32)) C.x C.b dX9_fieldTold_24 (by decide) ?_
      refine lv_icmp_lt (tgt := 34) C.x C.b dX9_fieldTold_25 (by decide) (fun c25 => ?_) (fun c25 => ?_)
      · have hf := it_t hf c25
        exact w_X9_fieldTold_34 C hr hlk _ _ _ _ _ hf hE hR hS t_r0 (lv_sub hl [1, 2] rfl)
      · have hf := it_f hf c25
        refine lv_iload_n C.x C.b dX9_fieldTold_28 rfl (lv_at hl 0 rfl) ?_
        refine lv_bipush (v := (6 : Int32)) C.x C.b dX9_fieldTold_29 (by decide) ?_
        refine lv_icmp_le (tgt := 38) C.x C.b dX9_fieldTold_31 (by decide) (fun c26 => ?_) (fun c26 => ?_)
        · have hf := it_t hf c26
          obtain ⟨v27, e_v27⟩ : ∃ y : Int32, y = x1 + (1 : Int32) := ⟨_, rfl⟩
          have hf := lt_e hf e_v27
          refine lv_iinc (v := v27) (lv' := [(1, .int v27), (2, .int q24), (0, .ref (G.2.2 + r0))]) C.x C.b dX9_fieldTold_38 hl (k := 2) rfl (by rw [e_v27]; rfl) (by decide) rfl (fun ls hl => ?_)
          refine lv_goto (tgt := 2) C.x C.b dX9_fieldTold_41 (by decide) ?_
          exact hk2 _ _ _ _ _ hf hE hR hS t_r0 (lv_sub hl [2, 0] rfl)
        · have hf := it_f hf c26
          exact w_X9_fieldTold_34 C hr hlk _ _ _ _ _ hf hE hR hS t_r0 (lv_sub hl [1, 2] rfl)
set_option maxRecDepth 100000 in
set_option maxHeartbeats 4000000 in
theorem k_X9_fieldTold {G : Gt} {l : Launch}  {h : Hp} {r0 : Nat} {out : (Int32 × Hp)} (t_r0 : hpT h r0 = (1, 9))  (hf : f_X9_fieldTold  h r0 = some out) : Mt G l yX9_fieldTold cX9_fieldTold 3 (some .int) rm_X9_fieldTold [.ref (G.2.2 + r0)] h (some (.int out.1)) out.2 0 0 0 := by
  refine r_met (by decide +kernel) (Nat.le_of_ble_eq_true rfl) ?_
  intro p e s m args below meth c ls C hr hlk hnm hR hS hl
  have hE : Ext h h := Ext.rf
  have hl : lv_has ls 3 [(0, .ref (G.2.2 + r0))] := hl
  rw [f_X9_fieldTold] at hf
  refine lv_iconst (v := (0 : Int32)) C.x C.b dX9_fieldTold_0 (by decide) ?_
  refine lv_istore_n (lv' := [(1, .int (0 : Int32)), (0, .ref (G.2.2 + r0))]) C.x C.b dX9_fieldTold_1 rfl hl (by decide) rfl (fun ls hl => ?_)
  exact w_X9_fieldTold_2 C hr hlk FU _ _ _ _ _ hf hE hR hS t_r0 (lv_sub hl [1, 0] rfl)

def rm_X9_field : Room := { frames := 3, cells := 0, slots := 0, locals := 66 }
set_option maxRecDepth 100000 in
set_option maxHeartbeats 4000000 in
theorem k_X9_field {G : Gt} {l : Launch}  {h : Hp} {r0 : Nat} {out : (Int32 × Hp)} (t_r0 : hpT h r0 = (1, 9))  (hf : f_X9_field  h r0 = some out) : Mt G l yX9_field cX9_field 2 (some .int) rm_X9_field [.ref (G.2.2 + r0)] h (some (.int out.1)) out.2 0 0 0 := by
  refine r_met (by decide +kernel) (Nat.le_of_ble_eq_true rfl) ?_
  intro p e s m args below meth c ls C hr hlk hnm hR hS hl
  have hE : Ext h h := Ext.rf
  have hl : lv_has ls 2 [(0, .ref (G.2.2 + r0))] := hl
  rw [f_X9_field] at hf
  refine lv_aload_n C.x C.b dX9_field_0 rfl (lv_at hl 0 rfl) ?_
  obtain ⟨q1, h_q1, hf⟩ := bd_e hf
  refine r_callV (As := []) (rest := []) C hR hS t_r0 rfl mk_X9_fieldTold cl_X9_100 (k_X9_fieldTold t_r0 h_q1) ⟨⟨Nat.le_of_ble_eq_true rfl, Nat.le_of_ble_eq_true rfl⟩, ⟨rfl, rfl⟩, Nat.le_of_ble_eq_true rfl, Nat.le_of_ble_eq_true rfl⟩ rfl hl.1 rfl (Nat.le_of_ble_eq_true rfl) dX9_field_1 (fun H locs hR hS hE1 z_q1 => ?_)
  have hE := hE.tr hE1
  have t_r0 := hE1.at t_r0 (by decide)
  refine lv_istore_n (lv' := [(1, .int q1.1), (0, .ref (G.2.2 + r0))]) C.x C.b dX9_field_4 rfl hl (by decide) rfl (fun ls hl => ?_)
  refine lv_aload_n C.x C.b dX9_field_5 rfl (lv_at hl 1 rfl) ?_
  obtain ⟨g2, hf⟩ := gd_e hf
  refine r_getr C hR t_r0 fl_X9_10 (by decide) (nz_e g2) dX9_field_6 (fun tq3 => ?_)
  have tg2 := okO tq3 rfl
  refine lv_iconst (v := (0 : Int32)) C.x C.b dX9_field_9 (by decide) ?_
  refine r_puti C hR hS tg2 fl_X9_93 fp_X9_6_1 rfl dX9_field_10 (fun H locs hR hS => ?_)
  obtain ⟨h4, e_h4⟩ : ∃ y, y = upI q1.2 (hpR q1.2 r0 0) 1 (0 : Int32) := ⟨_, rfl⟩
  rw [← e_h4] at hR
  have hf := lt_e hf e_h4
  have hE := eI e_h4 hE
  have t_r0 := tI e_h4 t_r0
  refine lv_iload_n C.x C.b dX9_field_13 rfl (lv_at hl 0 rfl) ?_
  have hf := so_e hf
  subst hf
  exact r_iret C hr hlk hR hE hS dX9_field_14

