def rm_X10_readsCamp : Room := { frames := 2, cells := 0, slots := 0, locals := 47 }
def P_X10_readsCamp_172 (G : Gt) (l : Launch) (p : Program) (e : Env) (s : State) (m : MethodId) (args : Array Value) (below : List Frame) (meth : Method) (c : Code) (h0 : Hp) (out : (Int32 × Hp)) (r0 : Nat) (k : Hp → Int32 → Int32 → Int32 → Option (Int32 × Hp)) : Prop := ∀ (H : Heap) (locs : List Loc) (ls : Array Slot) (h : Hp) (s0 : Int32) (x1 : Int32) (x3 : Int32), k h s0 x1 x3 = some out → Ext h0 h → Rel G h H → va_S (AA G.2.2) s.heap H locs → hpT h r0 = (1, 10) → narrow .boolean (.int s0) = .int s0 → lv_has ls 6 [(0, .ref (G.2.2 + r0)), (1, .int x1), (3, .int x3)] → W p l e rm_X10_readsCamp s m args below meth c H locs 0 0 (MQ below (Qm G h0 out.2 (some (.int out.1)) 1) args s 0 0 (AA G.2.2)) (F0 m 172 ls [.int s0])
def P_X10_readsCamp_138 (G : Gt) (l : Launch) (p : Program) (e : Env) (s : State) (m : MethodId) (args : Array Value) (below : List Frame) (meth : Method) (c : Code) (h0 : Hp) (out : (Int32 × Hp)) (r0 : Nat) (k : Hp → Int32 → Int32 → Int32 → Int32 → Option (Int32 × Hp)) : Prop := ∀ (H : Heap) (locs : List Loc) (ls : Array Slot) (h : Hp) (s0 : Int32) (x1 : Int32) (x3 : Int32) (x4 : Int32), k h s0 x1 x3 x4 = some out → Ext h0 h → Rel G h H → va_S (AA G.2.2) s.heap H locs → hpT h r0 = (1, 10) → lv_has ls 6 [(0, .ref (G.2.2 + r0)), (1, .int x1), (3, .int x3), (4, .int x4)] → W p l e rm_X10_readsCamp s m args below meth c H locs 0 0 (MQ below (Qm G h0 out.2 (some (.int out.1)) 1) args s 0 0 (AA G.2.2)) (F0 m 138 ls [.int s0])
def P_X10_readsCamp_56 (G : Gt) (l : Launch) (p : Program) (e : Env) (s : State) (m : MethodId) (args : Array Value) (below : List Frame) (meth : Method) (c : Code) (h0 : Hp) (out : (Int32 × Hp)) (r0 : Nat) (k : Hp → Int32 → Int32 → Int32 → Option (Int32 × Hp)) : Prop := ∀ (H : Heap) (locs : List Loc) (ls : Array Slot) (h : Hp) (s0 : Int32) (x1 : Int32) (x3 : Int32), k h s0 x1 x3 = some out → Ext h0 h → Rel G h H → va_S (AA G.2.2) s.heap H locs → hpT h r0 = (1, 10) → narrow .boolean (.int s0) = .int s0 → lv_has ls 6 [(0, .ref (G.2.2 + r0)), (1, .int x1), (3, .int x3)] → W p l e rm_X10_readsCamp s m args below meth c H locs 0 0 (MQ below (Qm G h0 out.2 (some (.int out.1)) 1) args s 0 0 (AA G.2.2)) (F0 m 56 ls [.int s0])
def P_X10_readsCamp_179 (G : Gt) (l : Launch) (p : Program) (e : Env) (s : State) (m : MethodId) (args : Array Value) (below : List Frame) (meth : Method) (c : Code) (h0 : Hp) (out : (Int32 × Hp)) (r0 : Nat) (k : Hp → Int32 → Option (Int32 × Hp)) : Prop := ∀ (H : Heap) (locs : List Loc) (ls : Array Slot) (h : Hp) (x2 : Int32), k h x2 = some out → Ext h0 h → Rel G h H → va_S (AA G.2.2) s.heap H locs → hpT h r0 = (1, 10) → narrow .boolean (.int x2) = .int x2 → lv_has ls 6 [(0, .ref (G.2.2 + r0)), (2, .int x2)] → W p l e rm_X10_readsCamp s m args below meth c H locs 0 0 (MQ below (Qm G h0 out.2 (some (.int out.1)) 1) args s 0 0 (AA G.2.2)) (F0 m 179 ls [])
def P_X10_readsCamp_55 (G : Gt) (l : Launch) (p : Program) (e : Env) (s : State) (m : MethodId) (args : Array Value) (below : List Frame) (meth : Method) (c : Code) (h0 : Hp) (out : (Int32 × Hp)) (r0 : Nat) (k : Hp → Int32 → Int32 → Option (Int32 × Hp)) : Prop := ∀ (H : Heap) (locs : List Loc) (ls : Array Slot) (h : Hp) (x1 : Int32) (x3 : Int32), k h x1 x3 = some out → Ext h0 h → Rel G h H → va_S (AA G.2.2) s.heap H locs → hpT h r0 = (1, 10) → lv_has ls 6 [(0, .ref (G.2.2 + r0)), (1, .int x1), (3, .int x3)] → W p l e rm_X10_readsCamp s m args below meth c H locs 0 0 (MQ below (Qm G h0 out.2 (some (.int out.1)) 1) args s 0 0 (AA G.2.2)) (F0 m 55 ls [])
def P_X10_readsCamp_31 (G : Gt) (l : Launch) (p : Program) (e : Env) (s : State) (m : MethodId) (args : Array Value) (below : List Frame) (meth : Method) (c : Code) (h0 : Hp) (out : (Int32 × Hp)) (r0 : Nat) (k : Hp → Int32 → Int32 → Int32 → Option (Int32 × Hp)) : Prop := ∀ (H : Heap) (locs : List Loc) (ls : Array Slot) (h : Hp) (x1 : Int32) (x2 : Int32) (x3 : Int32), k h x1 x2 x3 = some out → Ext h0 h → Rel G h H → va_S (AA G.2.2) s.heap H locs → hpT h r0 = (1, 10) → narrow .boolean (.int x2) = .int x2 → lv_has ls 6 [(0, .ref (G.2.2 + r0)), (1, .int x1), (2, .int x2), (3, .int x3)] → W p l e rm_X10_readsCamp s m args below meth c H locs 0 0 (MQ below (Qm G h0 out.2 (some (.int out.1)) 1) args s 0 0 (AA G.2.2)) (F0 m 31 ls [])
set_option maxRecDepth 100000 in
set_option maxHeartbeats 4000000 in
theorem w_X10_readsCamp_172 {G : Gt} {l : Launch} {p : Program} {e : Env} {s : State} {m : MethodId} {args : Array Value} {below : List Frame} {meth : Method} {c : Code}  {h0 : Hp} {out : (Int32 × Hp)} {r0 : Nat} {k31 : Hp → Int32 → Int32 → Int32 → Option (Int32 × Hp)} (C : Cx G p m c cX10_readsCamp 6 s args RX10) (hr : meth.sig.returnType = some .boolean) (hlk : meth.locks = false)  (hk31 : P_X10_readsCamp_31 G l p e s m args below meth c h0 out r0 k31) : P_X10_readsCamp_172 G l p e s m args below meth c h0 out r0 (f_X10_readsCamp_172 r0 k31) := by
  intro H locs ls h s0 x1 x3 hf hE hR hS t_r0 z_s0 hl
  rw [f_X10_readsCamp_172] at hf
  refine lv_istore_n (lv' := [(2, .int s0), (0, .ref (G.2.2 + r0)), (1, .int x1), (3, .int x3)]) C.x C.b dX10_readsCamp_172 rfl hl (by decide) rfl (fun ls hl => ?_)
  obtain ⟨v32, e_v32⟩ : ∃ y : Int32, y = x3 + (1 : Int32) := ⟨_, rfl⟩
  have hf := lt_e hf e_v32
  refine lv_iinc (v := v32) (lv' := [(3, .int v32), (2, .int s0), (0, .ref (G.2.2 + r0)), (1, .int x1)]) C.x C.b dX10_readsCamp_173 hl (k := 3) rfl (by rw [e_v32]; rfl) (by decide) rfl (fun ls hl => ?_)
  refine lv_goto (tgt := 31) C.x C.b dX10_readsCamp_176 (by decide) ?_
  exact hk31 _ _ _ _ _ _ _ hf hE hR hS t_r0 z_s0 (lv_sub hl [2, 3, 1, 0] rfl)
set_option maxRecDepth 100000 in
set_option maxHeartbeats 4000000 in
theorem w_X10_readsCamp_138 {G : Gt} {l : Launch} {p : Program} {e : Env} {s : State} {m : MethodId} {args : Array Value} {below : List Frame} {meth : Method} {c : Code}  {h0 : Hp} {out : (Int32 × Hp)} {r0 : Nat} {k31 : Hp → Int32 → Int32 → Int32 → Option (Int32 × Hp)} (C : Cx G p m c cX10_readsCamp 6 s args RX10) (hr : meth.sig.returnType = some .boolean) (hlk : meth.locks = false)  (hk31 : P_X10_readsCamp_31 G l p e s m args below meth c h0 out r0 k31) : P_X10_readsCamp_138 G l p e s m args below meth c h0 out r0 (f_X10_readsCamp_138 r0 k31) := by
  intro H locs ls h s0 x1 x3 x4 hf hE hR hS t_r0 hl
  rw [f_X10_readsCamp_138] at hf
  refine lv_istore (lv' := [(5, .int s0), (0, .ref (G.2.2 + r0)), (1, .int x1), (3, .int x3), (4, .int x4)]) C.x C.b dX10_readsCamp_138 hl (by decide) rfl (fun ls hl => ?_)
  refine lv_aload_n C.x C.b dX10_readsCamp_140 rfl (lv_at hl 1 rfl) ?_
  obtain ⟨g23, hf⟩ := gd_e hf
  refine r_getr C hR t_r0 fl_X10_30 (by decide) (nz_e g23) dX10_readsCamp_141 (fun tq24 => ?_)
  have tg23 := okA tq24 rfl
  refine lv_iload_n C.x C.b dX10_readsCamp_144 rfl (lv_at hl 2 rfl) ?_
  refine lv_iload_n C.x C.b dX10_readsCamp_145 rfl (lv_at hl 3 rfl) ?_
  refine lv_iadd C.x C.b dX10_readsCamp_146 ?_
  refine lv_aload_n C.x C.b dX10_readsCamp_147 rfl (lv_at hl 1 rfl) ?_
  refine lv_iload C.x C.b dX10_readsCamp_148 (lv_at hl 4 rfl) ?_
  refine lv_iload C.x C.b dX10_readsCamp_150 (lv_at hl 0 rfl) ?_
  obtain ⟨q25, h_q25, hf⟩ := bd_e hf
  refine r_callV (As := [.int x4, .int s0]) (rest := [.int (x1 + x3), .ref (G.2.2 + (hpR h r0 13))]) C hR hS t_r0 rfl mk_X10_digitIn cl_X10_188 (k_X10_digitIn t_r0 h_q25) ⟨⟨Nat.le_of_ble_eq_true rfl, Nat.le_of_ble_eq_true rfl⟩, ⟨rfl, rfl⟩, Nat.le_of_ble_eq_true rfl, Nat.le_of_ble_eq_true rfl⟩ rfl hl.1 rfl (Nat.le_of_ble_eq_true rfl) dX10_readsCamp_152 (fun H locs hR hS hE1 z_q25 => ?_)
  have hE := hE.tr hE1
  have tg23 := hE1.k tg23 (by decide)
  have t_r0 := hE1.at t_r0 (by decide)
  obtain ⟨g26, hf⟩ := gd_e hf
  refine r_iast C hR hS tg23 g26 dX10_readsCamp_155 (fun H locs hR hS => ?_)
  obtain ⟨h27, e_h27⟩ : ∃ y, y = upI q25.2 (hpR h r0 13) (ix (x1 + x3)) q25.1 := ⟨_, rfl⟩
  rw [← e_h27] at hR
  have hf := lt_e hf e_h27
  have hE := eI e_h27 hE
  have t_r0 := tI e_h27 t_r0
  refine lv_aload_n C.x C.b dX10_readsCamp_156 rfl (lv_at hl 1 rfl) ?_
  obtain ⟨g28, hf⟩ := gd_e hf
  refine r_getr C hR t_r0 fl_X10_30 (by decide) (nz_e g28) dX10_readsCamp_157 (fun tq29 => ?_)
  have tg28 := okA tq29 rfl
  refine lv_iload_n C.x C.b dX10_readsCamp_160 rfl (lv_at hl 2 rfl) ?_
  refine lv_iload_n C.x C.b dX10_readsCamp_161 rfl (lv_at hl 3 rfl) ?_
  refine lv_iadd C.x C.b dX10_readsCamp_162 ?_
  obtain ⟨g30, hf⟩ := gd_e hf
  refine r_iald C hR tg28 g30 dX10_readsCamp_163 ?_
  refine lv_if_lt (tgt := 171) C.x C.b dX10_readsCamp_164 (by decide) (fun c31 => ?_) (fun c31 => ?_)
  · simp only [if_pos c31] at hf
    refine lv_iconst (v := (0 : Int32)) C.x C.b dX10_readsCamp_171 (by decide) ?_
    exact w_X10_readsCamp_172 C hr hlk hk31 _ _ _ _ _ _ _ hf hE hR hS t_r0 z_0 (lv_sub hl [1, 2, 3] rfl)
  · simp only [if_neg c31] at hf
    refine lv_iconst (v := (1 : Int32)) C.x C.b dX10_readsCamp_167 (by decide) ?_
    refine lv_goto (tgt := 172) C.x C.b dX10_readsCamp_168 (by decide) ?_
    exact w_X10_readsCamp_172 C hr hlk hk31 _ _ _ _ _ _ _ hf hE hR hS t_r0 z_1 (lv_sub hl [1, 2, 3] rfl)
set_option maxRecDepth 100000 in
set_option maxHeartbeats 4000000 in
theorem w_X10_readsCamp_56 {G : Gt} {l : Launch} {p : Program} {e : Env} {s : State} {m : MethodId} {args : Array Value} {below : List Frame} {meth : Method} {c : Code}  {h0 : Hp} {out : (Int32 × Hp)} {r0 : Nat} {k31 : Hp → Int32 → Int32 → Int32 → Option (Int32 × Hp)} (C : Cx G p m c cX10_readsCamp 6 s args RX10) (hr : meth.sig.returnType = some .boolean) (hlk : meth.locks = false)  (hk31 : P_X10_readsCamp_31 G l p e s m args below meth c h0 out r0 k31) : P_X10_readsCamp_56 G l p e s m args below meth c h0 out r0 (f_X10_readsCamp_56 r0 k31) := by
  intro H locs ls h s0 x1 x3 hf hE hR hS t_r0 z_s0 hl
  rw [f_X10_readsCamp_56] at hf
  obtain ⟨q10, h_q10, hf⟩ := bd_e hf
  refine r_callS (As := [.int s0]) (rest := []) C hR hS mk_X10_flag cl_X10_163 (k_X10_flag h_q10) ⟨⟨Nat.le_of_ble_eq_true rfl, Nat.le_of_ble_eq_true rfl⟩, ⟨rfl, rfl⟩, Nat.le_of_ble_eq_true rfl, Nat.le_of_ble_eq_true rfl⟩ rfl hl.1 rfl (Nat.le_of_ble_eq_true rfl) dX10_readsCamp_56 (fun H locs hR hS hE1 z_q10 => ?_)
  refine lv_istore (lv' := [(4, .int q10), (0, .ref (G.2.2 + r0)), (1, .int x1), (3, .int x3)]) C.x C.b dX10_readsCamp_59 hl (by decide) rfl (fun ls hl => ?_)
  refine lv_iload_n C.x C.b dX10_readsCamp_61 rfl (lv_at hl 3 rfl) ?_
  refine lv_if_ne (tgt := 74) C.x C.b dX10_readsCamp_62 (by decide) (fun c11 => ?_) (fun c11 => ?_)
  · have hf := it_f hf c11
    refine lv_iload_n C.x C.b dX10_readsCamp_74 rfl (lv_at hl 3 rfl) ?_
    refine lv_iconst (v := (1 : Int32)) C.x C.b dX10_readsCamp_75 (by decide) ?_
    refine lv_icmp_ne (tgt := 88) C.x C.b dX10_readsCamp_76 (by decide) (fun c12 => ?_) (fun c12 => ?_)
    · have hf := it_f hf c12
      refine lv_iload_n C.x C.b dX10_readsCamp_88 rfl (lv_at hl 3 rfl) ?_
      refine lv_iconst (v := (2 : Int32)) C.x C.b dX10_readsCamp_89 (by decide) ?_
      refine lv_icmp_ne (tgt := 111) C.x C.b dX10_readsCamp_90 (by decide) (fun c13 => ?_) (fun c13 => ?_)
      · have hf := it_f hf c13
        refine lv_iload_n C.x C.b dX10_readsCamp_111 rfl (lv_at hl 3 rfl) ?_
        refine lv_iconst (v := (3 : Int32)) C.x C.b dX10_readsCamp_112 (by decide) ?_
        refine lv_icmp_ne (tgt := 136) C.x C.b dX10_readsCamp_113 (by decide) (fun c14 => ?_) (fun c14 => ?_)
        · have hf := it_f hf c14
          refine lv_bipush (v := (9 : Int32)) C.x C.b dX10_readsCamp_136 (by decide) ?_
          exact w_X10_readsCamp_138 C hr hlk hk31 _ _ _ _ _ _ _ _ hf hE hR hS t_r0 (lv_sub hl [1, 2, 3, 0] rfl)
        · have hf := it_t hf c14
          refine lv_iconst (v := (3 : Int32)) C.x C.b dX10_readsCamp_116 (by decide) ?_
          refine lv_aload_n C.x C.b dX10_readsCamp_117 rfl (lv_at hl 1 rfl) ?_
          refine r_geti C hR t_r0 fl_X10_17 rfl dX10_readsCamp_118 ?_
          refine lv_aload_n C.x C.b dX10_readsCamp_121 rfl (lv_at hl 1 rfl) ?_
          obtain ⟨g15, hf⟩ := gd_e hf
          refine r_getr C hR t_r0 fl_X10_30 (by decide) (nz_e g15) dX10_readsCamp_122 (fun tq16 => ?_)
          have tg15 := okA tq16 rfl
          refine lv_iload_n C.x C.b dX10_readsCamp_125 rfl (lv_at hl 2 rfl) ?_
          refine lv_iconst (v := (1 : Int32)) C.x C.b dX10_readsCamp_126 (by decide) ?_
          refine lv_iadd C.x C.b dX10_readsCamp_127 ?_
          obtain ⟨g17, hf⟩ := gd_e hf
          refine r_iald C hR tg15 g17 dX10_readsCamp_128 ?_
          refine lv_isub C.x C.b dX10_readsCamp_129 ?_
          refine va_mmin C.x C.b (C.ml.trans hl.1.symm) C.ow (C.ts _ lk_X10_154) (C.ts _ lk_Mmin_s) (C.ts _ lk_Math) (C.ts _ lk_Mmin_c) (Nat.le_of_ble_eq_true rfl) (Nat.le_of_ble_eq_true rfl) (Nat.le_of_ble_eq_true rfl) (Nat.le_of_ble_eq_true rfl) dX10_readsCamp_130 ?_
          refine lv_topi (fun v18 e_v18 => ?_)
          have hf := lt_e hf e_v18
          refine lv_goto (tgt := 138) C.x C.b dX10_readsCamp_133 (by decide) ?_
          exact w_X10_readsCamp_138 C hr hlk hk31 _ _ _ _ _ _ _ _ hf hE hR hS t_r0 (lv_sub hl [1, 2, 3, 0] rfl)
      · have hf := it_t hf c13
        refine lv_iconst (v := (3 : Int32)) C.x C.b dX10_readsCamp_93 (by decide) ?_
        refine lv_aload_n C.x C.b dX10_readsCamp_94 rfl (lv_at hl 1 rfl) ?_
        refine r_geti C hR t_r0 fl_X10_13 rfl dX10_readsCamp_95 ?_
        refine lv_aload_n C.x C.b dX10_readsCamp_98 rfl (lv_at hl 1 rfl) ?_
        obtain ⟨g19, hf⟩ := gd_e hf
        refine r_getr C hR t_r0 fl_X10_30 (by decide) (nz_e g19) dX10_readsCamp_99 (fun tq20 => ?_)
        have tg19 := okA tq20 rfl
        refine lv_iload_n C.x C.b dX10_readsCamp_102 rfl (lv_at hl 2 rfl) ?_
        obtain ⟨g21, hf⟩ := gd_e hf
        refine r_iald C hR tg19 g21 dX10_readsCamp_103 ?_
        refine lv_isub C.x C.b dX10_readsCamp_104 ?_
        refine va_mmin C.x C.b (C.ml.trans hl.1.symm) C.ow (C.ts _ lk_X10_154) (C.ts _ lk_Mmin_s) (C.ts _ lk_Math) (C.ts _ lk_Mmin_c) (Nat.le_of_ble_eq_true rfl) (Nat.le_of_ble_eq_true rfl) (Nat.le_of_ble_eq_true rfl) (Nat.le_of_ble_eq_true rfl) dX10_readsCamp_105 ?_
        refine lv_topi (fun v22 e_v22 => ?_)
        have hf := lt_e hf e_v22
        refine lv_goto (tgt := 138) C.x C.b dX10_readsCamp_108 (by decide) ?_
        exact w_X10_readsCamp_138 C hr hlk hk31 _ _ _ _ _ _ _ _ hf hE hR hS t_r0 (lv_sub hl [1, 2, 3, 0] rfl)
    · have hf := it_t hf c12
      refine lv_aload_n C.x C.b dX10_readsCamp_79 rfl (lv_at hl 1 rfl) ?_
      refine r_geti C hR t_r0 fl_X10_17 rfl dX10_readsCamp_80 ?_
      refine lv_iconst (v := (1 : Int32)) C.x C.b dX10_readsCamp_83 (by decide) ?_
      refine lv_isub C.x C.b dX10_readsCamp_84 ?_
      refine lv_goto (tgt := 138) C.x C.b dX10_readsCamp_85 (by decide) ?_
      exact w_X10_readsCamp_138 C hr hlk hk31 _ _ _ _ _ _ _ _ hf hE hR hS t_r0 (lv_sub hl [1, 2, 3, 0] rfl)
  · have hf := it_t hf c11
    refine lv_aload_n C.x C.b dX10_readsCamp_65 rfl (lv_at hl 1 rfl) ?_
    refine r_geti C hR t_r0 fl_X10_13 rfl dX10_readsCamp_66 ?_
    refine lv_iconst (v := (1 : Int32)) C.x C.b dX10_readsCamp_69 (by decide) ?_
    refine lv_isub C.x C.b dX10_readsCamp_70 ?_
    refine lv_goto (tgt := 138) C.x C.b dX10_readsCamp_71 (by decide) ?_
    exact w_X10_readsCamp_138 C hr hlk hk31 _ _ _ _ _ _ _ _ hf hE hR hS t_r0 (lv_sub hl [1, 2, 3, 0] rfl)
set_option maxRecDepth 100000 in
set_option maxHeartbeats 4000000 in
theorem w_X10_readsCamp_179 {G : Gt} {l : Launch} {p : Program} {e : Env} {s : State} {m : MethodId} {args : Array Value} {below : List Frame} {meth : Method} {c : Code}  {h0 : Hp} {out : (Int32 × Hp)} {r0 : Nat}  (C : Cx G p m c cX10_readsCamp 6 s args RX10) (hr : meth.sig.returnType = some .boolean) (hlk : meth.locks = false)   : P_X10_readsCamp_179 G l p e s m args below meth c h0 out r0 (f_X10_readsCamp_179 r0) := by
  intro H locs ls h x2 hf hE hR hS t_r0 z_x2 hl
  rw [f_X10_readsCamp_179] at hf
  refine lv_aload_n C.x C.b dX10_readsCamp_179 rfl (lv_at hl 0 rfl) ?_
  refine lv_dup C.x C.b dX10_readsCamp_180 rfl ?_
  refine r_geti C hR t_r0 fl_X10_200 rfl dX10_readsCamp_181 ?_
  refine lv_iconst (v := (1 : Int32)) C.x C.b dX10_readsCamp_184 (by decide) ?_
  refine lv_iadd C.x C.b dX10_readsCamp_185 ?_
  refine r_puti C hR hS t_r0 fl_X10_200 fp_X10_10_14 rfl dX10_readsCamp_186 (fun H locs hR hS => ?_)
  obtain ⟨h33, e_h33⟩ : ∃ y, y = upI h r0 14 ((hpI h r0 14) + (1 : Int32)) := ⟨_, rfl⟩
  rw [← e_h33] at hR
  have hf := lt_e hf e_h33
  have hE := eI e_h33 hE
  have t_r0 := tI e_h33 t_r0
  refine lv_iload_n C.x C.b dX10_readsCamp_189 rfl (lv_at hl 1 rfl) ?_
  have hf := so_e hf
  subst hf
  exact r_zret C hr hlk hR hE hS z_x2 dX10_readsCamp_190
set_option maxRecDepth 100000 in
set_option maxHeartbeats 4000000 in
theorem w_X10_readsCamp_55 {G : Gt} {l : Launch} {p : Program} {e : Env} {s : State} {m : MethodId} {args : Array Value} {below : List Frame} {meth : Method} {c : Code}  {h0 : Hp} {out : (Int32 × Hp)} {r0 : Nat} {k31 : Hp → Int32 → Int32 → Int32 → Option (Int32 × Hp)} (C : Cx G p m c cX10_readsCamp 6 s args RX10) (hr : meth.sig.returnType = some .boolean) (hlk : meth.locks = false)  (hk31 : P_X10_readsCamp_31 G l p e s m args below meth c h0 out r0 k31) : P_X10_readsCamp_55 G l p e s m args below meth c h0 out r0 (f_X10_readsCamp_55 r0 k31) := by
  intro H locs ls h x1 x3 hf hE hR hS t_r0 hl
  rw [f_X10_readsCamp_55] at hf
  refine lv_iconst (v := (0 : Int32)) C.x C.b dX10_readsCamp_55 (by decide) ?_
  exact w_X10_readsCamp_56 C hr hlk hk31 _ _ _ _ _ _ _ hf hE hR hS t_r0 z_0 (lv_sub hl [0, 1, 2] rfl)
set_option maxRecDepth 100000 in
set_option maxHeartbeats 4000000 in
theorem w_X10_readsCamp_31 {G : Gt} {l : Launch} {p : Program} {e : Env} {s : State} {m : MethodId} {args : Array Value} {below : List Frame} {meth : Method} {c : Code}  {h0 : Hp} {out : (Int32 × Hp)} {r0 : Nat}  (C : Cx G p m c cX10_readsCamp 6 s args RX10) (hr : meth.sig.returnType = some .boolean) (hlk : meth.locks = false)   (n : Nat) : P_X10_readsCamp_31 G l p e s m args below meth c h0 out r0 (f_X10_readsCamp_31 r0 n) := by
  induction n with
  | zero => intro H locs ls h x1 x2 x3 hf hE hR hS t_r0 z_x2 hl; cases hf
  | succ n hk31 =>
    intro H locs ls h x1 x2 x3 hf hE hR hS t_r0 z_x2 hl
    rw [f_X10_readsCamp_31] at hf
    obtain ⟨k31, e_k31⟩ : ∃ y, y = f_X10_readsCamp_31 r0 n := ⟨_, rfl⟩
    have hf := lt_e hf e_k31
    rw [← e_k31] at hk31
    refine lv_iload_n C.x C.b dX10_readsCamp_31 rfl (lv_at hl 3 rfl) ?_
    refine lv_bipush (v := (6 : Int32)) C.x C.b dX10_readsCamp_32 (by decide) ?_
    refine lv_icmp_ge (tgt := 179) C.x C.b dX10_readsCamp_34 (by decide) (fun c6 => ?_) (fun c6 => ?_)
    · have hf := it_t hf c6
      exact w_X10_readsCamp_179 C hr hlk _ _ _ _ _ hf hE hR hS t_r0 z_x2 (lv_sub hl [0, 2] rfl)
    · have hf := it_f hf c6
      refine lv_iload_n C.x C.b dX10_readsCamp_37 rfl (lv_at hl 2 rfl) ?_
      refine lv_if_eq (tgt := 179) C.x C.b dX10_readsCamp_38 (by decide) (fun c7 => ?_) (fun c7 => ?_)
      · have hf := it_t hf c7
        exact w_X10_readsCamp_179 C hr hlk _ _ _ _ _ hf hE hR hS t_r0 z_x2 (lv_sub hl [0, 2] rfl)
      · have hf := it_f hf c7
        refine lv_iload_n C.x C.b dX10_readsCamp_41 rfl (lv_at hl 3 rfl) ?_
        refine lv_iconst (v := (1 : Int32)) C.x C.b dX10_readsCamp_42 (by decide) ?_
        refine lv_icmp_le (tgt := 55) C.x C.b dX10_readsCamp_43 (by decide) (fun c8 => ?_) (fun c8 => ?_)
        · have hf := it_t hf c8
          exact w_X10_readsCamp_55 C hr hlk hk31 _ _ _ _ _ _ hf hE hR hS t_r0 (lv_sub hl [0, 1, 3] rfl)
        · have hf := it_f hf c8
          refine lv_iload_n C.x C.b dX10_readsCamp_46 rfl (lv_at hl 3 rfl) ?_
          refine lv_iconst (v := (5 : Int32)) C.x C.b dX10_readsCamp_47 (by decide) ?_
          refine lv_icmp_ge (tgt := 55) C.x C.b dX10_readsCamp_48 (by decide) (fun c9 => ?_) (fun c9 => ?_)
          · have hf := it_t hf c9
            exact w_X10_readsCamp_55 C hr hlk hk31 _ _ _ _ _ _ hf hE hR hS t_r0 (lv_sub hl [0, 1, 3] rfl)
          · have hf := it_f hf c9
            refine lv_iconst (v := (1 : Int32)) C.x C.b dX10_readsCamp_51 (by decide) ?_
            refine lv_goto (tgt := 56) C.x C.b dX10_readsCamp_52 (by decide) ?_
            exact w_X10_readsCamp_56 C hr hlk hk31 _ _ _ _ _ _ _ hf hE hR hS t_r0 z_1 (lv_sub hl [0, 1, 3] rfl)
set_option maxRecDepth 100000 in
set_option maxHeartbeats 4000000 in
theorem k_X10_readsCamp {G : Gt} {l : Launch}  {h : Hp} {r0 : Nat} {out : (Int32 × Hp)} (t_r0 : hpT h r0 = (1, 10))  (hf : f_X10_readsCamp  h r0 = some out) : Mt G l yX10_readsCamp cX10_readsCamp 6 (some .boolean) rm_X10_readsCamp [.ref (G.2.2 + r0)] h (some (.int out.1)) out.2 1 0 0 := by
  refine r_met (by decide +kernel) (Nat.le_of_ble_eq_true rfl) ?_
  intro p e s m args below meth c ls C hr hlk hnm hR hS hl
  have hE : Ext h h := Ext.rf
  have hl : lv_has ls 6 [(0, .ref (G.2.2 + r0))] := hl
  rw [f_X10_readsCamp] at hf
  refine lv_aload_n C.x C.b dX10_readsCamp_0 rfl (lv_at hl 0 rfl) ?_
  obtain ⟨g1, hf⟩ := gd_e hf
  refine r_getr C hR t_r0 fl_X10_20 (by decide) (nz_e g1) dX10_readsCamp_1 (fun tq2 => ?_)
  have tg1 := okA tq2 rfl
  refine lv_bipush (v := (48 : Int32)) C.x C.b dX10_readsCamp_4 (by decide) ?_
  obtain ⟨g3, hf⟩ := gd_e hf
  refine r_iald C hR tg1 g3 dX10_readsCamp_6 ?_
  refine lv_aload_n C.x C.b dX10_readsCamp_7 rfl (lv_at hl 0 rfl) ?_
  refine r_geti C hR t_r0 fl_X10_200 rfl dX10_readsCamp_8 ?_
  refine lv_iadd C.x C.b dX10_readsCamp_11 ?_
  refine lv_bipush (v := (8 : Int32)) C.x C.b dX10_readsCamp_12 (by decide) ?_
  refine lv_icmp_ne (tgt := 19) C.x C.b dX10_readsCamp_14 (by decide) (fun c4 => ?_) (fun c4 => ?_)
  · have hf := it_f hf c4
    refine lv_bipush (v := (6 : Int32)) C.x C.b dX10_readsCamp_19 (by decide) ?_
    refine lv_aload_n C.x C.b dX10_readsCamp_21 rfl (lv_at hl 0 rfl) ?_
    refine r_geti C hR t_r0 fl_X10_200 rfl dX10_readsCamp_22 ?_
    refine lv_imul C.x C.b dX10_readsCamp_25 ?_
    refine lv_topi (fun v5 e_v5 => ?_)
    have hf := lt_e hf e_v5
    refine lv_istore_n (lv' := [(1, .int v5), (0, .ref (G.2.2 + r0))]) C.x C.b dX10_readsCamp_26 rfl hl (by decide) rfl (fun ls hl => ?_)
    refine lv_iconst (v := (1 : Int32)) C.x C.b dX10_readsCamp_27 (by decide) ?_
    refine lv_istore_n (lv' := [(2, .int (1 : Int32)), (1, .int v5), (0, .ref (G.2.2 + r0))]) C.x C.b dX10_readsCamp_28 rfl hl (by decide) rfl (fun ls hl => ?_)
    refine lv_iconst (v := (0 : Int32)) C.x C.b dX10_readsCamp_29 (by decide) ?_
    refine lv_istore_n (lv' := [(3, .int (0 : Int32)), (2, .int (1 : Int32)), (1, .int v5), (0, .ref (G.2.2 + r0))]) C.x C.b dX10_readsCamp_30 rfl hl (by decide) rfl (fun ls hl => ?_)
    exact w_X10_readsCamp_31 C hr hlk FU _ _ _ _ _ _ _ hf hE hR hS t_r0 z_1 (lv_sub hl [3, 2, 1, 0] rfl)
  · have hf := it_t hf c4
    refine lv_iconst (v := (0 : Int32)) C.x C.b dX10_readsCamp_17 (by decide) ?_
    have hf := so_e hf
    subst hf
    exact r_zret C hr hlk hR hE hS z_0 dX10_readsCamp_18

def rm_X10_comes : Room := { frames := 0, cells := 0, slots := 0, locals := 0 }
set_option maxRecDepth 100000 in
set_option maxHeartbeats 4000000 in
theorem k_X10_comes {G : Gt} {l : Launch}  {h : Hp} {r0 : Nat} {x1 : Int32} {x2 : Int32} {x3 : Int32} {x4 : Int32} {x5 : Int32} {out : Hp} (t_r0 : (hpT h r0).1 = 2)  (hf : f_X10_comes  h r0 x1 x2 x3 x4 x5 = some out) : Mt G l yX10_comes cX10_comes 7 (none) rm_X10_comes [.ref (G.2.2 + r0), .int x1, .int x2, .int x3, .int x4, .int x5] h (none) out 0 0 0 := by
  refine r_met (by decide +kernel) (Nat.le_of_ble_eq_true rfl) ?_
  intro p e s m args below meth c ls C hr hlk hnm hR hS hl
  have hE : Ext h h := Ext.rf
  have hl : lv_has ls 7 [(0, .ref (G.2.2 + r0)), (1, .int x1), (2, .int x2), (3, .int x3), (4, .int x4), (5, .int x5)] := hl
  rw [f_X10_comes] at hf
  refine lv_aload_n C.x C.b dX10_comes_0 rfl (lv_at hl 0 rfl) ?_
  refine lv_bipush (v := (48 : Int32)) C.x C.b dX10_comes_1 (by decide) ?_
  obtain ⟨g1, hf⟩ := gd_e hf
  refine r_iald C hR t_r0 g1 dX10_comes_3 ?_
  refine lv_topi (fun v2 e_v2 => ?_)
  have hf := lt_e hf e_v2
  refine lv_istore (lv' := [(6, .int v2), (0, .ref (G.2.2 + r0)), (1, .int x1), (2, .int x2), (3, .int x3), (4, .int x4), (5, .int x5)]) C.x C.b dX10_comes_4 hl (by decide) rfl (fun ls hl => ?_)
  refine lv_aload_n C.x C.b dX10_comes_6 rfl (lv_at hl 1 rfl) ?_
  refine lv_iload C.x C.b dX10_comes_7 (lv_at hl 0 rfl) ?_
  refine lv_iload_n C.x C.b dX10_comes_9 rfl (lv_at hl 2 rfl) ?_
  obtain ⟨g3, hf⟩ := gd_e hf
  refine r_iast C hR hS t_r0 g3 dX10_comes_10 (fun H locs hR hS => ?_)
  obtain ⟨h4, e_h4⟩ : ∃ y, y = upI h r0 (ix v2) x1 := ⟨_, rfl⟩
  rw [← e_h4] at hR
  have hf := lt_e hf e_h4
  have hE := eI e_h4 hE
  have t_r0 := tIk e_h4 t_r0
  refine lv_aload_n C.x C.b dX10_comes_11 rfl (lv_at hl 1 rfl) ?_
  refine lv_bipush (v := (8 : Int32)) C.x C.b dX10_comes_12 (by decide) ?_
  refine lv_iload C.x C.b dX10_comes_14 (lv_at hl 0 rfl) ?_
  refine lv_iadd C.x C.b dX10_comes_16 ?_
  refine lv_iload_n C.x C.b dX10_comes_17 rfl (lv_at hl 3 rfl) ?_
  obtain ⟨g5, hf⟩ := gd_e hf
  refine r_iast C hR hS t_r0 g5 dX10_comes_18 (fun H locs hR hS => ?_)
  obtain ⟨h6, e_h6⟩ : ∃ y, y = upI h4 r0 (ix ((8 : Int32) + v2)) x2 := ⟨_, rfl⟩
  rw [← e_h6] at hR
  have hf := lt_e hf e_h6
  have hE := eI e_h6 hE
  have t_r0 := tIk e_h6 t_r0
  refine lv_aload_n C.x C.b dX10_comes_19 rfl (lv_at hl 1 rfl) ?_
  refine lv_bipush (v := (16 : Int32)) C.x C.b dX10_comes_20 (by decide) ?_
  refine lv_iload C.x C.b dX10_comes_22 (lv_at hl 0 rfl) ?_
  refine lv_iadd C.x C.b dX10_comes_24 ?_
  refine lv_iload_n C.x C.b dX10_comes_25 rfl (lv_at hl 4 rfl) ?_
  obtain ⟨g7, hf⟩ := gd_e hf
  refine r_iast C hR hS t_r0 g7 dX10_comes_26 (fun H locs hR hS => ?_)
  obtain ⟨h8, e_h8⟩ : ∃ y, y = upI h6 r0 (ix ((16 : Int32) + v2)) x3 := ⟨_, rfl⟩
  rw [← e_h8] at hR
  have hf := lt_e hf e_h8
  have hE := eI e_h8 hE
  have t_r0 := tIk e_h8 t_r0
  refine lv_aload_n C.x C.b dX10_comes_27 rfl (lv_at hl 1 rfl) ?_
  refine lv_bipush (v := (24 : Int32)) C.x C.b dX10_comes_28 (by decide) ?_
  refine lv_iload C.x C.b dX10_comes_30 (lv_at hl 0 rfl) ?_
  refine lv_iadd C.x C.b dX10_comes_32 ?_
  refine lv_iload C.x C.b dX10_comes_33 (lv_at hl 5 rfl) ?_
  obtain ⟨g9, hf⟩ := gd_e hf
  refine r_iast C hR hS t_r0 g9 dX10_comes_35 (fun H locs hR hS => ?_)
  obtain ⟨h10, e_h10⟩ : ∃ y, y = upI h8 r0 (ix ((24 : Int32) + v2)) x4 := ⟨_, rfl⟩
  rw [← e_h10] at hR
  have hf := lt_e hf e_h10
  have hE := eI e_h10 hE
  have t_r0 := tIk e_h10 t_r0
  refine lv_aload_n C.x C.b dX10_comes_36 rfl (lv_at hl 1 rfl) ?_
  refine lv_bipush (v := (32 : Int32)) C.x C.b dX10_comes_37 (by decide) ?_
  refine lv_iload C.x C.b dX10_comes_39 (lv_at hl 0 rfl) ?_
  refine lv_iadd C.x C.b dX10_comes_41 ?_
  refine lv_iload C.x C.b dX10_comes_42 (lv_at hl 6 rfl) ?_
  obtain ⟨g11, hf⟩ := gd_e hf
  refine r_iast C hR hS t_r0 g11 dX10_comes_44 (fun H locs hR hS => ?_)
  obtain ⟨h12, e_h12⟩ : ∃ y, y = upI h10 r0 (ix ((32 : Int32) + v2)) x5 := ⟨_, rfl⟩
  rw [← e_h12] at hR
  have hf := lt_e hf e_h12
  have hE := eI e_h12 hE
  have t_r0 := tIk e_h12 t_r0
  refine lv_aload_n C.x C.b dX10_comes_45 rfl (lv_at hl 1 rfl) ?_
  refine lv_bipush (v := (40 : Int32)) C.x C.b dX10_comes_46 (by decide) ?_
  refine lv_iload C.x C.b dX10_comes_48 (lv_at hl 0 rfl) ?_
  refine lv_iadd C.x C.b dX10_comes_50 ?_
  refine lv_iconst (v := (0 : Int32)) C.x C.b dX10_comes_51 (by decide) ?_
  obtain ⟨g13, hf⟩ := gd_e hf
  refine r_iast C hR hS t_r0 g13 dX10_comes_52 (fun H locs hR hS => ?_)
  obtain ⟨h14, e_h14⟩ : ∃ y, y = upI h12 r0 (ix ((40 : Int32) + v2)) (0 : Int32) := ⟨_, rfl⟩
  rw [← e_h14] at hR
  have hf := lt_e hf e_h14
  have hE := eI e_h14 hE
  have t_r0 := tIk e_h14 t_r0
  refine lv_aload_n C.x C.b dX10_comes_53 rfl (lv_at hl 1 rfl) ?_
  refine lv_bipush (v := (48 : Int32)) C.x C.b dX10_comes_54 (by decide) ?_
  refine lv_dup2_11 C.x C.b dX10_comes_56 rfl rfl ?_
  obtain ⟨g15, hf⟩ := gd_e hf
  refine r_iald C hR t_r0 g15 dX10_comes_57 ?_
  refine lv_iconst (v := (1 : Int32)) C.x C.b dX10_comes_58 (by decide) ?_
  refine lv_iadd C.x C.b dX10_comes_59 ?_
  obtain ⟨g16, hf⟩ := gd_e hf
  refine r_iast C hR hS t_r0 g16 dX10_comes_60 (fun H locs hR hS => ?_)
  obtain ⟨h17, e_h17⟩ : ∃ y, y = upI h14 r0 (ix (48 : Int32)) ((hpI h14 r0 (ix (48 : Int32))) + (1 : Int32)) := ⟨_, rfl⟩
  rw [← e_h17] at hR
  have hf := lt_e hf e_h17
  have hE := eI e_h17 hE
  have t_r0 := tIk e_h17 t_r0
  have hf := so_e hf
  subst hf
  exact r_vret C hr hlk hR hE hS dX10_comes_61

def rm_X10_camps : Room := { frames := 3, cells := 0, slots := 0, locals := 72 }
def P_X10_camps_56 (G : Gt) (l : Launch) (p : Program) (e : Env) (s : State) (m : MethodId) (args : Array Value) (below : List Frame) (meth : Method) (c : Code) (h0 : Hp) (out : (Int32 × Hp)) (r0 : Nat) (k : Hp → Int32 → Int32 → Int32 → Option (Int32 × Hp)) : Prop := ∀ (H : Heap) (locs : List Loc) (ls : Array Slot) (h : Hp) (s0 : Int32) (x1 : Int32) (x2 : Int32), k h s0 x1 x2 = some out → Ext h0 h → Rel G h H → va_S (AA G.2.2) s.heap H locs → hpT h r0 = (1, 10) → narrow .boolean (.int s0) = .int s0 → narrow .boolean (.int x2) = .int x2 → lv_has ls 7 [(0, .ref (G.2.2 + r0)), (1, .int x1), (2, .int x2)] → W p l e rm_X10_camps s m args below meth c H locs 0 0 (MQ below (Qm G h0 out.2 (some (.int out.1)) 0) args s 0 0 (AA G.2.2)) (F0 m 56 ls [.int s0])
def P_X10_camps_204 (G : Gt) (l : Launch) (p : Program) (e : Env) (s : State) (m : MethodId) (args : Array Value) (below : List Frame) (meth : Method) (c : Code) (h0 : Hp) (out : (Int32 × Hp)) (r0 : Nat) (k : Hp → Nat → Int32 → Int32 → Option (Int32 × Hp)) : Prop := ∀ (H : Heap) (locs : List Loc) (ls : Array Slot) (h : Hp) (s0 : Nat) (s1 : Int32) (s2 : Int32), k h s0 s1 s2 = some out → Ext h0 h → Rel G h H → va_S (AA G.2.2) s.heap H locs → hpT h r0 = (1, 10) → hpT h s0 = (1, 10) → narrow .boolean (.int s2) = .int s2 → lv_has ls 7 [(0, .ref (G.2.2 + r0))] → W p l e rm_X10_camps s m args below meth c H locs 0 0 (MQ below (Qm G h0 out.2 (some (.int out.1)) 0) args s 0 0 (AA G.2.2)) (F0 m 204 ls [.int s2, .int s1, .ref (G.2.2 + s0)])
def P_X10_camps_184 (G : Gt) (l : Launch) (p : Program) (e : Env) (s : State) (m : MethodId) (args : Array Value) (below : List Frame) (meth : Method) (c : Code) (h0 : Hp) (out : (Int32 × Hp)) (r0 : Nat) (k : Hp → Nat → Int32 → Option (Int32 × Hp)) : Prop := ∀ (H : Heap) (locs : List Loc) (ls : Array Slot) (h : Hp) (s0 : Nat) (s1 : Int32), k h s0 s1 = some out → Ext h0 h → Rel G h H → va_S (AA G.2.2) s.heap H locs → hpT h r0 = (1, 10) → hpT h s0 = (1, 10) → lv_has ls 7 [(0, .ref (G.2.2 + r0))] → W p l e rm_X10_camps s m args below meth c H locs 0 0 (MQ below (Qm G h0 out.2 (some (.int out.1)) 0) args s 0 0 (AA G.2.2)) (F0 m 184 ls [.int s1, .ref (G.2.2 + s0)])
def P_X10_camps_81 (G : Gt) (l : Launch) (p : Program) (e : Env) (s : State) (m : MethodId) (args : Array Value) (below : List Frame) (meth : Method) (c : Code) (h0 : Hp) (out : (Int32 × Hp)) (r0 : Nat) (k : Hp → Int32 → Option (Int32 × Hp)) : Prop := ∀ (H : Heap) (locs : List Loc) (ls : Array Slot) (h : Hp) (x5 : Int32), k h x5 = some out → Ext h0 h → Rel G h H → va_S (AA G.2.2) s.heap H locs → hpT h r0 = (1, 10) → lv_has ls 7 [(0, .ref (G.2.2 + r0)), (5, .int x5)] → W p l e rm_X10_camps s m args below meth c H locs 0 0 (MQ below (Qm G h0 out.2 (some (.int out.1)) 0) args s 0 0 (AA G.2.2)) (F0 m 81 ls [])
def P_X10_camps_55 (G : Gt) (l : Launch) (p : Program) (e : Env) (s : State) (m : MethodId) (args : Array Value) (below : List Frame) (meth : Method) (c : Code) (h0 : Hp) (out : (Int32 × Hp)) (r0 : Nat) (k : Hp → Int32 → Int32 → Option (Int32 × Hp)) : Prop := ∀ (H : Heap) (locs : List Loc) (ls : Array Slot) (h : Hp) (x1 : Int32) (x2 : Int32), k h x1 x2 = some out → Ext h0 h → Rel G h H → va_S (AA G.2.2) s.heap H locs → hpT h r0 = (1, 10) → narrow .boolean (.int x2) = .int x2 → lv_has ls 7 [(0, .ref (G.2.2 + r0)), (1, .int x1), (2, .int x2)] → W p l e rm_X10_camps s m args below meth c H locs 0 0 (MQ below (Qm G h0 out.2 (some (.int out.1)) 0) args s 0 0 (AA G.2.2)) (F0 m 55 ls [])
def P_X10_camps_29 (G : Gt) (l : Launch) (p : Program) (e : Env) (s : State) (m : MethodId) (args : Array Value) (below : List Frame) (meth : Method) (c : Code) (h0 : Hp) (out : (Int32 × Hp)) (r0 : Nat) (k : Hp → Int32 → Int32 → Int32 → Option (Int32 × Hp)) : Prop := ∀ (H : Heap) (locs : List Loc) (ls : Array Slot) (h : Hp) (x1 : Int32) (x2 : Int32) (x3 : Int32), k h x1 x2 x3 = some out → Ext h0 h → Rel G h H → va_S (AA G.2.2) s.heap H locs → hpT h r0 = (1, 10) → narrow .boolean (.int x2) = .int x2 → narrow .boolean (.int x3) = .int x3 → lv_has ls 7 [(0, .ref (G.2.2 + r0)), (1, .int x1), (2, .int x2), (3, .int x3)] → W p l e rm_X10_camps s m args below meth c H locs 0 0 (MQ below (Qm G h0 out.2 (some (.int out.1)) 0) args s 0 0 (AA G.2.2)) (F0 m 29 ls [])
def P_X10_camps_28 (G : Gt) (l : Launch) (p : Program) (e : Env) (s : State) (m : MethodId) (args : Array Value) (below : List Frame) (meth : Method) (c : Code) (h0 : Hp) (out : (Int32 × Hp)) (r0 : Nat) (k : Hp → Int32 → Int32 → Int32 → Option (Int32 × Hp)) : Prop := ∀ (H : Heap) (locs : List Loc) (ls : Array Slot) (h : Hp) (s0 : Int32) (x1 : Int32) (x2 : Int32), k h s0 x1 x2 = some out → Ext h0 h → Rel G h H → va_S (AA G.2.2) s.heap H locs → hpT h r0 = (1, 10) → narrow .boolean (.int s0) = .int s0 → narrow .boolean (.int x2) = .int x2 → lv_has ls 7 [(0, .ref (G.2.2 + r0)), (1, .int x1), (2, .int x2)] → W p l e rm_X10_camps s m args below meth c H locs 0 0 (MQ below (Qm G h0 out.2 (some (.int out.1)) 0) args s 0 0 (AA G.2.2)) (F0 m 28 ls [.int s0])
set_option maxRecDepth 100000 in
set_option maxHeartbeats 4000000 in
theorem w_X10_camps_56 {G : Gt} {l : Launch} {p : Program} {e : Env} {s : State} {m : MethodId} {args : Array Value} {below : List Frame} {meth : Method} {c : Code}  {h0 : Hp} {out : (Int32 × Hp)} {r0 : Nat} {k29 : Hp → Int32 → Int32 → Int32 → Option (Int32 × Hp)} (C : Cx G p m c cX10_camps 7 s args RX10) (hr : meth.sig.returnType = some .int) (hlk : meth.locks = false)  (hk29 : P_X10_camps_29 G l p e s m args below meth c h0 out r0 k29) : P_X10_camps_56 G l p e s m args below meth c h0 out r0 (f_X10_camps_56 r0 k29) := by
  intro H locs ls h s0 x1 x2 hf hE hR hS t_r0 z_s0 z_x2 hl
  rw [f_X10_camps_56] at hf
  refine lv_istore_n (lv' := [(3, .int s0), (0, .ref (G.2.2 + r0)), (1, .int x1), (2, .int x2)]) C.x C.b dX10_camps_56 rfl hl (by decide) rfl (fun ls hl => ?_)
  refine lv_goto (tgt := 29) C.x C.b dX10_camps_57 (by decide) ?_
  exact hk29 _ _ _ _ _ _ _ hf hE hR hS t_r0 z_x2 z_s0 (lv_sub hl [1, 2, 3, 0] rfl)
set_option maxRecDepth 100000 in
set_option maxHeartbeats 4000000 in
theorem w_X10_camps_204 {G : Gt} {l : Launch} {p : Program} {e : Env} {s : State} {m : MethodId} {args : Array Value} {below : List Frame} {meth : Method} {c : Code}  {h0 : Hp} {out : (Int32 × Hp)} {r0 : Nat}  (C : Cx G p m c cX10_camps 7 s args RX10) (hr : meth.sig.returnType = some .int) (hlk : meth.locks = false)   : P_X10_camps_204 G l p e s m args below meth c h0 out r0 (f_X10_camps_204 r0) := by
  intro H locs ls h s0 s1 s2 hf hE hR hS t_r0 t_s0 z_s2 hl
  rw [f_X10_camps_204] at hf
  obtain ⟨q34, h_q34, hf⟩ := bd_e hf
  refine r_callS (As := [.int s2]) (rest := [.int s1, .ref (G.2.2 + s0)]) C hR hS mk_X10_flag cl_X10_163 (k_X10_flag h_q34) ⟨⟨Nat.le_of_ble_eq_true rfl, Nat.le_of_ble_eq_true rfl⟩, ⟨rfl, rfl⟩, Nat.le_of_ble_eq_true rfl, Nat.le_of_ble_eq_true rfl⟩ rfl hl.1 rfl (Nat.le_of_ble_eq_true rfl) dX10_camps_204 (fun H locs hR hS hE1 z_q34 => ?_)
  refine lv_iadd C.x C.b dX10_camps_207 ?_
  refine r_puti C hR hS t_s0 fl_X10_194 fp_X10_10_5 rfl dX10_camps_208 (fun H locs hR hS => ?_)
  obtain ⟨h35, e_h35⟩ : ∃ y, y = upI h s0 5 (s1 + q34) := ⟨_, rfl⟩
  rw [← e_h35] at hR
  have hf := lt_e hf e_h35
  have hE := eI e_h35 hE
  have t_r0 := tI e_h35 t_r0
  refine lv_aload_n C.x C.b dX10_camps_211 rfl (lv_at hl 0 rfl) ?_
  refine r_geti C hR t_r0 fl_X10_200 rfl dX10_camps_212 ?_
  have hf := so_e hf
  subst hf
  exact r_iret C hr hlk hR hE hS dX10_camps_215
set_option maxRecDepth 100000 in
set_option maxHeartbeats 4000000 in
theorem w_X10_camps_184 {G : Gt} {l : Launch} {p : Program} {e : Env} {s : State} {m : MethodId} {args : Array Value} {below : List Frame} {meth : Method} {c : Code}  {h0 : Hp} {out : (Int32 × Hp)} {r0 : Nat}  (C : Cx G p m c cX10_camps 7 s args RX10) (hr : meth.sig.returnType = some .int) (hlk : meth.locks = false)   : P_X10_camps_184 G l p e s m args below meth c h0 out r0 (f_X10_camps_184 r0) := by
  intro H locs ls h s0 s1 hf hE hR hS t_r0 t_s0 hl
  rw [f_X10_camps_184] at hf
  refine r_puti C hR hS t_s0 fl_X10_191 fp_X10_10_22 rfl dX10_camps_184 (fun H locs hR hS => ?_)
  obtain ⟨h32, e_h32⟩ : ∃ y, y = upI h s0 22 s1 := ⟨_, rfl⟩
  rw [← e_h32] at hR
  have hf := lt_e hf e_h32
  have hE := eI e_h32 hE
  have t_r0 := tI e_h32 t_r0
  refine lv_aload_n C.x C.b dX10_camps_187 rfl (lv_at hl 0 rfl) ?_
  refine lv_dup C.x C.b dX10_camps_188 rfl ?_
  refine r_geti C hR t_r0 fl_X10_194 rfl dX10_camps_189 ?_
  refine lv_aload_n C.x C.b dX10_camps_192 rfl (lv_at hl 0 rfl) ?_
  refine r_geti C hR t_r0 fl_X10_200 rfl dX10_camps_193 ?_
  refine lv_if_le (tgt := 203) C.x C.b dX10_camps_196 (by decide) (fun c33 => ?_) (fun c33 => ?_)
  · simp only [if_pos c33] at hf
    refine lv_iconst (v := (0 : Int32)) C.x C.b dX10_camps_203 (by decide) ?_
    exact w_X10_camps_204 C hr hlk _ _ _ _ _ _ _ hf hE hR hS t_r0 t_r0 z_0 (lv_sub hl [0] rfl)
  · simp only [if_neg c33] at hf
    refine lv_iconst (v := (1 : Int32)) C.x C.b dX10_camps_199 (by decide) ?_
    refine lv_goto (tgt := 204) C.x C.b dX10_camps_200 (by decide) ?_
    exact w_X10_camps_204 C hr hlk _ _ _ _ _ _ _ hf hE hR hS t_r0 t_r0 z_1 (lv_sub hl [0] rfl)
set_option maxRecDepth 100000 in
set_option maxHeartbeats 4000000 in
theorem w_X10_camps_81 {G : Gt} {l : Launch} {p : Program} {e : Env} {s : State} {m : MethodId} {args : Array Value} {below : List Frame} {meth : Method} {c : Code}  {h0 : Hp} {out : (Int32 × Hp)} {r0 : Nat}  (C : Cx G p m c cX10_camps 7 s args RX10) (hr : meth.sig.returnType = some .int) (hlk : meth.locks = false)   (n : Nat) : P_X10_camps_81 G l p e s m args below meth c h0 out r0 (f_X10_camps_81 r0 n) := by
  induction n with
  | zero => intro H locs ls h x5 hf hE hR hS t_r0 hl; cases hf
  | succ n hk81 =>
    intro H locs ls h x5 hf hE hR hS t_r0 hl
    rw [f_X10_camps_81] at hf
    obtain ⟨k81, e_k81⟩ : ∃ y, y = f_X10_camps_81 r0 n := ⟨_, rfl⟩
    have hf := lt_e hf e_k81
    rw [← e_k81] at hk81
    refine lv_iload C.x C.b dX10_camps_81 (lv_at hl 1 rfl) ?_
    refine lv_aload_n C.x C.b dX10_camps_83 rfl (lv_at hl 0 rfl) ?_
    refine r_geti C hR t_r0 fl_X10_200 rfl dX10_camps_84 ?_
    refine lv_icmp_ge (tgt := 168) C.x C.b dX10_camps_87 (by decide) (fun c12 => ?_) (fun c12 => ?_)
    · have hf := it_t hf c12
      refine lv_aload_n C.x C.b dX10_camps_168 rfl (lv_at hl 0 rfl) ?_
      refine lv_aload_n C.x C.b dX10_camps_169 rfl (lv_at hl 0 rfl) ?_
      refine r_geti C hR t_r0 fl_X10_200 rfl dX10_camps_170 ?_
      refine lv_if_le (tgt := 180) C.x C.b dX10_camps_173 (by decide) (fun c13 => ?_) (fun c13 => ?_)
      · simp only [if_pos c13] at hf
        refine lv_aload_n C.x C.b dX10_camps_180 rfl (lv_at hl 0 rfl) ?_
        refine r_geti C hR t_r0 fl_X10_191 rfl dX10_camps_181 ?_
        exact w_X10_camps_184 C hr hlk _ _ _ _ _ _ hf hE hR hS t_r0 t_r0 (lv_sub hl [0] rfl)
      · simp only [if_neg c13] at hf
        refine lv_iconst (v := (0 : Int32)) C.x C.b dX10_camps_176 (by decide) ?_
        refine lv_goto (tgt := 184) C.x C.b dX10_camps_177 (by decide) ?_
        exact w_X10_camps_184 C hr hlk _ _ _ _ _ _ hf hE hR hS t_r0 t_r0 (lv_sub hl [0] rfl)
    · have hf := it_f hf c12
      refine lv_bipush (v := (6 : Int32)) C.x C.b dX10_camps_90 (by decide) ?_
      refine lv_iload C.x C.b dX10_camps_92 (lv_at hl 1 rfl) ?_
      refine lv_imul C.x C.b dX10_camps_94 ?_
      refine lv_topi (fun v14 e_v14 => ?_)
      have hf := lt_e hf e_v14
      refine lv_istore (lv' := [(6, .int v14), (0, .ref (G.2.2 + r0)), (5, .int x5)]) C.x C.b dX10_camps_95 hl (by decide) rfl (fun ls hl => ?_)
      refine lv_aload_n C.x C.b dX10_camps_97 rfl (lv_at hl 1 rfl) ?_
      obtain ⟨g15, hf⟩ := gd_e hf
      refine r_getr C hR t_r0 fl_X10_20 (by decide) (nz_e g15) dX10_camps_98 (fun tq16 => ?_)
      have tg15 := okA tq16 rfl
      refine lv_aload_n C.x C.b dX10_camps_101 rfl (lv_at hl 1 rfl) ?_
      refine r_geti C hR t_r0 fl_X10_17 rfl dX10_camps_102 ?_
      refine lv_aload_n C.x C.b dX10_camps_105 rfl (lv_at hl 1 rfl) ?_
      obtain ⟨g17, hf⟩ := gd_e hf
      refine r_getr C hR t_r0 fl_X10_30 (by decide) (nz_e g17) dX10_camps_106 (fun tq18 => ?_)
      have tg17 := okA tq18 rfl
      refine lv_iload C.x C.b dX10_camps_109 (lv_at hl 0 rfl) ?_
      obtain ⟨g19, hf⟩ := gd_e hf
      refine r_iald C hR tg17 g19 dX10_camps_111 ?_
      refine lv_imul C.x C.b dX10_camps_112 ?_
      refine lv_aload_n C.x C.b dX10_camps_113 rfl (lv_at hl 1 rfl) ?_
      refine r_getr C hR t_r0 fl_X10_30 (by decide) (nz_e g17) dX10_camps_114 (fun tq20 => ?_)
      refine lv_iload C.x C.b dX10_camps_117 (lv_at hl 0 rfl) ?_
      refine lv_iconst (v := (1 : Int32)) C.x C.b dX10_camps_119 (by decide) ?_
      refine lv_iadd C.x C.b dX10_camps_120 ?_
      obtain ⟨g21, hf⟩ := gd_e hf
      refine r_iald C hR tg17 g21 dX10_camps_121 ?_
      refine lv_iadd C.x C.b dX10_camps_122 ?_
      refine lv_aload_n C.x C.b dX10_camps_123 rfl (lv_at hl 1 rfl) ?_
      refine r_getr C hR t_r0 fl_X10_30 (by decide) (nz_e g17) dX10_camps_124 (fun tq22 => ?_)
      refine lv_iload C.x C.b dX10_camps_127 (lv_at hl 0 rfl) ?_
      refine lv_iconst (v := (2 : Int32)) C.x C.b dX10_camps_129 (by decide) ?_
      refine lv_iadd C.x C.b dX10_camps_130 ?_
      obtain ⟨g23, hf⟩ := gd_e hf
      refine r_iald C hR tg17 g23 dX10_camps_131 ?_
      refine lv_aload_n C.x C.b dX10_camps_132 rfl (lv_at hl 1 rfl) ?_
      refine r_getr C hR t_r0 fl_X10_30 (by decide) (nz_e g17) dX10_camps_133 (fun tq24 => ?_)
      refine lv_iload C.x C.b dX10_camps_136 (lv_at hl 0 rfl) ?_
      refine lv_iconst (v := (3 : Int32)) C.x C.b dX10_camps_138 (by decide) ?_
      refine lv_iadd C.x C.b dX10_camps_139 ?_
      obtain ⟨g25, hf⟩ := gd_e hf
      refine r_iald C hR tg17 g25 dX10_camps_140 ?_
      refine lv_aload_n C.x C.b dX10_camps_141 rfl (lv_at hl 1 rfl) ?_
      refine r_getr C hR t_r0 fl_X10_30 (by decide) (nz_e g17) dX10_camps_142 (fun tq26 => ?_)
      refine lv_iload C.x C.b dX10_camps_145 (lv_at hl 0 rfl) ?_
      refine lv_iconst (v := (4 : Int32)) C.x C.b dX10_camps_147 (by decide) ?_
      refine lv_iadd C.x C.b dX10_camps_148 ?_
      obtain ⟨g27, hf⟩ := gd_e hf
      refine r_iald C hR tg17 g27 dX10_camps_149 ?_
      refine lv_aload_n C.x C.b dX10_camps_150 rfl (lv_at hl 1 rfl) ?_
      refine r_getr C hR t_r0 fl_X10_30 (by decide) (nz_e g17) dX10_camps_151 (fun tq28 => ?_)
      refine lv_iload C.x C.b dX10_camps_154 (lv_at hl 0 rfl) ?_
      refine lv_iconst (v := (5 : Int32)) C.x C.b dX10_camps_156 (by decide) ?_
      refine lv_iadd C.x C.b dX10_camps_157 ?_
      obtain ⟨g29, hf⟩ := gd_e hf
      refine r_iald C hR tg17 g29 dX10_camps_158 ?_
      obtain ⟨q30, h_q30, hf⟩ := bd_e hf
      refine r_callS (As := [.ref (G.2.2 + (hpR h r0 6)), .int (((hpI h r0 4) * (hpI h (hpR h r0 13) (ix v14))) + (hpI h (hpR h r0 13) (ix (v14 + (1 : Int32))))), .int (hpI h (hpR h r0 13) (ix (v14 + (2 : Int32)))), .int (hpI h (hpR h r0 13) (ix (v14 + (3 : Int32)))), .int (hpI h (hpR h r0 13) (ix (v14 + (4 : Int32)))), .int (hpI h (hpR h r0 13) (ix (v14 + (5 : Int32))))]) (rest := []) C hR hS mk_X10_comes cl_X10_214 (k_X10_comes tg15 h_q30) ⟨⟨Nat.le_of_ble_eq_true rfl, Nat.le_of_ble_eq_true rfl⟩, ⟨rfl, rfl⟩, Nat.le_of_ble_eq_true rfl, Nat.le_of_ble_eq_true rfl⟩ rfl hl.1 rfl (Nat.le_of_ble_eq_true rfl) dX10_camps_159 (fun H locs hR hS hE1 z_q30 => ?_)
      have hE := hE.tr hE1
      have t_r0 := hE1.at t_r0 (by decide)
      obtain ⟨v31, e_v31⟩ : ∃ y : Int32, y = x5 + (1 : Int32) := ⟨_, rfl⟩
      have hf := lt_e hf e_v31
      refine lv_iinc (v := v31) (lv' := [(5, .int v31), (6, .int v14), (0, .ref (G.2.2 + r0))]) C.x C.b dX10_camps_162 hl (k := 2) rfl (by rw [e_v31]; rfl) (by decide) rfl (fun ls hl => ?_)
      refine lv_goto (tgt := 81) C.x C.b dX10_camps_165 (by decide) ?_
      exact hk81 _ _ _ _ _ hf hE hR hS t_r0 (lv_sub hl [2, 0] rfl)
set_option maxRecDepth 100000 in
set_option maxHeartbeats 4000000 in
theorem w_X10_camps_55 {G : Gt} {l : Launch} {p : Program} {e : Env} {s : State} {m : MethodId} {args : Array Value} {below : List Frame} {meth : Method} {c : Code}  {h0 : Hp} {out : (Int32 × Hp)} {r0 : Nat} {k29 : Hp → Int32 → Int32 → Int32 → Option (Int32 × Hp)} (C : Cx G p m c cX10_camps 7 s args RX10) (hr : meth.sig.returnType = some .int) (hlk : meth.locks = false)  (hk29 : P_X10_camps_29 G l p e s m args below meth c h0 out r0 k29) : P_X10_camps_55 G l p e s m args below meth c h0 out r0 (f_X10_camps_55 r0 k29) := by
  intro H locs ls h x1 x2 hf hE hR hS t_r0 z_x2 hl
  rw [f_X10_camps_55] at hf
  refine lv_iconst (v := (0 : Int32)) C.x C.b dX10_camps_55 (by decide) ?_
  exact w_X10_camps_56 C hr hlk hk29 _ _ _ _ _ _ _ hf hE hR hS t_r0 z_0 z_x2 (lv_sub hl [0, 1, 2] rfl)
set_option maxRecDepth 100000 in
set_option maxHeartbeats 4000000 in
theorem w_X10_camps_29 {G : Gt} {l : Launch} {p : Program} {e : Env} {s : State} {m : MethodId} {args : Array Value} {below : List Frame} {meth : Method} {c : Code}  {h0 : Hp} {out : (Int32 × Hp)} {r0 : Nat}  (C : Cx G p m c cX10_camps 7 s args RX10) (hr : meth.sig.returnType = some .int) (hlk : meth.locks = false)   (n : Nat) : P_X10_camps_29 G l p e s m args below meth c h0 out r0 (f_X10_camps_29 r0 n) := by
  induction n with
  | zero => intro H locs ls h x1 x2 x3 hf hE hR hS t_r0 z_x2 z_x3 hl; cases hf
  | succ n hk29 =>
    intro H locs ls h x1 x2 x3 hf hE hR hS t_r0 z_x2 z_x3 hl
    rw [f_X10_camps_29] at hf
    obtain ⟨k29, e_k29⟩ : ∃ y, y = f_X10_camps_29 r0 n := ⟨_, rfl⟩
    have hf := lt_e hf e_k29
    rw [← e_k29] at hk29
    refine lv_iload_n C.x C.b dX10_camps_29 rfl (lv_at hl 3 rfl) ?_
    refine lv_if_eq (tgt := 60) C.x C.b dX10_camps_30 (by decide) (fun c5 => ?_) (fun c5 => ?_)
    · have hf := it_t hf c5
      refine lv_aload_n C.x C.b dX10_camps_60 rfl (lv_at hl 0 rfl) ?_
      refine lv_iload_n C.x C.b dX10_camps_61 rfl (lv_at hl 1 rfl) ?_
      refine lv_bipush (v := (55 : Int32)) C.x C.b dX10_camps_62 (by decide) ?_
      refine lv_iload_n C.x C.b dX10_camps_64 rfl (lv_at hl 2 rfl) ?_
      obtain ⟨q6, h_q6, hf⟩ := bd_e hf
      refine r_callV (As := [.int x1, .int (55 : Int32), .int x2]) (rest := []) C hR hS t_r0 rfl mk_X10_faultOf cl_X10_210 (k_X10_faultOf t_r0 h_q6) ⟨⟨Nat.le_of_ble_eq_true rfl, Nat.le_of_ble_eq_true rfl⟩, ⟨rfl, rfl⟩, Nat.le_of_ble_eq_true rfl, Nat.le_of_ble_eq_true rfl⟩ rfl hl.1 rfl (Nat.le_of_ble_eq_true rfl) dX10_camps_65 (fun H locs hR hS hE1 z_q6 => ?_)
      refine lv_istore (lv' := [(4, .int q6), (0, .ref (G.2.2 + r0)), (1, .int x1), (2, .int x2), (3, .int x3)]) C.x C.b dX10_camps_68 hl (by decide) rfl (fun ls hl => ?_)
      refine lv_iload C.x C.b dX10_camps_70 (lv_at hl 0 rfl) ?_
      refine lv_if_ge (tgt := 78) C.x C.b dX10_camps_72 (by decide) (fun c7 => ?_) (fun c7 => ?_)
      · have hf := it_t hf c7
        refine lv_iconst (v := (0 : Int32)) C.x C.b dX10_camps_78 (by decide) ?_
        refine lv_istore (lv' := [(5, .int (0 : Int32)), (4, .int q6), (0, .ref (G.2.2 + r0)), (1, .int x1), (2, .int x2), (3, .int x3)]) C.x C.b dX10_camps_79 hl (by decide) rfl (fun ls hl => ?_)
        exact w_X10_camps_81 C hr hlk FU _ _ _ _ _ hf hE hR hS t_r0 (lv_sub hl [2, 0] rfl)
      · have hf := it_f hf c7
        refine lv_iload C.x C.b dX10_camps_75 (lv_at hl 0 rfl) ?_
        have hf := so_e hf
        subst hf
        exact r_iret C hr hlk hR hE hS dX10_camps_77
    · have hf := it_f hf c5
      refine lv_aload_n C.x C.b dX10_camps_33 rfl (lv_at hl 0 rfl) ?_
      obtain ⟨q8, h_q8, hf⟩ := bd_e hf
      refine r_callV (As := []) (rest := []) C hR hS t_r0 rfl mk_X10_readsCamp cl_X10_203 (k_X10_readsCamp t_r0 h_q8) ⟨⟨Nat.le_of_ble_eq_true rfl, Nat.le_of_ble_eq_true rfl⟩, ⟨rfl, rfl⟩, Nat.le_of_ble_eq_true rfl, Nat.le_of_ble_eq_true rfl⟩ rfl hl.1 rfl (Nat.le_of_ble_eq_true rfl) dX10_camps_34 (fun H locs hR hS hE1 z_q8 => ?_)
      have hE := hE.tr hE1
      have t_r0 := hE1.at t_r0 (by decide)
      have z_q8 := z_q8 _ rfl
      refine lv_istore_n (lv' := [(2, .int q8.1), (0, .ref (G.2.2 + r0)), (1, .int x1), (3, .int x3)]) C.x C.b dX10_camps_37 rfl hl (by decide) rfl (fun ls hl => ?_)
      refine lv_iload_n C.x C.b dX10_camps_38 rfl (lv_at hl 0 rfl) ?_
      refine lv_if_eq (tgt := 55) C.x C.b dX10_camps_39 (by decide) (fun c9 => ?_) (fun c9 => ?_)
      · have hf := it_t hf c9
        exact w_X10_camps_55 C hr hlk hk29 _ _ _ _ _ _ hf hE hR hS t_r0 z_q8 (lv_sub hl [1, 2, 0] rfl)
      · have hf := it_f hf c9
        refine lv_aload_n C.x C.b dX10_camps_42 rfl (lv_at hl 1 rfl) ?_
        refine lv_bipush (v := (59 : Int32)) C.x C.b dX10_camps_43 (by decide) ?_
        obtain ⟨q10, h_q10, hf⟩ := bd_e hf
        refine r_callV (As := [.int (59 : Int32)]) (rest := []) C hR hS t_r0 rfl mk_X10_takes cl_X10_206 (k_X10_takes t_r0 h_q10) ⟨⟨Nat.le_of_ble_eq_true rfl, Nat.le_of_ble_eq_true rfl⟩, ⟨rfl, rfl⟩, Nat.le_of_ble_eq_true rfl, Nat.le_of_ble_eq_true rfl⟩ rfl hl.1 rfl (Nat.le_of_ble_eq_true rfl) dX10_camps_45 (fun H locs hR hS hE1 z_q10 => ?_)
        have hE := hE.tr hE1
        have t_r0 := hE1.at t_r0 (by decide)
        have z_q10 := z_q10 _ rfl
        refine lv_if_eq (tgt := 55) C.x C.b dX10_camps_48 (by decide) (fun c11 => ?_) (fun c11 => ?_)
        · have hf := it_t hf c11
          exact w_X10_camps_55 C hr hlk hk29 _ _ _ _ _ _ hf hE hR hS t_r0 z_q8 (lv_sub hl [1, 2, 0] rfl)
        · have hf := it_f hf c11
          refine lv_iconst (v := (1 : Int32)) C.x C.b dX10_camps_51 (by decide) ?_
          refine lv_goto (tgt := 56) C.x C.b dX10_camps_52 (by decide) ?_
          exact w_X10_camps_56 C hr hlk hk29 _ _ _ _ _ _ _ hf hE hR hS t_r0 z_1 z_q8 (lv_sub hl [1, 2, 0] rfl)
set_option maxRecDepth 100000 in
set_option maxHeartbeats 4000000 in
theorem w_X10_camps_28 {G : Gt} {l : Launch} {p : Program} {e : Env} {s : State} {m : MethodId} {args : Array Value} {below : List Frame} {meth : Method} {c : Code}  {h0 : Hp} {out : (Int32 × Hp)} {r0 : Nat}  (C : Cx G p m c cX10_camps 7 s args RX10) (hr : meth.sig.returnType = some .int) (hlk : meth.locks = false)   : P_X10_camps_28 G l p e s m args below meth c h0 out r0 (f_X10_camps_28 r0) := by
  intro H locs ls h s0 x1 x2 hf hE hR hS t_r0 z_s0 z_x2 hl
  rw [f_X10_camps_28] at hf
  refine lv_istore_n (lv' := [(3, .int s0), (0, .ref (G.2.2 + r0)), (1, .int x1), (2, .int x2)]) C.x C.b dX10_camps_28 rfl hl (by decide) rfl (fun ls hl => ?_)
  exact w_X10_camps_29 C hr hlk FU _ _ _ _ _ _ _ hf hE hR hS t_r0 z_x2 z_s0 (lv_sub hl [1, 2, 3, 0] rfl)
set_option maxRecDepth 100000 in
set_option maxHeartbeats 4000000 in
theorem k_X10_camps {G : Gt} {l : Launch}  {h : Hp} {r0 : Nat} {out : (Int32 × Hp)} (t_r0 : hpT h r0 = (1, 10))  (hf : f_X10_camps  h r0 = some out) : Mt G l yX10_camps cX10_camps 7 (some .int) rm_X10_camps [.ref (G.2.2 + r0)] h (some (.int out.1)) out.2 0 0 0 := by
  refine r_met (by decide +kernel) (Nat.le_of_ble_eq_true rfl) ?_
  intro p e s m args below meth c ls C hr hlk hnm hR hS hl
  have hE : Ext h h := Ext.rf
  have hl : lv_has ls 7 [(0, .ref (G.2.2 + r0))] := hl
  rw [f_X10_camps] at hf
  refine lv_aload_n C.x C.b dX10_camps_0 rfl (lv_at hl 0 rfl) ?_
  refine lv_iconst (v := (0 : Int32)) C.x C.b dX10_camps_1 (by decide) ?_
  refine r_puti C hR hS t_r0 fl_X10_103 fp_X10_10_0 rfl dX10_camps_2 (fun H locs hR hS => ?_)
  obtain ⟨h1, e_h1⟩ : ∃ y, y = upI h r0 0 (0 : Int32) := ⟨_, rfl⟩
  rw [← e_h1] at hR
  have hf := lt_e hf e_h1
  have hE := eI e_h1 hE
  have t_r0 := tI e_h1 t_r0
  refine lv_aload_n C.x C.b dX10_camps_5 rfl (lv_at hl 0 rfl) ?_
  refine lv_bipush (v := (55 : Int32)) C.x C.b dX10_camps_6 (by decide) ?_
  obtain ⟨q2, h_q2, hf⟩ := bd_e hf
  refine r_callV (As := [.int (55 : Int32)]) (rest := []) C hR hS t_r0 rfl mk_X10_begins cl_X10_184 (k_X10_begins t_r0 h_q2) ⟨⟨Nat.le_of_ble_eq_true rfl, Nat.le_of_ble_eq_true rfl⟩, ⟨rfl, rfl⟩, Nat.le_of_ble_eq_true rfl, Nat.le_of_ble_eq_true rfl⟩ rfl hl.1 rfl (Nat.le_of_ble_eq_true rfl) dX10_camps_8 (fun H locs hR hS hE1 z_q2 => ?_)
  have hE := hE.tr hE1
  have t_r0 := hE1.at t_r0 (by decide)
  refine lv_istore_n (lv' := [(1, .int q2.1), (0, .ref (G.2.2 + r0))]) C.x C.b dX10_camps_11 rfl hl (by decide) rfl (fun ls hl => ?_)
  refine lv_aload_n C.x C.b dX10_camps_12 rfl (lv_at hl 1 rfl) ?_
  refine lv_iconst (v := (0 : Int32)) C.x C.b dX10_camps_13 (by decide) ?_
  refine r_puti C hR hS t_r0 fl_X10_200 fp_X10_10_14 rfl dX10_camps_14 (fun H locs hR hS => ?_)
  obtain ⟨h3, e_h3⟩ : ∃ y, y = upI q2.2 r0 14 (0 : Int32) := ⟨_, rfl⟩
  rw [← e_h3] at hR
  have hf := lt_e hf e_h3
  have hE := eI e_h3 hE
  have t_r0 := tI e_h3 t_r0
  refine lv_iconst (v := (1 : Int32)) C.x C.b dX10_camps_17 (by decide) ?_
  refine lv_istore_n (lv' := [(2, .int (1 : Int32)), (1, .int q2.1), (0, .ref (G.2.2 + r0))]) C.x C.b dX10_camps_18 rfl hl (by decide) rfl (fun ls hl => ?_)
  refine lv_iload_n C.x C.b dX10_camps_19 rfl (lv_at hl 1 rfl) ?_
  refine lv_if_le (tgt := 27) C.x C.b dX10_camps_20 (by decide) (fun c4 => ?_) (fun c4 => ?_)
  · simp only [if_pos c4] at hf
    refine lv_iconst (v := (0 : Int32)) C.x C.b dX10_camps_27 (by decide) ?_
    exact w_X10_camps_28 C hr hlk _ _ _ _ _ _ _ hf hE hR hS t_r0 z_0 z_1 (lv_sub hl [2, 1, 0] rfl)
  · simp only [if_neg c4] at hf
    refine lv_iconst (v := (1 : Int32)) C.x C.b dX10_camps_23 (by decide) ?_
    refine lv_goto (tgt := 28) C.x C.b dX10_camps_24 (by decide) ?_
    exact w_X10_camps_28 C hr hlk _ _ _ _ _ _ _ hf hE hR hS t_r0 z_1 z_1 (lv_sub hl [2, 1, 0] rfl)

def rm_X10_codes : Room := { frames := 0, cells := 0, slots := 0, locals := 0 }
set_option maxRecDepth 100000 in
set_option maxHeartbeats 4000000 in
theorem k_X10_codes {G : Gt} {l : Launch}  {h : Hp} {r0 : Nat} {x1 : Int32} {out : Hp} (t_r0 : hpT h r0 = (1, 10))  (hf : f_X10_codes  h r0 x1 = some out) : Mt G l yX10_codes cX10_codes 2 (none) rm_X10_codes [.ref (G.2.2 + r0), .int x1] h (none) out 0 0 0 := by
  refine r_met (by decide +kernel) (Nat.le_of_ble_eq_true rfl) ?_
  intro p e s m args below meth c ls C hr hlk hnm hR hS hl
  have hE : Ext h h := Ext.rf
  have hl : lv_has ls 2 [(0, .ref (G.2.2 + r0)), (1, .int x1)] := hl
  rw [f_X10_codes] at hf
  refine lv_aload_n C.x C.b dX10_codes_0 rfl (lv_at hl 0 rfl) ?_
  obtain ⟨g1, hf⟩ := gd_e hf
  refine r_getr C hR t_r0 fl_X10_36 (by decide) (nz_e g1) dX10_codes_1 (fun tq2 => ?_)
  have tg1 := okA tq2 rfl
  refine lv_aload_n C.x C.b dX10_codes_4 rfl (lv_at hl 0 rfl) ?_
  refine r_geti C hR t_r0 fl_X10_218 rfl dX10_codes_5 ?_
  refine lv_iload_n C.x C.b dX10_codes_8 rfl (lv_at hl 1 rfl) ?_
  obtain ⟨g3, hf⟩ := gd_e hf
  refine r_iast C hR hS tg1 g3 dX10_codes_9 (fun H locs hR hS => ?_)
  obtain ⟨h4, e_h4⟩ : ∃ y, y = upI h (hpR h r0 16) (ix (hpI h r0 18)) x1 := ⟨_, rfl⟩
  rw [← e_h4] at hR
  have hf := lt_e hf e_h4
  have hE := eI e_h4 hE
  have t_r0 := tI e_h4 t_r0
  refine lv_aload_n C.x C.b dX10_codes_10 rfl (lv_at hl 0 rfl) ?_
  refine lv_dup C.x C.b dX10_codes_11 rfl ?_
  refine r_geti C hR t_r0 fl_X10_218 rfl dX10_codes_12 ?_
  refine lv_iconst (v := (1 : Int32)) C.x C.b dX10_codes_15 (by decide) ?_
  refine lv_iadd C.x C.b dX10_codes_16 ?_
  refine r_puti C hR hS t_r0 fl_X10_218 fp_X10_10_18 rfl dX10_codes_17 (fun H locs hR hS => ?_)
  obtain ⟨h5, e_h5⟩ : ∃ y, y = upI h4 r0 18 ((hpI h4 r0 18) + (1 : Int32)) := ⟨_, rfl⟩
  rw [← e_h5] at hR
  have hf := lt_e hf e_h5
  have hE := eI e_h5 hE
  have t_r0 := tI e_h5 t_r0
  have hf := so_e hf
  subst hf
  exact r_vret C hr hlk hR hE hS dX10_codes_20

def rmS_B (d : Nat) : Room := { frames := 6 + d, cells := 0, slots := 0, locals := 143 + d * 23 }
set_option maxRecDepth 100000 in
set_option maxHeartbeats 4000000 in
theorem ko_X10_readsThing {G : Gt} {l : Launch} {d : Nat} {E_X10_readsThing : Hp → Nat → Option (Int32 × Hp)} {E_X10_readsRank : Hp → Nat → Int32 → Option (Int32 × Hp)} (hE_X10_readsThing : ∀ {h : Hp} {r0 : Nat} {out : (Int32 × Hp)}, hpT h r0 = (1, 10) → E_X10_readsThing h r0 = some out → Mt G l yX10_readsThing cX10_readsThing 2 (some .boolean) (rmS_B d) [.ref (G.2.2 + r0)] h (some (.int out.1)) out.2 1 0 0) (hE_X10_readsRank : ∀ {h : Hp} {r0 : Nat} {x1 : Int32} {out : (Int32 × Hp)}, hpT h r0 = (1, 10) → E_X10_readsRank h r0 x1 = some out → Mt G l yX10_readsRank cX10_readsRank 4 (some .boolean) (rmS_B d) [.ref (G.2.2 + r0), .int x1] h (some (.int out.1)) out.2 1 0 0) {h : Hp} {r0 : Nat} {out : (Int32 × Hp)} (t_r0 : hpT h r0 = (1, 10))  (hf : fo_X10_readsThing E_X10_readsThing E_X10_readsRank h r0 = some out) : Mt G l yX10_readsThing cX10_readsThing 2 (some .boolean) (rmS_B (d + 1)) [.ref (G.2.2 + r0)] h (some (.int out.1)) out.2 1 0 0 := by
  refine r_met (by decide +kernel) (Nat.le_of_ble_eq_true rfl) ?_
  intro p e s m args below meth c ls C hr hlk hnm hR hS hl
  have hE : Ext h h := Ext.rf
  have hl : lv_has ls 2 [(0, .ref (G.2.2 + r0))] := hl
  rw [fo_X10_readsThing] at hf
  refine lv_aload_n C.x C.b dX10_readsThing_0 rfl (lv_at hl 0 rfl) ?_
  refine lv_bipush (v := (45 : Int32)) C.x C.b dX10_readsThing_1 (by decide) ?_
  obtain ⟨q1, h_q1, hf⟩ := bd_e hf
  refine r_callV (As := [.int (45 : Int32)]) (rest := []) C hR hS t_r0 rfl mk_X10_takes cl_X10_206 (k_X10_takes t_r0 h_q1) ⟨⟨by simp only [rm_X10_takes, rmS_B] <;> omega, by simp only [rm_X10_takes, rmS_B] <;> omega⟩, ⟨rfl, rfl⟩, by simp only [rmS_B] <;> omega, by simp only [rmS_B] <;> omega⟩ rfl hl.1 rfl (Nat.le_of_ble_eq_true rfl) dX10_readsThing_3 (fun H locs hR hS hE1 z_q1 => ?_)
  have hE := hE.tr hE1
  have t_r0 := hE1.at t_r0 (by decide)
  have z_q1 := z_q1 _ rfl
  refine lv_if_eq (tgt := 23) C.x C.b dX10_readsThing_6 (by decide) (fun c2 => ?_) (fun c2 => ?_)
  · have hf := it_t hf c2
    refine lv_aload_n C.x C.b dX10_readsThing_23 rfl (lv_at hl 0 rfl) ?_
    obtain ⟨q3, h_q3, hf⟩ := bd_e hf
    refine r_callV (As := []) (rest := []) C hR hS t_r0 rfl mk_X10_isDigit cl_X10_180 (k_X10_isDigit t_r0 h_q3) ⟨⟨by simp only [rm_X10_isDigit, rmS_B] <;> omega, by simp only [rm_X10_isDigit, rmS_B] <;> omega⟩, ⟨rfl, rfl⟩, by simp only [rmS_B] <;> omega, by simp only [rmS_B] <;> omega⟩ rfl hl.1 rfl (Nat.le_of_ble_eq_true rfl) dX10_readsThing_24 (fun H locs hR hS hE1 z_q3 => ?_)
    have z_q3 := z_q3 _ rfl
    refine lv_if_eq (tgt := 41) C.x C.b dX10_readsThing_27 (by decide) (fun c4 => ?_) (fun c4 => ?_)
    · have hf := it_t hf c4
      refine lv_aload_n C.x C.b dX10_readsThing_41 rfl (lv_at hl 0 rfl) ?_
      refine va_ldcS C.x C.b C.ow (sr_231 C) dX10_readsThing_42 ?_
      obtain ⟨q5, h_q5, hf⟩ := bd_e hf
      refine r_callV (As := [.ref (adS G 0)]) (rest := []) C hR hS t_r0 rfl mk_X10_takesOf cl_X10_233 (k_X10_takesOf t_r0 (by decide) h_q5) ⟨⟨by simp only [rm_X10_takesOf, rmS_B] <;> omega, by simp only [rm_X10_takesOf, rmS_B] <;> omega⟩, ⟨rfl, rfl⟩, by simp only [rmS_B] <;> omega, by simp only [rmS_B] <;> omega⟩ rfl hl.1 rfl (Nat.le_of_ble_eq_true rfl) dX10_readsThing_44 (fun H locs hR hS hE1 z_q5 => ?_)
      have hE := hE.tr hE1
      have t_r0 := hE1.at t_r0 (by decide)
      refine lv_istore_n (lv' := [(1, .int q5.1), (0, .ref (G.2.2 + r0))]) C.x C.b dX10_readsThing_47 rfl hl (by decide) rfl (fun ls hl => ?_)
      refine lv_iload_n C.x C.b dX10_readsThing_48 rfl (lv_at hl 0 rfl) ?_
      refine lv_if_lt (tgt := 63) C.x C.b dX10_readsThing_49 (by decide) (fun c6 => ?_) (fun c6 => ?_)
      · have hf := it_t hf c6
        refine lv_aload_n C.x C.b dX10_readsThing_63 rfl (lv_at hl 1 rfl) ?_
        refine r_geti C hR t_r0 fl_X10_151 rfl dX10_readsThing_64 ?_
        refine lv_iconst (v := (4 : Int32)) C.x C.b dX10_readsThing_67 (by decide) ?_
        refine lv_icmp_eq (tgt := 80) C.x C.b dX10_readsThing_68 (by decide) (fun c7 => ?_) (fun c7 => ?_)
        · have hf := it_t hf c7
          refine lv_iconst (v := (0 : Int32)) C.x C.b dX10_readsThing_80 (by decide) ?_
          have hf := so_e hf
          subst hf
          exact r_zret C hr hlk hR hE hS z_0 dX10_readsThing_81
        · have hf := it_f hf c7
          refine lv_aload_n C.x C.b dX10_readsThing_71 rfl (lv_at hl 1 rfl) ?_
          refine lv_bipush (v := (40 : Int32)) C.x C.b dX10_readsThing_72 (by decide) ?_
          obtain ⟨q8, h_q8, hf⟩ := bd_e hf
          refine r_callV (As := [.int (40 : Int32)]) (rest := []) C hR hS t_r0 rfl mk_X10_takes cl_X10_206 (k_X10_takes t_r0 h_q8) ⟨⟨by simp only [rm_X10_takes, rmS_B] <;> omega, by simp only [rm_X10_takes, rmS_B] <;> omega⟩, ⟨rfl, rfl⟩, by simp only [rmS_B] <;> omega, by simp only [rmS_B] <;> omega⟩ rfl hl.1 rfl (Nat.le_of_ble_eq_true rfl) dX10_readsThing_74 (fun H locs hR hS hE1 z_q8 => ?_)
          have hE := hE.tr hE1
          have t_r0 := hE1.at t_r0 (by decide)
          have z_q8 := z_q8 _ rfl
          refine lv_if_ne (tgt := 82) C.x C.b dX10_readsThing_77 (by decide) (fun c9 => ?_) (fun c9 => ?_)
          · have hf := it_f hf c9
            refine lv_aload_n C.x C.b dX10_readsThing_82 rfl (lv_at hl 1 rfl) ?_
            refine lv_dup C.x C.b dX10_readsThing_83 rfl ?_
            refine r_geti C hR t_r0 fl_X10_151 rfl dX10_readsThing_84 ?_
            refine lv_iconst (v := (1 : Int32)) C.x C.b dX10_readsThing_87 (by decide) ?_
            refine lv_iadd C.x C.b dX10_readsThing_88 ?_
            refine r_puti C hR hS t_r0 fl_X10_151 fp_X10_10_12 rfl dX10_readsThing_89 (fun H locs hR hS => ?_)
            obtain ⟨h10, e_h10⟩ : ∃ y, y = upI q8.2 r0 12 ((hpI q8.2 r0 12) + (1 : Int32)) := ⟨_, rfl⟩
            rw [← e_h10] at hR
            have hf := lt_e hf e_h10
            have hE := eI e_h10 hE
            have t_r0 := tI e_h10 t_r0
            refine lv_aload_n C.x C.b dX10_readsThing_92 rfl (lv_at hl 1 rfl) ?_
            refine lv_iconst (v := (0 : Int32)) C.x C.b dX10_readsThing_93 (by decide) ?_
            obtain ⟨q11, h_q11, hf⟩ := bd_e hf
            refine r_callV (As := [.int (0 : Int32)]) (rest := []) C hR hS t_r0 rfl mk_X10_readsRank cl_X10_237 (hE_X10_readsRank t_r0 h_q11) ⟨⟨by simp only [rmS_B, rmS_B] <;> omega, by simp only [rmS_B, rmS_B] <;> omega⟩, ⟨rfl, rfl⟩, by simp only [rmS_B] <;> omega, by simp only [rmS_B] <;> omega⟩ rfl hl.1 rfl (Nat.le_of_ble_eq_true rfl) dX10_readsThing_94 (fun H locs hR hS hE1 z_q11 => ?_)
            have hE := hE.tr hE1
            have t_r0 := hE1.at t_r0 (by decide)
            have z_q11 := z_q11 _ rfl
            refine lv_if_eq (tgt := 109) C.x C.b dX10_readsThing_97 (by decide) (fun c12 => ?_) (fun c12 => ?_)
            · have hf := it_t hf c12
              refine lv_iconst (v := (0 : Int32)) C.x C.b dX10_readsThing_109 (by decide) ?_
              have hf := so_e hf
              subst hf
              exact r_zret C hr hlk hR hE hS z_0 dX10_readsThing_110
            · have hf := it_f hf c12
              refine lv_aload_n C.x C.b dX10_readsThing_100 rfl (lv_at hl 1 rfl) ?_
              refine lv_bipush (v := (41 : Int32)) C.x C.b dX10_readsThing_101 (by decide) ?_
              obtain ⟨q13, h_q13, hf⟩ := bd_e hf
              refine r_callV (As := [.int (41 : Int32)]) (rest := []) C hR hS t_r0 rfl mk_X10_takes cl_X10_206 (k_X10_takes t_r0 h_q13) ⟨⟨by simp only [rm_X10_takes, rmS_B] <;> omega, by simp only [rm_X10_takes, rmS_B] <;> omega⟩, ⟨rfl, rfl⟩, by simp only [rmS_B] <;> omega, by simp only [rmS_B] <;> omega⟩ rfl hl.1 rfl (Nat.le_of_ble_eq_true rfl) dX10_readsThing_103 (fun H locs hR hS hE1 z_q13 => ?_)
              have hE := hE.tr hE1
              have t_r0 := hE1.at t_r0 (by decide)
              have z_q13 := z_q13 _ rfl
              refine lv_if_ne (tgt := 111) C.x C.b dX10_readsThing_106 (by decide) (fun c14 => ?_) (fun c14 => ?_)
              · have hf := it_f hf c14
                refine lv_aload_n C.x C.b dX10_readsThing_111 rfl (lv_at hl 1 rfl) ?_
                refine lv_dup C.x C.b dX10_readsThing_112 rfl ?_
                refine r_geti C hR t_r0 fl_X10_151 rfl dX10_readsThing_113 ?_
                refine lv_iconst (v := (1 : Int32)) C.x C.b dX10_readsThing_116 (by decide) ?_
                refine lv_isub C.x C.b dX10_readsThing_117 ?_
                refine r_puti C hR hS t_r0 fl_X10_151 fp_X10_10_12 rfl dX10_readsThing_118 (fun H locs hR hS => ?_)
                obtain ⟨h15, e_h15⟩ : ∃ y, y = upI q13.2 r0 12 ((hpI q13.2 r0 12) - (1 : Int32)) := ⟨_, rfl⟩
                rw [← e_h15] at hR
                have hf := lt_e hf e_h15
                have hE := eI e_h15 hE
                have t_r0 := tI e_h15 t_r0
                refine lv_iconst (v := (1 : Int32)) C.x C.b dX10_readsThing_121 (by decide) ?_
                have hf := so_e hf
                subst hf
                exact r_zret C hr hlk hR hE hS z_1 dX10_readsThing_122
              · have hf := it_t hf c14
                refine lv_iconst (v := (0 : Int32)) C.x C.b dX10_readsThing_109 (by decide) ?_
                have hf := so_e hf
                subst hf
                exact r_zret C hr hlk hR hE hS z_0 dX10_readsThing_110
          · have hf := it_t hf c9
            refine lv_iconst (v := (0 : Int32)) C.x C.b dX10_readsThing_80 (by decide) ?_
            have hf := so_e hf
            subst hf
            exact r_zret C hr hlk hR hE hS z_0 dX10_readsThing_81
      · have hf := it_f hf c6
        refine lv_aload_n C.x C.b dX10_readsThing_52 rfl (lv_at hl 1 rfl) ?_
        refine lv_sipush (v := (1000 : Int32)) C.x C.b dX10_readsThing_53 (by decide) ?_
        refine lv_iload_n C.x C.b dX10_readsThing_56 rfl (lv_at hl 0 rfl) ?_
        refine lv_iadd C.x C.b dX10_readsThing_57 ?_
        obtain ⟨q16, h_q16, hf⟩ := bd_e hf
        refine r_callV (As := [.int ((1000 : Int32) + q5.1)]) (rest := []) C hR hS t_r0 rfl mk_X10_codes cl_X10_224 (k_X10_codes t_r0 h_q16) ⟨⟨by simp only [rm_X10_codes, rmS_B] <;> omega, by simp only [rm_X10_codes, rmS_B] <;> omega⟩, ⟨rfl, rfl⟩, by simp only [rmS_B] <;> omega, by simp only [rmS_B] <;> omega⟩ rfl hl.1 rfl (Nat.le_of_ble_eq_true rfl) dX10_readsThing_58 (fun H locs hR hS hE1 z_q16 => ?_)
        have hE := hE.tr hE1
        have t_r0 := hE1.at t_r0 (by decide)
        refine lv_iconst (v := (1 : Int32)) C.x C.b dX10_readsThing_61 (by decide) ?_
        have hf := so_e hf
        subst hf
        exact r_zret C hr hlk hR hE hS z_1 dX10_readsThing_62
    · have hf := it_f hf c4
      refine lv_aload_n C.x C.b dX10_readsThing_30 rfl (lv_at hl 0 rfl) ?_
      refine lv_aload_n C.x C.b dX10_readsThing_31 rfl (lv_at hl 0 rfl) ?_
      refine lv_iconst (v := (3 : Int32)) C.x C.b dX10_readsThing_32 (by decide) ?_
      obtain ⟨q17, h_q17, hf⟩ := bd_e hf
      refine r_callV (As := [.int (3 : Int32)]) (rest := [.ref (G.2.2 + r0)]) C hR hS t_r0 rfl mk_X10_number cl_X10_228 (k_X10_number t_r0 h_q17) ⟨⟨by simp only [rm_X10_number, rmS_B] <;> omega, by simp only [rm_X10_number, rmS_B] <;> omega⟩, ⟨rfl, rfl⟩, by simp only [rmS_B] <;> omega, by simp only [rmS_B] <;> omega⟩ rfl hl.1 rfl (Nat.le_of_ble_eq_true rfl) dX10_readsThing_33 (fun H locs hR hS hE1 z_q17 => ?_)
      have hE := hE.tr hE1
      have t_r0 := hE1.at t_r0 (by decide)
      obtain ⟨q18, h_q18, hf⟩ := bd_e hf
      refine r_callV (As := [.int q17.1]) (rest := []) C hR hS t_r0 rfl mk_X10_codes cl_X10_224 (k_X10_codes t_r0 h_q18) ⟨⟨by simp only [rm_X10_codes, rmS_B] <;> omega, by simp only [rm_X10_codes, rmS_B] <;> omega⟩, ⟨rfl, rfl⟩, by simp only [rmS_B] <;> omega, by simp only [rmS_B] <;> omega⟩ rfl hl.1 rfl (Nat.le_of_ble_eq_true rfl) dX10_readsThing_36 (fun H locs hR hS hE1 z_q18 => ?_)
      have hE := hE.tr hE1
      have t_r0 := hE1.at t_r0 (by decide)
      refine lv_iconst (v := (1 : Int32)) C.x C.b dX10_readsThing_39 (by decide) ?_
      have hf := so_e hf
      subst hf
      exact r_zret C hr hlk hR hE hS z_1 dX10_readsThing_40
  · have hf := it_f hf c2
    refine lv_aload_n C.x C.b dX10_readsThing_9 rfl (lv_at hl 0 rfl) ?_
    obtain ⟨q19, h_q19, hf⟩ := bd_e hf
    refine r_callV (As := []) (rest := []) C hR hS t_r0 rfl mk_X10_readsThing cl_X10_221 (hE_X10_readsThing t_r0 h_q19) ⟨⟨by simp only [rmS_B, rmS_B] <;> omega, by simp only [rmS_B, rmS_B] <;> omega⟩, ⟨rfl, rfl⟩, by simp only [rmS_B] <;> omega, by simp only [rmS_B] <;> omega⟩ rfl hl.1 rfl (Nat.le_of_ble_eq_true rfl) dX10_readsThing_10 (fun H locs hR hS hE1 z_q19 => ?_)
    have hE := hE.tr hE1
    have t_r0 := hE1.at t_r0 (by decide)
    have z_q19 := z_q19 _ rfl
    refine lv_istore_n (lv' := [(1, .int q19.1), (0, .ref (G.2.2 + r0))]) C.x C.b dX10_readsThing_13 rfl hl (by decide) rfl (fun ls hl => ?_)
    refine lv_aload_n C.x C.b dX10_readsThing_14 rfl (lv_at hl 1 rfl) ?_
    refine lv_sipush (v := (3000 : Int32)) C.x C.b dX10_readsThing_15 (by decide) ?_
    obtain ⟨q20, h_q20, hf⟩ := bd_e hf
    refine r_callV (As := [.int (3000 : Int32)]) (rest := []) C hR hS t_r0 rfl mk_X10_codes cl_X10_224 (k_X10_codes t_r0 h_q20) ⟨⟨by simp only [rm_X10_codes, rmS_B] <;> omega, by simp only [rm_X10_codes, rmS_B] <;> omega⟩, ⟨rfl, rfl⟩, by simp only [rmS_B] <;> omega, by simp only [rmS_B] <;> omega⟩ rfl hl.1 rfl (Nat.le_of_ble_eq_true rfl) dX10_readsThing_18 (fun H locs hR hS hE1 z_q20 => ?_)
    have hE := hE.tr hE1
    have t_r0 := hE1.at t_r0 (by decide)
    refine lv_iload_n C.x C.b dX10_readsThing_21 rfl (lv_at hl 0 rfl) ?_
    have hf := so_e hf
    subst hf
    exact r_zret C hr hlk hR hE hS z_q19 dX10_readsThing_22

def P_X10_readsRank_109 (d : Nat) (G : Gt) (l : Launch) (p : Program) (e : Env) (s : State) (m : MethodId) (args : Array Value) (below : List Frame) (meth : Method) (c : Code) (h0 : Hp) (out : (Int32 × Hp)) (r0 : Nat) (x1 : Int32) (k : Hp → Int32 → Option (Int32 × Hp)) : Prop := ∀ (H : Heap) (locs : List Loc) (ls : Array Slot) (h : Hp) (s0 : Int32), k h s0 = some out → Ext h0 h → Rel G h H → va_S (AA G.2.2) s.heap H locs → hpT h r0 = (1, 10) → narrow .boolean (.int s0) = .int s0 → lv_has ls 4 [(0, .ref (G.2.2 + r0)), (1, .int x1)] → W p l e (rmS_B (d + 1)) s m args below meth c H locs 0 0 (MQ below (Qm G h0 out.2 (some (.int out.1)) 1) args s 0 0 (AA G.2.2)) (F0 m 109 ls [.int s0])
def P_X10_readsRank_96 (d : Nat) (G : Gt) (l : Launch) (p : Program) (e : Env) (s : State) (m : MethodId) (args : Array Value) (below : List Frame) (meth : Method) (c : Code) (h0 : Hp) (out : (Int32 × Hp)) (r0 : Nat) (x1 : Int32) (k : Hp → Nat → Int32 → Int32 → Option (Int32 × Hp)) : Prop := ∀ (H : Heap) (locs : List Loc) (ls : Array Slot) (h : Hp) (s0 : Nat) (s1 : Int32) (s2 : Int32), k h s0 s1 s2 = some out → Ext h0 h → Rel G h H → va_S (AA G.2.2) s.heap H locs → hpT h r0 = (1, 10) → hpT h s0 = (1, 10) → lv_has ls 4 [(0, .ref (G.2.2 + r0)), (1, .int x1)] → W p l e (rmS_B (d + 1)) s m args below meth c H locs 0 0 (MQ below (Qm G h0 out.2 (some (.int out.1)) 1) args s 0 0 (AA G.2.2)) (F0 m 96 ls [.int s2, .int s1, .ref (G.2.2 + s0)])
def P_X10_readsRank_50 (d : Nat) (G : Gt) (l : Launch) (p : Program) (e : Env) (s : State) (m : MethodId) (args : Array Value) (below : List Frame) (meth : Method) (c : Code) (h0 : Hp) (out : (Int32 × Hp)) (r0 : Nat) (x1 : Int32) (k : Hp → Nat → Nat → Option (Int32 × Hp)) : Prop := ∀ (H : Heap) (locs : List Loc) (ls : Array Slot) (h : Hp) (s0 : Nat) (s1 : Nat), k h s0 s1 = some out → Ext h0 h → Rel G h H → va_S (AA G.2.2) s.heap H locs → hpT h r0 = (1, 10) → hpT h s0 = (1, 10) → s1 < 5 → lv_has ls 4 [(0, .ref (G.2.2 + r0)), (1, .int x1)] → W p l e (rmS_B (d + 1)) s m args below meth c H locs 0 0 (MQ below (Qm G h0 out.2 (some (.int out.1)) 1) args s 0 0 (AA G.2.2)) (F0 m 50 ls [.ref (adS G s1), .ref (G.2.2 + s0)])
def P_X10_readsRank_24 (d : Nat) (G : Gt) (l : Launch) (p : Program) (e : Env) (s : State) (m : MethodId) (args : Array Value) (below : List Frame) (meth : Method) (c : Code) (h0 : Hp) (out : (Int32 × Hp)) (r0 : Nat) (x1 : Int32) (k : Hp → Int32 → Option (Int32 × Hp)) : Prop := ∀ (H : Heap) (locs : List Loc) (ls : Array Slot) (h : Hp) (x2 : Int32), k h x2 = some out → Ext h0 h → Rel G h H → va_S (AA G.2.2) s.heap H locs → hpT h r0 = (1, 10) → narrow .boolean (.int x2) = .int x2 → lv_has ls 4 [(0, .ref (G.2.2 + r0)), (1, .int x1), (2, .int x2)] → W p l e (rmS_B (d + 1)) s m args below meth c H locs 0 0 (MQ below (Qm G h0 out.2 (some (.int out.1)) 1) args s 0 0 (AA G.2.2)) (F0 m 24 ls [])
set_option maxRecDepth 100000 in
set_option maxHeartbeats 4000000 in
theorem w_X10_readsRank_109 {d : Nat} {G : Gt} {l : Launch} {p : Program} {e : Env} {s : State} {m : MethodId} {args : Array Value} {below : List Frame} {meth : Method} {c : Code} {E_X10_readsThing : Hp → Nat → Option (Int32 × Hp)} {E_X10_readsRank : Hp → Nat → Int32 → Option (Int32 × Hp)} {h0 : Hp} {out : (Int32 × Hp)} {r0 : Nat} {x1 : Int32} {k24 : Hp → Int32 → Option (Int32 × Hp)} (C : Cx G p m c cX10_readsRank 4 s args RX10) (hr : meth.sig.returnType = some .boolean) (hlk : meth.locks = false) (hE_X10_readsThing : ∀ {h : Hp} {r0 : Nat} {out : (Int32 × Hp)}, hpT h r0 = (1, 10) → E_X10_readsThing h r0 = some out → Mt G l yX10_readsThing cX10_readsThing 2 (some .boolean) (rmS_B d) [.ref (G.2.2 + r0)] h (some (.int out.1)) out.2 1 0 0) (hE_X10_readsRank : ∀ {h : Hp} {r0 : Nat} {x1 : Int32} {out : (Int32 × Hp)}, hpT h r0 = (1, 10) → E_X10_readsRank h r0 x1 = some out → Mt G l yX10_readsRank cX10_readsRank 4 (some .boolean) (rmS_B d) [.ref (G.2.2 + r0), .int x1] h (some (.int out.1)) out.2 1 0 0) (hk24 : P_X10_readsRank_24 d G l p e s m args below meth c h0 out r0 x1 k24) : P_X10_readsRank_109 d G l p e s m args below meth c h0 out r0 x1 (fo_X10_readsRank_109 E_X10_readsThing E_X10_readsRank r0 x1 k24) := by
  intro H locs ls h s0 hf hE hR hS t_r0 z_s0 hl
  rw [fo_X10_readsRank_109] at hf
  refine lv_istore_n (lv' := [(2, .int s0), (0, .ref (G.2.2 + r0)), (1, .int x1)]) C.x C.b dX10_readsRank_109 rfl hl (by decide) rfl (fun ls hl => ?_)
  refine lv_goto (tgt := 24) C.x C.b dX10_readsRank_110 (by decide) ?_
  exact hk24 _ _ _ _ _ hf hE hR hS t_r0 z_s0 (lv_sub hl [1, 2, 0] rfl)
set_option maxRecDepth 100000 in
set_option maxHeartbeats 4000000 in
theorem w_X10_readsRank_96 {d : Nat} {G : Gt} {l : Launch} {p : Program} {e : Env} {s : State} {m : MethodId} {args : Array Value} {below : List Frame} {meth : Method} {c : Code} {E_X10_readsThing : Hp → Nat → Option (Int32 × Hp)} {E_X10_readsRank : Hp → Nat → Int32 → Option (Int32 × Hp)} {h0 : Hp} {out : (Int32 × Hp)} {r0 : Nat} {x1 : Int32} {k24 : Hp → Int32 → Option (Int32 × Hp)} (C : Cx G p m c cX10_readsRank 4 s args RX10) (hr : meth.sig.returnType = some .boolean) (hlk : meth.locks = false) (hE_X10_readsThing : ∀ {h : Hp} {r0 : Nat} {out : (Int32 × Hp)}, hpT h r0 = (1, 10) → E_X10_readsThing h r0 = some out → Mt G l yX10_readsThing cX10_readsThing 2 (some .boolean) (rmS_B d) [.ref (G.2.2 + r0)] h (some (.int out.1)) out.2 1 0 0) (hE_X10_readsRank : ∀ {h : Hp} {r0 : Nat} {x1 : Int32} {out : (Int32 × Hp)}, hpT h r0 = (1, 10) → E_X10_readsRank h r0 x1 = some out → Mt G l yX10_readsRank cX10_readsRank 4 (some .boolean) (rmS_B d) [.ref (G.2.2 + r0), .int x1] h (some (.int out.1)) out.2 1 0 0) (hk24 : P_X10_readsRank_24 d G l p e s m args below meth c h0 out r0 x1 k24) : P_X10_readsRank_96 d G l p e s m args below meth c h0 out r0 x1 (fo_X10_readsRank_96 E_X10_readsThing E_X10_readsRank r0 x1 k24) := by
  intro H locs ls h s0 s1 s2 hf hE hR hS t_r0 t_s0 hl
  rw [fo_X10_readsRank_96] at hf
  refine lv_iadd C.x C.b dX10_readsRank_96 ?_
  obtain ⟨q14, h_q14, hf⟩ := bd_e hf
  refine r_callV (As := [.int (s1 + s2)]) (rest := []) C hR hS t_s0 rfl mk_X10_codes cl_X10_224 (k_X10_codes t_s0 h_q14) ⟨⟨by simp only [rm_X10_codes, rmS_B] <;> omega, by simp only [rm_X10_codes, rmS_B] <;> omega⟩, ⟨rfl, rfl⟩, by simp only [rmS_B] <;> omega, by simp only [rmS_B] <;> omega⟩ rfl hl.1 rfl (Nat.le_of_ble_eq_true rfl) dX10_readsRank_97 (fun H locs hR hS hE1 z_q14 => ?_)
  have hE := hE.tr hE1
  have t_r0 := hE1.at t_r0 (by decide)
  refine lv_iload_n C.x C.b dX10_readsRank_100 rfl (lv_at hl 1 rfl) ?_
  refine lv_if_le (tgt := 108) C.x C.b dX10_readsRank_101 (by decide) (fun c15 => ?_) (fun c15 => ?_)
  · simp only [if_pos c15] at hf
    refine lv_iconst (v := (0 : Int32)) C.x C.b dX10_readsRank_108 (by decide) ?_
    exact w_X10_readsRank_109 C hr hlk hE_X10_readsThing hE_X10_readsRank hk24 _ _ _ _ _ hf hE hR hS t_r0 z_0 (lv_sub hl [0, 1] rfl)
  · simp only [if_neg c15] at hf
    refine lv_iconst (v := (1 : Int32)) C.x C.b dX10_readsRank_104 (by decide) ?_
    refine lv_goto (tgt := 109) C.x C.b dX10_readsRank_105 (by decide) ?_
    exact w_X10_readsRank_109 C hr hlk hE_X10_readsThing hE_X10_readsRank hk24 _ _ _ _ _ hf hE hR hS t_r0 z_1 (lv_sub hl [0, 1] rfl)
set_option maxRecDepth 100000 in
set_option maxHeartbeats 4000000 in
theorem w_X10_readsRank_50 {d : Nat} {G : Gt} {l : Launch} {p : Program} {e : Env} {s : State} {m : MethodId} {args : Array Value} {below : List Frame} {meth : Method} {c : Code} {E_X10_readsThing : Hp → Nat → Option (Int32 × Hp)} {E_X10_readsRank : Hp → Nat → Int32 → Option (Int32 × Hp)} {h0 : Hp} {out : (Int32 × Hp)} {r0 : Nat} {x1 : Int32} {k24 : Hp → Int32 → Option (Int32 × Hp)} (C : Cx G p m c cX10_readsRank 4 s args RX10) (hr : meth.sig.returnType = some .boolean) (hlk : meth.locks = false) (hE_X10_readsThing : ∀ {h : Hp} {r0 : Nat} {out : (Int32 × Hp)}, hpT h r0 = (1, 10) → E_X10_readsThing h r0 = some out → Mt G l yX10_readsThing cX10_readsThing 2 (some .boolean) (rmS_B d) [.ref (G.2.2 + r0)] h (some (.int out.1)) out.2 1 0 0) (hE_X10_readsRank : ∀ {h : Hp} {r0 : Nat} {x1 : Int32} {out : (Int32 × Hp)}, hpT h r0 = (1, 10) → E_X10_readsRank h r0 x1 = some out → Mt G l yX10_readsRank cX10_readsRank 4 (some .boolean) (rmS_B d) [.ref (G.2.2 + r0), .int x1] h (some (.int out.1)) out.2 1 0 0) (hk24 : P_X10_readsRank_24 d G l p e s m args below meth c h0 out r0 x1 k24) : P_X10_readsRank_50 d G l p e s m args below meth c h0 out r0 x1 (fo_X10_readsRank_50 E_X10_readsThing E_X10_readsRank r0 x1 k24) := by
  intro H locs ls h s0 s1 hf hE hR hS t_r0 t_s0 t_s1 hl
  rw [fo_X10_readsRank_50] at hf
  obtain ⟨q8, h_q8, hf⟩ := bd_e hf
  refine r_callV (As := [.ref (adS G s1)]) (rest := []) C hR hS t_s0 rfl mk_X10_takesOf cl_X10_233 (k_X10_takesOf t_s0 t_s1 h_q8) ⟨⟨by simp only [rm_X10_takesOf, rmS_B] <;> omega, by simp only [rm_X10_takesOf, rmS_B] <;> omega⟩, ⟨rfl, rfl⟩, by simp only [rmS_B] <;> omega, by simp only [rmS_B] <;> omega⟩ rfl hl.1 rfl (Nat.le_of_ble_eq_true rfl) dX10_readsRank_50 (fun H locs hR hS hE1 z_q8 => ?_)
  have hE := hE.tr hE1
  have t_r0 := hE1.at t_r0 (by decide)
  refine lv_istore_n (lv' := [(3, .int q8.1), (0, .ref (G.2.2 + r0)), (1, .int x1)]) C.x C.b dX10_readsRank_53 rfl hl (by decide) rfl (fun ls hl => ?_)
  refine lv_iload_n C.x C.b dX10_readsRank_54 rfl (lv_at hl 0 rfl) ?_
  refine lv_if_ge (tgt := 60) C.x C.b dX10_readsRank_55 (by decide) (fun c9 => ?_) (fun c9 => ?_)
  · have hf := it_t hf c9
    refine lv_aload_n C.x C.b dX10_readsRank_60 rfl (lv_at hl 1 rfl) ?_
    refine lv_iload_n C.x C.b dX10_readsRank_61 rfl (lv_at hl 2 rfl) ?_
    refine lv_iconst (v := (1 : Int32)) C.x C.b dX10_readsRank_62 (by decide) ?_
    refine lv_iadd C.x C.b dX10_readsRank_63 ?_
    obtain ⟨q10, h_q10, hf⟩ := bd_e hf
    refine r_callV (As := [.int (x1 + (1 : Int32))]) (rest := []) C hR hS t_r0 rfl mk_X10_readsRank cl_X10_237 (hE_X10_readsRank t_r0 h_q10) ⟨⟨by simp only [rmS_B, rmS_B] <;> omega, by simp only [rmS_B, rmS_B] <;> omega⟩, ⟨rfl, rfl⟩, by simp only [rmS_B] <;> omega, by simp only [rmS_B] <;> omega⟩ rfl hl.1 rfl (Nat.le_of_ble_eq_true rfl) dX10_readsRank_64 (fun H locs hR hS hE1 z_q10 => ?_)
    have hE := hE.tr hE1
    have t_r0 := hE1.at t_r0 (by decide)
    have z_q10 := z_q10 _ rfl
    refine lv_if_ne (tgt := 72) C.x C.b dX10_readsRank_67 (by decide) (fun c11 => ?_) (fun c11 => ?_)
    · have hf := it_f hf c11
      refine lv_aload_n C.x C.b dX10_readsRank_72 rfl (lv_at hl 1 rfl) ?_
      refine lv_sipush (v := (2000 : Int32)) C.x C.b dX10_readsRank_73 (by decide) ?_
      refine lv_iload_n C.x C.b dX10_readsRank_76 rfl (lv_at hl 0 rfl) ?_
      refine lv_iadd C.x C.b dX10_readsRank_77 ?_
      refine lv_iload_n C.x C.b dX10_readsRank_78 rfl (lv_at hl 2 rfl) ?_
      refine lv_if_ne (tgt := 86) C.x C.b dX10_readsRank_79 (by decide) (fun c12 => ?_) (fun c12 => ?_)
      · simp only [if_neg c12] at hf
        refine lv_iload_n C.x C.b dX10_readsRank_86 rfl (lv_at hl 2 rfl) ?_
        refine lv_iconst (v := (1 : Int32)) C.x C.b dX10_readsRank_87 (by decide) ?_
        refine lv_icmp_ne (tgt := 95) C.x C.b dX10_readsRank_88 (by decide) (fun c13 => ?_) (fun c13 => ?_)
        · simp only [if_neg c13] at hf
          refine lv_iconst (v := (5 : Int32)) C.x C.b dX10_readsRank_95 (by decide) ?_
          exact w_X10_readsRank_96 C hr hlk hE_X10_readsThing hE_X10_readsRank hk24 _ _ _ _ _ _ _ hf hE hR hS t_r0 t_r0 (lv_sub hl [1, 2] rfl)
        · simp only [if_pos c13] at hf
          refine lv_iconst (v := (3 : Int32)) C.x C.b dX10_readsRank_91 (by decide) ?_
          refine lv_goto (tgt := 96) C.x C.b dX10_readsRank_92 (by decide) ?_
          exact w_X10_readsRank_96 C hr hlk hE_X10_readsThing hE_X10_readsRank hk24 _ _ _ _ _ _ _ hf hE hR hS t_r0 t_r0 (lv_sub hl [1, 2] rfl)
      · simp only [if_pos c12] at hf
        refine lv_iconst (v := (0 : Int32)) C.x C.b dX10_readsRank_82 (by decide) ?_
        refine lv_goto (tgt := 96) C.x C.b dX10_readsRank_83 (by decide) ?_
        exact w_X10_readsRank_96 C hr hlk hE_X10_readsThing hE_X10_readsRank hk24 _ _ _ _ _ _ _ hf hE hR hS t_r0 t_r0 (lv_sub hl [1, 2] rfl)
    · have hf := it_t hf c11
      refine lv_iconst (v := (0 : Int32)) C.x C.b dX10_readsRank_70 (by decide) ?_
      have hf := so_e hf
      subst hf
      exact r_zret C hr hlk hR hE hS z_0 dX10_readsRank_71
  · have hf := it_f hf c9
    refine lv_iconst (v := (1 : Int32)) C.x C.b dX10_readsRank_58 (by decide) ?_
    have hf := so_e hf
    subst hf
    exact r_zret C hr hlk hR hE hS z_1 dX10_readsRank_59
set_option maxRecDepth 100000 in
set_option maxHeartbeats 4000000 in
theorem w_X10_readsRank_24 {d : Nat} {G : Gt} {l : Launch} {p : Program} {e : Env} {s : State} {m : MethodId} {args : Array Value} {below : List Frame} {meth : Method} {c : Code} {E_X10_readsThing : Hp → Nat → Option (Int32 × Hp)} {E_X10_readsRank : Hp → Nat → Int32 → Option (Int32 × Hp)} {h0 : Hp} {out : (Int32 × Hp)} {r0 : Nat} {x1 : Int32}  (C : Cx G p m c cX10_readsRank 4 s args RX10) (hr : meth.sig.returnType = some .boolean) (hlk : meth.locks = false) (hE_X10_readsThing : ∀ {h : Hp} {r0 : Nat} {out : (Int32 × Hp)}, hpT h r0 = (1, 10) → E_X10_readsThing h r0 = some out → Mt G l yX10_readsThing cX10_readsThing 2 (some .boolean) (rmS_B d) [.ref (G.2.2 + r0)] h (some (.int out.1)) out.2 1 0 0) (hE_X10_readsRank : ∀ {h : Hp} {r0 : Nat} {x1 : Int32} {out : (Int32 × Hp)}, hpT h r0 = (1, 10) → E_X10_readsRank h r0 x1 = some out → Mt G l yX10_readsRank cX10_readsRank 4 (some .boolean) (rmS_B d) [.ref (G.2.2 + r0), .int x1] h (some (.int out.1)) out.2 1 0 0)  (n : Nat) : P_X10_readsRank_24 d G l p e s m args below meth c h0 out r0 x1 (fo_X10_readsRank_24 E_X10_readsThing E_X10_readsRank r0 x1 n) := by
  induction n with
  | zero => intro H locs ls h x2 hf hE hR hS t_r0 z_x2 hl; cases hf
  | succ n hk24 =>
    intro H locs ls h x2 hf hE hR hS t_r0 z_x2 hl
    rw [fo_X10_readsRank_24] at hf
    obtain ⟨k24, e_k24⟩ : ∃ y, y = fo_X10_readsRank_24 E_X10_readsThing E_X10_readsRank r0 x1 n := ⟨_, rfl⟩
    have hf := lt_e hf e_k24
    rw [← e_k24] at hk24
    refine lv_iload_n C.x C.b dX10_readsRank_24 rfl (lv_at hl 2 rfl) ?_
    refine lv_if_eq (tgt := 113) C.x C.b dX10_readsRank_25 (by decide) (fun c5 => ?_) (fun c5 => ?_)
    · have hf := it_t hf c5
      refine lv_iconst (v := (1 : Int32)) C.x C.b dX10_readsRank_113 (by decide) ?_
      have hf := so_e hf
      subst hf
      exact r_zret C hr hlk hR hE hS z_1 dX10_readsRank_114
    · have hf := it_f hf c5
      refine lv_aload_n C.x C.b dX10_readsRank_28 rfl (lv_at hl 0 rfl) ?_
      refine lv_iload_n C.x C.b dX10_readsRank_29 rfl (lv_at hl 1 rfl) ?_
      refine lv_if_ne (tgt := 38) C.x C.b dX10_readsRank_30 (by decide) (fun c6 => ?_) (fun c6 => ?_)
      · simp only [if_neg c6] at hf
        refine lv_iload_n C.x C.b dX10_readsRank_38 rfl (lv_at hl 1 rfl) ?_
        refine lv_iconst (v := (1 : Int32)) C.x C.b dX10_readsRank_39 (by decide) ?_
        refine lv_icmp_ne (tgt := 48) C.x C.b dX10_readsRank_40 (by decide) (fun c7 => ?_) (fun c7 => ?_)
        · simp only [if_neg c7] at hf
          refine va_ldcS C.x C.b C.ow (sr_244 C) dX10_readsRank_48 ?_
          exact w_X10_readsRank_50 C hr hlk hE_X10_readsThing hE_X10_readsRank hk24 _ _ _ _ _ _ hf hE hR hS t_r0 t_r0 (by decide) (lv_sub hl [0, 1] rfl)
        · simp only [if_pos c7] at hf
          refine va_ldcS C.x C.b C.ow (sr_242 C) dX10_readsRank_43 ?_
          refine lv_goto (tgt := 50) C.x C.b dX10_readsRank_45 (by decide) ?_
          exact w_X10_readsRank_50 C hr hlk hE_X10_readsThing hE_X10_readsRank hk24 _ _ _ _ _ _ hf hE hR hS t_r0 t_r0 (by decide) (lv_sub hl [0, 1] rfl)
      · simp only [if_pos c6] at hf
        refine va_ldcS C.x C.b C.ow (sr_240 C) dX10_readsRank_33 ?_
        refine lv_goto (tgt := 50) C.x C.b dX10_readsRank_35 (by decide) ?_
        exact w_X10_readsRank_50 C hr hlk hE_X10_readsThing hE_X10_readsRank hk24 _ _ _ _ _ _ hf hE hR hS t_r0 t_r0 (by decide) (lv_sub hl [0, 1] rfl)
set_option maxRecDepth 100000 in
set_option maxHeartbeats 4000000 in
theorem ko_X10_readsRank {G : Gt} {l : Launch} {d : Nat} {E_X10_readsThing : Hp → Nat → Option (Int32 × Hp)} {E_X10_readsRank : Hp → Nat → Int32 → Option (Int32 × Hp)} (hE_X10_readsThing : ∀ {h : Hp} {r0 : Nat} {out : (Int32 × Hp)}, hpT h r0 = (1, 10) → E_X10_readsThing h r0 = some out → Mt G l yX10_readsThing cX10_readsThing 2 (some .boolean) (rmS_B d) [.ref (G.2.2 + r0)] h (some (.int out.1)) out.2 1 0 0) (hE_X10_readsRank : ∀ {h : Hp} {r0 : Nat} {x1 : Int32} {out : (Int32 × Hp)}, hpT h r0 = (1, 10) → E_X10_readsRank h r0 x1 = some out → Mt G l yX10_readsRank cX10_readsRank 4 (some .boolean) (rmS_B d) [.ref (G.2.2 + r0), .int x1] h (some (.int out.1)) out.2 1 0 0) {h : Hp} {r0 : Nat} {x1 : Int32} {out : (Int32 × Hp)} (t_r0 : hpT h r0 = (1, 10))  (hf : fo_X10_readsRank E_X10_readsThing E_X10_readsRank h r0 x1 = some out) : Mt G l yX10_readsRank cX10_readsRank 4 (some .boolean) (rmS_B (d + 1)) [.ref (G.2.2 + r0), .int x1] h (some (.int out.1)) out.2 1 0 0 := by
  refine r_met (by decide +kernel) (Nat.le_of_ble_eq_true rfl) ?_
  intro p e s m args below meth c ls C hr hlk hnm hR hS hl
  have hE : Ext h h := Ext.rf
  have hl : lv_has ls 4 [(0, .ref (G.2.2 + r0)), (1, .int x1)] := hl
  rw [fo_X10_readsRank] at hf
  refine lv_iload_n C.x C.b dX10_readsRank_0 rfl (lv_at hl 1 rfl) ?_
  refine lv_iconst (v := (3 : Int32)) C.x C.b dX10_readsRank_1 (by decide) ?_
  refine lv_icmp_ne (tgt := 10) C.x C.b dX10_readsRank_2 (by decide) (fun c1 => ?_) (fun c1 => ?_)
  · have hf := it_f hf c1
    refine lv_aload_n C.x C.b dX10_readsRank_10 rfl (lv_at hl 0 rfl) ?_
    refine lv_iload_n C.x C.b dX10_readsRank_11 rfl (lv_at hl 1 rfl) ?_
    refine lv_iconst (v := (1 : Int32)) C.x C.b dX10_readsRank_12 (by decide) ?_
    refine lv_iadd C.x C.b dX10_readsRank_13 ?_
    obtain ⟨q2, h_q2, hf⟩ := bd_e hf
    refine r_callV (As := [.int (x1 + (1 : Int32))]) (rest := []) C hR hS t_r0 rfl mk_X10_readsRank cl_X10_237 (hE_X10_readsRank t_r0 h_q2) ⟨⟨by simp only [rmS_B, rmS_B] <;> omega, by simp only [rmS_B, rmS_B] <;> omega⟩, ⟨rfl, rfl⟩, by simp only [rmS_B] <;> omega, by simp only [rmS_B] <;> omega⟩ rfl hl.1 rfl (Nat.le_of_ble_eq_true rfl) dX10_readsRank_14 (fun H locs hR hS hE1 z_q2 => ?_)
    have hE := hE.tr hE1
    have t_r0 := hE1.at t_r0 (by decide)
    have z_q2 := z_q2 _ rfl
    refine lv_if_ne (tgt := 22) C.x C.b dX10_readsRank_17 (by decide) (fun c3 => ?_) (fun c3 => ?_)
    · have hf := it_f hf c3
      refine lv_iconst (v := (1 : Int32)) C.x C.b dX10_readsRank_22 (by decide) ?_
      refine lv_istore_n (lv' := [(2, .int (1 : Int32)), (0, .ref (G.2.2 + r0)), (1, .int x1)]) C.x C.b dX10_readsRank_23 rfl hl (by decide) rfl (fun ls hl => ?_)
      exact w_X10_readsRank_24 C hr hlk hE_X10_readsThing hE_X10_readsRank FU _ _ _ _ _ hf hE hR hS t_r0 z_1 (lv_sub hl [1, 2, 0] rfl)
    · have hf := it_t hf c3
      refine lv_iconst (v := (0 : Int32)) C.x C.b dX10_readsRank_20 (by decide) ?_
      have hf := so_e hf
      subst hf
      exact r_zret C hr hlk hR hE hS z_0 dX10_readsRank_21
  · have hf := it_t hf c1
    refine lv_aload_n C.x C.b dX10_readsRank_5 rfl (lv_at hl 0 rfl) ?_
    obtain ⟨q4, h_q4, hf⟩ := bd_e hf
    refine r_callV (As := []) (rest := []) C hR hS t_r0 rfl mk_X10_readsThing cl_X10_221 (hE_X10_readsThing t_r0 h_q4) ⟨⟨by simp only [rmS_B, rmS_B] <;> omega, by simp only [rmS_B, rmS_B] <;> omega⟩, ⟨rfl, rfl⟩, by simp only [rmS_B] <;> omega, by simp only [rmS_B] <;> omega⟩ rfl hl.1 rfl (Nat.le_of_ble_eq_true rfl) dX10_readsRank_6 (fun H locs hR hS hE1 z_q4 => ?_)
    have hE := hE.tr hE1
    have t_r0 := hE1.at t_r0 (by decide)
    have z_q4 := z_q4 _ rfl
    have hf := so_e hf
    subst hf
    exact r_zret C hr hlk hR hE hS z_q4 dX10_readsRank_9

set_option maxRecDepth 100000 in
theorem kx_B {G : Gt} {l : Launch} (d : Nat) : (∀ {h : Hp} {r0 : Nat} {out : (Int32 × Hp)}, hpT h r0 = (1, 10) → (fx_B d).1 h r0 = some out → Mt G l yX10_readsThing cX10_readsThing 2 (some .boolean) (rmS_B d) [.ref (G.2.2 + r0)] h (some (.int out.1)) out.2 1 0 0) ∧ (∀ {h : Hp} {r0 : Nat} {x1 : Int32} {out : (Int32 × Hp)}, hpT h r0 = (1, 10) → (fx_B d).2 h r0 x1 = some out → Mt G l yX10_readsRank cX10_readsRank 4 (some .boolean) (rmS_B d) [.ref (G.2.2 + r0), .int x1] h (some (.int out.1)) out.2 1 0 0) := by
  induction d with
  | zero => exact ⟨fun _ hf => (by cases hf), fun _ hf => (by cases hf)⟩
  | succ d ih => exact ⟨fun t0 hf => ko_X10_readsThing ih.1 ih.2 t0 hf, fun t0 hf => ko_X10_readsRank ih.1 ih.2 t0 hf⟩
def rm_X10_readsThing : Room := { frames := 96, cells := 0, slots := 0, locals := 2213 }
theorem k_X10_readsThing {G : Gt} {l : Launch} : (∀ {h : Hp} {r0 : Nat} {out : (Int32 × Hp)}, hpT h r0 = (1, 10) → f_X10_readsThing h r0 = some out → Mt G l yX10_readsThing cX10_readsThing 2 (some .boolean) rm_X10_readsThing [.ref (G.2.2 + r0)] h (some (.int out.1)) out.2 1 0 0) := fun t0 hf => (kx_B 90).1 t0 hf
def rm_X10_readsRank : Room := { frames := 96, cells := 0, slots := 0, locals := 2213 }
theorem k_X10_readsRank {G : Gt} {l : Launch} : (∀ {h : Hp} {r0 : Nat} {x1 : Int32} {out : (Int32 × Hp)}, hpT h r0 = (1, 10) → f_X10_readsRank h r0 x1 = some out → Mt G l yX10_readsRank cX10_readsRank 4 (some .boolean) rm_X10_readsRank [.ref (G.2.2 + r0), .int x1] h (some (.int out.1)) out.2 1 0 0) := fun t0 hf => (kx_B 90).2 t0 hf

def rm_X10_readsRule : Room := { frames := 97, cells := 0, slots := 0, locals := 2236 }
def P_X10_readsRule_29 (G : Gt) (l : Launch) (p : Program) (e : Env) (s : State) (m : MethodId) (args : Array Value) (below : List Frame) (meth : Method) (c : Code) (h0 : Hp) (out : (Int32 × Hp)) (r0 : Nat) (k : Hp → Int32 → Int32 → Option (Int32 × Hp)) : Prop := ∀ (H : Heap) (locs : List Loc) (ls : Array Slot) (h : Hp) (s0 : Int32) (x1 : Int32), k h s0 x1 = some out → Ext h0 h → Rel G h H → va_S (AA G.2.2) s.heap H locs → hpT h r0 = (1, 10) → narrow .boolean (.int s0) = .int s0 → lv_has ls 3 [(0, .ref (G.2.2 + r0)), (1, .int x1)] → W p l e rm_X10_readsRule s m args below meth c H locs 0 0 (MQ below (Qm G h0 out.2 (some (.int out.1)) 0) args s 0 0 (AA G.2.2)) (F0 m 29 ls [.int s0])
def P_X10_readsRule_24 (G : Gt) (l : Launch) (p : Program) (e : Env) (s : State) (m : MethodId) (args : Array Value) (below : List Frame) (meth : Method) (c : Code) (h0 : Hp) (out : (Int32 × Hp)) (r0 : Nat) (k : Hp → Int32 → Option (Int32 × Hp)) : Prop := ∀ (H : Heap) (locs : List Loc) (ls : Array Slot) (h : Hp) (x1 : Int32), k h x1 = some out → Ext h0 h → Rel G h H → va_S (AA G.2.2) s.heap H locs → hpT h r0 = (1, 10) → lv_has ls 3 [(0, .ref (G.2.2 + r0)), (1, .int x1)] → W p l e rm_X10_readsRule s m args below meth c H locs 0 0 (MQ below (Qm G h0 out.2 (some (.int out.1)) 0) args s 0 0 (AA G.2.2)) (F0 m 24 ls [])
set_option maxRecDepth 100000 in
set_option maxHeartbeats 4000000 in
theorem w_X10_readsRule_29 {G : Gt} {l : Launch} {p : Program} {e : Env} {s : State} {m : MethodId} {args : Array Value} {below : List Frame} {meth : Method} {c : Code}  {h0 : Hp} {out : (Int32 × Hp)} {r0 : Nat}  (C : Cx G p m c cX10_readsRule 3 s args RX10) (hr : meth.sig.returnType = some .int) (hlk : meth.locks = false)   : P_X10_readsRule_29 G l p e s m args below meth c h0 out r0 (f_X10_readsRule_29 r0) := by
  intro H locs ls h s0 x1 hf hE hR hS t_r0 z_s0 hl
  rw [f_X10_readsRule_29] at hf
  refine lv_istore_n (lv' := [(2, .int s0), (0, .ref (G.2.2 + r0)), (1, .int x1)]) C.x C.b dX10_readsRule_29 rfl hl (by decide) rfl (fun ls hl => ?_)
  refine lv_aload_n C.x C.b dX10_readsRule_30 rfl (lv_at hl 1 rfl) ?_
  refine lv_iload_n C.x C.b dX10_readsRule_31 rfl (lv_at hl 2 rfl) ?_
  refine lv_bipush (v := (40 : Int32)) C.x C.b dX10_readsRule_32 (by decide) ?_
  refine lv_iload_n C.x C.b dX10_readsRule_34 rfl (lv_at hl 0 rfl) ?_
  obtain ⟨q6, h_q6, hf⟩ := bd_e hf
  refine r_callV (As := [.int x1, .int (40 : Int32), .int s0]) (rest := []) C hR hS t_r0 rfl mk_X10_faultOf cl_X10_210 (k_X10_faultOf t_r0 h_q6) ⟨⟨Nat.le_of_ble_eq_true rfl, Nat.le_of_ble_eq_true rfl⟩, ⟨rfl, rfl⟩, Nat.le_of_ble_eq_true rfl, Nat.le_of_ble_eq_true rfl⟩ rfl hl.1 rfl (Nat.le_of_ble_eq_true rfl) dX10_readsRule_35 (fun H locs hR hS hE1 z_q6 => ?_)
  have hf := so_e hf
  subst hf
  exact r_iret C hr hlk hR hE hS dX10_readsRule_38
set_option maxRecDepth 100000 in
set_option maxHeartbeats 4000000 in
theorem w_X10_readsRule_24 {G : Gt} {l : Launch} {p : Program} {e : Env} {s : State} {m : MethodId} {args : Array Value} {below : List Frame} {meth : Method} {c : Code}  {h0 : Hp} {out : (Int32 × Hp)} {r0 : Nat}  (C : Cx G p m c cX10_readsRule 3 s args RX10) (hr : meth.sig.returnType = some .int) (hlk : meth.locks = false)   : P_X10_readsRule_24 G l p e s m args below meth c h0 out r0 (f_X10_readsRule_24 r0) := by
  intro H locs ls h x1 hf hE hR hS t_r0 hl
  rw [f_X10_readsRule_24] at hf
  refine lv_iconst (v := (1 : Int32)) C.x C.b dX10_readsRule_24 (by decide) ?_
  refine lv_goto (tgt := 29) C.x C.b dX10_readsRule_25 (by decide) ?_
  exact w_X10_readsRule_29 C hr hlk _ _ _ _ _ _ hf hE hR hS t_r0 z_1 (lv_sub hl [0, 1] rfl)
set_option maxRecDepth 100000 in
set_option maxHeartbeats 4000000 in
theorem k_X10_readsRule {G : Gt} {l : Launch}  {h : Hp} {r0 : Nat} {out : (Int32 × Hp)} (t_r0 : hpT h r0 = (1, 10))  (hf : f_X10_readsRule  h r0 = some out) : Mt G l yX10_readsRule cX10_readsRule 3 (some .int) rm_X10_readsRule [.ref (G.2.2 + r0)] h (some (.int out.1)) out.2 0 0 0 := by
  refine r_met (by decide +kernel) (Nat.le_of_ble_eq_true rfl) ?_
  intro p e s m args below meth c ls C hr hlk hnm hR hS hl
  have hE : Ext h h := Ext.rf
  have hl : lv_has ls 3 [(0, .ref (G.2.2 + r0))] := hl
  rw [f_X10_readsRule] at hf
  refine lv_aload_n C.x C.b dX10_readsRule_0 rfl (lv_at hl 0 rfl) ?_
  refine lv_bipush (v := (40 : Int32)) C.x C.b dX10_readsRule_1 (by decide) ?_
  obtain ⟨q1, h_q1, hf⟩ := bd_e hf
  refine r_callV (As := [.int (40 : Int32)]) (rest := []) C hR hS t_r0 rfl mk_X10_begins cl_X10_184 (k_X10_begins t_r0 h_q1) ⟨⟨Nat.le_of_ble_eq_true rfl, Nat.le_of_ble_eq_true rfl⟩, ⟨rfl, rfl⟩, Nat.le_of_ble_eq_true rfl, Nat.le_of_ble_eq_true rfl⟩ rfl hl.1 rfl (Nat.le_of_ble_eq_true rfl) dX10_readsRule_3 (fun H locs hR hS hE1 z_q1 => ?_)
  have hE := hE.tr hE1
  have t_r0 := hE1.at t_r0 (by decide)
  refine lv_istore_n (lv' := [(1, .int q1.1), (0, .ref (G.2.2 + r0))]) C.x C.b dX10_readsRule_6 rfl hl (by decide) rfl (fun ls hl => ?_)
  refine lv_aload_n C.x C.b dX10_readsRule_7 rfl (lv_at hl 1 rfl) ?_
  refine lv_iconst (v := (0 : Int32)) C.x C.b dX10_readsRule_8 (by decide) ?_
  refine r_puti C hR hS t_r0 fl_X10_218 fp_X10_10_18 rfl dX10_readsRule_9 (fun H locs hR hS => ?_)
  obtain ⟨h2, e_h2⟩ : ∃ y, y = upI q1.2 r0 18 (0 : Int32) := ⟨_, rfl⟩
  rw [← e_h2] at hR
  have hf := lt_e hf e_h2
  have hE := eI e_h2 hE
  have t_r0 := tI e_h2 t_r0
  refine lv_iload_n C.x C.b dX10_readsRule_12 rfl (lv_at hl 0 rfl) ?_
  refine lv_if_eq (tgt := 24) C.x C.b dX10_readsRule_13 (by decide) (fun c3 => ?_) (fun c3 => ?_)
  · have hf := it_t hf c3
    exact w_X10_readsRule_24 C hr hlk _ _ _ _ _ hf hE hR hS t_r0 (lv_sub hl [1, 0] rfl)
  · have hf := it_f hf c3
    refine lv_aload_n C.x C.b dX10_readsRule_16 rfl (lv_at hl 1 rfl) ?_
    refine lv_iconst (v := (0 : Int32)) C.x C.b dX10_readsRule_17 (by decide) ?_
    obtain ⟨q4, h_q4, hf⟩ := bd_e hf
    refine r_callV (As := [.int (0 : Int32)]) (rest := []) C hR hS t_r0 rfl mk_X10_readsRank cl_X10_237 (k_X10_readsRank t_r0 h_q4) ⟨⟨Nat.le_of_ble_eq_true rfl, Nat.le_of_ble_eq_true rfl⟩, ⟨rfl, rfl⟩, Nat.le_of_ble_eq_true rfl, Nat.le_of_ble_eq_true rfl⟩ rfl hl.1 rfl (Nat.le_of_ble_eq_true rfl) dX10_readsRule_18 (fun H locs hR hS hE1 z_q4 => ?_)
    have hE := hE.tr hE1
    have t_r0 := hE1.at t_r0 (by decide)
    have z_q4 := z_q4 _ rfl
    refine lv_if_eq (tgt := 28) C.x C.b dX10_readsRule_21 (by decide) (fun c5 => ?_) (fun c5 => ?_)
    · have hf := it_t hf c5
      refine lv_iconst (v := (0 : Int32)) C.x C.b dX10_readsRule_28 (by decide) ?_
      exact w_X10_readsRule_29 C hr hlk _ _ _ _ _ _ hf hE hR hS t_r0 z_0 (lv_sub hl [1, 0] rfl)
    · have hf := it_f hf c5
      exact w_X10_readsRule_24 C hr hlk _ _ _ _ _ hf hE hR hS t_r0 (lv_sub hl [1, 0] rfl)

def rm_X10_laysCode : Room := { frames := 0, cells := 0, slots := 0, locals := 0 }
def P_X10_laysCode_7 (G : Gt) (l : Launch) (p : Program) (e : Env) (s : State) (m : MethodId) (args : Array Value) (below : List Frame) (meth : Method) (c : Code) (h0 : Hp) (out : Hp) (r0 : Nat) (r1 : Nat) (x2 : Int32) (k : Hp → Int32 → Option Hp) : Prop := ∀ (H : Heap) (locs : List Loc) (ls : Array Slot) (h : Hp) (x3 : Int32), k h x3 = some out → Ext h0 h → Rel G h H → va_S (AA G.2.2) s.heap H locs → hpT h r0 = (1, 10) → (hpT h r1).1 = 2 → lv_has ls 4 [(0, .ref (G.2.2 + r0)), (1, .ref (G.2.2 + r1)), (2, .int x2), (3, .int x3)] → W p l e rm_X10_laysCode s m args below meth c H locs 0 0 (MQ below (Qm G h0 out (none) 0) args s 0 0 (AA G.2.2)) (F0 m 7 ls [])
set_option maxRecDepth 100000 in
set_option maxHeartbeats 4000000 in
theorem w_X10_laysCode_7 {G : Gt} {l : Launch} {p : Program} {e : Env} {s : State} {m : MethodId} {args : Array Value} {below : List Frame} {meth : Method} {c : Code}  {h0 : Hp} {out : Hp} {r0 : Nat} {r1 : Nat} {x2 : Int32}  (C : Cx G p m c cX10_laysCode 4 s args RX10) (hr : meth.sig.returnType = none) (hlk : meth.locks = false)   (n : Nat) : P_X10_laysCode_7 G l p e s m args below meth c h0 out r0 r1 x2 (f_X10_laysCode_7 r0 r1 x2 n) := by
  induction n with
  | zero => intro H locs ls h x3 hf hE hR hS t_r0 t_r1 hl; cases hf
  | succ n hk7 =>
    intro H locs ls h x3 hf hE hR hS t_r0 t_r1 hl
    rw [f_X10_laysCode_7] at hf
    obtain ⟨k7, e_k7⟩ : ∃ y, y = f_X10_laysCode_7 r0 r1 x2 n := ⟨_, rfl⟩
    have hf := lt_e hf e_k7
    rw [← e_k7] at hk7
    refine lv_iload_n C.x C.b dX10_laysCode_7 rfl (lv_at hl 3 rfl) ?_
    refine lv_iload_n C.x C.b dX10_laysCode_8 rfl (lv_at hl 2 rfl) ?_
    refine lv_icmp_ge (tgt := 27) C.x C.b dX10_laysCode_9 (by decide) (fun c2 => ?_) (fun c2 => ?_)
    · have hf := it_t hf c2
      have hf := so_e hf
      subst hf
      exact r_vret C hr hlk hR hE hS dX10_laysCode_27
    · have hf := it_f hf c2
      refine lv_aload_n C.x C.b dX10_laysCode_12 rfl (lv_at hl 0 rfl) ?_
      obtain ⟨g3, hf⟩ := gd_e hf
      refine r_getr C hR t_r0 fl_X10_33 (by decide) (nz_e g3) dX10_laysCode_13 (fun tq4 => ?_)
      have tg3 := okA tq4 rfl
      refine lv_iload_n C.x C.b dX10_laysCode_16 rfl (lv_at hl 3 rfl) ?_
      refine lv_aload_n C.x C.b dX10_laysCode_17 rfl (lv_at hl 1 rfl) ?_
      refine lv_iload_n C.x C.b dX10_laysCode_18 rfl (lv_at hl 3 rfl) ?_
      obtain ⟨g5, hf⟩ := gd_e hf
      refine r_iald C hR t_r1 g5 dX10_laysCode_19 ?_
      obtain ⟨g6, hf⟩ := gd_e hf
      refine r_iast C hR hS tg3 g6 dX10_laysCode_20 (fun H locs hR hS => ?_)
      obtain ⟨h7, e_h7⟩ : ∃ y, y = upI h (hpR h r0 15) (ix x3) (hpI h r1 (ix x3)) := ⟨_, rfl⟩
      rw [← e_h7] at hR
      have hf := lt_e hf e_h7
      have hE := eI e_h7 hE
      have t_r0 := tI e_h7 t_r0
      have t_r1 := tIk e_h7 t_r1
      obtain ⟨v8, e_v8⟩ : ∃ y : Int32, y = x3 + (1 : Int32) := ⟨_, rfl⟩
      have hf := lt_e hf e_v8
      refine lv_iinc (v := v8) (lv' := [(3, .int v8), (0, .ref (G.2.2 + r0)), (1, .ref (G.2.2 + r1)), (2, .int x2)]) C.x C.b dX10_laysCode_21 hl (k := 3) rfl (by rw [e_v8]; rfl) (by decide) rfl (fun ls hl => ?_)
      refine lv_goto (tgt := 7) C.x C.b dX10_laysCode_24 (by decide) ?_
      exact hk7 _ _ _ _ _ hf hE hR hS t_r0 t_r1 (lv_sub hl [1, 2, 3, 0] rfl)
set_option maxRecDepth 100000 in
set_option maxHeartbeats 4000000 in
theorem k_X10_laysCode {G : Gt} {l : Launch}  {h : Hp} {r0 : Nat} {r1 : Nat} {x2 : Int32} {out : Hp} (t_r0 : hpT h r0 = (1, 10)) (t_r1 : (hpT h r1).1 = 2)  (hf : f_X10_laysCode  h r0 r1 x2 = some out) : Mt G l yX10_laysCode cX10_laysCode 4 (none) rm_X10_laysCode [.ref (G.2.2 + r0), .ref (G.2.2 + r1), .int x2] h (none) out 0 0 0 := by
  refine r_met (by decide +kernel) (Nat.le_of_ble_eq_true rfl) ?_
  intro p e s m args below meth c ls C hr hlk hnm hR hS hl
  have hE : Ext h h := Ext.rf
  have hl : lv_has ls 4 [(0, .ref (G.2.2 + r0)), (1, .ref (G.2.2 + r1)), (2, .int x2)] := hl
  rw [f_X10_laysCode] at hf
  refine lv_aload_n C.x C.b dX10_laysCode_0 rfl (lv_at hl 0 rfl) ?_
  refine lv_iload_n C.x C.b dX10_laysCode_1 rfl (lv_at hl 2 rfl) ?_
  refine r_puti C hR hS t_r0 fl_X10_246 fp_X10_10_17 rfl dX10_laysCode_2 (fun H locs hR hS => ?_)
  obtain ⟨h1, e_h1⟩ : ∃ y, y = upI h r0 17 x2 := ⟨_, rfl⟩
  rw [← e_h1] at hR
  have hf := lt_e hf e_h1
  have hE := eI e_h1 hE
  have t_r0 := tI e_h1 t_r0
  have t_r1 := tIk e_h1 t_r1
  refine lv_iconst (v := (0 : Int32)) C.x C.b dX10_laysCode_5 (by decide) ?_
  refine lv_istore_n (lv' := [(3, .int (0 : Int32)), (0, .ref (G.2.2 + r0)), (1, .ref (G.2.2 + r1)), (2, .int x2)]) C.x C.b dX10_laysCode_6 rfl hl (by decide) rfl (fun ls hl => ?_)
  exact w_X10_laysCode_7 C hr hlk FU _ _ _ _ _ hf hE hR hS t_r0 t_r1 (lv_sub hl [1, 2, 3, 0] rfl)

def rm_X10_rule : Room := { frames := 98, cells := 0, slots := 0, locals := 2258 }
set_option maxRecDepth 100000 in
set_option maxHeartbeats 4000000 in
theorem k_X10_rule {G : Gt} {l : Launch}  {h : Hp} {r0 : Nat} {out : (Int32 × Hp)} (t_r0 : hpT h r0 = (1, 10))  (hf : f_X10_rule  h r0 = some out) : Mt G l yX10_rule cX10_rule 2 (some .int) rm_X10_rule [.ref (G.2.2 + r0)] h (some (.int out.1)) out.2 0 0 0 := by
  refine r_met (by decide +kernel) (Nat.le_of_ble_eq_true rfl) ?_
  intro p e s m args below meth c ls C hr hlk hnm hR hS hl
  have hE : Ext h h := Ext.rf
  have hl : lv_has ls 2 [(0, .ref (G.2.2 + r0))] := hl
  rw [f_X10_rule] at hf
  refine lv_aload_n C.x C.b dX10_rule_0 rfl (lv_at hl 0 rfl) ?_
  refine lv_iconst (v := (0 : Int32)) C.x C.b dX10_rule_1 (by decide) ?_
  refine r_puti C hR hS t_r0 fl_X10_103 fp_X10_10_0 rfl dX10_rule_2 (fun H locs hR hS => ?_)
  obtain ⟨h1, e_h1⟩ : ∃ y, y = upI h r0 0 (0 : Int32) := ⟨_, rfl⟩
  rw [← e_h1] at hR
  have hf := lt_e hf e_h1
  have hE := eI e_h1 hE
  have t_r0 := tI e_h1 t_r0
  refine lv_aload_n C.x C.b dX10_rule_5 rfl (lv_at hl 0 rfl) ?_
  obtain ⟨q2, h_q2, hf⟩ := bd_e hf
  refine r_callV (As := []) (rest := []) C hR hS t_r0 rfl mk_X10_readsRule cl_X10_249 (k_X10_readsRule t_r0 h_q2) ⟨⟨Nat.le_of_ble_eq_true rfl, Nat.le_of_ble_eq_true rfl⟩, ⟨rfl, rfl⟩, Nat.le_of_ble_eq_true rfl, Nat.le_of_ble_eq_true rfl⟩ rfl hl.1 rfl (Nat.le_of_ble_eq_true rfl) dX10_rule_6 (fun H locs hR hS hE1 z_q2 => ?_)
  have hE := hE.tr hE1
  have t_r0 := hE1.at t_r0 (by decide)
  refine lv_istore_n (lv' := [(1, .int q2.1), (0, .ref (G.2.2 + r0))]) C.x C.b dX10_rule_9 rfl hl (by decide) rfl (fun ls hl => ?_)
  refine lv_iload_n C.x C.b dX10_rule_10 rfl (lv_at hl 0 rfl) ?_
  refine lv_if_ne (tgt := 26) C.x C.b dX10_rule_11 (by decide) (fun c3 => ?_) (fun c3 => ?_)
  · have hf := it_f hf c3
    refine lv_iload_n C.x C.b dX10_rule_26 rfl (lv_at hl 0 rfl) ?_
    have hf := so_e hf
    subst hf
    exact r_iret C hr hlk hR hE hS dX10_rule_27
  · have hf := it_t hf c3
    refine lv_aload_n C.x C.b dX10_rule_14 rfl (lv_at hl 1 rfl) ?_
    refine lv_aload_n C.x C.b dX10_rule_15 rfl (lv_at hl 1 rfl) ?_
    obtain ⟨g4, hf⟩ := gd_e hf
    refine r_getr C hR t_r0 fl_X10_36 (by decide) (nz_e g4) dX10_rule_16 (fun tq5 => ?_)
    have tg4 := okA tq5 rfl
    refine lv_aload_n C.x C.b dX10_rule_19 rfl (lv_at hl 1 rfl) ?_
    refine r_geti C hR t_r0 fl_X10_218 rfl dX10_rule_20 ?_
    obtain ⟨q6, h_q6, hf⟩ := bd_e hf
    refine r_callV (As := [.ref (G.2.2 + (hpR q2.2 r0 16)), .int (hpI q2.2 r0 18)]) (rest := []) C hR hS t_r0 rfl mk_X10_laysCode cl_X10_252 (k_X10_laysCode t_r0 tg4 h_q6) ⟨⟨Nat.le_of_ble_eq_true rfl, Nat.le_of_ble_eq_true rfl⟩, ⟨rfl, rfl⟩, Nat.le_of_ble_eq_true rfl, Nat.le_of_ble_eq_true rfl⟩ rfl hl.1 rfl (Nat.le_of_ble_eq_true rfl) dX10_rule_23 (fun H locs hR hS hE1 z_q6 => ?_)
    have hE := hE.tr hE1
    have t_r0 := hE1.at t_r0 (by decide)
    refine lv_iload_n C.x C.b dX10_rule_26 rfl (lv_at hl 0 rfl) ?_
    have hf := so_e hf
    subst hf
    exact r_iret C hr hlk hR hE hS dX10_rule_27

def rm_X10_worked : Room := { frames := 1, cells := 0, slots := 0, locals := 20 }
def P_X10_worked_50 (G : Gt) (l : Launch) (p : Program) (e : Env) (s : State) (m : MethodId) (args : Array Value) (below : List Frame) (meth : Method) (c : Code) (h : Hp) (out : Int32) (x0 : Int32) (x1 : Int32) (x2 : Int32) (k : Int32 → Option Int32) : Prop := ∀ (H : Heap) (locs : List Loc) (ls : Array Slot) (s0 : Int32), k s0 = some out → Rel G h H → va_S (AA G.2.2) s.heap H locs → narrow .boolean (.int s0) = .int s0 → lv_has ls 3 [(0, .int x0), (1, .int x1), (2, .int x2)] → W p l e rm_X10_worked s m args below meth c H locs 0 0 (MQ below (Qm G h h (some (.int out)) 0) args s 0 0 (AA G.2.2)) (F0 m 50 ls [.int s0])
def P_X10_worked_78 (G : Gt) (l : Launch) (p : Program) (e : Env) (s : State) (m : MethodId) (args : Array Value) (below : List Frame) (meth : Method) (c : Code) (h : Hp) (out : Int32) (x0 : Int32) (x1 : Int32) (x2 : Int32) (k : Int32 → Option Int32) : Prop := ∀ (H : Heap) (locs : List Loc) (ls : Array Slot) (s0 : Int32), k s0 = some out → Rel G h H → va_S (AA G.2.2) s.heap H locs → narrow .boolean (.int s0) = .int s0 → lv_has ls 3 [(0, .int x0), (1, .int x1), (2, .int x2)] → W p l e rm_X10_worked s m args below meth c H locs 0 0 (MQ below (Qm G h h (some (.int out)) 0) args s 0 0 (AA G.2.2)) (F0 m 78 ls [.int s0])
def P_X10_worked_64 (G : Gt) (l : Launch) (p : Program) (e : Env) (s : State) (m : MethodId) (args : Array Value) (below : List Frame) (meth : Method) (c : Code) (h : Hp) (out : Int32) (x0 : Int32) (x1 : Int32) (x2 : Int32) (k : Int32 → Option Int32) : Prop := ∀ (H : Heap) (locs : List Loc) (ls : Array Slot) (s0 : Int32), k s0 = some out → Rel G h H → va_S (AA G.2.2) s.heap H locs → narrow .boolean (.int s0) = .int s0 → lv_has ls 3 [(0, .int x0), (1, .int x1), (2, .int x2)] → W p l e rm_X10_worked s m args below meth c H locs 0 0 (MQ below (Qm G h h (some (.int out)) 0) args s 0 0 (AA G.2.2)) (F0 m 64 ls [.int s0])
set_option maxRecDepth 100000 in
set_option maxHeartbeats 4000000 in
theorem w_X10_worked_50 {G : Gt} {l : Launch} {p : Program} {e : Env} {s : State} {m : MethodId} {args : Array Value} {below : List Frame} {meth : Method} {c : Code}  {h : Hp} {out : Int32} {x0 : Int32} {x1 : Int32} {x2 : Int32}  (C : Cx G p m c cX10_worked 3 s args RX10) (hr : meth.sig.returnType = some .int) (hlk : meth.locks = false)   : P_X10_worked_50 G l p e s m args below meth c h out x0 x1 x2 (f_X10_worked_50 h x0 x1 x2) := by
  intro H locs ls s0 hf hR hS z_s0 hl
  rw [f_X10_worked_50] at hf
  obtain ⟨q9, h_q9, hf⟩ := bd_e hf
  refine r_callS (As := [.int s0]) (rest := []) C hR hS mk_X10_flag cl_X10_163 (k_X10_flag h_q9) ⟨⟨Nat.le_of_ble_eq_true rfl, Nat.le_of_ble_eq_true rfl⟩, ⟨rfl, rfl⟩, Nat.le_of_ble_eq_true rfl, Nat.le_of_ble_eq_true rfl⟩ rfl hl.1 rfl (Nat.le_of_ble_eq_true rfl) dX10_worked_50 (fun H locs hR hS hE1 z_q9 => ?_)
  have hf := so_e hf
  subst hf
  exact r_iret C hr hlk hR Ext.rf hS dX10_worked_53
set_option maxRecDepth 100000 in
set_option maxHeartbeats 4000000 in
theorem w_X10_worked_78 {G : Gt} {l : Launch} {p : Program} {e : Env} {s : State} {m : MethodId} {args : Array Value} {below : List Frame} {meth : Method} {c : Code}  {h : Hp} {out : Int32} {x0 : Int32} {x1 : Int32} {x2 : Int32}  (C : Cx G p m c cX10_worked 3 s args RX10) (hr : meth.sig.returnType = some .int) (hlk : meth.locks = false)   : P_X10_worked_78 G l p e s m args below meth c h out x0 x1 x2 (f_X10_worked_78 h x0 x1 x2) := by
  intro H locs ls s0 hf hR hS z_s0 hl
  rw [f_X10_worked_78] at hf
  obtain ⟨q7, h_q7, hf⟩ := bd_e hf
  refine r_callS (As := [.int s0]) (rest := []) C hR hS mk_X10_flag cl_X10_163 (k_X10_flag h_q7) ⟨⟨Nat.le_of_ble_eq_true rfl, Nat.le_of_ble_eq_true rfl⟩, ⟨rfl, rfl⟩, Nat.le_of_ble_eq_true rfl, Nat.le_of_ble_eq_true rfl⟩ rfl hl.1 rfl (Nat.le_of_ble_eq_true rfl) dX10_worked_78 (fun H locs hR hS hE1 z_q7 => ?_)
  have hf := so_e hf
  subst hf
  exact r_iret C hr hlk hR Ext.rf hS dX10_worked_81
set_option maxRecDepth 100000 in
set_option maxHeartbeats 4000000 in
theorem w_X10_worked_64 {G : Gt} {l : Launch} {p : Program} {e : Env} {s : State} {m : MethodId} {args : Array Value} {below : List Frame} {meth : Method} {c : Code}  {h : Hp} {out : Int32} {x0 : Int32} {x1 : Int32} {x2 : Int32}  (C : Cx G p m c cX10_worked 3 s args RX10) (hr : meth.sig.returnType = some .int) (hlk : meth.locks = false)   : P_X10_worked_64 G l p e s m args below meth c h out x0 x1 x2 (f_X10_worked_64 h x0 x1 x2) := by
  intro H locs ls s0 hf hR hS z_s0 hl
  rw [f_X10_worked_64] at hf
  obtain ⟨q8, h_q8, hf⟩ := bd_e hf
  refine r_callS (As := [.int s0]) (rest := []) C hR hS mk_X10_flag cl_X10_163 (k_X10_flag h_q8) ⟨⟨Nat.le_of_ble_eq_true rfl, Nat.le_of_ble_eq_true rfl⟩, ⟨rfl, rfl⟩, Nat.le_of_ble_eq_true rfl, Nat.le_of_ble_eq_true rfl⟩ rfl hl.1 rfl (Nat.le_of_ble_eq_true rfl) dX10_worked_64 (fun H locs hR hS hE1 z_q8 => ?_)
  have hf := so_e hf
  subst hf
  exact r_iret C hr hlk hR Ext.rf hS dX10_worked_67
set_option maxRecDepth 100000 in
set_option maxHeartbeats 4000000 in
theorem k_X10_worked {G : Gt} {l : Launch}  {h : Hp} {x0 : Int32} {x1 : Int32} {x2 : Int32} {out : Int32}   (hf : f_X10_worked  h x0 x1 x2 = some out) : Mt G l yX10_worked cX10_worked 3 (some .int) rm_X10_worked [.int x0, .int x1, .int x2] h (some (.int out)) h 0 0 0 := by
  refine r_met (by decide +kernel) (Nat.le_of_ble_eq_true rfl) ?_
  intro p e s m args below meth c ls C hr hlk hnm hR hS hl
  have hl : lv_has ls 3 [(0, .int x0), (1, .int x1), (2, .int x2)] := hl
  rw [f_X10_worked] at hf
  refine lv_iload_n C.x C.b dX10_worked_0 rfl (lv_at hl 0 rfl) ?_
  by_cases c6_0 : x0 = (0 : Int32)
  · have hf := it_t hf c6_0
    refine lv_tableIn (tgt := 40) C.x C.b dX10_worked_1 (by rw [c6_0]; decide) (by rw [c6_0]; decide) (by rw [c6_0]; rfl) (by decide) ?_
    refine lv_iload_n C.x C.b dX10_worked_40 rfl (lv_at hl 1 rfl) ?_
    refine lv_iload_n C.x C.b dX10_worked_41 rfl (lv_at hl 2 rfl) ?_
    refine lv_icmp_ge (tgt := 49) C.x C.b dX10_worked_42 (by decide) (fun c1 => ?_) (fun c1 => ?_)
    · simp only [if_pos c1] at hf
      refine lv_iconst (v := (0 : Int32)) C.x C.b dX10_worked_49 (by decide) ?_
      exact w_X10_worked_50 C hr hlk _ _ _ _ hf hR hS z_0 (lv_sub hl [0, 1, 2] rfl)
    · simp only [if_neg c1] at hf
      refine lv_iconst (v := (1 : Int32)) C.x C.b dX10_worked_45 (by decide) ?_
      refine lv_goto (tgt := 50) C.x C.b dX10_worked_46 (by decide) ?_
      exact w_X10_worked_50 C hr hlk _ _ _ _ hf hR hS z_1 (lv_sub hl [0, 1, 2] rfl)
  have hf := it_f hf c6_0
  by_cases c6_1 : x0 = (1 : Int32)
  · have hf := it_t hf c6_1
    refine lv_tableIn (tgt := 54) C.x C.b dX10_worked_1 (by rw [c6_1]; decide) (by rw [c6_1]; decide) (by rw [c6_1]; rfl) (by decide) ?_
    refine lv_iload_n C.x C.b dX10_worked_54 rfl (lv_at hl 1 rfl) ?_
    refine lv_iload_n C.x C.b dX10_worked_55 rfl (lv_at hl 2 rfl) ?_
    refine lv_icmp_le (tgt := 63) C.x C.b dX10_worked_56 (by decide) (fun c2 => ?_) (fun c2 => ?_)
    · simp only [if_pos c2] at hf
      refine lv_iconst (v := (0 : Int32)) C.x C.b dX10_worked_63 (by decide) ?_
      exact w_X10_worked_64 C hr hlk _ _ _ _ hf hR hS z_0 (lv_sub hl [0, 1, 2] rfl)
    · simp only [if_neg c2] at hf
      refine lv_iconst (v := (1 : Int32)) C.x C.b dX10_worked_59 (by decide) ?_
      refine lv_goto (tgt := 64) C.x C.b dX10_worked_60 (by decide) ?_
      exact w_X10_worked_64 C hr hlk _ _ _ _ hf hR hS z_1 (lv_sub hl [0, 1, 2] rfl)
  have hf := it_f hf c6_1
  by_cases c6_2 : x0 = (2 : Int32)
  · have hf := it_t hf c6_2
    refine lv_tableIn (tgt := 68) C.x C.b dX10_worked_1 (by rw [c6_2]; decide) (by rw [c6_2]; decide) (by rw [c6_2]; rfl) (by decide) ?_
    refine lv_iload_n C.x C.b dX10_worked_68 rfl (lv_at hl 1 rfl) ?_
    refine lv_iload_n C.x C.b dX10_worked_69 rfl (lv_at hl 2 rfl) ?_
    refine lv_icmp_ne (tgt := 77) C.x C.b dX10_worked_70 (by decide) (fun c3 => ?_) (fun c3 => ?_)
    · simp only [if_neg c3] at hf
      refine lv_iconst (v := (0 : Int32)) C.x C.b dX10_worked_77 (by decide) ?_
      exact w_X10_worked_78 C hr hlk _ _ _ _ hf hR hS z_0 (lv_sub hl [0, 1, 2] rfl)
    · simp only [if_pos c3] at hf
      refine lv_iconst (v := (1 : Int32)) C.x C.b dX10_worked_73 (by decide) ?_
      refine lv_goto (tgt := 78) C.x C.b dX10_worked_74 (by decide) ?_
      exact w_X10_worked_78 C hr hlk _ _ _ _ hf hR hS z_1 (lv_sub hl [0, 1, 2] rfl)
  have hf := it_f hf c6_2
  by_cases c6_3 : x0 = (3 : Int32)
  · have hf := it_t hf c6_3
    refine lv_tableIn (tgt := 82) C.x C.b dX10_worked_1 (by rw [c6_3]; decide) (by rw [c6_3]; decide) (by rw [c6_3]; rfl) (by decide) ?_
    refine lv_iload_n C.x C.b dX10_worked_82 rfl (lv_at hl 1 rfl) ?_
    refine lv_iload_n C.x C.b dX10_worked_83 rfl (lv_at hl 2 rfl) ?_
    refine lv_iadd C.x C.b dX10_worked_84 ?_
    have hf := so_e hf
    subst hf
    exact r_iret C hr hlk hR Ext.rf hS dX10_worked_85
  have hf := it_f hf c6_3
  by_cases c6_4 : x0 = (4 : Int32)
  · have hf := it_t hf c6_4
    refine lv_tableIn (tgt := 86) C.x C.b dX10_worked_1 (by rw [c6_4]; decide) (by rw [c6_4]; decide) (by rw [c6_4]; rfl) (by decide) ?_
    refine lv_iload_n C.x C.b dX10_worked_86 rfl (lv_at hl 1 rfl) ?_
    refine lv_iload_n C.x C.b dX10_worked_87 rfl (lv_at hl 2 rfl) ?_
    refine lv_isub C.x C.b dX10_worked_88 ?_
    have hf := so_e hf
    subst hf
    exact r_iret C hr hlk hR Ext.rf hS dX10_worked_89
  have hf := it_f hf c6_4
  by_cases c6_5 : x0 = (5 : Int32)
  · have hf := it_t hf c6_5
    refine lv_tableIn (tgt := 90) C.x C.b dX10_worked_1 (by rw [c6_5]; decide) (by rw [c6_5]; decide) (by rw [c6_5]; rfl) (by decide) ?_
    refine lv_iload_n C.x C.b dX10_worked_90 rfl (lv_at hl 1 rfl) ?_
    refine lv_iload_n C.x C.b dX10_worked_91 rfl (lv_at hl 2 rfl) ?_
    refine lv_imul C.x C.b dX10_worked_92 ?_
    have hf := so_e hf
    subst hf
    exact r_iret C hr hlk hR Ext.rf hS dX10_worked_93
  have hf := it_f hf c6_5
  refine lv_tableOut (tgt := 94) C.x C.b dX10_worked_1 (tb_out 6 (by decide) (fun j hj => match j, hj with | 0, _ => fun q => c6_0 (q.trans (by decide)) | 1, _ => fun q => c6_1 (q.trans (by decide)) | 2, _ => fun q => c6_2 (q.trans (by decide)) | 3, _ => fun q => c6_3 (q.trans (by decide)) | 4, _ => fun q => c6_4 (q.trans (by decide)) | 5, _ => fun q => c6_5 (q.trans (by decide)) | n + 6, hn => absurd hn (by omega))) (by decide) ?_
  refine lv_iload_n C.x C.b dX10_worked_94 rfl (lv_at hl 2 rfl) ?_
  refine lv_if_ne (tgt := 102) C.x C.b dX10_worked_95 (by decide) (fun c4 => ?_) (fun c4 => ?_)
  · have hf := it_f hf c4
    refine lv_iload_n C.x C.b dX10_worked_102 rfl (lv_at hl 1 rfl) ?_
    refine lv_iload_n C.x C.b dX10_worked_103 rfl (lv_at hl 2 rfl) ?_
    obtain ⟨g5, hf⟩ := gd_e hf
    refine lv_idiv C.x C.b dX10_worked_104 (nz32_e g5) ?_
    have hf := so_e hf
    subst hf
    exact r_iret C hr hlk hR Ext.rf hS dX10_worked_105
  · have hf := it_t hf c4
    refine lv_iconst (v := (0 : Int32)) C.x C.b dX10_worked_98 (by decide) ?_
    refine lv_goto (tgt := 105) C.x C.b dX10_worked_99 (by decide) ?_
    have hf := so_e hf
    subst hf
    exact r_iret C hr hlk hR Ext.rf hS dX10_worked_105

