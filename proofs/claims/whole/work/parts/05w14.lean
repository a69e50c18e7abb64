def rm_X10_ruled : Room := { frames := 2, cells := 0, slots := 0, locals := 42 }
def P_X10_ruled_119 (G : Gt) (l : Launch) (p : Program) (e : Env) (s : State) (m : MethodId) (args : Array Value) (below : List Frame) (meth : Method) (c : Code) (h0 : Hp) (out : (Int32 × Hp)) (r0 : Nat) (k : Hp → Int32 → Int32 → Option (Int32 × Hp)) : Prop := ∀ (H : Heap) (locs : List Loc) (ls : Array Slot) (h : Hp) (x1 : Int32) (x2 : Int32), k h x1 x2 = some out → Ext h0 h → Rel G h H → va_S (AA G.2.2) s.heap H locs → hpT h r0 = (1, 10) → lv_has ls 4 [(0, .ref (G.2.2 + r0)), (1, .int x1), (2, .int x2)] → W p l e rm_X10_ruled s m args below meth c H locs 0 0 (MQ below (Qm G h0 out.2 (some (.int out.1)) 0) args s 0 0 (AA G.2.2)) (F0 m 119 ls [])
def P_X10_ruled_115 (G : Gt) (l : Launch) (p : Program) (e : Env) (s : State) (m : MethodId) (args : Array Value) (below : List Frame) (meth : Method) (c : Code) (h0 : Hp) (out : (Int32 × Hp)) (r0 : Nat) (k : Hp → Nat → Int32 → Int32 → Int32 → Int32 → Option (Int32 × Hp)) : Prop := ∀ (H : Heap) (locs : List Loc) (ls : Array Slot) (h : Hp) (s0 : Nat) (s1 : Int32) (s2 : Int32) (x1 : Int32) (x2 : Int32), k h s0 s1 s2 x1 x2 = some out → Ext h0 h → Rel G h H → va_S (AA G.2.2) s.heap H locs → hpT h r0 = (1, 10) → (hpT h s0).1 = 2 → lv_has ls 4 [(0, .ref (G.2.2 + r0)), (1, .int x1), (2, .int x2)] → W p l e rm_X10_ruled s m args below meth c H locs 0 0 (MQ below (Qm G h0 out.2 (some (.int out.1)) 0) args s 0 0 (AA G.2.2)) (F0 m 115 ls [.int s2, .int s1, .ref (G.2.2 + s0)])
def P_X10_ruled_148 (G : Gt) (l : Launch) (p : Program) (e : Env) (s : State) (m : MethodId) (args : Array Value) (below : List Frame) (meth : Method) (c : Code) (h0 : Hp) (out : (Int32 × Hp)) (r0 : Nat) (k : Hp → Int32 → Int32 → Option (Int32 × Hp)) : Prop := ∀ (H : Heap) (locs : List Loc) (ls : Array Slot) (h : Hp) (s0 : Int32) (s1 : Int32), k h s0 s1 = some out → Ext h0 h → Rel G h H → va_S (AA G.2.2) s.heap H locs → hpT h r0 = (1, 10) → narrow .boolean (.int s0) = .int s0 → narrow .boolean (.int s1) = .int s1 → lv_has ls 4 [(0, .ref (G.2.2 + r0))] → W p l e rm_X10_ruled s m args below meth c H locs 0 0 (MQ below (Qm G h0 out.2 (some (.int out.1)) 0) args s 0 0 (AA G.2.2)) (F0 m 148 ls [.int s1, .int s0])
def P_X10_ruled_4 (G : Gt) (l : Launch) (p : Program) (e : Env) (s : State) (m : MethodId) (args : Array Value) (below : List Frame) (meth : Method) (c : Code) (h0 : Hp) (out : (Int32 × Hp)) (r0 : Nat) (k : Hp → Int32 → Int32 → Option (Int32 × Hp)) : Prop := ∀ (H : Heap) (locs : List Loc) (ls : Array Slot) (h : Hp) (x1 : Int32) (x2 : Int32), k h x1 x2 = some out → Ext h0 h → Rel G h H → va_S (AA G.2.2) s.heap H locs → hpT h r0 = (1, 10) → lv_has ls 4 [(0, .ref (G.2.2 + r0)), (1, .int x1), (2, .int x2)] → W p l e rm_X10_ruled s m args below meth c H locs 0 0 (MQ below (Qm G h0 out.2 (some (.int out.1)) 0) args s 0 0 (AA G.2.2)) (F0 m 4 ls [])
set_option maxRecDepth 100000 in
set_option maxHeartbeats 4000000 in
theorem w_X10_ruled_119 {G : Gt} {l : Launch} {p : Program} {e : Env} {s : State} {m : MethodId} {args : Array Value} {below : List Frame} {meth : Method} {c : Code}  {h0 : Hp} {out : (Int32 × Hp)} {r0 : Nat} {k4 : Hp → Int32 → Int32 → Option (Int32 × Hp)} (C : Cx G p m c cX10_ruled 4 s args RX10) (hr : meth.sig.returnType = some .int) (hlk : meth.locks = false)  (hk4 : P_X10_ruled_4 G l p e s m args below meth c h0 out r0 k4) : P_X10_ruled_119 G l p e s m args below meth c h0 out r0 (f_X10_ruled_119 r0 k4) := by
  intro H locs ls h x1 x2 hf hE hR hS t_r0 hl
  rw [f_X10_ruled_119] at hf
  obtain ⟨v38, e_v38⟩ : ∃ y : Int32, y = x2 + (1 : Int32) := ⟨_, rfl⟩
  have hf := lt_e hf e_v38
  refine lv_iinc (v := v38) (lv' := [(2, .int v38), (0, .ref (G.2.2 + r0)), (1, .int x1)]) C.x C.b dX10_ruled_119 hl (k := 2) rfl (by rw [e_v38]; rfl) (by decide) rfl (fun ls hl => ?_)
  refine lv_goto (tgt := 4) C.x C.b dX10_ruled_122 (by decide) ?_
  exact hk4 _ _ _ _ _ _ hf hE hR hS t_r0 (lv_sub hl [1, 2, 0] rfl)
set_option maxRecDepth 100000 in
set_option maxHeartbeats 4000000 in
theorem w_X10_ruled_115 {G : Gt} {l : Launch} {p : Program} {e : Env} {s : State} {m : MethodId} {args : Array Value} {below : List Frame} {meth : Method} {c : Code}  {h0 : Hp} {out : (Int32 × Hp)} {r0 : Nat} {k4 : Hp → Int32 → Int32 → Option (Int32 × Hp)} (C : Cx G p m c cX10_ruled 4 s args RX10) (hr : meth.sig.returnType = some .int) (hlk : meth.locks = false)  (hk4 : P_X10_ruled_4 G l p e s m args below meth c h0 out r0 k4) : P_X10_ruled_115 G l p e s m args below meth c h0 out r0 (f_X10_ruled_115 r0 k4) := by
  intro H locs ls h s0 s1 s2 x1 x2 hf hE hR hS t_r0 t_s0 hl
  rw [f_X10_ruled_115] at hf
  obtain ⟨g39, hf⟩ := gd_e hf
  refine r_iast C hR hS t_s0 g39 dX10_ruled_115 (fun H locs hR hS => ?_)
  obtain ⟨h40, e_h40⟩ : ∃ y, y = upI h s0 (ix s1) s2 := ⟨_, rfl⟩
  rw [← e_h40] at hR
  have hf := lt_e hf e_h40
  have hE := eI e_h40 hE
  have t_r0 := tI e_h40 t_r0
  obtain ⟨v41, e_v41⟩ : ∃ y : Int32, y = x1 + (1 : Int32) := ⟨_, rfl⟩
  have hf := lt_e hf e_v41
  refine lv_iinc (v := v41) (lv' := [(1, .int v41), (0, .ref (G.2.2 + r0)), (2, .int x2)]) C.x C.b dX10_ruled_116 hl (k := 1) rfl (by rw [e_v41]; rfl) (by decide) rfl (fun ls hl => ?_)
  exact w_X10_ruled_119 C hr hlk hk4 _ _ _ _ _ _ hf hE hR hS t_r0 (lv_sub hl [1, 0, 2] rfl)
set_option maxRecDepth 100000 in
set_option maxHeartbeats 4000000 in
theorem w_X10_ruled_148 {G : Gt} {l : Launch} {p : Program} {e : Env} {s : State} {m : MethodId} {args : Array Value} {below : List Frame} {meth : Method} {c : Code}  {h0 : Hp} {out : (Int32 × Hp)} {r0 : Nat}  (C : Cx G p m c cX10_ruled 4 s args RX10) (hr : meth.sig.returnType = some .int) (hlk : meth.locks = false)   : P_X10_ruled_148 G l p e s m args below meth c h0 out r0 (f_X10_ruled_148 r0) := by
  intro H locs ls h s0 s1 hf hE hR hS t_r0 z_s0 z_s1 hl
  rw [f_X10_ruled_148] at hf
  obtain ⟨q42, h_q42, hf⟩ := bd_e hf
  refine r_callS (As := [.int s1]) (rest := [.int s0]) C hR hS mk_X10_flag cl_X10_163 (k_X10_flag h_q42) ⟨⟨Nat.le_of_ble_eq_true rfl, Nat.le_of_ble_eq_true rfl⟩, ⟨rfl, rfl⟩, Nat.le_of_ble_eq_true rfl, Nat.le_of_ble_eq_true rfl⟩ rfl hl.1 rfl (Nat.le_of_ble_eq_true rfl) dX10_ruled_148 (fun H locs hR hS hE1 z_q42 => ?_)
  refine lv_iadd C.x C.b dX10_ruled_151 ?_
  refine lv_goto (tgt := 161) C.x C.b dX10_ruled_152 (by decide) ?_
  have hf := so_e hf
  subst hf
  exact r_iret C hr hlk hR hE hS dX10_ruled_161
set_option maxRecDepth 100000 in
set_option maxHeartbeats 4000000 in
theorem w_X10_ruled_4 {G : Gt} {l : Launch} {p : Program} {e : Env} {s : State} {m : MethodId} {args : Array Value} {below : List Frame} {meth : Method} {c : Code}  {h0 : Hp} {out : (Int32 × Hp)} {r0 : Nat}  (C : Cx G p m c cX10_ruled 4 s args RX10) (hr : meth.sig.returnType = some .int) (hlk : meth.locks = false)   (n : Nat) : P_X10_ruled_4 G l p e s m args below meth c h0 out r0 (f_X10_ruled_4 r0 n) := by
  induction n with
  | zero => intro H locs ls h x1 x2 hf hE hR hS t_r0 hl; cases hf
  | succ n hk4 =>
    intro H locs ls h x1 x2 hf hE hR hS t_r0 hl
    rw [f_X10_ruled_4] at hf
    obtain ⟨k4, e_k4⟩ : ∃ y, y = f_X10_ruled_4 r0 n := ⟨_, rfl⟩
    have hf := lt_e hf e_k4
    rw [← e_k4] at hk4
    refine lv_iload_n C.x C.b dX10_ruled_4 rfl (lv_at hl 2 rfl) ?_
    refine lv_aload_n C.x C.b dX10_ruled_5 rfl (lv_at hl 0 rfl) ?_
    refine r_geti C hR t_r0 fl_X10_246 rfl dX10_ruled_6 ?_
    refine lv_icmp_ge (tgt := 125) C.x C.b dX10_ruled_9 (by decide) (fun c1 => ?_) (fun c1 => ?_)
    · have hf := it_t hf c1
      refine lv_aload_n C.x C.b dX10_ruled_125 rfl (lv_at hl 0 rfl) ?_
      refine r_geti C hR t_r0 fl_X10_246 rfl dX10_ruled_126 ?_
      refine lv_if_ne (tgt := 155) C.x C.b dX10_ruled_129 (by decide) (fun c2 => ?_) (fun c2 => ?_)
      · have hf := it_f hf c2
        refine lv_aload_n C.x C.b dX10_ruled_155 rfl (lv_at hl 0 rfl) ?_
        obtain ⟨g3, hf⟩ := gd_e hf
        refine r_getr C hR t_r0 fl_X10_39 (by decide) (nz_e g3) dX10_ruled_156 (fun tq4 => ?_)
        have tg3 := okA tq4 rfl
        refine lv_iconst (v := (0 : Int32)) C.x C.b dX10_ruled_159 (by decide) ?_
        obtain ⟨g5, hf⟩ := gd_e hf
        refine r_iald C hR tg3 g5 dX10_ruled_160 ?_
        have hf := so_e hf
        subst hf
        exact r_iret C hr hlk hR hE hS dX10_ruled_161
      · have hf := it_t hf c2
        refine lv_iconst (v := (1 : Int32)) C.x C.b dX10_ruled_132 (by decide) ?_
        refine lv_aload_n C.x C.b dX10_ruled_133 rfl (lv_at hl 0 rfl) ?_
        obtain ⟨g6, hf⟩ := gd_e hf
        refine r_getr C hR t_r0 fl_X10_42 (by decide) (nz_e g6) dX10_ruled_134 (fun tq7 => ?_)
        have tg6 := okA tq7 rfl
        refine lv_iconst (v := (2 : Int32)) C.x C.b dX10_ruled_137 (by decide) ?_
        obtain ⟨g8, hf⟩ := gd_e hf
        refine r_iald C hR tg6 g8 dX10_ruled_138 ?_
        refine lv_iconst (v := (1 : Int32)) C.x C.b dX10_ruled_139 (by decide) ?_
        refine lv_icmp_le (tgt := 147) C.x C.b dX10_ruled_140 (by decide) (fun c9 => ?_) (fun c9 => ?_)
        · simp only [if_pos c9] at hf
          refine lv_iconst (v := (0 : Int32)) C.x C.b dX10_ruled_147 (by decide) ?_
          exact w_X10_ruled_148 C hr hlk _ _ _ _ _ _ hf hE hR hS t_r0 z_1 z_0 (lv_sub hl [0] rfl)
        · simp only [if_neg c9] at hf
          refine lv_iconst (v := (1 : Int32)) C.x C.b dX10_ruled_143 (by decide) ?_
          refine lv_goto (tgt := 148) C.x C.b dX10_ruled_144 (by decide) ?_
          exact w_X10_ruled_148 C hr hlk _ _ _ _ _ _ hf hE hR hS t_r0 z_1 z_1 (lv_sub hl [0] rfl)
    · have hf := it_f hf c1
      refine lv_aload_n C.x C.b dX10_ruled_12 rfl (lv_at hl 0 rfl) ?_
      obtain ⟨g10, hf⟩ := gd_e hf
      refine r_getr C hR t_r0 fl_X10_33 (by decide) (nz_e g10) dX10_ruled_13 (fun tq11 => ?_)
      have tg10 := okA tq11 rfl
      refine lv_iload_n C.x C.b dX10_ruled_16 rfl (lv_at hl 2 rfl) ?_
      obtain ⟨g12, hf⟩ := gd_e hf
      refine r_iald C hR tg10 g12 dX10_ruled_17 ?_
      refine lv_topi (fun v13 e_v13 => ?_)
      have hf := lt_e hf e_v13
      refine lv_istore_n (lv' := [(3, .int v13), (0, .ref (G.2.2 + r0)), (1, .int x1), (2, .int x2)]) C.x C.b dX10_ruled_18 rfl hl (by decide) rfl (fun ls hl => ?_)
      refine lv_iload_n C.x C.b dX10_ruled_19 rfl (lv_at hl 0 rfl) ?_
      refine lv_sipush (v := (3000 : Int32)) C.x C.b dX10_ruled_20 (by decide) ?_
      refine lv_icmp_ne (tgt := 46) C.x C.b dX10_ruled_23 (by decide) (fun c14 => ?_) (fun c14 => ?_)
      · have hf := it_f hf c14
        refine lv_iload_n C.x C.b dX10_ruled_46 rfl (lv_at hl 0 rfl) ?_
        refine lv_sipush (v := (2000 : Int32)) C.x C.b dX10_ruled_47 (by decide) ?_
        refine lv_icmp_lt (tgt := 89) C.x C.b dX10_ruled_50 (by decide) (fun c15 => ?_) (fun c15 => ?_)
        · have hf := it_t hf c15
          refine lv_aload_n C.x C.b dX10_ruled_89 rfl (lv_at hl 1 rfl) ?_
          obtain ⟨g16, hf⟩ := gd_e hf
          refine r_getr C hR t_r0 fl_X10_39 (by decide) (nz_e g16) dX10_ruled_90 (fun tq17 => ?_)
          have tg16 := okA tq17 rfl
          refine lv_iload_n C.x C.b dX10_ruled_93 rfl (lv_at hl 2 rfl) ?_
          refine lv_iload_n C.x C.b dX10_ruled_94 rfl (lv_at hl 0 rfl) ?_
          refine lv_sipush (v := (1000 : Int32)) C.x C.b dX10_ruled_95 (by decide) ?_
          refine lv_icmp_lt (tgt := 114) C.x C.b dX10_ruled_98 (by decide) (fun c18 => ?_) (fun c18 => ?_)
          · have hf := it_t hf c18
            refine lv_iload_n C.x C.b dX10_ruled_114 rfl (lv_at hl 0 rfl) ?_
            exact w_X10_ruled_115 C hr hlk hk4 _ _ _ _ _ _ _ _ _ hf hE hR hS t_r0 tg16 (lv_sub hl [1, 2, 3] rfl)
          · have hf := it_f hf c18
            refine lv_aload_n C.x C.b dX10_ruled_101 rfl (lv_at hl 1 rfl) ?_
            obtain ⟨g19, hf⟩ := gd_e hf
            refine r_getr C hR t_r0 fl_X10_42 (by decide) (nz_e g19) dX10_ruled_102 (fun tq20 => ?_)
            have tg19 := okA tq20 rfl
            refine lv_iload_n C.x C.b dX10_ruled_105 rfl (lv_at hl 0 rfl) ?_
            refine lv_sipush (v := (1000 : Int32)) C.x C.b dX10_ruled_106 (by decide) ?_
            refine lv_isub C.x C.b dX10_ruled_109 ?_
            obtain ⟨g21, hf⟩ := gd_e hf
            refine r_iald C hR tg19 g21 dX10_ruled_110 ?_
            refine lv_goto (tgt := 115) C.x C.b dX10_ruled_111 (by decide) ?_
            exact w_X10_ruled_115 C hr hlk hk4 _ _ _ _ _ _ _ _ _ hf hE hR hS t_r0 tg16 (lv_sub hl [1, 2, 3] rfl)
        · have hf := it_f hf c15
          obtain ⟨v22, e_v22⟩ : ∃ y : Int32, y = x1 + (-1 : Int32) := ⟨_, rfl⟩
          have hf := lt_e hf e_v22
          refine lv_iinc (v := v22) (lv' := [(1, .int v22), (3, .int v13), (0, .ref (G.2.2 + r0)), (2, .int x2)]) C.x C.b dX10_ruled_53 hl (k := 2) rfl (by rw [e_v22]; rfl) (by decide) rfl (fun ls hl => ?_)
          refine lv_aload_n C.x C.b dX10_ruled_56 rfl (lv_at hl 2 rfl) ?_
          obtain ⟨g23, hf⟩ := gd_e hf
          refine r_getr C hR t_r0 fl_X10_39 (by decide) (nz_e g23) dX10_ruled_57 (fun tq24 => ?_)
          have tg23 := okA tq24 rfl
          refine lv_iload_n C.x C.b dX10_ruled_60 rfl (lv_at hl 0 rfl) ?_
          refine lv_iconst (v := (1 : Int32)) C.x C.b dX10_ruled_61 (by decide) ?_
          refine lv_isub C.x C.b dX10_ruled_62 ?_
          refine lv_iload_n C.x C.b dX10_ruled_63 rfl (lv_at hl 1 rfl) ?_
          refine lv_sipush (v := (2000 : Int32)) C.x C.b dX10_ruled_64 (by decide) ?_
          refine lv_isub C.x C.b dX10_ruled_67 ?_
          refine lv_aload_n C.x C.b dX10_ruled_68 rfl (lv_at hl 2 rfl) ?_
          refine r_getr C hR t_r0 fl_X10_39 (by decide) (nz_e g23) dX10_ruled_69 (fun tq25 => ?_)
          refine lv_iload_n C.x C.b dX10_ruled_72 rfl (lv_at hl 0 rfl) ?_
          refine lv_iconst (v := (1 : Int32)) C.x C.b dX10_ruled_73 (by decide) ?_
          refine lv_isub C.x C.b dX10_ruled_74 ?_
          obtain ⟨g26, hf⟩ := gd_e hf
          refine r_iald C hR tg23 g26 dX10_ruled_75 ?_
          refine lv_aload_n C.x C.b dX10_ruled_76 rfl (lv_at hl 2 rfl) ?_
          refine r_getr C hR t_r0 fl_X10_39 (by decide) (nz_e g23) dX10_ruled_77 (fun tq27 => ?_)
          refine lv_iload_n C.x C.b dX10_ruled_80 rfl (lv_at hl 0 rfl) ?_
          obtain ⟨g28, hf⟩ := gd_e hf
          refine r_iald C hR tg23 g28 dX10_ruled_81 ?_
          obtain ⟨q29, h_q29, hf⟩ := bd_e hf
          refine r_callS (As := [.int (v13 - (2000 : Int32)), .int (hpI h (hpR h r0 19) (ix (v22 - (1 : Int32)))), .int (hpI h (hpR h r0 19) (ix v22))]) (rest := [.int (v22 - (1 : Int32)), .ref (G.2.2 + (hpR h r0 19))]) C hR hS mk_X10_worked cl_X10_256 (k_X10_worked h_q29) ⟨⟨Nat.le_of_ble_eq_true rfl, Nat.le_of_ble_eq_true rfl⟩, ⟨rfl, rfl⟩, Nat.le_of_ble_eq_true rfl, Nat.le_of_ble_eq_true rfl⟩ rfl hl.1 rfl (Nat.le_of_ble_eq_true rfl) dX10_ruled_82 (fun H locs hR hS hE1 z_q29 => ?_)
          obtain ⟨g30, hf⟩ := gd_e hf
          refine r_iast C hR hS tg23 g30 dX10_ruled_85 (fun H locs hR hS => ?_)
          obtain ⟨h31, e_h31⟩ : ∃ y, y = upI h (hpR h r0 19) (ix (v22 - (1 : Int32))) q29 := ⟨_, rfl⟩
          rw [← e_h31] at hR
          have hf := lt_e hf e_h31
          have hE := eI e_h31 hE
          have t_r0 := tI e_h31 t_r0
          refine lv_goto (tgt := 119) C.x C.b dX10_ruled_86 (by decide) ?_
          exact w_X10_ruled_119 C hr hlk hk4 _ _ _ _ _ _ hf hE hR hS t_r0 (lv_sub hl [2, 0, 3] rfl)
      · have hf := it_t hf c14
        refine lv_aload_n C.x C.b dX10_ruled_26 rfl (lv_at hl 1 rfl) ?_
        obtain ⟨g32, hf⟩ := gd_e hf
        refine r_getr C hR t_r0 fl_X10_39 (by decide) (nz_e g32) dX10_ruled_27 (fun tq33 => ?_)
        have tg32 := okA tq33 rfl
        refine lv_iload_n C.x C.b dX10_ruled_30 rfl (lv_at hl 2 rfl) ?_
        refine lv_iconst (v := (1 : Int32)) C.x C.b dX10_ruled_31 (by decide) ?_
        refine lv_isub C.x C.b dX10_ruled_32 ?_
        refine lv_aload_n C.x C.b dX10_ruled_33 rfl (lv_at hl 1 rfl) ?_
        refine r_getr C hR t_r0 fl_X10_39 (by decide) (nz_e g32) dX10_ruled_34 (fun tq34 => ?_)
        refine lv_iload_n C.x C.b dX10_ruled_37 rfl (lv_at hl 2 rfl) ?_
        refine lv_iconst (v := (1 : Int32)) C.x C.b dX10_ruled_38 (by decide) ?_
        refine lv_isub C.x C.b dX10_ruled_39 ?_
        obtain ⟨g35, hf⟩ := gd_e hf
        refine r_iald C hR tg32 g35 dX10_ruled_40 ?_
        refine lv_ineg C.x C.b dX10_ruled_41 ?_
        obtain ⟨g36, hf⟩ := gd_e hf
        refine r_iast C hR hS tg32 g36 dX10_ruled_42 (fun H locs hR hS => ?_)
        obtain ⟨h37, e_h37⟩ : ∃ y, y = upI h (hpR h r0 19) (ix (x1 - (1 : Int32))) (-(hpI h (hpR h r0 19) (ix (x1 - (1 : Int32))))) := ⟨_, rfl⟩
        rw [← e_h37] at hR
        have hf := lt_e hf e_h37
        have hE := eI e_h37 hE
        have t_r0 := tI e_h37 t_r0
        refine lv_goto (tgt := 119) C.x C.b dX10_ruled_43 (by decide) ?_
        exact w_X10_ruled_119 C hr hlk hk4 _ _ _ _ _ _ hf hE hR hS t_r0 (lv_sub hl [1, 2, 3] rfl)
set_option maxRecDepth 100000 in
set_option maxHeartbeats 4000000 in
theorem k_X10_ruled {G : Gt} {l : Launch}  {h : Hp} {r0 : Nat} {out : (Int32 × Hp)} (t_r0 : hpT h r0 = (1, 10))  (hf : f_X10_ruled  h r0 = some out) : Mt G l yX10_ruled cX10_ruled 4 (some .int) rm_X10_ruled [.ref (G.2.2 + r0)] h (some (.int out.1)) out.2 0 0 0 := by
  refine r_met (by decide +kernel) (Nat.le_of_ble_eq_true rfl) ?_
  intro p e s m args below meth c ls C hr hlk hnm hR hS hl
  have hE : Ext h h := Ext.rf
  have hl : lv_has ls 4 [(0, .ref (G.2.2 + r0))] := hl
  rw [f_X10_ruled] at hf
  refine lv_iconst (v := (0 : Int32)) C.x C.b dX10_ruled_0 (by decide) ?_
  refine lv_istore_n (lv' := [(1, .int (0 : Int32)), (0, .ref (G.2.2 + r0))]) C.x C.b dX10_ruled_1 rfl hl (by decide) rfl (fun ls hl => ?_)
  refine lv_iconst (v := (0 : Int32)) C.x C.b dX10_ruled_2 (by decide) ?_
  refine lv_istore_n (lv' := [(2, .int (0 : Int32)), (1, .int (0 : Int32)), (0, .ref (G.2.2 + r0))]) C.x C.b dX10_ruled_3 rfl hl (by decide) rfl (fun ls hl => ?_)
  exact w_X10_ruled_4 C hr hlk FU _ _ _ _ _ _ hf hE hR hS t_r0 (lv_sub hl [2, 1, 0] rfl)

def rm_X10_loss : Room := { frames := 5, cells := 0, slots := 0, locals := 124 }
def P_X10_loss_140 (G : Gt) (l : Launch) (p : Program) (e : Env) (s : State) (m : MethodId) (args : Array Value) (below : List Frame) (meth : Method) (c : Code) (h0 : Hp) (out : (Int32 × Hp)) (r0 : Nat) (r1 : Nat) (x2 : Int32) (k : Hp → Int32 → Option (Int32 × Hp)) : Prop := ∀ (H : Heap) (locs : List Loc) (ls : Array Slot) (h : Hp) (s0 : Int32), k h s0 = some out → Ext h0 h → Rel G h H → va_S (AA G.2.2) s.heap H locs → hpT h r0 = (1, 10) → (hpT h r1).1 = 2 → lv_has ls 4 [(0, .ref (G.2.2 + r0)), (1, .ref (G.2.2 + r1)), (2, .int x2)] → W p l e rm_X10_loss s m args below meth c H locs 0 0 (MQ below (Qm G h0 out.2 (some (.int out.1)) 0) args s 0 0 (AA G.2.2)) (F0 m 140 ls [.int s0])
set_option maxRecDepth 100000 in
set_option maxHeartbeats 4000000 in
theorem w_X10_loss_140 {G : Gt} {l : Launch} {p : Program} {e : Env} {s : State} {m : MethodId} {args : Array Value} {below : List Frame} {meth : Method} {c : Code}  {h0 : Hp} {out : (Int32 × Hp)} {r0 : Nat} {r1 : Nat} {x2 : Int32}  (C : Cx G p m c cX10_loss 4 s args RX10) (hr : meth.sig.returnType = some .int) (hlk : meth.locks = false)   : P_X10_loss_140 G l p e s m args below meth c h0 out r0 r1 x2 (f_X10_loss_140 r0 r1 x2) := by
  intro H locs ls h s0 hf hE hR hS t_r0 t_r1 hl
  rw [f_X10_loss_140] at hf
  refine lv_istore_n (lv' := [(3, .int s0), (0, .ref (G.2.2 + r0)), (1, .ref (G.2.2 + r1)), (2, .int x2)]) C.x C.b dX10_loss_140 rfl hl (by decide) rfl (fun ls hl => ?_)
  refine lv_iconst (v := (0 : Int32)) C.x C.b dX10_loss_141 (by decide) ?_
  refine lv_bipush (v := (9 : Int32)) C.x C.b dX10_loss_142 (by decide) ?_
  refine lv_iload_n C.x C.b dX10_loss_144 rfl (lv_at hl 0 rfl) ?_
  refine va_mmin C.x C.b (C.ml.trans hl.1.symm) C.ow (C.ts _ lk_X10_154) (C.ts _ lk_Mmin_s) (C.ts _ lk_Math) (C.ts _ lk_Mmin_c) (Nat.le_of_ble_eq_true rfl) (Nat.le_of_ble_eq_true rfl) (Nat.le_of_ble_eq_true rfl) (Nat.le_of_ble_eq_true rfl) dX10_loss_145 ?_
  refine lv_topi (fun v52 e_v52 => ?_)
  have hf := lt_e hf e_v52
  refine va_mmax C.x C.b (C.ml.trans hl.1.symm) C.ow (C.ts _ lk_X10_272) (C.ts _ lk_Mmax_s) (C.ts _ lk_Math) (C.ts _ lk_Mmax_c) (Nat.le_of_ble_eq_true rfl) (Nat.le_of_ble_eq_true rfl) (Nat.le_of_ble_eq_true rfl) (Nat.le_of_ble_eq_true rfl) dX10_loss_148 ?_
  refine lv_topi (fun v53 e_v53 => ?_)
  have hf := lt_e hf e_v53
  have hf := so_e hf
  subst hf
  exact r_iret C hr hlk hR hE hS dX10_loss_151
set_option maxRecDepth 100000 in
set_option maxHeartbeats 4000000 in
theorem k_X10_loss {G : Gt} {l : Launch}  {h : Hp} {r0 : Nat} {r1 : Nat} {x2 : Int32} {out : (Int32 × Hp)} (t_r0 : hpT h r0 = (1, 10)) (t_r1 : (hpT h r1).1 = 2)  (hf : f_X10_loss  h r0 r1 x2 = some out) : Mt G l yX10_loss cX10_loss 4 (some .int) rm_X10_loss [.ref (G.2.2 + r0), .ref (G.2.2 + r1), .int x2] h (some (.int out.1)) out.2 0 0 0 := by
  refine r_met (by decide +kernel) (Nat.le_of_ble_eq_true rfl) ?_
  intro p e s m args below meth c ls C hr hlk hnm hR hS hl
  have hE : Ext h h := Ext.rf
  have hl : lv_has ls 4 [(0, .ref (G.2.2 + r0)), (1, .ref (G.2.2 + r1)), (2, .int x2)] := hl
  rw [f_X10_loss] at hf
  refine lv_aload_n C.x C.b dX10_loss_0 rfl (lv_at hl 0 rfl) ?_
  obtain ⟨g1, hf⟩ := gd_e hf
  refine r_getr C hR t_r0 fl_X10_42 (by decide) (nz_e g1) dX10_loss_1 (fun tq2 => ?_)
  have tg1 := okA tq2 rfl
  refine lv_iconst (v := (0 : Int32)) C.x C.b dX10_loss_4 (by decide) ?_
  refine lv_aload_n C.x C.b dX10_loss_5 rfl (lv_at hl 1 rfl) ?_
  refine lv_bipush (v := (24 : Int32)) C.x C.b dX10_loss_6 (by decide) ?_
  refine lv_iload_n C.x C.b dX10_loss_8 rfl (lv_at hl 2 rfl) ?_
  refine lv_iadd C.x C.b dX10_loss_9 ?_
  obtain ⟨g3, hf⟩ := gd_e hf
  refine r_iald C hR t_r1 g3 dX10_loss_10 ?_
  obtain ⟨g4, hf⟩ := gd_e hf
  refine r_iast C hR hS tg1 g4 dX10_loss_11 (fun H locs hR hS => ?_)
  obtain ⟨h5, e_h5⟩ : ∃ y, y = upI h (hpR h r0 20) (ix (0 : Int32)) (hpI h r1 (ix ((24 : Int32) + x2))) := ⟨_, rfl⟩
  rw [← e_h5] at hR
  have hf := lt_e hf e_h5
  have hE := eI e_h5 hE
  have t_r0 := tI e_h5 t_r0
  have t_r1 := tIk e_h5 t_r1
  refine lv_aload_n C.x C.b dX10_loss_12 rfl (lv_at hl 0 rfl) ?_
  obtain ⟨g6, hf⟩ := gd_e hf
  refine r_getr C hR t_r0 fl_X10_42 (by decide) (nz_e g6) dX10_loss_13 (fun tq7 => ?_)
  have tg6 := okA tq7 rfl
  refine lv_iconst (v := (1 : Int32)) C.x C.b dX10_loss_16 (by decide) ?_
  refine lv_aload_n C.x C.b dX10_loss_17 rfl (lv_at hl 1 rfl) ?_
  refine lv_bipush (v := (40 : Int32)) C.x C.b dX10_loss_18 (by decide) ?_
  refine lv_iload_n C.x C.b dX10_loss_20 rfl (lv_at hl 2 rfl) ?_
  refine lv_iadd C.x C.b dX10_loss_21 ?_
  obtain ⟨g8, hf⟩ := gd_e hf
  refine r_iald C hR t_r1 g8 dX10_loss_22 ?_
  obtain ⟨g9, hf⟩ := gd_e hf
  refine r_iast C hR hS tg6 g9 dX10_loss_23 (fun H locs hR hS => ?_)
  obtain ⟨h10, e_h10⟩ : ∃ y, y = upI h5 (hpR h5 r0 20) (ix (1 : Int32)) (hpI h5 r1 (ix ((40 : Int32) + x2))) := ⟨_, rfl⟩
  rw [← e_h10] at hR
  have hf := lt_e hf e_h10
  have hE := eI e_h10 hE
  have t_r0 := tI e_h10 t_r0
  have t_r1 := tIk e_h10 t_r1
  refine lv_aload_n C.x C.b dX10_loss_24 rfl (lv_at hl 0 rfl) ?_
  obtain ⟨g11, hf⟩ := gd_e hf
  refine r_getr C hR t_r0 fl_X10_42 (by decide) (nz_e g11) dX10_loss_25 (fun tq12 => ?_)
  have tg11 := okA tq12 rfl
  refine lv_iconst (v := (2 : Int32)) C.x C.b dX10_loss_28 (by decide) ?_
  refine lv_aload_n C.x C.b dX10_loss_29 rfl (lv_at hl 0 rfl) ?_
  refine lv_aload_n C.x C.b dX10_loss_30 rfl (lv_at hl 1 rfl) ?_
  refine lv_iload_n C.x C.b dX10_loss_31 rfl (lv_at hl 2 rfl) ?_
  obtain ⟨q13, h_q13, hf⟩ := bd_e hf
  refine r_callV (As := [.ref (G.2.2 + r1), .int x2]) (rest := [.int (2 : Int32), .ref (G.2.2 + (hpR h10 r0 20))]) C hR hS t_r0 rfl mk_X10_crossing cl_X10_260 (k_X10_crossing t_r0 t_r1 h_q13) ⟨⟨Nat.le_of_ble_eq_true rfl, Nat.le_of_ble_eq_true rfl⟩, ⟨rfl, rfl⟩, Nat.le_of_ble_eq_true rfl, Nat.le_of_ble_eq_true rfl⟩ rfl hl.1 rfl (Nat.le_of_ble_eq_true rfl) dX10_loss_32 (fun H locs hR hS hE1 z_q13 => ?_)
  obtain ⟨q14, h_q14, hf⟩ := bd_e hf
  refine r_callS (As := [.int q13]) (rest := [.int (2 : Int32), .ref (G.2.2 + (hpR h10 r0 20))]) C hR hS mk_J6_bitCount_0f7a4 cl_X10_264 (k_J6_bitCount_0f7a4 h_q14) ⟨⟨Nat.le_of_ble_eq_true rfl, Nat.le_of_ble_eq_true rfl⟩, ⟨rfl, rfl⟩, Nat.le_of_ble_eq_true rfl, Nat.le_of_ble_eq_true rfl⟩ rfl hl.1 rfl (Nat.le_of_ble_eq_true rfl) dX10_loss_35 (fun H locs hR hS hE1 z_q14 => ?_)
  obtain ⟨g15, hf⟩ := gd_e hf
  refine r_iast C hR hS tg11 g15 dX10_loss_38 (fun H locs hR hS => ?_)
  obtain ⟨h16, e_h16⟩ : ∃ y, y = upI h10 (hpR h10 r0 20) (ix (2 : Int32)) q14 := ⟨_, rfl⟩
  rw [← e_h16] at hR
  have hf := lt_e hf e_h16
  have hE := eI e_h16 hE
  have t_r0 := tI e_h16 t_r0
  have t_r1 := tIk e_h16 t_r1
  refine lv_aload_n C.x C.b dX10_loss_39 rfl (lv_at hl 0 rfl) ?_
  obtain ⟨g17, hf⟩ := gd_e hf
  refine r_getr C hR t_r0 fl_X10_42 (by decide) (nz_e g17) dX10_loss_40 (fun tq18 => ?_)
  have tg17 := okA tq18 rfl
  refine lv_iconst (v := (3 : Int32)) C.x C.b dX10_loss_43 (by decide) ?_
  refine lv_aload_n C.x C.b dX10_loss_44 rfl (lv_at hl 1 rfl) ?_
  refine lv_bipush (v := (8 : Int32)) C.x C.b dX10_loss_45 (by decide) ?_
  refine lv_iload_n C.x C.b dX10_loss_47 rfl (lv_at hl 2 rfl) ?_
  refine lv_iadd C.x C.b dX10_loss_48 ?_
  obtain ⟨g19, hf⟩ := gd_e hf
  refine r_iald C hR t_r1 g19 dX10_loss_49 ?_
  obtain ⟨g20, hf⟩ := gd_e hf
  refine r_iast C hR hS tg17 g20 dX10_loss_50 (fun H locs hR hS => ?_)
  obtain ⟨h21, e_h21⟩ : ∃ y, y = upI h16 (hpR h16 r0 20) (ix (3 : Int32)) (hpI h16 r1 (ix ((8 : Int32) + x2))) := ⟨_, rfl⟩
  rw [← e_h21] at hR
  have hf := lt_e hf e_h21
  have hE := eI e_h21 hE
  have t_r0 := tI e_h21 t_r0
  have t_r1 := tIk e_h21 t_r1
  refine lv_aload_n C.x C.b dX10_loss_51 rfl (lv_at hl 0 rfl) ?_
  obtain ⟨g22, hf⟩ := gd_e hf
  refine r_getr C hR t_r0 fl_X10_42 (by decide) (nz_e g22) dX10_loss_52 (fun tq23 => ?_)
  have tg22 := okA tq23 rfl
  refine lv_iconst (v := (4 : Int32)) C.x C.b dX10_loss_55 (by decide) ?_
  refine lv_aload_n C.x C.b dX10_loss_56 rfl (lv_at hl 1 rfl) ?_
  refine lv_bipush (v := (16 : Int32)) C.x C.b dX10_loss_57 (by decide) ?_
  refine lv_iload_n C.x C.b dX10_loss_59 rfl (lv_at hl 2 rfl) ?_
  refine lv_iadd C.x C.b dX10_loss_60 ?_
  obtain ⟨g24, hf⟩ := gd_e hf
  refine r_iald C hR t_r1 g24 dX10_loss_61 ?_
  obtain ⟨g25, hf⟩ := gd_e hf
  refine r_iast C hR hS tg22 g25 dX10_loss_62 (fun H locs hR hS => ?_)
  obtain ⟨h26, e_h26⟩ : ∃ y, y = upI h21 (hpR h21 r0 20) (ix (4 : Int32)) (hpI h21 r1 (ix ((16 : Int32) + x2))) := ⟨_, rfl⟩
  rw [← e_h26] at hR
  have hf := lt_e hf e_h26
  have hE := eI e_h26 hE
  have t_r0 := tI e_h26 t_r0
  have t_r1 := tIk e_h26 t_r1
  refine lv_aload_n C.x C.b dX10_loss_63 rfl (lv_at hl 0 rfl) ?_
  obtain ⟨g27, hf⟩ := gd_e hf
  refine r_getr C hR t_r0 fl_X10_42 (by decide) (nz_e g27) dX10_loss_64 (fun tq28 => ?_)
  have tg27 := okA tq28 rfl
  refine lv_iconst (v := (5 : Int32)) C.x C.b dX10_loss_67 (by decide) ?_
  refine lv_aload_n C.x C.b dX10_loss_68 rfl (lv_at hl 1 rfl) ?_
  refine lv_iload_n C.x C.b dX10_loss_69 rfl (lv_at hl 2 rfl) ?_
  obtain ⟨g29, hf⟩ := gd_e hf
  refine r_iald C hR t_r1 g29 dX10_loss_70 ?_
  refine lv_aload_n C.x C.b dX10_loss_71 rfl (lv_at hl 0 rfl) ?_
  refine r_geti C hR t_r0 fl_X10_17 rfl dX10_loss_72 ?_
  obtain ⟨g30, hf⟩ := gd_e hf
  refine lv_irem C.x C.b dX10_loss_75 (nz32_e g30) ?_
  refine lv_topi (fun v31 e_v31 => ?_)
  have hf := lt_e hf e_v31
  obtain ⟨g32, hf⟩ := gd_e hf
  refine r_iast C hR hS tg27 g32 dX10_loss_76 (fun H locs hR hS => ?_)
  obtain ⟨h33, e_h33⟩ : ∃ y, y = upI h26 (hpR h26 r0 20) (ix (5 : Int32)) v31 := ⟨_, rfl⟩
  rw [← e_h33] at hR
  have hf := lt_e hf e_h33
  have hE := eI e_h33 hE
  have t_r0 := tI e_h33 t_r0
  have t_r1 := tIk e_h33 t_r1
  refine lv_aload_n C.x C.b dX10_loss_77 rfl (lv_at hl 0 rfl) ?_
  obtain ⟨g34, hf⟩ := gd_e hf
  refine r_getr C hR t_r0 fl_X10_42 (by decide) (nz_e g34) dX10_loss_78 (fun tq35 => ?_)
  have tg34 := okA tq35 rfl
  refine lv_bipush (v := (6 : Int32)) C.x C.b dX10_loss_81 (by decide) ?_
  refine lv_aload_n C.x C.b dX10_loss_83 rfl (lv_at hl 1 rfl) ?_
  refine lv_iload_n C.x C.b dX10_loss_84 rfl (lv_at hl 2 rfl) ?_
  obtain ⟨g36, hf⟩ := gd_e hf
  refine r_iald C hR t_r1 g36 dX10_loss_85 ?_
  refine lv_aload_n C.x C.b dX10_loss_86 rfl (lv_at hl 0 rfl) ?_
  refine r_geti C hR t_r0 fl_X10_17 rfl dX10_loss_87 ?_
  obtain ⟨g37, hf⟩ := gd_e hf
  refine lv_idiv C.x C.b dX10_loss_90 (nz32_e g37) ?_
  obtain ⟨g38, hf⟩ := gd_e hf
  refine r_iast C hR hS tg34 g38 dX10_loss_91 (fun H locs hR hS => ?_)
  obtain ⟨h39, e_h39⟩ : ∃ y, y = upI h33 (hpR h33 r0 20) (ix (6 : Int32)) ((hpI h33 r1 (ix x2)) / (hpI h33 r0 4)) := ⟨_, rfl⟩
  rw [← e_h39] at hR
  have hf := lt_e hf e_h39
  have hE := eI e_h39 hE
  have t_r0 := tI e_h39 t_r0
  have t_r1 := tIk e_h39 t_r1
  refine lv_aload_n C.x C.b dX10_loss_92 rfl (lv_at hl 0 rfl) ?_
  obtain ⟨g40, hf⟩ := gd_e hf
  refine r_getr C hR t_r0 fl_X10_42 (by decide) (nz_e g40) dX10_loss_93 (fun tq41 => ?_)
  have tg40 := okA tq41 rfl
  refine lv_bipush (v := (7 : Int32)) C.x C.b dX10_loss_96 (by decide) ?_
  refine lv_aload_n C.x C.b dX10_loss_98 rfl (lv_at hl 1 rfl) ?_
  refine lv_bipush (v := (49 : Int32)) C.x C.b dX10_loss_99 (by decide) ?_
  obtain ⟨g42, hf⟩ := gd_e hf
  refine r_iald C hR t_r1 g42 dX10_loss_101 ?_
  refine lv_bipush (v := (7 : Int32)) C.x C.b dX10_loss_102 (by decide) ?_
  refine lv_irem C.x C.b dX10_loss_104 (by decide) ?_
  refine lv_topi (fun v43 e_v43 => ?_)
  have hf := lt_e hf e_v43
  obtain ⟨g44, hf⟩ := gd_e hf
  refine r_iast C hR hS tg40 g44 dX10_loss_105 (fun H locs hR hS => ?_)
  obtain ⟨h45, e_h45⟩ : ∃ y, y = upI h39 (hpR h39 r0 20) (ix (7 : Int32)) v43 := ⟨_, rfl⟩
  rw [← e_h45] at hR
  have hf := lt_e hf e_h45
  have hE := eI e_h45 hE
  have t_r0 := tI e_h45 t_r0
  have t_r1 := tIk e_h45 t_r1
  refine lv_aload_n C.x C.b dX10_loss_106 rfl (lv_at hl 0 rfl) ?_
  refine r_geti C hR t_r0 fl_X10_45 rfl dX10_loss_107 ?_
  refine lv_if_lt (tgt := 136) C.x C.b dX10_loss_110 (by decide) (fun c46 => ?_) (fun c46 => ?_)
  · have hf := it_t hf c46
    refine lv_aload_n C.x C.b dX10_loss_136 rfl (lv_at hl 0 rfl) ?_
    obtain ⟨q47, h_q47, hf⟩ := bd_e hf
    refine r_callV (As := []) (rest := []) C hR hS t_r0 rfl mk_X10_ruled cl_X10_269 (k_X10_ruled t_r0 h_q47) ⟨⟨Nat.le_of_ble_eq_true rfl, Nat.le_of_ble_eq_true rfl⟩, ⟨rfl, rfl⟩, Nat.le_of_ble_eq_true rfl, Nat.le_of_ble_eq_true rfl⟩ rfl hl.1 rfl (Nat.le_of_ble_eq_true rfl) dX10_loss_137 (fun H locs hR hS hE1 z_q47 => ?_)
    have hE := hE.tr hE1
    have t_r0 := hE1.at t_r0 (by decide)
    have t_r1 := hE1.k t_r1 (by decide)
    exact w_X10_loss_140 C hr hlk _ _ _ _ _ hf hE hR hS t_r0 t_r1 (lv_sub hl [0, 1, 2] rfl)
  · have hf := it_f hf c46
    refine lv_aload_n C.x C.b dX10_loss_113 rfl (lv_at hl 0 rfl) ?_
    refine r_geti C hR t_r0 fl_X10_45 rfl dX10_loss_114 ?_
    refine lv_iconst (v := (4 : Int32)) C.x C.b dX10_loss_117 (by decide) ?_
    refine lv_idiv C.x C.b dX10_loss_118 (by decide) ?_
    refine lv_aload_n C.x C.b dX10_loss_119 rfl (lv_at hl 0 rfl) ?_
    refine r_geti C hR t_r0 fl_X10_45 rfl dX10_loss_120 ?_
    refine lv_iconst (v := (4 : Int32)) C.x C.b dX10_loss_123 (by decide) ?_
    refine lv_irem C.x C.b dX10_loss_124 (by decide) ?_
    refine lv_topi (fun v48 e_v48 => ?_)
    have hf := lt_e hf e_v48
    refine lv_aload_n C.x C.b dX10_loss_125 rfl (lv_at hl 0 rfl) ?_
    obtain ⟨g49, hf⟩ := gd_e hf
    refine r_getr C hR t_r0 fl_X10_42 (by decide) (nz_e g49) dX10_loss_126 (fun tq50 => ?_)
    have tg49 := okA tq50 rfl
    refine lv_iconst (v := (2 : Int32)) C.x C.b dX10_loss_129 (by decide) ?_
    obtain ⟨g51, hf⟩ := gd_e hf
    refine r_iald C hR tg49 g51 dX10_loss_130 ?_
    refine lv_imul C.x C.b dX10_loss_131 ?_
    refine lv_iadd C.x C.b dX10_loss_132 ?_
    refine lv_goto (tgt := 140) C.x C.b dX10_loss_133 (by decide) ?_
    exact w_X10_loss_140 C hr hlk _ _ _ _ _ hf hE hR hS t_r0 t_r1 (lv_sub hl [0, 1, 2] rfl)

def rm_X10_lossOn : Room := { frames := 6, cells := 0, slots := 0, locals := 147 }
set_option maxRecDepth 100000 in
set_option maxHeartbeats 4000000 in
theorem k_X10_lossOn {G : Gt} {l : Launch}  {h : Hp} {r0 : Nat} {x1 : Int32} {out : (Int32 × Hp)} (t_r0 : hpT h r0 = (1, 10))  (hf : f_X10_lossOn  h r0 x1 = some out) : Mt G l yX10_lossOn cX10_lossOn 2 (some .int) rm_X10_lossOn [.ref (G.2.2 + r0), .int x1] h (some (.int out.1)) out.2 0 0 0 := by
  refine r_met (by decide +kernel) (Nat.le_of_ble_eq_true rfl) ?_
  intro p e s m args below meth c ls C hr hlk hnm hR hS hl
  have hE : Ext h h := Ext.rf
  have hl : lv_has ls 2 [(0, .ref (G.2.2 + r0)), (1, .int x1)] := hl
  rw [f_X10_lossOn] at hf
  refine lv_aload_n C.x C.b dX10_lossOn_0 rfl (lv_at hl 0 rfl) ?_
  obtain ⟨g1, hf⟩ := gd_e hf
  refine r_getr C hR t_r0 fl_X10_20 (by decide) (nz_e g1) dX10_lossOn_1 (fun tq2 => ?_)
  have tg1 := okA tq2 rfl
  refine lv_iload_n C.x C.b dX10_lossOn_4 rfl (lv_at hl 1 rfl) ?_
  obtain ⟨q3, h_q3, hf⟩ := bd_e hf
  refine r_callS (As := [.ref (G.2.2 + (hpR h r0 6)), .int x1]) (rest := []) C hR hS mk_X10_isOn cl_X10_129 (k_X10_isOn tg1 h_q3) ⟨⟨Nat.le_of_ble_eq_true rfl, Nat.le_of_ble_eq_true rfl⟩, ⟨rfl, rfl⟩, Nat.le_of_ble_eq_true rfl, Nat.le_of_ble_eq_true rfl⟩ rfl hl.1 rfl (Nat.le_of_ble_eq_true rfl) dX10_lossOn_5 (fun H locs hR hS hE1 z_q3 => ?_)
  have z_q3 := z_q3 _ rfl
  refine lv_if_eq (tgt := 23) C.x C.b dX10_lossOn_8 (by decide) (fun c4 => ?_) (fun c4 => ?_)
  · have hf := it_t hf c4
    refine lv_iconst (v := (0 : Int32)) C.x C.b dX10_lossOn_23 (by decide) ?_
    have hf := so_e hf
    subst hf
    exact r_iret C hr hlk hR hE hS dX10_lossOn_24
  · have hf := it_f hf c4
    refine lv_aload_n C.x C.b dX10_lossOn_11 rfl (lv_at hl 0 rfl) ?_
    refine lv_aload_n C.x C.b dX10_lossOn_12 rfl (lv_at hl 0 rfl) ?_
    refine r_getr C hR t_r0 fl_X10_20 (by decide) (nz_e g1) dX10_lossOn_13 (fun tq5 => ?_)
    refine lv_iload_n C.x C.b dX10_lossOn_16 rfl (lv_at hl 1 rfl) ?_
    obtain ⟨q6, h_q6, hf⟩ := bd_e hf
    refine r_callV (As := [.ref (G.2.2 + (hpR h r0 6)), .int x1]) (rest := []) C hR hS t_r0 rfl mk_X10_loss cl_X10_275 (k_X10_loss t_r0 tg1 h_q6) ⟨⟨Nat.le_of_ble_eq_true rfl, Nat.le_of_ble_eq_true rfl⟩, ⟨rfl, rfl⟩, Nat.le_of_ble_eq_true rfl, Nat.le_of_ble_eq_true rfl⟩ rfl hl.1 rfl (Nat.le_of_ble_eq_true rfl) dX10_lossOn_17 (fun H locs hR hS hE1 z_q6 => ?_)
    have hE := hE.tr hE1
    have t_r0 := hE1.at t_r0 (by decide)
    refine lv_goto (tgt := 24) C.x C.b dX10_lossOn_20 (by decide) ?_
    have hf := so_e hf
    subst hf
    exact r_iret C hr hlk hR hE hS dX10_lossOn_24

def rm_X10_camp : Room := { frames := 7, cells := 0, slots := 0, locals := 168 }
def P_X10_camp_25 (G : Gt) (l : Launch) (p : Program) (e : Env) (s : State) (m : MethodId) (args : Array Value) (below : List Frame) (meth : Method) (c : Code) (h0 : Hp) (out : (Int32 × Hp)) (r0 : Nat) (x1 : Int32) (x2 : Int32) (k : Hp → Option (Int32 × Hp)) : Prop := ∀ (H : Heap) (locs : List Loc) (ls : Array Slot) (h : Hp), k h = some out → Ext h0 h → Rel G h H → va_S (AA G.2.2) s.heap H locs → hpT h r0 = (1, 10) → lv_has ls 3 [(0, .ref (G.2.2 + r0)), (1, .int x1), (2, .int x2)] → W p l e rm_X10_camp s m args below meth c H locs 0 0 (MQ below (Qm G h0 out.2 (some (.int out.1)) 0) args s 0 0 (AA G.2.2)) (F0 m 25 ls [])
set_option maxRecDepth 100000 in
set_option maxHeartbeats 4000000 in
theorem w_X10_camp_25 {G : Gt} {l : Launch} {p : Program} {e : Env} {s : State} {m : MethodId} {args : Array Value} {below : List Frame} {meth : Method} {c : Code}  {h0 : Hp} {out : (Int32 × Hp)} {r0 : Nat} {x1 : Int32} {x2 : Int32}  (C : Cx G p m c cX10_camp 3 s args RX10) (hr : meth.sig.returnType = some .int) (hlk : meth.locks = false)   : P_X10_camp_25 G l p e s m args below meth c h0 out r0 x1 x2 (f_X10_camp_25 r0 x1 x2) := by
  intro H locs ls h hf hE hR hS t_r0 hl
  rw [f_X10_camp_25] at hf
  refine lv_aload_n C.x C.b dX10_camp_25 rfl (lv_at hl 0 rfl) ?_
  obtain ⟨q15, h_q15, hf⟩ := bd_e hf
  refine r_callV (As := []) (rest := []) C hR hS t_r0 rfl mk_X10_refuse cl_X10_283 (k_X10_refuse t_r0 h_q15) ⟨⟨Nat.le_of_ble_eq_true rfl, Nat.le_of_ble_eq_true rfl⟩, ⟨rfl, rfl⟩, Nat.le_of_ble_eq_true rfl, Nat.le_of_ble_eq_true rfl⟩ rfl hl.1 rfl (Nat.le_of_ble_eq_true rfl) dX10_camp_26 (fun H locs hR hS hE1 z_q15 => ?_)
  have hE := hE.tr hE1
  have t_r0 := hE1.at t_r0 (by decide)
  have hf := so_e hf
  subst hf
  exact r_iret C hr hlk hR hE hS dX10_camp_29
set_option maxRecDepth 100000 in
set_option maxHeartbeats 4000000 in
theorem k_X10_camp {G : Gt} {l : Launch}  {h : Hp} {r0 : Nat} {x1 : Int32} {x2 : Int32} {out : (Int32 × Hp)} (t_r0 : hpT h r0 = (1, 10))  (hf : f_X10_camp  h r0 x1 x2 = some out) : Mt G l yX10_camp cX10_camp 3 (some .int) rm_X10_camp [.ref (G.2.2 + r0), .int x1, .int x2] h (some (.int out.1)) out.2 0 0 0 := by
  refine r_met (by decide +kernel) (Nat.le_of_ble_eq_true rfl) ?_
  intro p e s m args below meth c ls C hr hlk hnm hR hS hl
  have hE : Ext h h := Ext.rf
  have hl : lv_has ls 3 [(0, .ref (G.2.2 + r0)), (1, .int x1), (2, .int x2)] := hl
  rw [f_X10_camp] at hf
  refine lv_aload_n C.x C.b dX10_camp_0 rfl (lv_at hl 0 rfl) ?_
  refine lv_iconst (v := (0 : Int32)) C.x C.b dX10_camp_1 (by decide) ?_
  refine r_puti C hR hS t_r0 fl_X10_103 fp_X10_10_0 rfl dX10_camp_2 (fun H locs hR hS => ?_)
  obtain ⟨h1, e_h1⟩ : ∃ y, y = upI h r0 0 (0 : Int32) := ⟨_, rfl⟩
  rw [← e_h1] at hR
  have hf := lt_e hf e_h1
  have hE := eI e_h1 hE
  have t_r0 := tI e_h1 t_r0
  refine lv_aload_n C.x C.b dX10_camp_5 rfl (lv_at hl 0 rfl) ?_
  refine lv_iload_n C.x C.b dX10_camp_6 rfl (lv_at hl 1 rfl) ?_
  obtain ⟨q2, h_q2, hf⟩ := bd_e hf
  refine r_callV (As := [.int x1]) (rest := []) C hR hS t_r0 rfl mk_X10_isCamp cl_X10_278 (k_X10_isCamp t_r0 h_q2) ⟨⟨Nat.le_of_ble_eq_true rfl, Nat.le_of_ble_eq_true rfl⟩, ⟨rfl, rfl⟩, Nat.le_of_ble_eq_true rfl, Nat.le_of_ble_eq_true rfl⟩ rfl hl.1 rfl (Nat.le_of_ble_eq_true rfl) dX10_camp_7 (fun H locs hR hS hE1 z_q2 => ?_)
  have z_q2 := z_q2 _ rfl
  refine lv_if_eq (tgt := 25) C.x C.b dX10_camp_10 (by decide) (fun c3 => ?_) (fun c3 => ?_)
  · have hf := it_t hf c3
    exact w_X10_camp_25 C hr hlk _ _ _ _ hf hE hR hS t_r0 (lv_sub hl [0, 1, 2] rfl)
  · have hf := it_f hf c3
    refine lv_iload_n C.x C.b dX10_camp_13 rfl (lv_at hl 2 rfl) ?_
    refine lv_i2l C.x C.b dX10_camp_14 rfl ?_
    refine lv_lconst (v := (0 : Int64)) C.x C.b dX10_camp_15 (by decide) ?_
    refine lv_ldc2 C.x C.b C.ow (C.ts _ lk_X10_281) dX10_camp_16 ?_
    obtain ⟨q4, h_q4, hf⟩ := bd_e hf
    refine r_callS (As := [.long (x2.toInt64), .long (0 : Int64), .long (7 : Int64)]) (rest := []) C hR hS mk_X10_in cl_X10_117 (k_X10_in h_q4) ⟨⟨Nat.le_of_ble_eq_true rfl, Nat.le_of_ble_eq_true rfl⟩, ⟨rfl, rfl⟩, Nat.le_of_ble_eq_true rfl, Nat.le_of_ble_eq_true rfl⟩ rfl hl.1 rfl (Nat.le_of_ble_eq_true rfl) dX10_camp_19 (fun H locs hR hS hE1 z_q4 => ?_)
    have z_q4 := z_q4 _ rfl
    refine lv_if_ne (tgt := 30) C.x C.b dX10_camp_22 (by decide) (fun c5 => ?_) (fun c5 => ?_)
    · have hf := it_f hf c5
      refine lv_iload_n C.x C.b dX10_camp_30 rfl (lv_at hl 2 rfl) ?_
      refine lv_bipush (v := (6 : Int32)) C.x C.b dX10_camp_31 (by decide) ?_
      refine lv_icmp_ge (tgt := 50) C.x C.b dX10_camp_33 (by decide) (fun c6 => ?_) (fun c6 => ?_)
      · have hf := it_t hf c6
        refine lv_iload_n C.x C.b dX10_camp_50 rfl (lv_at hl 2 rfl) ?_
        refine lv_bipush (v := (6 : Int32)) C.x C.b dX10_camp_51 (by decide) ?_
        refine lv_icmp_ne (tgt := 64) C.x C.b dX10_camp_53 (by decide) (fun c7 => ?_) (fun c7 => ?_)
        · have hf := it_f hf c7
          refine lv_aload_n C.x C.b dX10_camp_64 rfl (lv_at hl 0 rfl) ?_
          refine lv_aload_n C.x C.b dX10_camp_65 rfl (lv_at hl 0 rfl) ?_
          obtain ⟨g8, hf⟩ := gd_e hf
          refine r_getr C hR t_r0 fl_X10_20 (by decide) (nz_e g8) dX10_camp_66 (fun tq9 => ?_)
          have tg8 := okA tq9 rfl
          refine lv_iload_n C.x C.b dX10_camp_69 rfl (lv_at hl 1 rfl) ?_
          obtain ⟨q10, h_q10, hf⟩ := bd_e hf
          refine r_callV (As := [.ref (G.2.2 + (hpR h1 r0 6)), .int x1]) (rest := []) C hR hS t_r0 rfl mk_X10_crossing cl_X10_260 (k_X10_crossing t_r0 tg8 h_q10) ⟨⟨Nat.le_of_ble_eq_true rfl, Nat.le_of_ble_eq_true rfl⟩, ⟨rfl, rfl⟩, Nat.le_of_ble_eq_true rfl, Nat.le_of_ble_eq_true rfl⟩ rfl hl.1 rfl (Nat.le_of_ble_eq_true rfl) dX10_camp_70 (fun H locs hR hS hE1 z_q10 => ?_)
          have hf := so_e hf
          subst hf
          exact r_iret C hr hlk hR hE hS dX10_camp_73
        · have hf := it_t hf c7
          refine lv_aload_n C.x C.b dX10_camp_56 rfl (lv_at hl 0 rfl) ?_
          refine lv_iload_n C.x C.b dX10_camp_57 rfl (lv_at hl 1 rfl) ?_
          obtain ⟨q11, h_q11, hf⟩ := bd_e hf
          refine r_callV (As := [.int x1]) (rest := []) C hR hS t_r0 rfl mk_X10_lossOn cl_X10_286 (k_X10_lossOn t_r0 h_q11) ⟨⟨Nat.le_of_ble_eq_true rfl, Nat.le_of_ble_eq_true rfl⟩, ⟨rfl, rfl⟩, Nat.le_of_ble_eq_true rfl, Nat.le_of_ble_eq_true rfl⟩ rfl hl.1 rfl (Nat.le_of_ble_eq_true rfl) dX10_camp_58 (fun H locs hR hS hE1 z_q11 => ?_)
          have hE := hE.tr hE1
          have t_r0 := hE1.at t_r0 (by decide)
          refine lv_goto (tgt := 73) C.x C.b dX10_camp_61 (by decide) ?_
          have hf := so_e hf
          subst hf
          exact r_iret C hr hlk hR hE hS dX10_camp_73
      · have hf := it_f hf c6
        refine lv_aload_n C.x C.b dX10_camp_36 rfl (lv_at hl 0 rfl) ?_
        obtain ⟨g12, hf⟩ := gd_e hf
        refine r_getr C hR t_r0 fl_X10_20 (by decide) (nz_e g12) dX10_camp_37 (fun tq13 => ?_)
        have tg12 := okA tq13 rfl
        refine lv_bipush (v := (8 : Int32)) C.x C.b dX10_camp_40 (by decide) ?_
        refine lv_iload_n C.x C.b dX10_camp_42 rfl (lv_at hl 2 rfl) ?_
        refine lv_imul C.x C.b dX10_camp_43 ?_
        refine lv_iload_n C.x C.b dX10_camp_44 rfl (lv_at hl 1 rfl) ?_
        refine lv_iadd C.x C.b dX10_camp_45 ?_
        obtain ⟨g14, hf⟩ := gd_e hf
        refine r_iald C hR tg12 g14 dX10_camp_46 ?_
        refine lv_goto (tgt := 73) C.x C.b dX10_camp_47 (by decide) ?_
        have hf := so_e hf
        subst hf
        exact r_iret C hr hlk hR hE hS dX10_camp_73
    · have hf := it_t hf c5
      exact w_X10_camp_25 C hr hlk _ _ _ _ hf hE hR hS t_r0 (lv_sub hl [0, 1, 2] rfl)

def rm_X10_strongest : Room := { frames := 1, cells := 0, slots := 0, locals := 22 }
def P_X10_strongest_43 (G : Gt) (l : Launch) (p : Program) (e : Env) (s : State) (m : MethodId) (args : Array Value) (below : List Frame) (meth : Method) (c : Code) (h : Hp) (out : Int32) (r0 : Nat) (x1 : Int32) (k : Int32 → Int32 → Option Int32) : Prop := ∀ (H : Heap) (locs : List Loc) (ls : Array Slot) (s0 : Int32) (x3 : Int32), k s0 x3 = some out → Rel G h H → va_S (AA G.2.2) s.heap H locs → (hpT h r0).1 = 2 → lv_has ls 4 [(0, .ref (G.2.2 + r0)), (1, .int x1), (3, .int x3)] → W p l e rm_X10_strongest s m args below meth c H locs 0 0 (MQ below (Qm G h h (some (.int out)) 0) args s 0 0 (AA G.2.2)) (F0 m 43 ls [.int s0])
def P_X10_strongest_42 (G : Gt) (l : Launch) (p : Program) (e : Env) (s : State) (m : MethodId) (args : Array Value) (below : List Frame) (meth : Method) (c : Code) (h : Hp) (out : Int32) (r0 : Nat) (x1 : Int32) (k : Int32 → Int32 → Option Int32) : Prop := ∀ (H : Heap) (locs : List Loc) (ls : Array Slot) (x2 : Int32) (x3 : Int32), k x2 x3 = some out → Rel G h H → va_S (AA G.2.2) s.heap H locs → (hpT h r0).1 = 2 → lv_has ls 4 [(0, .ref (G.2.2 + r0)), (1, .int x1), (2, .int x2), (3, .int x3)] → W p l e rm_X10_strongest s m args below meth c H locs 0 0 (MQ below (Qm G h h (some (.int out)) 0) args s 0 0 (AA G.2.2)) (F0 m 42 ls [])
def P_X10_strongest_38 (G : Gt) (l : Launch) (p : Program) (e : Env) (s : State) (m : MethodId) (args : Array Value) (below : List Frame) (meth : Method) (c : Code) (h : Hp) (out : Int32) (r0 : Nat) (x1 : Int32) (k : Int32 → Option Int32) : Prop := ∀ (H : Heap) (locs : List Loc) (ls : Array Slot) (x3 : Int32), k x3 = some out → Rel G h H → va_S (AA G.2.2) s.heap H locs → (hpT h r0).1 = 2 → lv_has ls 4 [(0, .ref (G.2.2 + r0)), (1, .int x1), (3, .int x3)] → W p l e rm_X10_strongest s m args below meth c H locs 0 0 (MQ below (Qm G h h (some (.int out)) 0) args s 0 0 (AA G.2.2)) (F0 m 38 ls [])
def P_X10_strongest_4 (G : Gt) (l : Launch) (p : Program) (e : Env) (s : State) (m : MethodId) (args : Array Value) (below : List Frame) (meth : Method) (c : Code) (h : Hp) (out : Int32) (r0 : Nat) (x1 : Int32) (k : Int32 → Int32 → Option Int32) : Prop := ∀ (H : Heap) (locs : List Loc) (ls : Array Slot) (x2 : Int32) (x3 : Int32), k x2 x3 = some out → Rel G h H → va_S (AA G.2.2) s.heap H locs → (hpT h r0).1 = 2 → lv_has ls 4 [(0, .ref (G.2.2 + r0)), (1, .int x1), (2, .int x2), (3, .int x3)] → W p l e rm_X10_strongest s m args below meth c H locs 0 0 (MQ below (Qm G h h (some (.int out)) 0) args s 0 0 (AA G.2.2)) (F0 m 4 ls [])
set_option maxRecDepth 100000 in
set_option maxHeartbeats 4000000 in
theorem w_X10_strongest_43 {G : Gt} {l : Launch} {p : Program} {e : Env} {s : State} {m : MethodId} {args : Array Value} {below : List Frame} {meth : Method} {c : Code}  {h : Hp} {out : Int32} {r0 : Nat} {x1 : Int32} {k4 : Int32 → Int32 → Option Int32} (C : Cx G p m c cX10_strongest 4 s args RX10) (hr : meth.sig.returnType = some .int) (hlk : meth.locks = false)  (hk4 : P_X10_strongest_4 G l p e s m args below meth c h out r0 x1 k4) : P_X10_strongest_43 G l p e s m args below meth c h out r0 x1 (f_X10_strongest_43 h r0 x1 k4) := by
  intro H locs ls s0 x3 hf hR hS t_r0 hl
  rw [f_X10_strongest_43] at hf
  refine lv_istore_n (lv' := [(2, .int s0), (0, .ref (G.2.2 + r0)), (1, .int x1), (3, .int x3)]) C.x C.b dX10_strongest_43 rfl hl (by decide) rfl (fun ls hl => ?_)
  obtain ⟨v8, e_v8⟩ : ∃ y : Int32, y = x3 + (1 : Int32) := ⟨_, rfl⟩
  have hf := lt_e hf e_v8
  refine lv_iinc (v := v8) (lv' := [(3, .int v8), (2, .int s0), (0, .ref (G.2.2 + r0)), (1, .int x1)]) C.x C.b dX10_strongest_44 hl (k := 3) rfl (by rw [e_v8]; rfl) (by decide) rfl (fun ls hl => ?_)
  refine lv_goto (tgt := 4) C.x C.b dX10_strongest_47 (by decide) ?_
  exact hk4 _ _ _ _ _ hf hR hS t_r0 (lv_sub hl [2, 3, 1, 0] rfl)
set_option maxRecDepth 100000 in
set_option maxHeartbeats 4000000 in
theorem w_X10_strongest_42 {G : Gt} {l : Launch} {p : Program} {e : Env} {s : State} {m : MethodId} {args : Array Value} {below : List Frame} {meth : Method} {c : Code}  {h : Hp} {out : Int32} {r0 : Nat} {x1 : Int32} {k4 : Int32 → Int32 → Option Int32} (C : Cx G p m c cX10_strongest 4 s args RX10) (hr : meth.sig.returnType = some .int) (hlk : meth.locks = false)  (hk4 : P_X10_strongest_4 G l p e s m args below meth c h out r0 x1 k4) : P_X10_strongest_42 G l p e s m args below meth c h out r0 x1 (f_X10_strongest_42 h r0 x1 k4) := by
  intro H locs ls x2 x3 hf hR hS t_r0 hl
  rw [f_X10_strongest_42] at hf
  refine lv_iload_n C.x C.b dX10_strongest_42 rfl (lv_at hl 2 rfl) ?_
  exact w_X10_strongest_43 C hr hlk hk4 _ _ _ _ _ hf hR hS t_r0 (lv_sub hl [0, 1, 3] rfl)
set_option maxRecDepth 100000 in
set_option maxHeartbeats 4000000 in
theorem w_X10_strongest_38 {G : Gt} {l : Launch} {p : Program} {e : Env} {s : State} {m : MethodId} {args : Array Value} {below : List Frame} {meth : Method} {c : Code}  {h : Hp} {out : Int32} {r0 : Nat} {x1 : Int32} {k4 : Int32 → Int32 → Option Int32} (C : Cx G p m c cX10_strongest 4 s args RX10) (hr : meth.sig.returnType = some .int) (hlk : meth.locks = false)  (hk4 : P_X10_strongest_4 G l p e s m args below meth c h out r0 x1 k4) : P_X10_strongest_38 G l p e s m args below meth c h out r0 x1 (f_X10_strongest_38 h r0 x1 k4) := by
  intro H locs ls x3 hf hR hS t_r0 hl
  rw [f_X10_strongest_38] at hf
  refine lv_iload_n C.x C.b dX10_strongest_38 rfl (lv_at hl 2 rfl) ?_
  refine lv_goto (tgt := 43) C.x C.b dX10_strongest_39 (by decide) ?_
  exact w_X10_strongest_43 C hr hlk hk4 _ _ _ _ _ hf hR hS t_r0 (lv_sub hl [0, 1, 2] rfl)
set_option maxRecDepth 100000 in
set_option maxHeartbeats 4000000 in
theorem w_X10_strongest_4 {G : Gt} {l : Launch} {p : Program} {e : Env} {s : State} {m : MethodId} {args : Array Value} {below : List Frame} {meth : Method} {c : Code}  {h : Hp} {out : Int32} {r0 : Nat} {x1 : Int32}  (C : Cx G p m c cX10_strongest 4 s args RX10) (hr : meth.sig.returnType = some .int) (hlk : meth.locks = false)   (n : Nat) : P_X10_strongest_4 G l p e s m args below meth c h out r0 x1 (f_X10_strongest_4 h r0 x1 n) := by
  induction n with
  | zero => intro H locs ls x2 x3 hf hR hS t_r0 hl; cases hf
  | succ n hk4 =>
    intro H locs ls x2 x3 hf hR hS t_r0 hl
    rw [f_X10_strongest_4] at hf
    obtain ⟨k4, e_k4⟩ : ∃ y, y = f_X10_strongest_4 h r0 x1 n := ⟨_, rfl⟩
    have hf := lt_e hf e_k4
    rw [← e_k4] at hk4
    refine lv_iload_n C.x C.b dX10_strongest_4 rfl (lv_at hl 3 rfl) ?_
    refine lv_bipush (v := (8 : Int32)) C.x C.b dX10_strongest_5 (by decide) ?_
    refine lv_icmp_ge (tgt := 50) C.x C.b dX10_strongest_7 (by decide) (fun c1 => ?_) (fun c1 => ?_)
    · have hf := it_t hf c1
      refine lv_iload_n C.x C.b dX10_strongest_50 rfl (lv_at hl 2 rfl) ?_
      have hf := so_e hf
      subst hf
      exact r_iret C hr hlk hR Ext.rf hS dX10_strongest_51
    · have hf := it_f hf c1
      refine lv_iload_n C.x C.b dX10_strongest_10 rfl (lv_at hl 1 rfl) ?_
      refine lv_i2l C.x C.b dX10_strongest_11 rfl ?_
      refine lv_iload_n C.x C.b dX10_strongest_12 rfl (lv_at hl 3 rfl) ?_
      obtain ⟨q2, h_q2, hf⟩ := bd_e hf
      refine r_callS (As := [.long (x1.toInt64), .int x3]) (rest := []) C hR hS mk_X10_has cl_X10_137 (k_X10_has h_q2) ⟨⟨Nat.le_of_ble_eq_true rfl, Nat.le_of_ble_eq_true rfl⟩, ⟨rfl, rfl⟩, Nat.le_of_ble_eq_true rfl, Nat.le_of_ble_eq_true rfl⟩ rfl hl.1 rfl (Nat.le_of_ble_eq_true rfl) dX10_strongest_13 (fun H locs hR hS hE1 z_q2 => ?_)
      have z_q2 := z_q2 _ rfl
      refine lv_if_eq (tgt := 42) C.x C.b dX10_strongest_16 (by decide) (fun c3 => ?_) (fun c3 => ?_)
      · have hf := it_t hf c3
        exact w_X10_strongest_42 C hr hlk hk4 _ _ _ _ _ hf hR hS t_r0 (lv_sub hl [0, 1, 2, 3] rfl)
      · have hf := it_f hf c3
        refine lv_iload_n C.x C.b dX10_strongest_19 rfl (lv_at hl 2 rfl) ?_
        refine lv_if_lt (tgt := 38) C.x C.b dX10_strongest_20 (by decide) (fun c4 => ?_) (fun c4 => ?_)
        · have hf := it_t hf c4
          exact w_X10_strongest_38 C hr hlk hk4 _ _ _ _ hf hR hS t_r0 (lv_sub hl [0, 1, 3] rfl)
        · have hf := it_f hf c4
          refine lv_aload_n C.x C.b dX10_strongest_23 rfl (lv_at hl 0 rfl) ?_
          refine lv_bipush (v := (24 : Int32)) C.x C.b dX10_strongest_24 (by decide) ?_
          refine lv_iload_n C.x C.b dX10_strongest_26 rfl (lv_at hl 3 rfl) ?_
          refine lv_iadd C.x C.b dX10_strongest_27 ?_
          obtain ⟨g5, hf⟩ := gd_e hf
          refine r_iald C hR t_r0 g5 dX10_strongest_28 ?_
          refine lv_aload_n C.x C.b dX10_strongest_29 rfl (lv_at hl 0 rfl) ?_
          refine lv_bipush (v := (24 : Int32)) C.x C.b dX10_strongest_30 (by decide) ?_
          refine lv_iload_n C.x C.b dX10_strongest_32 rfl (lv_at hl 2 rfl) ?_
          refine lv_iadd C.x C.b dX10_strongest_33 ?_
          obtain ⟨g6, hf⟩ := gd_e hf
          refine r_iald C hR t_r0 g6 dX10_strongest_34 ?_
          refine lv_icmp_le (tgt := 42) C.x C.b dX10_strongest_35 (by decide) (fun c7 => ?_) (fun c7 => ?_)
          · have hf := it_t hf c7
            exact w_X10_strongest_42 C hr hlk hk4 _ _ _ _ _ hf hR hS t_r0 (lv_sub hl [0, 1, 2, 3] rfl)
          · have hf := it_f hf c7
            exact w_X10_strongest_38 C hr hlk hk4 _ _ _ _ hf hR hS t_r0 (lv_sub hl [0, 1, 3] rfl)
set_option maxRecDepth 100000 in
set_option maxHeartbeats 4000000 in
theorem k_X10_strongest {G : Gt} {l : Launch}  {h : Hp} {r0 : Nat} {x1 : Int32} {out : Int32} (t_r0 : (hpT h r0).1 = 2)  (hf : f_X10_strongest  h r0 x1 = some out) : Mt G l yX10_strongest cX10_strongest 4 (some .int) rm_X10_strongest [.ref (G.2.2 + r0), .int x1] h (some (.int out)) h 0 0 0 := by
  refine r_met (by decide +kernel) (Nat.le_of_ble_eq_true rfl) ?_
  intro p e s m args below meth c ls C hr hlk hnm hR hS hl
  have hl : lv_has ls 4 [(0, .ref (G.2.2 + r0)), (1, .int x1)] := hl
  rw [f_X10_strongest] at hf
  refine lv_iconst (v := (-1 : Int32)) C.x C.b dX10_strongest_0 (by decide) ?_
  refine lv_istore_n (lv' := [(2, .int (-1 : Int32)), (0, .ref (G.2.2 + r0)), (1, .int x1)]) C.x C.b dX10_strongest_1 rfl hl (by decide) rfl (fun ls hl => ?_)
  refine lv_iconst (v := (0 : Int32)) C.x C.b dX10_strongest_2 (by decide) ?_
  refine lv_istore_n (lv' := [(3, .int (0 : Int32)), (2, .int (-1 : Int32)), (0, .ref (G.2.2 + r0)), (1, .int x1)]) C.x C.b dX10_strongest_3 rfl hl (by decide) rfl (fun ls hl => ?_)
  exact w_X10_strongest_4 C hr hlk FU _ _ _ _ _ hf hR hS t_r0 (lv_sub hl [2, 3, 1, 0] rfl)

def rm_X10_cell : Room := { frames := 4, cells := 0, slots := 0, locals := 98 }
def P_X10_cell_25 (G : Gt) (l : Launch) (p : Program) (e : Env) (s : State) (m : MethodId) (args : Array Value) (below : List Frame) (meth : Method) (c : Code) (h0 : Hp) (out : (Int32 × Hp)) (r0 : Nat) (x1 : Int32) (x2 : Int32) (k : Hp → Option (Int32 × Hp)) : Prop := ∀ (H : Heap) (locs : List Loc) (ls : Array Slot) (h : Hp), k h = some out → Ext h0 h → Rel G h H → va_S (AA G.2.2) s.heap H locs → hpT h r0 = (1, 10) → lv_has ls 4 [(0, .ref (G.2.2 + r0)), (1, .int x1), (2, .int x2)] → W p l e rm_X10_cell s m args below meth c H locs 0 0 (MQ below (Qm G h0 out.2 (some (.int out.1)) 0) args s 0 0 (AA G.2.2)) (F0 m 25 ls [])
set_option maxRecDepth 100000 in
set_option maxHeartbeats 4000000 in
theorem w_X10_cell_25 {G : Gt} {l : Launch} {p : Program} {e : Env} {s : State} {m : MethodId} {args : Array Value} {below : List Frame} {meth : Method} {c : Code}  {h0 : Hp} {out : (Int32 × Hp)} {r0 : Nat} {x1 : Int32} {x2 : Int32}  (C : Cx G p m c cX10_cell 4 s args RX10) (hr : meth.sig.returnType = some .int) (hlk : meth.locks = false)   : P_X10_cell_25 G l p e s m args below meth c h0 out r0 x1 x2 (f_X10_cell_25 r0 x1 x2) := by
  intro H locs ls h hf hE hR hS t_r0 hl
  rw [f_X10_cell_25] at hf
  refine lv_aload_n C.x C.b dX10_cell_25 rfl (lv_at hl 0 rfl) ?_
  obtain ⟨q15, h_q15, hf⟩ := bd_e hf
  refine r_callV (As := []) (rest := []) C hR hS t_r0 rfl mk_X10_refuse cl_X10_283 (k_X10_refuse t_r0 h_q15) ⟨⟨Nat.le_of_ble_eq_true rfl, Nat.le_of_ble_eq_true rfl⟩, ⟨rfl, rfl⟩, Nat.le_of_ble_eq_true rfl, Nat.le_of_ble_eq_true rfl⟩ rfl hl.1 rfl (Nat.le_of_ble_eq_true rfl) dX10_cell_26 (fun H locs hR hS hE1 z_q15 => ?_)
  have hE := hE.tr hE1
  have t_r0 := hE1.at t_r0 (by decide)
  have hf := so_e hf
  subst hf
  exact r_iret C hr hlk hR hE hS dX10_cell_29
set_option maxRecDepth 100000 in
set_option maxHeartbeats 4000000 in
theorem k_X10_cell {G : Gt} {l : Launch}  {h : Hp} {r0 : Nat} {x1 : Int32} {x2 : Int32} {out : (Int32 × Hp)} (t_r0 : hpT h r0 = (1, 10))  (hf : f_X10_cell  h r0 x1 x2 = some out) : Mt G l yX10_cell cX10_cell 4 (some .int) rm_X10_cell [.ref (G.2.2 + r0), .int x1, .int x2] h (some (.int out.1)) out.2 0 0 0 := by
  refine r_met (by decide +kernel) (Nat.le_of_ble_eq_true rfl) ?_
  intro p e s m args below meth c ls C hr hlk hnm hR hS hl
  have hE : Ext h h := Ext.rf
  have hl : lv_has ls 4 [(0, .ref (G.2.2 + r0)), (1, .int x1), (2, .int x2)] := hl
  rw [f_X10_cell] at hf
  refine lv_aload_n C.x C.b dX10_cell_0 rfl (lv_at hl 0 rfl) ?_
  refine lv_iconst (v := (0 : Int32)) C.x C.b dX10_cell_1 (by decide) ?_
  refine r_puti C hR hS t_r0 fl_X10_103 fp_X10_10_0 rfl dX10_cell_2 (fun H locs hR hS => ?_)
  obtain ⟨h1, e_h1⟩ : ∃ y, y = upI h r0 0 (0 : Int32) := ⟨_, rfl⟩
  rw [← e_h1] at hR
  have hf := lt_e hf e_h1
  have hE := eI e_h1 hE
  have t_r0 := tI e_h1 t_r0
  refine lv_aload_n C.x C.b dX10_cell_5 rfl (lv_at hl 0 rfl) ?_
  refine lv_iload_n C.x C.b dX10_cell_6 rfl (lv_at hl 1 rfl) ?_
  obtain ⟨q2, h_q2, hf⟩ := bd_e hf
  refine r_callV (As := [.int x1]) (rest := []) C hR hS t_r0 rfl mk_X10_isCell cl_X10_289 (k_X10_isCell t_r0 h_q2) ⟨⟨Nat.le_of_ble_eq_true rfl, Nat.le_of_ble_eq_true rfl⟩, ⟨rfl, rfl⟩, Nat.le_of_ble_eq_true rfl, Nat.le_of_ble_eq_true rfl⟩ rfl hl.1 rfl (Nat.le_of_ble_eq_true rfl) dX10_cell_7 (fun H locs hR hS hE1 z_q2 => ?_)
  have z_q2 := z_q2 _ rfl
  refine lv_if_eq (tgt := 25) C.x C.b dX10_cell_10 (by decide) (fun c3 => ?_) (fun c3 => ?_)
  · have hf := it_t hf c3
    exact w_X10_cell_25 C hr hlk _ _ _ _ hf hE hR hS t_r0 (lv_sub hl [0, 1, 2] rfl)
  · have hf := it_f hf c3
    refine lv_iload_n C.x C.b dX10_cell_13 rfl (lv_at hl 2 rfl) ?_
    refine lv_i2l C.x C.b dX10_cell_14 rfl ?_
    refine lv_lconst (v := (0 : Int64)) C.x C.b dX10_cell_15 (by decide) ?_
    refine lv_ldc2 C.x C.b C.ow (C.ts _ lk_X10_292) dX10_cell_16 ?_
    obtain ⟨q4, h_q4, hf⟩ := bd_e hf
    refine r_callS (As := [.long (x2.toInt64), .long (0 : Int64), .long (2 : Int64)]) (rest := []) C hR hS mk_X10_in cl_X10_117 (k_X10_in h_q4) ⟨⟨Nat.le_of_ble_eq_true rfl, Nat.le_of_ble_eq_true rfl⟩, ⟨rfl, rfl⟩, Nat.le_of_ble_eq_true rfl, Nat.le_of_ble_eq_true rfl⟩ rfl hl.1 rfl (Nat.le_of_ble_eq_true rfl) dX10_cell_19 (fun H locs hR hS hE1 z_q4 => ?_)
    have z_q4 := z_q4 _ rfl
    refine lv_if_ne (tgt := 30) C.x C.b dX10_cell_22 (by decide) (fun c5 => ?_) (fun c5 => ?_)
    · have hf := it_f hf c5
      refine lv_aload_n C.x C.b dX10_cell_30 rfl (lv_at hl 0 rfl) ?_
      refine lv_aload_n C.x C.b dX10_cell_31 rfl (lv_at hl 0 rfl) ?_
      obtain ⟨g6, hf⟩ := gd_e hf
      refine r_getr C hR t_r0 fl_X10_20 (by decide) (nz_e g6) dX10_cell_32 (fun tq7 => ?_)
      have tg6 := okA tq7 rfl
      refine lv_iload_n C.x C.b dX10_cell_35 rfl (lv_at hl 1 rfl) ?_
      obtain ⟨q8, h_q8, hf⟩ := bd_e hf
      refine r_callV (As := [.ref (G.2.2 + (hpR h1 r0 6)), .int x1]) (rest := []) C hR hS t_r0 rfl mk_X10_campsOver cl_X10_294 (k_X10_campsOver t_r0 tg6 h_q8) ⟨⟨Nat.le_of_ble_eq_true rfl, Nat.le_of_ble_eq_true rfl⟩, ⟨rfl, rfl⟩, Nat.le_of_ble_eq_true rfl, Nat.le_of_ble_eq_true rfl⟩ rfl hl.1 rfl (Nat.le_of_ble_eq_true rfl) dX10_cell_36 (fun H locs hR hS hE1 z_q8 => ?_)
      refine lv_istore_n (lv' := [(3, .int q8), (0, .ref (G.2.2 + r0)), (1, .int x1), (2, .int x2)]) C.x C.b dX10_cell_39 rfl hl (by decide) rfl (fun ls hl => ?_)
      refine lv_iload_n C.x C.b dX10_cell_40 rfl (lv_at hl 3 rfl) ?_
      refine lv_if_ne (tgt := 48) C.x C.b dX10_cell_41 (by decide) (fun c9 => ?_) (fun c9 => ?_)
      · have hf := it_f hf c9
        refine lv_iload_n C.x C.b dX10_cell_48 rfl (lv_at hl 3 rfl) ?_
        refine lv_iconst (v := (1 : Int32)) C.x C.b dX10_cell_49 (by decide) ?_
        refine lv_icmp_ne (tgt := 65) C.x C.b dX10_cell_50 (by decide) (fun c10 => ?_) (fun c10 => ?_)
        · have hf := it_f hf c10
          refine lv_aload_n C.x C.b dX10_cell_65 rfl (lv_at hl 1 rfl) ?_
          refine r_getr C hR t_r0 fl_X10_20 (by decide) (nz_e g6) dX10_cell_66 (fun tq11 => ?_)
          refine lv_iload_n C.x C.b dX10_cell_69 rfl (lv_at hl 0 rfl) ?_
          obtain ⟨q12, h_q12, hf⟩ := bd_e hf
          refine r_callS (As := [.ref (G.2.2 + (hpR h1 r0 6)), .int q8]) (rest := []) C hR hS mk_X10_strongest cl_X10_300 (k_X10_strongest tg6 h_q12) ⟨⟨Nat.le_of_ble_eq_true rfl, Nat.le_of_ble_eq_true rfl⟩, ⟨rfl, rfl⟩, Nat.le_of_ble_eq_true rfl, Nat.le_of_ble_eq_true rfl⟩ rfl hl.1 rfl (Nat.le_of_ble_eq_true rfl) dX10_cell_70 (fun H locs hR hS hE1 z_q12 => ?_)
          have hf := so_e hf
          subst hf
          exact r_iret C hr hlk hR hE hS dX10_cell_73
        · have hf := it_t hf c10
          refine lv_aload_n C.x C.b dX10_cell_53 rfl (lv_at hl 1 rfl) ?_
          refine lv_aload_n C.x C.b dX10_cell_54 rfl (lv_at hl 1 rfl) ?_
          refine r_getr C hR t_r0 fl_X10_20 (by decide) (nz_e g6) dX10_cell_55 (fun tq13 => ?_)
          refine lv_iload_n C.x C.b dX10_cell_58 rfl (lv_at hl 2 rfl) ?_
          obtain ⟨q14, h_q14, hf⟩ := bd_e hf
          refine r_callV (As := [.ref (G.2.2 + (hpR h1 r0 6)), .int x1]) (rest := []) C hR hS t_r0 rfl mk_X10_strengthOn cl_X10_297 (k_X10_strengthOn t_r0 tg6 h_q14) ⟨⟨Nat.le_of_ble_eq_true rfl, Nat.le_of_ble_eq_true rfl⟩, ⟨rfl, rfl⟩, Nat.le_of_ble_eq_true rfl, Nat.le_of_ble_eq_true rfl⟩ rfl hl.1 rfl (Nat.le_of_ble_eq_true rfl) dX10_cell_59 (fun H locs hR hS hE1 z_q14 => ?_)
          refine lv_goto (tgt := 73) C.x C.b dX10_cell_62 (by decide) ?_
          have hf := so_e hf
          subst hf
          exact r_iret C hr hlk hR hE hS dX10_cell_73
      · have hf := it_t hf c9
        refine lv_iload_n C.x C.b dX10_cell_44 rfl (lv_at hl 0 rfl) ?_
        refine lv_goto (tgt := 73) C.x C.b dX10_cell_45 (by decide) ?_
        have hf := so_e hf
        subst hf
        exact r_iret C hr hlk hR hE hS dX10_cell_73
    · have hf := it_t hf c5
      exact w_X10_cell_25 C hr hlk _ _ _ _ hf hE hR hS t_r0 (lv_sub hl [0, 1, 2] rfl)

def rm_X10_sheet : Room := { frames := 1, cells := 0, slots := 0, locals := 25 }
def P_X10_sheet_115 (G : Gt) (l : Launch) (p : Program) (e : Env) (s : State) (m : MethodId) (args : Array Value) (below : List Frame) (meth : Method) (c : Code) (h0 : Hp) (out : (Int32 × Hp)) (r0 : Nat) (x1 : Int32) (x2 : Int32) (x3 : Int32) (x4 : Int32) (k : Hp → Nat → Int32 → Int32 → Int32 → Int32 → Option (Int32 × Hp)) : Prop := ∀ (H : Heap) (locs : List Loc) (ls : Array Slot) (h : Hp) (s0 : Nat) (s1 : Int32) (s2 : Int32) (x5 : Int32) (x6 : Int32), k h s0 s1 s2 x5 x6 = some out → Ext h0 h → Rel G h H → va_S (AA G.2.2) s.heap H locs → hpT h r0 = (1, 10) → (hpT h s0).1 = 2 → lv_has ls 8 [(0, .ref (G.2.2 + r0)), (1, .int x1), (2, .int x2), (3, .int x3), (4, .int x4), (5, .int x5), (6, .int x6)] → W p l e rm_X10_sheet s m args below meth c H locs 0 0 (MQ below (Qm G h0 out.2 (some (.int out.1)) 0) args s 0 0 (AA G.2.2)) (F0 m 115 ls [.int s2, .int s1, .ref (G.2.2 + s0)])
def P_X10_sheet_100 (G : Gt) (l : Launch) (p : Program) (e : Env) (s : State) (m : MethodId) (args : Array Value) (below : List Frame) (meth : Method) (c : Code) (h0 : Hp) (out : (Int32 × Hp)) (r0 : Nat) (x1 : Int32) (x2 : Int32) (x3 : Int32) (x4 : Int32) (k : Hp → Nat → Int32 → Int32 → Int32 → Option (Int32 × Hp)) : Prop := ∀ (H : Heap) (locs : List Loc) (ls : Array Slot) (h : Hp) (s0 : Nat) (s1 : Int32) (x5 : Int32) (x6 : Int32), k h s0 s1 x5 x6 = some out → Ext h0 h → Rel G h H → va_S (AA G.2.2) s.heap H locs → hpT h r0 = (1, 10) → (hpT h s0).1 = 2 → lv_has ls 8 [(0, .ref (G.2.2 + r0)), (1, .int x1), (2, .int x2), (3, .int x3), (4, .int x4), (5, .int x5), (6, .int x6)] → W p l e rm_X10_sheet s m args below meth c H locs 0 0 (MQ below (Qm G h0 out.2 (some (.int out.1)) 0) args s 0 0 (AA G.2.2)) (F0 m 100 ls [.int s1, .ref (G.2.2 + s0)])
def P_X10_sheet_78 (G : Gt) (l : Launch) (p : Program) (e : Env) (s : State) (m : MethodId) (args : Array Value) (below : List Frame) (meth : Method) (c : Code) (h0 : Hp) (out : (Int32 × Hp)) (r0 : Nat) (x1 : Int32) (x2 : Int32) (x3 : Int32) (x4 : Int32) (k : Hp → Int32 → Int32 → Int32 → Option (Int32 × Hp)) : Prop := ∀ (H : Heap) (locs : List Loc) (ls : Array Slot) (h : Hp) (s0 : Int32) (x5 : Int32) (x6 : Int32), k h s0 x5 x6 = some out → Ext h0 h → Rel G h H → va_S (AA G.2.2) s.heap H locs → hpT h r0 = (1, 10) → lv_has ls 8 [(0, .ref (G.2.2 + r0)), (1, .int x1), (2, .int x2), (3, .int x3), (4, .int x4), (5, .int x5), (6, .int x6)] → W p l e rm_X10_sheet s m args below meth c H locs 0 0 (MQ below (Qm G h0 out.2 (some (.int out.1)) 0) args s 0 0 (AA G.2.2)) (F0 m 78 ls [.int s0])
def P_X10_sheet_43 (G : Gt) (l : Launch) (p : Program) (e : Env) (s : State) (m : MethodId) (args : Array Value) (below : List Frame) (meth : Method) (c : Code) (h0 : Hp) (out : (Int32 × Hp)) (r0 : Nat) (x1 : Int32) (x2 : Int32) (x3 : Int32) (x4 : Int32) (k : Hp → Int32 → Int32 → Option (Int32 × Hp)) : Prop := ∀ (H : Heap) (locs : List Loc) (ls : Array Slot) (h : Hp) (x5 : Int32) (x6 : Int32), k h x5 x6 = some out → Ext h0 h → Rel G h H → va_S (AA G.2.2) s.heap H locs → hpT h r0 = (1, 10) → lv_has ls 8 [(0, .ref (G.2.2 + r0)), (1, .int x1), (2, .int x2), (3, .int x3), (4, .int x4), (5, .int x5), (6, .int x6)] → W p l e rm_X10_sheet s m args below meth c H locs 0 0 (MQ below (Qm G h0 out.2 (some (.int out.1)) 0) args s 0 0 (AA G.2.2)) (F0 m 43 ls [])
def P_X10_sheet_37 (G : Gt) (l : Launch) (p : Program) (e : Env) (s : State) (m : MethodId) (args : Array Value) (below : List Frame) (meth : Method) (c : Code) (h0 : Hp) (out : (Int32 × Hp)) (r0 : Nat) (x1 : Int32) (x2 : Int32) (x3 : Int32) (x4 : Int32) (k : Hp → Option (Int32 × Hp)) : Prop := ∀ (H : Heap) (locs : List Loc) (ls : Array Slot) (h : Hp), k h = some out → Ext h0 h → Rel G h H → va_S (AA G.2.2) s.heap H locs → hpT h r0 = (1, 10) → lv_has ls 8 [(0, .ref (G.2.2 + r0)), (1, .int x1), (2, .int x2), (3, .int x3), (4, .int x4)] → W p l e rm_X10_sheet s m args below meth c H locs 0 0 (MQ below (Qm G h0 out.2 (some (.int out.1)) 0) args s 0 0 (AA G.2.2)) (F0 m 37 ls [])
set_option maxRecDepth 100000 in
set_option maxHeartbeats 4000000 in
theorem w_X10_sheet_115 {G : Gt} {l : Launch} {p : Program} {e : Env} {s : State} {m : MethodId} {args : Array Value} {below : List Frame} {meth : Method} {c : Code}  {h0 : Hp} {out : (Int32 × Hp)} {r0 : Nat} {x1 : Int32} {x2 : Int32} {x3 : Int32} {x4 : Int32} {k43 : Hp → Int32 → Int32 → Option (Int32 × Hp)} (C : Cx G p m c cX10_sheet 8 s args RX10) (hr : meth.sig.returnType = some .int) (hlk : meth.locks = false)  (hk43 : P_X10_sheet_43 G l p e s m args below meth c h0 out r0 x1 x2 x3 x4 k43) : P_X10_sheet_115 G l p e s m args below meth c h0 out r0 x1 x2 x3 x4 (f_X10_sheet_115 r0 x1 x2 x3 x4 k43) := by
  intro H locs ls h s0 s1 s2 x5 x6 hf hE hR hS t_r0 t_s0 hl
  rw [f_X10_sheet_115] at hf
  obtain ⟨g22, hf⟩ := gd_e hf
  refine r_iast C hR hS t_s0 g22 dX10_sheet_115 (fun H locs hR hS => ?_)
  obtain ⟨h23, e_h23⟩ : ∃ y, y = upI h s0 (ix s1) s2 := ⟨_, rfl⟩
  rw [← e_h23] at hR
  have hf := lt_e hf e_h23
  have hE := eI e_h23 hE
  have t_r0 := tI e_h23 t_r0
  refine lv_iload C.x C.b dX10_sheet_116 (lv_at hl 5 rfl) ?_
  refine lv_iload C.x C.b dX10_sheet_118 (lv_at hl 4 rfl) ?_
  refine lv_iadd C.x C.b dX10_sheet_120 ?_
  refine lv_topi (fun v24 e_v24 => ?_)
  have hf := lt_e hf e_v24
  refine lv_istore (lv' := [(5, .int v24), (0, .ref (G.2.2 + r0)), (1, .int x1), (2, .int x2), (3, .int x3), (4, .int x4), (6, .int x6)]) C.x C.b dX10_sheet_121 hl (by decide) rfl (fun ls hl => ?_)
  obtain ⟨v25, e_v25⟩ : ∃ y : Int32, y = x6 + (1 : Int32) := ⟨_, rfl⟩
  have hf := lt_e hf e_v25
  refine lv_iinc (v := v25) (lv' := [(6, .int v25), (5, .int v24), (0, .ref (G.2.2 + r0)), (1, .int x1), (2, .int x2), (3, .int x3), (4, .int x4)]) C.x C.b dX10_sheet_123 hl (k := 6) rfl (by rw [e_v25]; rfl) (by decide) rfl (fun ls hl => ?_)
  refine lv_goto (tgt := 43) C.x C.b dX10_sheet_126 (by decide) ?_
  exact hk43 _ _ _ _ _ _ hf hE hR hS t_r0 (lv_sub hl [2, 3, 4, 5, 6, 1, 0] rfl)
set_option maxRecDepth 100000 in
set_option maxHeartbeats 4000000 in
theorem w_X10_sheet_100 {G : Gt} {l : Launch} {p : Program} {e : Env} {s : State} {m : MethodId} {args : Array Value} {below : List Frame} {meth : Method} {c : Code}  {h0 : Hp} {out : (Int32 × Hp)} {r0 : Nat} {x1 : Int32} {x2 : Int32} {x3 : Int32} {x4 : Int32} {k43 : Hp → Int32 → Int32 → Option (Int32 × Hp)} (C : Cx G p m c cX10_sheet 8 s args RX10) (hr : meth.sig.returnType = some .int) (hlk : meth.locks = false)  (hk43 : P_X10_sheet_43 G l p e s m args below meth c h0 out r0 x1 x2 x3 x4 k43) : P_X10_sheet_100 G l p e s m args below meth c h0 out r0 x1 x2 x3 x4 (f_X10_sheet_100 r0 x1 x2 x3 x4 k43) := by
  intro H locs ls h s0 s1 x5 x6 hf hE hR hS t_r0 t_s0 hl
  rw [f_X10_sheet_100] at hf
  refine lv_iconst (v := (0 : Int32)) C.x C.b dX10_sheet_100 (by decide) ?_
  refine lv_goto (tgt := 115) C.x C.b dX10_sheet_101 (by decide) ?_
  exact w_X10_sheet_115 C hr hlk hk43 _ _ _ _ _ _ _ _ _ hf hE hR hS t_r0 t_s0 (lv_sub hl [0, 1, 2, 3, 4, 5, 6] rfl)
set_option maxRecDepth 100000 in
set_option maxHeartbeats 4000000 in
theorem w_X10_sheet_78 {G : Gt} {l : Launch} {p : Program} {e : Env} {s : State} {m : MethodId} {args : Array Value} {below : List Frame} {meth : Method} {c : Code}  {h0 : Hp} {out : (Int32 × Hp)} {r0 : Nat} {x1 : Int32} {x2 : Int32} {x3 : Int32} {x4 : Int32} {k43 : Hp → Int32 → Int32 → Option (Int32 × Hp)} (C : Cx G p m c cX10_sheet 8 s args RX10) (hr : meth.sig.returnType = some .int) (hlk : meth.locks = false)  (hk43 : P_X10_sheet_43 G l p e s m args below meth c h0 out r0 x1 x2 x3 x4 k43) : P_X10_sheet_78 G l p e s m args below meth c h0 out r0 x1 x2 x3 x4 (f_X10_sheet_78 r0 x1 x2 x3 x4 k43) := by
  intro H locs ls h s0 x5 x6 hf hE hR hS t_r0 hl
  rw [f_X10_sheet_78] at hf
  refine lv_istore (lv' := [(7, .int s0), (0, .ref (G.2.2 + r0)), (1, .int x1), (2, .int x2), (3, .int x3), (4, .int x4), (5, .int x5), (6, .int x6)]) C.x C.b dX10_sheet_78 hl (by decide) rfl (fun ls hl => ?_)
  refine lv_aload_n C.x C.b dX10_sheet_80 rfl (lv_at hl 1 rfl) ?_
  obtain ⟨g16, hf⟩ := gd_e hf
  refine r_getr C hR t_r0 fl_X10_20 (by decide) (nz_e g16) dX10_sheet_81 (fun tq17 => ?_)
  have tg16 := okA tq17 rfl
  refine lv_bipush (v := (24 : Int32)) C.x C.b dX10_sheet_84 (by decide) ?_
  refine lv_iload C.x C.b dX10_sheet_86 (lv_at hl 7 rfl) ?_
  refine lv_iadd C.x C.b dX10_sheet_88 ?_
  refine lv_iload_n C.x C.b dX10_sheet_89 rfl (lv_at hl 2 rfl) ?_
  refine lv_iconst (v := (3 : Int32)) C.x C.b dX10_sheet_90 (by decide) ?_
  refine lv_icmp_eq (tgt := 100) C.x C.b dX10_sheet_91 (by decide) (fun c18 => ?_) (fun c18 => ?_)
  · have hf := it_t hf c18
    exact w_X10_sheet_100 C hr hlk hk43 _ _ _ _ _ _ _ _ hf hE hR hS t_r0 tg16 (lv_sub hl [1, 2, 3, 4, 5, 6, 7] rfl)
  · have hf := it_f hf c18
    refine lv_iload C.x C.b dX10_sheet_94 (lv_at hl 7 rfl) ?_
    refine lv_iload_n C.x C.b dX10_sheet_96 rfl (lv_at hl 3 rfl) ?_
    refine lv_icmp_lt (tgt := 104) C.x C.b dX10_sheet_97 (by decide) (fun c19 => ?_) (fun c19 => ?_)
    · have hf := it_t hf c19
      refine lv_iconst (v := (0 : Int32)) C.x C.b dX10_sheet_104 (by decide) ?_
      refine lv_bipush (v := (9 : Int32)) C.x C.b dX10_sheet_105 (by decide) ?_
      refine lv_iload C.x C.b dX10_sheet_107 (lv_at hl 0 rfl) ?_
      refine va_mmin C.x C.b (C.ml.trans hl.1.symm) C.ow (C.ts _ lk_X10_154) (C.ts _ lk_Mmin_s) (C.ts _ lk_Math) (C.ts _ lk_Mmin_c) (Nat.le_of_ble_eq_true rfl) (Nat.le_of_ble_eq_true rfl) (Nat.le_of_ble_eq_true rfl) (Nat.le_of_ble_eq_true rfl) dX10_sheet_109 ?_
      refine lv_topi (fun v20 e_v20 => ?_)
      have hf := lt_e hf e_v20
      refine va_mmax C.x C.b (C.ml.trans hl.1.symm) C.ow (C.ts _ lk_X10_272) (C.ts _ lk_Mmax_s) (C.ts _ lk_Math) (C.ts _ lk_Mmax_c) (Nat.le_of_ble_eq_true rfl) (Nat.le_of_ble_eq_true rfl) (Nat.le_of_ble_eq_true rfl) (Nat.le_of_ble_eq_true rfl) dX10_sheet_112 ?_
      refine lv_topi (fun v21 e_v21 => ?_)
      have hf := lt_e hf e_v21
      exact w_X10_sheet_115 C hr hlk hk43 _ _ _ _ _ _ _ _ _ hf hE hR hS t_r0 tg16 (lv_sub hl [1, 2, 3, 4, 5, 6, 7] rfl)
    · have hf := it_f hf c19
      exact w_X10_sheet_100 C hr hlk hk43 _ _ _ _ _ _ _ _ hf hE hR hS t_r0 tg16 (lv_sub hl [1, 2, 3, 4, 5, 6, 7] rfl)
set_option maxRecDepth 100000 in
set_option maxHeartbeats 4000000 in
theorem w_X10_sheet_43 {G : Gt} {l : Launch} {p : Program} {e : Env} {s : State} {m : MethodId} {args : Array Value} {below : List Frame} {meth : Method} {c : Code}  {h0 : Hp} {out : (Int32 × Hp)} {r0 : Nat} {x1 : Int32} {x2 : Int32} {x3 : Int32} {x4 : Int32}  (C : Cx G p m c cX10_sheet 8 s args RX10) (hr : meth.sig.returnType = some .int) (hlk : meth.locks = false)   (n : Nat) : P_X10_sheet_43 G l p e s m args below meth c h0 out r0 x1 x2 x3 x4 (f_X10_sheet_43 r0 x1 x2 x3 x4 n) := by
  induction n with
  | zero => intro H locs ls h x5 x6 hf hE hR hS t_r0 hl; cases hf
  | succ n hk43 =>
    intro H locs ls h x5 x6 hf hE hR hS t_r0 hl
    rw [f_X10_sheet_43] at hf
    obtain ⟨k43, e_k43⟩ : ∃ y, y = f_X10_sheet_43 r0 x1 x2 x3 x4 n := ⟨_, rfl⟩
    have hf := lt_e hf e_k43
    rw [← e_k43] at hk43
    refine lv_iload C.x C.b dX10_sheet_43 (lv_at hl 6 rfl) ?_
    refine lv_aload_n C.x C.b dX10_sheet_45 rfl (lv_at hl 0 rfl) ?_
    obtain ⟨g7, hf⟩ := gd_e hf
    refine r_getr C hR t_r0 fl_X10_20 (by decide) (nz_e g7) dX10_sheet_46 (fun tq8 => ?_)
    have tg7 := okA tq8 rfl
    refine lv_bipush (v := (48 : Int32)) C.x C.b dX10_sheet_49 (by decide) ?_
    obtain ⟨g9, hf⟩ := gd_e hf
    refine r_iald C hR tg7 g9 dX10_sheet_51 ?_
    refine lv_icmp_ge (tgt := 129) C.x C.b dX10_sheet_52 (by decide) (fun c10 => ?_) (fun c10 => ?_)
    · have hf := it_t hf c10
      refine lv_iload_n C.x C.b dX10_sheet_129 rfl (lv_at hl 1 rfl) ?_
      refine lv_iconst (v := (3 : Int32)) C.x C.b dX10_sheet_130 (by decide) ?_
      refine lv_icmp_ne (tgt := 139) C.x C.b dX10_sheet_131 (by decide) (fun c11 => ?_) (fun c11 => ?_)
      · have hf := it_f hf c11
        refine lv_aload_n C.x C.b dX10_sheet_139 rfl (lv_at hl 0 rfl) ?_
        refine r_getr C hR t_r0 fl_X10_20 (by decide) (nz_e g7) dX10_sheet_140 (fun tq12 => ?_)
        refine lv_bipush (v := (24 : Int32)) C.x C.b dX10_sheet_143 (by decide) ?_
        obtain ⟨q13, h_q13, hf⟩ := bd_e hf
        refine r_callS (As := [.ref (G.2.2 + (hpR h r0 6)), .int (24 : Int32)]) (rest := []) C hR hS mk_X10_sumOf cl_X10_305 (k_X10_sumOf tg7 h_q13) ⟨⟨Nat.le_of_ble_eq_true rfl, Nat.le_of_ble_eq_true rfl⟩, ⟨rfl, rfl⟩, Nat.le_of_ble_eq_true rfl, Nat.le_of_ble_eq_true rfl⟩ rfl hl.1 rfl (Nat.le_of_ble_eq_true rfl) dX10_sheet_145 (fun H locs hR hS hE1 z_q13 => ?_)
        have hf := so_e hf
        subst hf
        exact r_iret C hr hlk hR hE hS dX10_sheet_148
      · have hf := it_t hf c11
        refine lv_bipush (v := (-3 : Int32)) C.x C.b dX10_sheet_134 (by decide) ?_
        refine lv_goto (tgt := 148) C.x C.b dX10_sheet_136 (by decide) ?_
        have hf := so_e hf
        subst hf
        exact r_iret C hr hlk hR hE hS dX10_sheet_148
    · have hf := it_f hf c10
      refine lv_iload_n C.x C.b dX10_sheet_55 rfl (lv_at hl 1 rfl) ?_
      refine lv_if_ne (tgt := 65) C.x C.b dX10_sheet_56 (by decide) (fun c14 => ?_) (fun c14 => ?_)
      · simp only [if_neg c14] at hf
        refine lv_iload_n C.x C.b dX10_sheet_65 rfl (lv_at hl 1 rfl) ?_
        refine lv_iconst (v := (1 : Int32)) C.x C.b dX10_sheet_66 (by decide) ?_
        refine lv_icmp_ne (tgt := 76) C.x C.b dX10_sheet_67 (by decide) (fun c15 => ?_) (fun c15 => ?_)
        · simp only [if_neg c15] at hf
          refine lv_iload C.x C.b dX10_sheet_76 (lv_at hl 5 rfl) ?_
          exact w_X10_sheet_78 C hr hlk hk43 _ _ _ _ _ _ _ hf hE hR hS t_r0 (lv_sub hl [0, 1, 2, 3, 4, 5, 6] rfl)
        · simp only [if_pos c15] at hf
          refine lv_iload C.x C.b dX10_sheet_70 (lv_at hl 5 rfl) ?_
          refine lv_i2s C.x C.b dX10_sheet_72 rfl ?_
          refine lv_goto (tgt := 78) C.x C.b dX10_sheet_73 (by decide) ?_
          exact w_X10_sheet_78 C hr hlk hk43 _ _ _ _ _ _ _ hf hE hR hS t_r0 (lv_sub hl [0, 1, 2, 3, 4, 5, 6] rfl)
      · simp only [if_pos c14] at hf
        refine lv_iload C.x C.b dX10_sheet_59 (lv_at hl 5 rfl) ?_
        refine lv_i2b C.x C.b dX10_sheet_61 rfl ?_
        refine lv_goto (tgt := 78) C.x C.b dX10_sheet_62 (by decide) ?_
        exact w_X10_sheet_78 C hr hlk hk43 _ _ _ _ _ _ _ hf hE hR hS t_r0 (lv_sub hl [0, 1, 2, 3, 4, 5, 6] rfl)
set_option maxRecDepth 100000 in
set_option maxHeartbeats 4000000 in
theorem w_X10_sheet_37 {G : Gt} {l : Launch} {p : Program} {e : Env} {s : State} {m : MethodId} {args : Array Value} {below : List Frame} {meth : Method} {c : Code}  {h0 : Hp} {out : (Int32 × Hp)} {r0 : Nat} {x1 : Int32} {x2 : Int32} {x3 : Int32} {x4 : Int32}  (C : Cx G p m c cX10_sheet 8 s args RX10) (hr : meth.sig.returnType = some .int) (hlk : meth.locks = false)   : P_X10_sheet_37 G l p e s m args below meth c h0 out r0 x1 x2 x3 x4 (f_X10_sheet_37 r0 x1 x2 x3 x4) := by
  intro H locs ls h hf hE hR hS t_r0 hl
  rw [f_X10_sheet_37] at hf
  refine lv_iload_n C.x C.b dX10_sheet_37 rfl (lv_at hl 3 rfl) ?_
  refine lv_istore (lv' := [(5, .int x3), (0, .ref (G.2.2 + r0)), (1, .int x1), (2, .int x2), (3, .int x3), (4, .int x4)]) C.x C.b dX10_sheet_38 hl (by decide) rfl (fun ls hl => ?_)
  refine lv_iconst (v := (0 : Int32)) C.x C.b dX10_sheet_40 (by decide) ?_
  refine lv_istore (lv' := [(6, .int (0 : Int32)), (5, .int x3), (0, .ref (G.2.2 + r0)), (1, .int x1), (2, .int x2), (3, .int x3), (4, .int x4)]) C.x C.b dX10_sheet_41 hl (by decide) rfl (fun ls hl => ?_)
  exact w_X10_sheet_43 C hr hlk FU _ _ _ _ _ _ hf hE hR hS t_r0 (lv_sub hl [2, 3, 4, 5, 6, 1, 0] rfl)
set_option maxRecDepth 100000 in
set_option maxHeartbeats 4000000 in
theorem k_X10_sheet {G : Gt} {l : Launch}  {h : Hp} {r0 : Nat} {x1 : Int32} {x2 : Int32} {x3 : Int32} {x4 : Int32} {out : (Int32 × Hp)} (t_r0 : hpT h r0 = (1, 10))  (hf : f_X10_sheet  h r0 x1 x2 x3 x4 = some out) : Mt G l yX10_sheet cX10_sheet 8 (some .int) rm_X10_sheet [.ref (G.2.2 + r0), .int x1, .int x2, .int x3, .int x4] h (some (.int out.1)) out.2 0 0 0 := by
  refine r_met (by decide +kernel) (Nat.le_of_ble_eq_true rfl) ?_
  intro p e s m args below meth c ls C hr hlk hnm hR hS hl
  have hE : Ext h h := Ext.rf
  have hl : lv_has ls 8 [(0, .ref (G.2.2 + r0)), (1, .int x1), (2, .int x2), (3, .int x3), (4, .int x4)] := hl
  rw [f_X10_sheet] at hf
  refine lv_aload_n C.x C.b dX10_sheet_0 rfl (lv_at hl 0 rfl) ?_
  refine lv_iconst (v := (0 : Int32)) C.x C.b dX10_sheet_1 (by decide) ?_
  refine r_puti C hR hS t_r0 fl_X10_103 fp_X10_10_0 rfl dX10_sheet_2 (fun H locs hR hS => ?_)
  obtain ⟨h1, e_h1⟩ : ∃ y, y = upI h r0 0 (0 : Int32) := ⟨_, rfl⟩
  rw [← e_h1] at hR
  have hf := lt_e hf e_h1
  have hE := eI e_h1 hE
  have t_r0 := tI e_h1 t_r0
  refine lv_iload_n C.x C.b dX10_sheet_5 rfl (lv_at hl 1 rfl) ?_
  refine lv_i2l C.x C.b dX10_sheet_6 rfl ?_
  refine lv_lconst (v := (0 : Int64)) C.x C.b dX10_sheet_7 (by decide) ?_
  refine lv_ldc2 C.x C.b C.ow (C.ts _ lk_X10_303) dX10_sheet_8 ?_
  obtain ⟨q2, h_q2, hf⟩ := bd_e hf
  refine r_callS (As := [.long (x1.toInt64), .long (0 : Int64), .long (3 : Int64)]) (rest := []) C hR hS mk_X10_in cl_X10_117 (k_X10_in h_q2) ⟨⟨Nat.le_of_ble_eq_true rfl, Nat.le_of_ble_eq_true rfl⟩, ⟨rfl, rfl⟩, Nat.le_of_ble_eq_true rfl, Nat.le_of_ble_eq_true rfl⟩ rfl hl.1 rfl (Nat.le_of_ble_eq_true rfl) dX10_sheet_11 (fun H locs hR hS hE1 z_q2 => ?_)
  have z_q2 := z_q2 _ rfl
  refine lv_if_eq (tgt := 23) C.x C.b dX10_sheet_14 (by decide) (fun c3 => ?_) (fun c3 => ?_)
  · have hf := it_t hf c3
    refine lv_iconst (v := (-1 : Int32)) C.x C.b dX10_sheet_23 (by decide) ?_
    have hf := so_e hf
    subst hf
    exact r_iret C hr hlk hR hE hS dX10_sheet_24
  · have hf := it_f hf c3
    refine lv_iload_n C.x C.b dX10_sheet_17 rfl (lv_at hl 2 rfl) ?_
    refine lv_bipush (v := (8 : Int32)) C.x C.b dX10_sheet_18 (by decide) ?_
    refine lv_icmp_le (tgt := 25) C.x C.b dX10_sheet_20 (by decide) (fun c4 => ?_) (fun c4 => ?_)
    · have hf := it_t hf c4
      refine lv_iload_n C.x C.b dX10_sheet_25 rfl (lv_at hl 1 rfl) ?_
      refine lv_iconst (v := (3 : Int32)) C.x C.b dX10_sheet_26 (by decide) ?_
      refine lv_icmp_eq (tgt := 37) C.x C.b dX10_sheet_27 (by decide) (fun c5 => ?_) (fun c5 => ?_)
      · have hf := it_t hf c5
        exact w_X10_sheet_37 C hr hlk _ _ _ _ hf hE hR hS t_r0 (lv_sub hl [0, 1, 2, 3, 4] rfl)
      · have hf := it_f hf c5
        refine lv_iload_n C.x C.b dX10_sheet_30 rfl (lv_at hl 2 rfl) ?_
        refine lv_if_ge (tgt := 37) C.x C.b dX10_sheet_31 (by decide) (fun c6 => ?_) (fun c6 => ?_)
        · have hf := it_t hf c6
          exact w_X10_sheet_37 C hr hlk _ _ _ _ hf hE hR hS t_r0 (lv_sub hl [0, 1, 2, 3, 4] rfl)
        · have hf := it_f hf c6
          refine lv_bipush (v := (-2 : Int32)) C.x C.b dX10_sheet_34 (by decide) ?_
          have hf := so_e hf
          subst hf
          exact r_iret C hr hlk hR hE hS dX10_sheet_36
    · have hf := it_f hf c4
      refine lv_iconst (v := (-1 : Int32)) C.x C.b dX10_sheet_23 (by decide) ?_
      have hf := so_e hf
      subst hf
      exact r_iret C hr hlk hR hE hS dX10_sheet_24

def rm_X10_putsBy : Room := { frames := 0, cells := 0, slots := 0, locals := 0 }
def P_X10_putsBy_2 (G : Gt) (l : Launch) (p : Program) (e : Env) (s : State) (m : MethodId) (args : Array Value) (below : List Frame) (meth : Method) (c : Code) (h0 : Hp) (out : Hp) (r0 : Nat) (k : Hp → Int32 → Option Hp) : Prop := ∀ (H : Heap) (locs : List Loc) (ls : Array Slot) (h : Hp) (x1 : Int32), k h x1 = some out → Ext h0 h → Rel G h H → va_S (AA G.2.2) s.heap H locs → hpT h r0 = (1, 10) → lv_has ls 2 [(0, .ref (G.2.2 + r0)), (1, .int x1)] → W p l e rm_X10_putsBy s m args below meth c H locs 0 0 (MQ below (Qm G h0 out (none) 0) args s 0 0 (AA G.2.2)) (F0 m 2 ls [])
set_option maxRecDepth 100000 in
set_option maxHeartbeats 4000000 in
theorem w_X10_putsBy_2 {G : Gt} {l : Launch} {p : Program} {e : Env} {s : State} {m : MethodId} {args : Array Value} {below : List Frame} {meth : Method} {c : Code}  {h0 : Hp} {out : Hp} {r0 : Nat}  (C : Cx G p m c cX10_putsBy 2 s args RX10) (hr : meth.sig.returnType = none) (hlk : meth.locks = false)   (n : Nat) : P_X10_putsBy_2 G l p e s m args below meth c h0 out r0 (f_X10_putsBy_2 r0 n) := by
  induction n with
  | zero => intro H locs ls h x1 hf hE hR hS t_r0 hl; cases hf
  | succ n hk2 =>
    intro H locs ls h x1 hf hE hR hS t_r0 hl
    rw [f_X10_putsBy_2] at hf
    obtain ⟨k2, e_k2⟩ : ∃ y, y = f_X10_putsBy_2 r0 n := ⟨_, rfl⟩
    have hf := lt_e hf e_k2
    rw [← e_k2] at hk2
    refine lv_iload_n C.x C.b dX10_putsBy_2 rfl (lv_at hl 1 rfl) ?_
    refine lv_bipush (v := (51 : Int32)) C.x C.b dX10_putsBy_3 (by decide) ?_
    refine lv_icmp_ge (tgt := 34) C.x C.b dX10_putsBy_5 (by decide) (fun c1 => ?_) (fun c1 => ?_)
    · have hf := it_t hf c1
      have hf := so_e hf
      subst hf
      exact r_vret C hr hlk hR hE hS dX10_putsBy_34
    · have hf := it_f hf c1
      refine lv_aload_n C.x C.b dX10_putsBy_8 rfl (lv_at hl 0 rfl) ?_
      obtain ⟨g2, hf⟩ := gd_e hf
      refine r_getr C hR t_r0 fl_X10_48 (by decide) (nz_e g2) dX10_putsBy_9 (fun tq3 => ?_)
      have tg2 := okA tq3 rfl
      refine lv_bipush (v := (51 : Int32)) C.x C.b dX10_putsBy_12 (by decide) ?_
      refine lv_aload_n C.x C.b dX10_putsBy_14 rfl (lv_at hl 0 rfl) ?_
      refine r_geti C hR t_r0 fl_X10_191 rfl dX10_putsBy_15 ?_
      refine lv_imul C.x C.b dX10_putsBy_18 ?_
      refine lv_iload_n C.x C.b dX10_putsBy_19 rfl (lv_at hl 1 rfl) ?_
      refine lv_iadd C.x C.b dX10_putsBy_20 ?_
      refine lv_aload_n C.x C.b dX10_putsBy_21 rfl (lv_at hl 0 rfl) ?_
      obtain ⟨g4, hf⟩ := gd_e hf
      refine r_getr C hR t_r0 fl_X10_20 (by decide) (nz_e g4) dX10_putsBy_22 (fun tq5 => ?_)
      have tg4 := okA tq5 rfl
      refine lv_iload_n C.x C.b dX10_putsBy_25 rfl (lv_at hl 1 rfl) ?_
      obtain ⟨g6, hf⟩ := gd_e hf
      refine r_iald C hR tg4 g6 dX10_putsBy_26 ?_
      obtain ⟨g7, hf⟩ := gd_e hf
      refine r_iast C hR hS tg2 g7 dX10_putsBy_27 (fun H locs hR hS => ?_)
      obtain ⟨h8, e_h8⟩ : ∃ y, y = upI h (hpR h r0 23) (ix (((51 : Int32) * (hpI h r0 22)) + x1)) (hpI h (hpR h r0 6) (ix x1)) := ⟨_, rfl⟩
      rw [← e_h8] at hR
      have hf := lt_e hf e_h8
      have hE := eI e_h8 hE
      have t_r0 := tI e_h8 t_r0
      obtain ⟨v9, e_v9⟩ : ∃ y : Int32, y = x1 + (1 : Int32) := ⟨_, rfl⟩
      have hf := lt_e hf e_v9
      refine lv_iinc (v := v9) (lv' := [(1, .int v9), (0, .ref (G.2.2 + r0))]) C.x C.b dX10_putsBy_28 hl (k := 1) rfl (by rw [e_v9]; rfl) (by decide) rfl (fun ls hl => ?_)
      refine lv_goto (tgt := 2) C.x C.b dX10_putsBy_31 (by decide) ?_
      exact hk2 _ _ _ _ _ hf hE hR hS t_r0 (lv_sub hl [1, 0] rfl)
set_option maxRecDepth 100000 in
set_option maxHeartbeats 4000000 in
theorem k_X10_putsBy {G : Gt} {l : Launch}  {h : Hp} {r0 : Nat} {out : Hp} (t_r0 : hpT h r0 = (1, 10))  (hf : f_X10_putsBy  h r0 = some out) : Mt G l yX10_putsBy cX10_putsBy 2 (none) rm_X10_putsBy [.ref (G.2.2 + r0)] h (none) out 0 0 0 := by
  refine r_met (by decide +kernel) (Nat.le_of_ble_eq_true rfl) ?_
  intro p e s m args below meth c ls C hr hlk hnm hR hS hl
  have hE : Ext h h := Ext.rf
  have hl : lv_has ls 2 [(0, .ref (G.2.2 + r0))] := hl
  rw [f_X10_putsBy] at hf
  refine lv_iconst (v := (0 : Int32)) C.x C.b dX10_putsBy_0 (by decide) ?_
  refine lv_istore_n (lv' := [(1, .int (0 : Int32)), (0, .ref (G.2.2 + r0))]) C.x C.b dX10_putsBy_1 rfl hl (by decide) rfl (fun ls hl => ?_)
  exact w_X10_putsBy_2 C hr hlk FU _ _ _ _ _ hf hE hR hS t_r0 (lv_sub hl [1, 0] rfl)

def rm_X10_adds : Room := { frames := 0, cells := 0, slots := 0, locals := 0 }
def P_X10_adds_21 (G : Gt) (l : Launch) (p : Program) (e : Env) (s : State) (m : MethodId) (args : Array Value) (below : List Frame) (meth : Method) (c : Code) (h0 : Hp) (out : (Int32 × Hp)) (r0 : Nat) (x1 : Int32) (k : Hp → Int32 → Option (Int32 × Hp)) : Prop := ∀ (H : Heap) (locs : List Loc) (ls : Array Slot) (h : Hp) (x2 : Int32), k h x2 = some out → Ext h0 h → Rel G h H → va_S (AA G.2.2) s.heap H locs → hpT h r0 = (1, 10) → lv_has ls 3 [(0, .ref (G.2.2 + r0)), (1, .int x1), (2, .int x2)] → W p l e rm_X10_adds s m args below meth c H locs 0 0 (MQ below (Qm G h0 out.2 (some (.int out.1)) 0) args s 0 0 (AA G.2.2)) (F0 m 21 ls [])
set_option maxRecDepth 100000 in
set_option maxHeartbeats 4000000 in
theorem w_X10_adds_21 {G : Gt} {l : Launch} {p : Program} {e : Env} {s : State} {m : MethodId} {args : Array Value} {below : List Frame} {meth : Method} {c : Code}  {h0 : Hp} {out : (Int32 × Hp)} {r0 : Nat} {x1 : Int32}  (C : Cx G p m c cX10_adds 3 s args RX10) (hr : meth.sig.returnType = some .int) (hlk : meth.locks = false)   (n : Nat) : P_X10_adds_21 G l p e s m args below meth c h0 out r0 x1 (f_X10_adds_21 r0 x1 n) := by
  induction n with
  | zero => intro H locs ls h x2 hf hE hR hS t_r0 hl; cases hf
  | succ n hk21 =>
    intro H locs ls h x2 hf hE hR hS t_r0 hl
    rw [f_X10_adds_21] at hf
    obtain ⟨k21, e_k21⟩ : ∃ y, y = f_X10_adds_21 r0 x1 n := ⟨_, rfl⟩
    have hf := lt_e hf e_k21
    rw [← e_k21] at hk21
    refine lv_iload_n C.x C.b dX10_adds_21 rfl (lv_at hl 2 rfl) ?_
    refine lv_sipush (v := (765 : Int32)) C.x C.b dX10_adds_22 (by decide) ?_
    refine lv_icmp_ge (tgt := 49) C.x C.b dX10_adds_25 (by decide) (fun c3 => ?_) (fun c3 => ?_)
    · have hf := it_t hf c3
      refine lv_aload_n C.x C.b dX10_adds_49 rfl (lv_at hl 0 rfl) ?_
      refine lv_dup C.x C.b dX10_adds_50 rfl ?_
      refine r_geti C hR t_r0 fl_X10_191 rfl dX10_adds_51 ?_
      refine lv_iconst (v := (1 : Int32)) C.x C.b dX10_adds_54 (by decide) ?_
      refine lv_isub C.x C.b dX10_adds_55 ?_
      refine r_puti C hR hS t_r0 fl_X10_191 fp_X10_10_22 rfl dX10_adds_56 (fun H locs hR hS => ?_)
      obtain ⟨h4, e_h4⟩ : ∃ y, y = upI h r0 22 ((hpI h r0 22) - (1 : Int32)) := ⟨_, rfl⟩
      rw [← e_h4] at hR
      have hf := lt_e hf e_h4
      have hE := eI e_h4 hE
      have t_r0 := tI e_h4 t_r0
      refine lv_iload_n C.x C.b dX10_adds_59 rfl (lv_at hl 1 rfl) ?_
      have hf := so_e hf
      subst hf
      exact r_iret C hr hlk hR hE hS dX10_adds_60
    · have hf := it_f hf c3
      refine lv_aload_n C.x C.b dX10_adds_28 rfl (lv_at hl 0 rfl) ?_
      obtain ⟨g5, hf⟩ := gd_e hf
      refine r_getr C hR t_r0 fl_X10_48 (by decide) (nz_e g5) dX10_adds_29 (fun tq6 => ?_)
      have tg5 := okA tq6 rfl
      refine lv_iload_n C.x C.b dX10_adds_32 rfl (lv_at hl 2 rfl) ?_
      refine lv_aload_n C.x C.b dX10_adds_33 rfl (lv_at hl 0 rfl) ?_
      refine r_getr C hR t_r0 fl_X10_48 (by decide) (nz_e g5) dX10_adds_34 (fun tq7 => ?_)
      refine lv_iload_n C.x C.b dX10_adds_37 rfl (lv_at hl 2 rfl) ?_
      refine lv_bipush (v := (51 : Int32)) C.x C.b dX10_adds_38 (by decide) ?_
      refine lv_iadd C.x C.b dX10_adds_40 ?_
      obtain ⟨g8, hf⟩ := gd_e hf
      refine r_iald C hR tg5 g8 dX10_adds_41 ?_
      obtain ⟨g9, hf⟩ := gd_e hf
      refine r_iast C hR hS tg5 g9 dX10_adds_42 (fun H locs hR hS => ?_)
      obtain ⟨h10, e_h10⟩ : ∃ y, y = upI h (hpR h r0 23) (ix x2) (hpI h (hpR h r0 23) (ix (x2 + (51 : Int32)))) := ⟨_, rfl⟩
      rw [← e_h10] at hR
      have hf := lt_e hf e_h10
      have hE := eI e_h10 hE
      have t_r0 := tI e_h10 t_r0
      obtain ⟨v11, e_v11⟩ : ∃ y : Int32, y = x2 + (1 : Int32) := ⟨_, rfl⟩
      have hf := lt_e hf e_v11
      refine lv_iinc (v := v11) (lv' := [(2, .int v11), (0, .ref (G.2.2 + r0)), (1, .int x1)]) C.x C.b dX10_adds_43 hl (k := 2) rfl (by rw [e_v11]; rfl) (by decide) rfl (fun ls hl => ?_)
      refine lv_goto (tgt := 21) C.x C.b dX10_adds_46 (by decide) ?_
      exact hk21 _ _ _ _ _ hf hE hR hS t_r0 (lv_sub hl [1, 2, 0] rfl)
set_option maxRecDepth 100000 in
set_option maxHeartbeats 4000000 in
theorem k_X10_adds {G : Gt} {l : Launch}  {h : Hp} {r0 : Nat} {x1 : Int32} {out : (Int32 × Hp)} (t_r0 : hpT h r0 = (1, 10))  (hf : f_X10_adds  h r0 x1 = some out) : Mt G l yX10_adds cX10_adds 3 (some .int) rm_X10_adds [.ref (G.2.2 + r0), .int x1] h (some (.int out.1)) out.2 0 0 0 := by
  refine r_met (by decide +kernel) (Nat.le_of_ble_eq_true rfl) ?_
  intro p e s m args below meth c ls C hr hlk hnm hR hS hl
  have hE : Ext h h := Ext.rf
  have hl : lv_has ls 3 [(0, .ref (G.2.2 + r0)), (1, .int x1)] := hl
  rw [f_X10_adds] at hf
  refine lv_aload_n C.x C.b dX10_adds_0 rfl (lv_at hl 0 rfl) ?_
  refine lv_dup C.x C.b dX10_adds_1 rfl ?_
  refine r_geti C hR t_r0 fl_X10_191 rfl dX10_adds_2 ?_
  refine lv_iconst (v := (1 : Int32)) C.x C.b dX10_adds_5 (by decide) ?_
  refine lv_iadd C.x C.b dX10_adds_6 ?_
  refine r_puti C hR hS t_r0 fl_X10_191 fp_X10_10_22 rfl dX10_adds_7 (fun H locs hR hS => ?_)
  obtain ⟨h1, e_h1⟩ : ∃ y, y = upI h r0 22 ((hpI h r0 22) + (1 : Int32)) := ⟨_, rfl⟩
  rw [← e_h1] at hR
  have hf := lt_e hf e_h1
  have hE := eI e_h1 hE
  have t_r0 := tI e_h1 t_r0
  refine lv_aload_n C.x C.b dX10_adds_10 rfl (lv_at hl 0 rfl) ?_
  refine r_geti C hR t_r0 fl_X10_191 rfl dX10_adds_11 ?_
  refine lv_bipush (v := (15 : Int32)) C.x C.b dX10_adds_14 (by decide) ?_
  refine lv_icmp_le (tgt := 59) C.x C.b dX10_adds_16 (by decide) (fun c2 => ?_) (fun c2 => ?_)
  · have hf := it_t hf c2
    refine lv_iload_n C.x C.b dX10_adds_59 rfl (lv_at hl 1 rfl) ?_
    have hf := so_e hf
    subst hf
    exact r_iret C hr hlk hR hE hS dX10_adds_60
  · have hf := it_f hf c2
    refine lv_iconst (v := (0 : Int32)) C.x C.b dX10_adds_19 (by decide) ?_
    refine lv_istore_n (lv' := [(2, .int (0 : Int32)), (0, .ref (G.2.2 + r0)), (1, .int x1)]) C.x C.b dX10_adds_20 rfl hl (by decide) rfl (fun ls hl => ?_)
    exact w_X10_adds_21 C hr hlk FU _ _ _ _ _ hf hE hR hS t_r0 (lv_sub hl [1, 2, 0] rfl)

def rm_X10_counted : Room := { frames := 1, cells := 0, slots := 0, locals := 22 }
set_option maxRecDepth 100000 in
set_option maxHeartbeats 4000000 in
theorem k_X10_counted {G : Gt} {l : Launch}  {h : Hp} {r0 : Nat} {x1 : Int32} {out : (Int32 × Hp)} (t_r0 : hpT h r0 = (1, 10))  (hf : f_X10_counted  h r0 x1 = some out) : Mt G l yX10_counted cX10_counted 2 (some .int) rm_X10_counted [.ref (G.2.2 + r0), .int x1] h (some (.int out.1)) out.2 0 0 0 := by
  refine r_met (by decide +kernel) (Nat.le_of_ble_eq_true rfl) ?_
  intro p e s m args below meth c ls C hr hlk hnm hR hS hl
  have hE : Ext h h := Ext.rf
  have hl : lv_has ls 2 [(0, .ref (G.2.2 + r0)), (1, .int x1)] := hl
  rw [f_X10_counted] at hf
  refine lv_iload_n C.x C.b dX10_counted_0 rfl (lv_at hl 1 rfl) ?_
  refine lv_if_ge (tgt := 8) C.x C.b dX10_counted_1 (by decide) (fun c1 => ?_) (fun c1 => ?_)
  · have hf := it_t hf c1
    refine lv_aload_n C.x C.b dX10_counted_8 rfl (lv_at hl 0 rfl) ?_
    refine lv_iload_n C.x C.b dX10_counted_9 rfl (lv_at hl 1 rfl) ?_
    obtain ⟨q2, h_q2, hf⟩ := bd_e hf
    refine r_callV (As := [.int x1]) (rest := []) C hR hS t_r0 rfl mk_X10_adds cl_X10_308 (k_X10_adds t_r0 h_q2) ⟨⟨Nat.le_of_ble_eq_true rfl, Nat.le_of_ble_eq_true rfl⟩, ⟨rfl, rfl⟩, Nat.le_of_ble_eq_true rfl, Nat.le_of_ble_eq_true rfl⟩ rfl hl.1 rfl (Nat.le_of_ble_eq_true rfl) dX10_counted_10 (fun H locs hR hS hE1 z_q2 => ?_)
    have hE := hE.tr hE1
    have t_r0 := hE1.at t_r0 (by decide)
    have hf := so_e hf
    subst hf
    exact r_iret C hr hlk hR hE hS dX10_counted_13
  · have hf := it_f hf c1
    refine lv_iload_n C.x C.b dX10_counted_4 rfl (lv_at hl 1 rfl) ?_
    refine lv_goto (tgt := 13) C.x C.b dX10_counted_5 (by decide) ?_
    have hf := so_e hf
    subst hf
    exact r_iret C hr hlk hR hE hS dX10_counted_13

def rm_X10_undo : Room := { frames := 0, cells := 0, slots := 0, locals := 0 }
def P_X10_undo_26 (G : Gt) (l : Launch) (p : Program) (e : Env) (s : State) (m : MethodId) (args : Array Value) (below : List Frame) (meth : Method) (c : Code) (h0 : Hp) (out : (Int32 × Hp)) (r0 : Nat) (k : Hp → Int32 → Option (Int32 × Hp)) : Prop := ∀ (H : Heap) (locs : List Loc) (ls : Array Slot) (h : Hp) (x1 : Int32), k h x1 = some out → Ext h0 h → Rel G h H → va_S (AA G.2.2) s.heap H locs → hpT h r0 = (1, 10) → lv_has ls 2 [(0, .ref (G.2.2 + r0)), (1, .int x1)] → W p l e rm_X10_undo s m args below meth c H locs 0 0 (MQ below (Qm G h0 out.2 (some (.int out.1)) 0) args s 0 0 (AA G.2.2)) (F0 m 26 ls [])
set_option maxRecDepth 100000 in
set_option maxHeartbeats 4000000 in
theorem w_X10_undo_26 {G : Gt} {l : Launch} {p : Program} {e : Env} {s : State} {m : MethodId} {args : Array Value} {below : List Frame} {meth : Method} {c : Code}  {h0 : Hp} {out : (Int32 × Hp)} {r0 : Nat}  (C : Cx G p m c cX10_undo 2 s args RX10) (hr : meth.sig.returnType = some .int) (hlk : meth.locks = false)   (n : Nat) : P_X10_undo_26 G l p e s m args below meth c h0 out r0 (f_X10_undo_26 r0 n) := by
  induction n with
  | zero => intro H locs ls h x1 hf hE hR hS t_r0 hl; cases hf
  | succ n hk26 =>
    intro H locs ls h x1 hf hE hR hS t_r0 hl
    rw [f_X10_undo_26] at hf
    obtain ⟨k26, e_k26⟩ : ∃ y, y = f_X10_undo_26 r0 n := ⟨_, rfl⟩
    have hf := lt_e hf e_k26
    rw [← e_k26] at hk26
    refine lv_iload_n C.x C.b dX10_undo_26 rfl (lv_at hl 1 rfl) ?_
    refine lv_bipush (v := (51 : Int32)) C.x C.b dX10_undo_27 (by decide) ?_
    refine lv_icmp_ge (tgt := 58) C.x C.b dX10_undo_29 (by decide) (fun c4 => ?_) (fun c4 => ?_)
    · have hf := it_t hf c4
      refine lv_aload_n C.x C.b dX10_undo_58 rfl (lv_at hl 0 rfl) ?_
      refine r_geti C hR t_r0 fl_X10_191 rfl dX10_undo_59 ?_
      have hf := so_e hf
      subst hf
      exact r_iret C hr hlk hR hE hS dX10_undo_62
    · have hf := it_f hf c4
      refine lv_aload_n C.x C.b dX10_undo_32 rfl (lv_at hl 0 rfl) ?_
      obtain ⟨g5, hf⟩ := gd_e hf
      refine r_getr C hR t_r0 fl_X10_20 (by decide) (nz_e g5) dX10_undo_33 (fun tq6 => ?_)
      have tg5 := okA tq6 rfl
      refine lv_iload_n C.x C.b dX10_undo_36 rfl (lv_at hl 1 rfl) ?_
      refine lv_aload_n C.x C.b dX10_undo_37 rfl (lv_at hl 0 rfl) ?_
      obtain ⟨g7, hf⟩ := gd_e hf
      refine r_getr C hR t_r0 fl_X10_48 (by decide) (nz_e g7) dX10_undo_38 (fun tq8 => ?_)
      have tg7 := okA tq8 rfl
      refine lv_bipush (v := (51 : Int32)) C.x C.b dX10_undo_41 (by decide) ?_
      refine lv_aload_n C.x C.b dX10_undo_43 rfl (lv_at hl 0 rfl) ?_
      refine r_geti C hR t_r0 fl_X10_191 rfl dX10_undo_44 ?_
      refine lv_imul C.x C.b dX10_undo_47 ?_
      refine lv_iload_n C.x C.b dX10_undo_48 rfl (lv_at hl 1 rfl) ?_
      refine lv_iadd C.x C.b dX10_undo_49 ?_
      obtain ⟨g9, hf⟩ := gd_e hf
      refine r_iald C hR tg7 g9 dX10_undo_50 ?_
      obtain ⟨g10, hf⟩ := gd_e hf
      refine r_iast C hR hS tg5 g10 dX10_undo_51 (fun H locs hR hS => ?_)
      obtain ⟨h11, e_h11⟩ : ∃ y, y = upI h (hpR h r0 6) (ix x1) (hpI h (hpR h r0 23) (ix (((51 : Int32) * (hpI h r0 22)) + x1))) := ⟨_, rfl⟩
      rw [← e_h11] at hR
      have hf := lt_e hf e_h11
      have hE := eI e_h11 hE
      have t_r0 := tI e_h11 t_r0
      obtain ⟨v12, e_v12⟩ : ∃ y : Int32, y = x1 + (1 : Int32) := ⟨_, rfl⟩
      have hf := lt_e hf e_v12
      refine lv_iinc (v := v12) (lv' := [(1, .int v12), (0, .ref (G.2.2 + r0))]) C.x C.b dX10_undo_52 hl (k := 1) rfl (by rw [e_v12]; rfl) (by decide) rfl (fun ls hl => ?_)
      refine lv_goto (tgt := 26) C.x C.b dX10_undo_55 (by decide) ?_
      exact hk26 _ _ _ _ _ hf hE hR hS t_r0 (lv_sub hl [1, 0] rfl)
set_option maxRecDepth 100000 in
set_option maxHeartbeats 4000000 in
theorem k_X10_undo {G : Gt} {l : Launch}  {h : Hp} {r0 : Nat} {out : (Int32 × Hp)} (t_r0 : hpT h r0 = (1, 10))  (hf : f_X10_undo  h r0 = some out) : Mt G l yX10_undo cX10_undo 2 (some .int) rm_X10_undo [.ref (G.2.2 + r0)] h (some (.int out.1)) out.2 0 0 0 := by
  refine r_met (by decide +kernel) (Nat.le_of_ble_eq_true rfl) ?_
  intro p e s m args below meth c ls C hr hlk hnm hR hS hl
  have hE : Ext h h := Ext.rf
  have hl : lv_has ls 2 [(0, .ref (G.2.2 + r0))] := hl
  rw [f_X10_undo] at hf
  refine lv_aload_n C.x C.b dX10_undo_0 rfl (lv_at hl 0 rfl) ?_
  refine lv_iconst (v := (0 : Int32)) C.x C.b dX10_undo_1 (by decide) ?_
  refine r_puti C hR hS t_r0 fl_X10_103 fp_X10_10_0 rfl dX10_undo_2 (fun H locs hR hS => ?_)
  obtain ⟨h1, e_h1⟩ : ∃ y, y = upI h r0 0 (0 : Int32) := ⟨_, rfl⟩
  rw [← e_h1] at hR
  have hf := lt_e hf e_h1
  have hE := eI e_h1 hE
  have t_r0 := tI e_h1 t_r0
  refine lv_aload_n C.x C.b dX10_undo_5 rfl (lv_at hl 0 rfl) ?_
  refine r_geti C hR t_r0 fl_X10_191 rfl dX10_undo_6 ?_
  refine lv_if_ne (tgt := 14) C.x C.b dX10_undo_9 (by decide) (fun c2 => ?_) (fun c2 => ?_)
  · have hf := it_f hf c2
    refine lv_aload_n C.x C.b dX10_undo_14 rfl (lv_at hl 0 rfl) ?_
    refine lv_dup C.x C.b dX10_undo_15 rfl ?_
    refine r_geti C hR t_r0 fl_X10_191 rfl dX10_undo_16 ?_
    refine lv_iconst (v := (1 : Int32)) C.x C.b dX10_undo_19 (by decide) ?_
    refine lv_isub C.x C.b dX10_undo_20 ?_
    refine r_puti C hR hS t_r0 fl_X10_191 fp_X10_10_22 rfl dX10_undo_21 (fun H locs hR hS => ?_)
    obtain ⟨h3, e_h3⟩ : ∃ y, y = upI h1 r0 22 ((hpI h1 r0 22) - (1 : Int32)) := ⟨_, rfl⟩
    rw [← e_h3] at hR
    have hf := lt_e hf e_h3
    have hE := eI e_h3 hE
    have t_r0 := tI e_h3 t_r0
    refine lv_iconst (v := (0 : Int32)) C.x C.b dX10_undo_24 (by decide) ?_
    refine lv_istore_n (lv' := [(1, .int (0 : Int32)), (0, .ref (G.2.2 + r0))]) C.x C.b dX10_undo_25 rfl hl (by decide) rfl (fun ls hl => ?_)
    exact w_X10_undo_26 C hr hlk FU _ _ _ _ _ hf hE hR hS t_r0 (lv_sub hl [1, 0] rfl)
  · have hf := it_t hf c2
    refine lv_iconst (v := (-1 : Int32)) C.x C.b dX10_undo_12 (by decide) ?_
    have hf := so_e hf
    subst hf
    exact r_iret C hr hlk hR hE hS dX10_undo_13

