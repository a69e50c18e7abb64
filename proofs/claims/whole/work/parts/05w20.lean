def rm_X10_worthOf : Room := { frames := 0, cells := 0, slots := 0, locals := 0 }
def P_X10_worthOf_74 (G : Gt) (l : Launch) (p : Program) (e : Env) (s : State) (m : MethodId) (args : Array Value) (below : List Frame) (meth : Method) (c : Code) (h0 : Hp) (out : (Int32 × Hp)) (r0 : Nat) (x1 : Int32) (k : Hp → Int32 → Option (Int32 × Hp)) : Prop := ∀ (H : Heap) (locs : List Loc) (ls : Array Slot) (h : Hp) (x2 : Int32), k h x2 = some out → Ext h0 h → Rel G h H → va_S (AA G.2.2) s.heap H locs → hpT h r0 = (1, 10) → lv_has ls 4 [(0, .ref (G.2.2 + r0)), (1, .int x1), (2, .int x2)] → W p l e rm_X10_worthOf s m args below meth c H locs 0 0 (MQ below (Qm G h0 out.2 (some (.int out.1)) 0) args s 0 0 (AA G.2.2)) (F0 m 74 ls [])
def P_X10_worthOf_30 (G : Gt) (l : Launch) (p : Program) (e : Env) (s : State) (m : MethodId) (args : Array Value) (below : List Frame) (meth : Method) (c : Code) (h0 : Hp) (out : (Int32 × Hp)) (r0 : Nat) (x1 : Int32) (k : Hp → Int32 → Int32 → Option (Int32 × Hp)) : Prop := ∀ (H : Heap) (locs : List Loc) (ls : Array Slot) (h : Hp) (x2 : Int32) (x3 : Int32), k h x2 x3 = some out → Ext h0 h → Rel G h H → va_S (AA G.2.2) s.heap H locs → hpT h r0 = (1, 10) → lv_has ls 4 [(0, .ref (G.2.2 + r0)), (1, .int x1), (2, .int x2), (3, .int x3)] → W p l e rm_X10_worthOf s m args below meth c H locs 0 0 (MQ below (Qm G h0 out.2 (some (.int out.1)) 0) args s 0 0 (AA G.2.2)) (F0 m 30 ls [])
def P_X10_worthOf_23 (G : Gt) (l : Launch) (p : Program) (e : Env) (s : State) (m : MethodId) (args : Array Value) (below : List Frame) (meth : Method) (c : Code) (h0 : Hp) (out : (Int32 × Hp)) (r0 : Nat) (x1 : Int32) (k : Hp → Int32 → Option (Int32 × Hp)) : Prop := ∀ (H : Heap) (locs : List Loc) (ls : Array Slot) (h : Hp) (x2 : Int32), k h x2 = some out → Ext h0 h → Rel G h H → va_S (AA G.2.2) s.heap H locs → hpT h r0 = (1, 10) → lv_has ls 4 [(0, .ref (G.2.2 + r0)), (1, .int x1), (2, .int x2)] → W p l e rm_X10_worthOf s m args below meth c H locs 0 0 (MQ below (Qm G h0 out.2 (some (.int out.1)) 0) args s 0 0 (AA G.2.2)) (F0 m 23 ls [])
def P_X10_worthOf_2 (G : Gt) (l : Launch) (p : Program) (e : Env) (s : State) (m : MethodId) (args : Array Value) (below : List Frame) (meth : Method) (c : Code) (h0 : Hp) (out : (Int32 × Hp)) (r0 : Nat) (x1 : Int32) (k : Hp → Int32 → Option (Int32 × Hp)) : Prop := ∀ (H : Heap) (locs : List Loc) (ls : Array Slot) (h : Hp) (x2 : Int32), k h x2 = some out → Ext h0 h → Rel G h H → va_S (AA G.2.2) s.heap H locs → hpT h r0 = (1, 10) → lv_has ls 4 [(0, .ref (G.2.2 + r0)), (1, .int x1), (2, .int x2)] → W p l e rm_X10_worthOf s m args below meth c H locs 0 0 (MQ below (Qm G h0 out.2 (some (.int out.1)) 0) args s 0 0 (AA G.2.2)) (F0 m 2 ls [])
set_option maxRecDepth 100000 in
set_option maxHeartbeats 4000000 in
theorem w_X10_worthOf_74 {G : Gt} {l : Launch} {p : Program} {e : Env} {s : State} {m : MethodId} {args : Array Value} {below : List Frame} {meth : Method} {c : Code}  {h0 : Hp} {out : (Int32 × Hp)} {r0 : Nat} {x1 : Int32}  (C : Cx G p m c cX10_worthOf 4 s args RX10) (hr : meth.sig.returnType = some .int) (hlk : meth.locks = false)   (n : Nat) : P_X10_worthOf_74 G l p e s m args below meth c h0 out r0 x1 (f_X10_worthOf_74 r0 x1 n) := by
  induction n with
  | zero => intro H locs ls h x2 hf hE hR hS t_r0 hl; cases hf
  | succ n hk74 =>
    intro H locs ls h x2 hf hE hR hS t_r0 hl
    rw [f_X10_worthOf_74] at hf
    obtain ⟨k74, e_k74⟩ : ∃ y, y = f_X10_worthOf_74 r0 x1 n := ⟨_, rfl⟩
    have hf := lt_e hf e_k74
    rw [← e_k74] at hk74
    refine lv_aload_n C.x C.b dX10_worthOf_74 rfl (lv_at hl 0 rfl) ?_
    obtain ⟨g20, hf⟩ := gd_e hf
    refine r_getr C hR t_r0 fl_X10_87 (by decide) (nz_e g20) dX10_worthOf_75 (fun tq21 => ?_)
    have tg20 := okA tq21 rfl
    refine lv_iload_n C.x C.b dX10_worthOf_78 rfl (lv_at hl 2 rfl) ?_
    obtain ⟨g22, hf⟩ := gd_e hf
    refine r_zald C hR tg20 g22 dX10_worthOf_79 ?_
    refine lv_if_eq (tgt := 89) C.x C.b dX10_worthOf_80 (by decide) (fun c23 => ?_) (fun c23 => ?_)
    · have hf := it_t hf c23
      refine lv_iload_n C.x C.b dX10_worthOf_89 rfl (lv_at hl 2 rfl) ?_
      have hf := so_e hf
      subst hf
      exact r_iret C hr hlk hR hE hS dX10_worthOf_90
    · have hf := it_f hf c23
      obtain ⟨v24, e_v24⟩ : ∃ y : Int32, y = x2 + (1 : Int32) := ⟨_, rfl⟩
      have hf := lt_e hf e_v24
      refine lv_iinc (v := v24) (lv' := [(2, .int v24), (0, .ref (G.2.2 + r0)), (1, .int x1)]) C.x C.b dX10_worthOf_83 hl (k := 2) rfl (by rw [e_v24]; rfl) (by decide) rfl (fun ls hl => ?_)
      refine lv_goto (tgt := 74) C.x C.b dX10_worthOf_86 (by decide) ?_
      exact hk74 _ _ _ _ _ hf hE hR hS t_r0 (lv_sub hl [1, 2, 0] rfl)
set_option maxRecDepth 100000 in
set_option maxHeartbeats 4000000 in
theorem w_X10_worthOf_30 {G : Gt} {l : Launch} {p : Program} {e : Env} {s : State} {m : MethodId} {args : Array Value} {below : List Frame} {meth : Method} {c : Code}  {h0 : Hp} {out : (Int32 × Hp)} {r0 : Nat} {x1 : Int32} {k23 : Hp → Int32 → Option (Int32 × Hp)} (C : Cx G p m c cX10_worthOf 4 s args RX10) (hr : meth.sig.returnType = some .int) (hlk : meth.locks = false)  (hk23 : P_X10_worthOf_23 G l p e s m args below meth c h0 out r0 x1 k23) (n : Nat) : P_X10_worthOf_30 G l p e s m args below meth c h0 out r0 x1 (f_X10_worthOf_30 r0 x1 k23 n) := by
  induction n with
  | zero => intro H locs ls h x2 x3 hf hE hR hS t_r0 hl; cases hf
  | succ n hk30 =>
    intro H locs ls h x2 x3 hf hE hR hS t_r0 hl
    rw [f_X10_worthOf_30] at hf
    obtain ⟨k30, e_k30⟩ : ∃ y, y = f_X10_worthOf_30 r0 x1 k23 n := ⟨_, rfl⟩
    have hf := lt_e hf e_k30
    rw [← e_k30] at hk30
    refine lv_iload_n C.x C.b dX10_worthOf_30 rfl (lv_at hl 3 rfl) ?_
    refine lv_iload_n C.x C.b dX10_worthOf_31 rfl (lv_at hl 2 rfl) ?_
    refine lv_iadd C.x C.b dX10_worthOf_32 ?_
    refine lv_iload_n C.x C.b dX10_worthOf_33 rfl (lv_at hl 1 rfl) ?_
    refine lv_icmp_gt (tgt := 66) C.x C.b dX10_worthOf_34 (by decide) (fun c8 => ?_) (fun c8 => ?_)
    · have hf := it_t hf c8
      obtain ⟨v9, e_v9⟩ : ∃ y : Int32, y = x2 + (1 : Int32) := ⟨_, rfl⟩
      have hf := lt_e hf e_v9
      refine lv_iinc (v := v9) (lv' := [(2, .int v9), (0, .ref (G.2.2 + r0)), (1, .int x1), (3, .int x3)]) C.x C.b dX10_worthOf_66 hl (k := 2) rfl (by rw [e_v9]; rfl) (by decide) rfl (fun ls hl => ?_)
      refine lv_goto (tgt := 23) C.x C.b dX10_worthOf_69 (by decide) ?_
      exact hk23 _ _ _ _ _ hf hE hR hS t_r0 (lv_sub hl [1, 2, 0] rfl)
    · have hf := it_f hf c8
      refine lv_aload_n C.x C.b dX10_worthOf_37 rfl (lv_at hl 0 rfl) ?_
      obtain ⟨g10, hf⟩ := gd_e hf
      refine r_getr C hR t_r0 fl_X10_87 (by decide) (nz_e g10) dX10_worthOf_38 (fun tq11 => ?_)
      have tg10 := okA tq11 rfl
      refine lv_aload_n C.x C.b dX10_worthOf_41 rfl (lv_at hl 0 rfl) ?_
      obtain ⟨g12, hf⟩ := gd_e hf
      refine r_getr C hR t_r0 fl_X10_84 (by decide) (nz_e g12) dX10_worthOf_42 (fun tq13 => ?_)
      have tg12 := okA tq13 rfl
      refine lv_iload_n C.x C.b dX10_worthOf_45 rfl (lv_at hl 3 rfl) ?_
      obtain ⟨g14, hf⟩ := gd_e hf
      refine r_iald C hR tg12 g14 dX10_worthOf_46 ?_
      refine lv_aload_n C.x C.b dX10_worthOf_47 rfl (lv_at hl 0 rfl) ?_
      refine r_getr C hR t_r0 fl_X10_84 (by decide) (nz_e g12) dX10_worthOf_48 (fun tq15 => ?_)
      refine lv_iload_n C.x C.b dX10_worthOf_51 rfl (lv_at hl 1 rfl) ?_
      refine lv_iload_n C.x C.b dX10_worthOf_52 rfl (lv_at hl 2 rfl) ?_
      refine lv_isub C.x C.b dX10_worthOf_53 ?_
      refine lv_iload_n C.x C.b dX10_worthOf_54 rfl (lv_at hl 3 rfl) ?_
      refine lv_isub C.x C.b dX10_worthOf_55 ?_
      obtain ⟨g16, hf⟩ := gd_e hf
      refine r_iald C hR tg12 g16 dX10_worthOf_56 ?_
      refine lv_ixor C.x C.b dX10_worthOf_57 ?_
      refine lv_iconst (v := (1 : Int32)) C.x C.b dX10_worthOf_58 (by decide) ?_
      obtain ⟨g17, hf⟩ := gd_e hf
      refine r_zast C hR hS tg10 g17 (vz_1) dX10_worthOf_59 (fun H locs hR hS => ?_)
      obtain ⟨h18, e_h18⟩ : ∃ y, y = upI h (hpR h r0 40) (ix ((hpI h (hpR h r0 39) (ix x3)) ^^^ (hpI h (hpR h r0 39) (ix ((x1 - x2) - x3))))) (1 : Int32) := ⟨_, rfl⟩
      rw [← e_h18] at hR
      have hf := lt_e hf e_h18
      have hE := eI e_h18 hE
      have t_r0 := tI e_h18 t_r0
      obtain ⟨v19, e_v19⟩ : ∃ y : Int32, y = x3 + (1 : Int32) := ⟨_, rfl⟩
      have hf := lt_e hf e_v19
      refine lv_iinc (v := v19) (lv' := [(3, .int v19), (0, .ref (G.2.2 + r0)), (1, .int x1), (2, .int x2)]) C.x C.b dX10_worthOf_60 hl (k := 3) rfl (by rw [e_v19]; rfl) (by decide) rfl (fun ls hl => ?_)
      refine lv_goto (tgt := 30) C.x C.b dX10_worthOf_63 (by decide) ?_
      exact hk30 _ _ _ _ _ _ hf hE hR hS t_r0 (lv_sub hl [1, 2, 3, 0] rfl)
set_option maxRecDepth 100000 in
set_option maxHeartbeats 4000000 in
theorem w_X10_worthOf_23 {G : Gt} {l : Launch} {p : Program} {e : Env} {s : State} {m : MethodId} {args : Array Value} {below : List Frame} {meth : Method} {c : Code}  {h0 : Hp} {out : (Int32 × Hp)} {r0 : Nat} {x1 : Int32}  (C : Cx G p m c cX10_worthOf 4 s args RX10) (hr : meth.sig.returnType = some .int) (hlk : meth.locks = false)   (n : Nat) : P_X10_worthOf_23 G l p e s m args below meth c h0 out r0 x1 (f_X10_worthOf_23 r0 x1 n) := by
  induction n with
  | zero => intro H locs ls h x2 hf hE hR hS t_r0 hl; cases hf
  | succ n hk23 =>
    intro H locs ls h x2 hf hE hR hS t_r0 hl
    rw [f_X10_worthOf_23] at hf
    obtain ⟨k23, e_k23⟩ : ∃ y, y = f_X10_worthOf_23 r0 x1 n := ⟨_, rfl⟩
    have hf := lt_e hf e_k23
    rw [← e_k23] at hk23
    refine lv_iload_n C.x C.b dX10_worthOf_23 rfl (lv_at hl 2 rfl) ?_
    refine lv_iconst (v := (3 : Int32)) C.x C.b dX10_worthOf_24 (by decide) ?_
    refine lv_icmp_gt (tgt := 72) C.x C.b dX10_worthOf_25 (by decide) (fun c7 => ?_) (fun c7 => ?_)
    · have hf := it_t hf c7
      refine lv_iconst (v := (0 : Int32)) C.x C.b dX10_worthOf_72 (by decide) ?_
      refine lv_istore_n (lv' := [(2, .int (0 : Int32)), (0, .ref (G.2.2 + r0)), (1, .int x1)]) C.x C.b dX10_worthOf_73 rfl hl (by decide) rfl (fun ls hl => ?_)
      exact w_X10_worthOf_74 C hr hlk FU _ _ _ _ _ hf hE hR hS t_r0 (lv_sub hl [1, 2, 0] rfl)
    · have hf := it_f hf c7
      refine lv_iconst (v := (0 : Int32)) C.x C.b dX10_worthOf_28 (by decide) ?_
      refine lv_istore_n (lv' := [(3, .int (0 : Int32)), (0, .ref (G.2.2 + r0)), (1, .int x1), (2, .int x2)]) C.x C.b dX10_worthOf_29 rfl hl (by decide) rfl (fun ls hl => ?_)
      exact w_X10_worthOf_30 C hr hlk hk23 FU _ _ _ _ _ _ hf hE hR hS t_r0 (lv_sub hl [1, 2, 3, 0] rfl)
set_option maxRecDepth 100000 in
set_option maxHeartbeats 4000000 in
theorem w_X10_worthOf_2 {G : Gt} {l : Launch} {p : Program} {e : Env} {s : State} {m : MethodId} {args : Array Value} {below : List Frame} {meth : Method} {c : Code}  {h0 : Hp} {out : (Int32 × Hp)} {r0 : Nat} {x1 : Int32}  (C : Cx G p m c cX10_worthOf 4 s args RX10) (hr : meth.sig.returnType = some .int) (hlk : meth.locks = false)   (n : Nat) : P_X10_worthOf_2 G l p e s m args below meth c h0 out r0 x1 (f_X10_worthOf_2 r0 x1 n) := by
  induction n with
  | zero => intro H locs ls h x2 hf hE hR hS t_r0 hl; cases hf
  | succ n hk2 =>
    intro H locs ls h x2 hf hE hR hS t_r0 hl
    rw [f_X10_worthOf_2] at hf
    obtain ⟨k2, e_k2⟩ : ∃ y, y = f_X10_worthOf_2 r0 x1 n := ⟨_, rfl⟩
    have hf := lt_e hf e_k2
    rw [← e_k2] at hk2
    refine lv_iload_n C.x C.b dX10_worthOf_2 rfl (lv_at hl 2 rfl) ?_
    refine lv_bipush (v := (64 : Int32)) C.x C.b dX10_worthOf_3 (by decide) ?_
    refine lv_icmp_ge (tgt := 21) C.x C.b dX10_worthOf_5 (by decide) (fun c1 => ?_) (fun c1 => ?_)
    · have hf := it_t hf c1
      refine lv_iconst (v := (1 : Int32)) C.x C.b dX10_worthOf_21 (by decide) ?_
      refine lv_istore_n (lv' := [(2, .int (1 : Int32)), (0, .ref (G.2.2 + r0)), (1, .int x1)]) C.x C.b dX10_worthOf_22 rfl hl (by decide) rfl (fun ls hl => ?_)
      exact w_X10_worthOf_23 C hr hlk FU _ _ _ _ _ hf hE hR hS t_r0 (lv_sub hl [1, 2, 0] rfl)
    · have hf := it_f hf c1
      refine lv_aload_n C.x C.b dX10_worthOf_8 rfl (lv_at hl 0 rfl) ?_
      obtain ⟨g2, hf⟩ := gd_e hf
      refine r_getr C hR t_r0 fl_X10_87 (by decide) (nz_e g2) dX10_worthOf_9 (fun tq3 => ?_)
      have tg2 := okA tq3 rfl
      refine lv_iload_n C.x C.b dX10_worthOf_12 rfl (lv_at hl 2 rfl) ?_
      refine lv_iconst (v := (0 : Int32)) C.x C.b dX10_worthOf_13 (by decide) ?_
      obtain ⟨g4, hf⟩ := gd_e hf
      refine r_zast C hR hS tg2 g4 (vz_0) dX10_worthOf_14 (fun H locs hR hS => ?_)
      obtain ⟨h5, e_h5⟩ : ∃ y, y = upI h (hpR h r0 40) (ix x2) (0 : Int32) := ⟨_, rfl⟩
      rw [← e_h5] at hR
      have hf := lt_e hf e_h5
      have hE := eI e_h5 hE
      have t_r0 := tI e_h5 t_r0
      obtain ⟨v6, e_v6⟩ : ∃ y : Int32, y = x2 + (1 : Int32) := ⟨_, rfl⟩
      have hf := lt_e hf e_v6
      refine lv_iinc (v := v6) (lv' := [(2, .int v6), (0, .ref (G.2.2 + r0)), (1, .int x1)]) C.x C.b dX10_worthOf_15 hl (k := 2) rfl (by rw [e_v6]; rfl) (by decide) rfl (fun ls hl => ?_)
      refine lv_goto (tgt := 2) C.x C.b dX10_worthOf_18 (by decide) ?_
      exact hk2 _ _ _ _ _ hf hE hR hS t_r0 (lv_sub hl [1, 2, 0] rfl)
set_option maxRecDepth 100000 in
set_option maxHeartbeats 4000000 in
theorem k_X10_worthOf {G : Gt} {l : Launch}  {h : Hp} {r0 : Nat} {x1 : Int32} {out : (Int32 × Hp)} (t_r0 : hpT h r0 = (1, 10))  (hf : f_X10_worthOf  h r0 x1 = some out) : Mt G l yX10_worthOf cX10_worthOf 4 (some .int) rm_X10_worthOf [.ref (G.2.2 + r0), .int x1] h (some (.int out.1)) out.2 0 0 0 := by
  refine r_met (by decide +kernel) (Nat.le_of_ble_eq_true rfl) ?_
  intro p e s m args below meth c ls C hr hlk hnm hR hS hl
  have hE : Ext h h := Ext.rf
  have hl : lv_has ls 4 [(0, .ref (G.2.2 + r0)), (1, .int x1)] := hl
  rw [f_X10_worthOf] at hf
  refine lv_iconst (v := (0 : Int32)) C.x C.b dX10_worthOf_0 (by decide) ?_
  refine lv_istore_n (lv' := [(2, .int (0 : Int32)), (0, .ref (G.2.2 + r0)), (1, .int x1)]) C.x C.b dX10_worthOf_1 rfl hl (by decide) rfl (fun ls hl => ?_)
  exact w_X10_worthOf_2 C hr hlk FU _ _ _ _ _ hf hE hR hS t_r0 (lv_sub hl [1, 2, 0] rfl)

def rm_X10_fence : Room := { frames := 1, cells := 0, slots := 0, locals := 25 }
def P_X10_fence_106 (G : Gt) (l : Launch) (p : Program) (e : Env) (s : State) (m : MethodId) (args : Array Value) (below : List Frame) (meth : Method) (c : Code) (h0 : Hp) (out : (Int32 × Hp)) (r0 : Nat) (x1 : Int32) (k : Hp → Int32 → Int32 → Option (Int32 × Hp)) : Prop := ∀ (H : Heap) (locs : List Loc) (ls : Array Slot) (h : Hp) (x2 : Int32) (x3 : Int32), k h x2 x3 = some out → Ext h0 h → Rel G h H → va_S (AA G.2.2) s.heap H locs → hpT h r0 = (1, 10) → lv_has ls 4 [(0, .ref (G.2.2 + r0)), (1, .int x1), (2, .int x2), (3, .int x3)] → W p l e rm_X10_fence s m args below meth c H locs 0 0 (MQ below (Qm G h0 out.2 (some (.int out.1)) 0) args s 0 0 (AA G.2.2)) (F0 m 106 ls [])
def P_X10_fence_57 (G : Gt) (l : Launch) (p : Program) (e : Env) (s : State) (m : MethodId) (args : Array Value) (below : List Frame) (meth : Method) (c : Code) (h0 : Hp) (out : (Int32 × Hp)) (r0 : Nat) (x1 : Int32) (k : Hp → Int32 → Int32 → Option (Int32 × Hp)) : Prop := ∀ (H : Heap) (locs : List Loc) (ls : Array Slot) (h : Hp) (x2 : Int32) (x3 : Int32), k h x2 x3 = some out → Ext h0 h → Rel G h H → va_S (AA G.2.2) s.heap H locs → hpT h r0 = (1, 10) → lv_has ls 4 [(0, .ref (G.2.2 + r0)), (1, .int x1), (2, .int x2), (3, .int x3)] → W p l e rm_X10_fence s m args below meth c H locs 0 0 (MQ below (Qm G h0 out.2 (some (.int out.1)) 0) args s 0 0 (AA G.2.2)) (F0 m 57 ls [])
def P_X10_fence_130 (G : Gt) (l : Launch) (p : Program) (e : Env) (s : State) (m : MethodId) (args : Array Value) (below : List Frame) (meth : Method) (c : Code) (h0 : Hp) (out : (Int32 × Hp)) (r0 : Nat) (x1 : Int32) (k : Hp → Int32 → Option (Int32 × Hp)) : Prop := ∀ (H : Heap) (locs : List Loc) (ls : Array Slot) (h : Hp) (s0 : Int32), k h s0 = some out → Ext h0 h → Rel G h H → va_S (AA G.2.2) s.heap H locs → hpT h r0 = (1, 10) → narrow .boolean (.int s0) = .int s0 → lv_has ls 4 [(0, .ref (G.2.2 + r0)), (1, .int x1)] → W p l e rm_X10_fence s m args below meth c H locs 0 0 (MQ below (Qm G h0 out.2 (some (.int out.1)) 0) args s 0 0 (AA G.2.2)) (F0 m 130 ls [.int s0])
def P_X10_fence_50 (G : Gt) (l : Launch) (p : Program) (e : Env) (s : State) (m : MethodId) (args : Array Value) (below : List Frame) (meth : Method) (c : Code) (h0 : Hp) (out : (Int32 × Hp)) (r0 : Nat) (x1 : Int32) (k : Hp → Int32 → Option (Int32 × Hp)) : Prop := ∀ (H : Heap) (locs : List Loc) (ls : Array Slot) (h : Hp) (x2 : Int32), k h x2 = some out → Ext h0 h → Rel G h H → va_S (AA G.2.2) s.heap H locs → hpT h r0 = (1, 10) → lv_has ls 4 [(0, .ref (G.2.2 + r0)), (1, .int x1), (2, .int x2)] → W p l e rm_X10_fence s m args below meth c H locs 0 0 (MQ below (Qm G h0 out.2 (some (.int out.1)) 0) args s 0 0 (AA G.2.2)) (F0 m 50 ls [])
def P_X10_fence_21 (G : Gt) (l : Launch) (p : Program) (e : Env) (s : State) (m : MethodId) (args : Array Value) (below : List Frame) (meth : Method) (c : Code) (h0 : Hp) (out : (Int32 × Hp)) (r0 : Nat) (x1 : Int32) (k : Hp → Int32 → Option (Int32 × Hp)) : Prop := ∀ (H : Heap) (locs : List Loc) (ls : Array Slot) (h : Hp) (x2 : Int32), k h x2 = some out → Ext h0 h → Rel G h H → va_S (AA G.2.2) s.heap H locs → hpT h r0 = (1, 10) → lv_has ls 4 [(0, .ref (G.2.2 + r0)), (1, .int x1), (2, .int x2)] → W p l e rm_X10_fence s m args below meth c H locs 0 0 (MQ below (Qm G h0 out.2 (some (.int out.1)) 0) args s 0 0 (AA G.2.2)) (F0 m 21 ls [])
set_option maxRecDepth 100000 in
set_option maxHeartbeats 4000000 in
theorem w_X10_fence_106 {G : Gt} {l : Launch} {p : Program} {e : Env} {s : State} {m : MethodId} {args : Array Value} {below : List Frame} {meth : Method} {c : Code}  {h0 : Hp} {out : (Int32 × Hp)} {r0 : Nat} {x1 : Int32} {k50 : Hp → Int32 → Option (Int32 × Hp)} {k57 : Hp → Int32 → Int32 → Option (Int32 × Hp)} (C : Cx G p m c cX10_fence 4 s args RX10) (hr : meth.sig.returnType = some .int) (hlk : meth.locks = false)  (hk50 : P_X10_fence_50 G l p e s m args below meth c h0 out r0 x1 k50) (hk57 : P_X10_fence_57 G l p e s m args below meth c h0 out r0 x1 k57) : P_X10_fence_106 G l p e s m args below meth c h0 out r0 x1 (f_X10_fence_106 r0 x1 k50 k57) := by
  intro H locs ls h x2 x3 hf hE hR hS t_r0 hl
  rw [f_X10_fence_106] at hf
  obtain ⟨v26, e_v26⟩ : ∃ y : Int32, y = x3 + (1 : Int32) := ⟨_, rfl⟩
  have hf := lt_e hf e_v26
  refine lv_iinc (v := v26) (lv' := [(3, .int v26), (0, .ref (G.2.2 + r0)), (1, .int x1), (2, .int x2)]) C.x C.b dX10_fence_106 hl (k := 3) rfl (by rw [e_v26]; rfl) (by decide) rfl (fun ls hl => ?_)
  refine lv_goto (tgt := 57) C.x C.b dX10_fence_109 (by decide) ?_
  exact hk57 _ _ _ _ _ _ hf hE hR hS t_r0 (lv_sub hl [1, 2, 3, 0] rfl)
set_option maxRecDepth 100000 in
set_option maxHeartbeats 4000000 in
theorem w_X10_fence_57 {G : Gt} {l : Launch} {p : Program} {e : Env} {s : State} {m : MethodId} {args : Array Value} {below : List Frame} {meth : Method} {c : Code}  {h0 : Hp} {out : (Int32 × Hp)} {r0 : Nat} {x1 : Int32} {k50 : Hp → Int32 → Option (Int32 × Hp)} (C : Cx G p m c cX10_fence 4 s args RX10) (hr : meth.sig.returnType = some .int) (hlk : meth.locks = false)  (hk50 : P_X10_fence_50 G l p e s m args below meth c h0 out r0 x1 k50) (n : Nat) : P_X10_fence_57 G l p e s m args below meth c h0 out r0 x1 (f_X10_fence_57 r0 x1 k50 n) := by
  induction n with
  | zero => intro H locs ls h x2 x3 hf hE hR hS t_r0 hl; cases hf
  | succ n hk57 =>
    intro H locs ls h x2 x3 hf hE hR hS t_r0 hl
    rw [f_X10_fence_57] at hf
    obtain ⟨k57, e_k57⟩ : ∃ y, y = f_X10_fence_57 r0 x1 k50 n := ⟨_, rfl⟩
    have hf := lt_e hf e_k57
    rw [← e_k57] at hk57
    refine lv_iload_n C.x C.b dX10_fence_57 rfl (lv_at hl 3 rfl) ?_
    refine lv_iconst (v := (3 : Int32)) C.x C.b dX10_fence_58 (by decide) ?_
    refine lv_iload_n C.x C.b dX10_fence_59 rfl (lv_at hl 1 rfl) ?_
    refine lv_iload_n C.x C.b dX10_fence_60 rfl (lv_at hl 2 rfl) ?_
    refine lv_isub C.x C.b dX10_fence_61 ?_
    refine va_mmin C.x C.b (C.ml.trans hl.1.symm) C.ow (C.ts _ lk_X10_154) (C.ts _ lk_Mmin_s) (C.ts _ lk_Math) (C.ts _ lk_Mmin_c) (Nat.le_of_ble_eq_true rfl) (Nat.le_of_ble_eq_true rfl) (Nat.le_of_ble_eq_true rfl) (Nat.le_of_ble_eq_true rfl) dX10_fence_62 ?_
    refine lv_topi (fun v14 e_v14 => ?_)
    have hf := lt_e hf e_v14
    refine lv_icmp_gt (tgt := 112) C.x C.b dX10_fence_65 (by decide) (fun c15 => ?_) (fun c15 => ?_)
    · have hf := it_t hf c15
      obtain ⟨v16, e_v16⟩ : ∃ y : Int32, y = x2 + (1 : Int32) := ⟨_, rfl⟩
      have hf := lt_e hf e_v16
      refine lv_iinc (v := v16) (lv' := [(2, .int v16), (0, .ref (G.2.2 + r0)), (1, .int x1), (3, .int x3)]) C.x C.b dX10_fence_112 hl (k := 2) rfl (by rw [e_v16]; rfl) (by decide) rfl (fun ls hl => ?_)
      refine lv_goto (tgt := 50) C.x C.b dX10_fence_115 (by decide) ?_
      exact hk50 _ _ _ _ _ hf hE hR hS t_r0 (lv_sub hl [1, 2, 0] rfl)
    · have hf := it_f hf c15
      refine lv_aload_n C.x C.b dX10_fence_68 rfl (lv_at hl 0 rfl) ?_
      refine r_geti C hR t_r0 fl_X10_110 rfl dX10_fence_69 ?_
      refine lv_if_ne (tgt := 106) C.x C.b dX10_fence_72 (by decide) (fun c17 => ?_) (fun c17 => ?_)
      · have hf := it_f hf c17
        exact w_X10_fence_106 C hr hlk hk50 hk57 _ _ _ _ _ _ hf hE hR hS t_r0 (lv_sub hl [0, 1, 2, 3] rfl)
      · have hf := it_t hf c17
        refine lv_aload_n C.x C.b dX10_fence_75 rfl (lv_at hl 0 rfl) ?_
        obtain ⟨g18, hf⟩ := gd_e hf
        refine r_getr C hR t_r0 fl_X10_84 (by decide) (nz_e g18) dX10_fence_76 (fun tq19 => ?_)
        have tg18 := okA tq19 rfl
        refine lv_iload_n C.x C.b dX10_fence_79 rfl (lv_at hl 2 rfl) ?_
        obtain ⟨g20, hf⟩ := gd_e hf
        refine r_iald C hR tg18 g20 dX10_fence_80 ?_
        refine lv_aload_n C.x C.b dX10_fence_81 rfl (lv_at hl 0 rfl) ?_
        refine r_getr C hR t_r0 fl_X10_84 (by decide) (nz_e g18) dX10_fence_82 (fun tq21 => ?_)
        refine lv_iload_n C.x C.b dX10_fence_85 rfl (lv_at hl 1 rfl) ?_
        refine lv_iload_n C.x C.b dX10_fence_86 rfl (lv_at hl 3 rfl) ?_
        refine lv_isub C.x C.b dX10_fence_87 ?_
        refine lv_iload_n C.x C.b dX10_fence_88 rfl (lv_at hl 2 rfl) ?_
        refine lv_isub C.x C.b dX10_fence_89 ?_
        obtain ⟨g22, hf⟩ := gd_e hf
        refine r_iald C hR tg18 g22 dX10_fence_90 ?_
        refine lv_icmp_ne (tgt := 106) C.x C.b dX10_fence_91 (by decide) (fun c23 => ?_) (fun c23 => ?_)
        · have hf := it_f hf c23
          exact w_X10_fence_106 C hr hlk hk50 hk57 _ _ _ _ _ _ hf hE hR hS t_r0 (lv_sub hl [0, 1, 2, 3] rfl)
        · have hf := it_t hf c23
          refine lv_aload_n C.x C.b dX10_fence_94 rfl (lv_at hl 0 rfl) ?_
          refine lv_iload_n C.x C.b dX10_fence_95 rfl (lv_at hl 2 rfl) ?_
          refine lv_i2l C.x C.b dX10_fence_96 rfl ?_
          obtain ⟨q24, h_q24, hf⟩ := bd_e hf
          refine r_callV (As := [.long (x2.toInt64)]) (rest := []) C hR hS t_r0 rfl mk_X10_enters cl_X10_339 (k_X10_enters t_r0 h_q24) ⟨⟨Nat.le_of_ble_eq_true rfl, Nat.le_of_ble_eq_true rfl⟩, ⟨rfl, rfl⟩, Nat.le_of_ble_eq_true rfl, Nat.le_of_ble_eq_true rfl⟩ rfl hl.1 rfl (Nat.le_of_ble_eq_true rfl) dX10_fence_97 (fun H locs hR hS hE1 z_q24 => ?_)
          have hE := hE.tr hE1
          have t_r0 := hE1.at t_r0 (by decide)
          refine lv_aload_n C.x C.b dX10_fence_100 rfl (lv_at hl 0 rfl) ?_
          refine lv_iload_n C.x C.b dX10_fence_101 rfl (lv_at hl 3 rfl) ?_
          refine lv_i2l C.x C.b dX10_fence_102 rfl ?_
          obtain ⟨q25, h_q25, hf⟩ := bd_e hf
          refine r_callV (As := [.long (x3.toInt64)]) (rest := []) C hR hS t_r0 rfl mk_X10_enters cl_X10_339 (k_X10_enters t_r0 h_q25) ⟨⟨Nat.le_of_ble_eq_true rfl, Nat.le_of_ble_eq_true rfl⟩, ⟨rfl, rfl⟩, Nat.le_of_ble_eq_true rfl, Nat.le_of_ble_eq_true rfl⟩ rfl hl.1 rfl (Nat.le_of_ble_eq_true rfl) dX10_fence_103 (fun H locs hR hS hE1 z_q25 => ?_)
          have hE := hE.tr hE1
          have t_r0 := hE1.at t_r0 (by decide)
          exact w_X10_fence_106 C hr hlk hk50 hk57 _ _ _ _ _ _ hf hE hR hS t_r0 (lv_sub hl [0, 1, 2, 3] rfl)
set_option maxRecDepth 100000 in
set_option maxHeartbeats 4000000 in
theorem w_X10_fence_130 {G : Gt} {l : Launch} {p : Program} {e : Env} {s : State} {m : MethodId} {args : Array Value} {below : List Frame} {meth : Method} {c : Code}  {h0 : Hp} {out : (Int32 × Hp)} {r0 : Nat} {x1 : Int32}  (C : Cx G p m c cX10_fence 4 s args RX10) (hr : meth.sig.returnType = some .int) (hlk : meth.locks = false)   : P_X10_fence_130 G l p e s m args below meth c h0 out r0 x1 (f_X10_fence_130 r0 x1) := by
  intro H locs ls h s0 hf hE hR hS t_r0 z_s0 hl
  rw [f_X10_fence_130] at hf
  obtain ⟨q27, h_q27, hf⟩ := bd_e hf
  refine r_callS (As := [.int s0]) (rest := []) C hR hS mk_X10_flag cl_X10_163 (k_X10_flag h_q27) ⟨⟨Nat.le_of_ble_eq_true rfl, Nat.le_of_ble_eq_true rfl⟩, ⟨rfl, rfl⟩, Nat.le_of_ble_eq_true rfl, Nat.le_of_ble_eq_true rfl⟩ rfl hl.1 rfl (Nat.le_of_ble_eq_true rfl) dX10_fence_130 (fun H locs hR hS hE1 z_q27 => ?_)
  have hf := so_e hf
  subst hf
  exact r_iret C hr hlk hR hE hS dX10_fence_133
set_option maxRecDepth 100000 in
set_option maxHeartbeats 4000000 in
theorem w_X10_fence_50 {G : Gt} {l : Launch} {p : Program} {e : Env} {s : State} {m : MethodId} {args : Array Value} {below : List Frame} {meth : Method} {c : Code}  {h0 : Hp} {out : (Int32 × Hp)} {r0 : Nat} {x1 : Int32}  (C : Cx G p m c cX10_fence 4 s args RX10) (hr : meth.sig.returnType = some .int) (hlk : meth.locks = false)   (n : Nat) : P_X10_fence_50 G l p e s m args below meth c h0 out r0 x1 (f_X10_fence_50 r0 x1 n) := by
  induction n with
  | zero => intro H locs ls h x2 hf hE hR hS t_r0 hl; cases hf
  | succ n hk50 =>
    intro H locs ls h x2 hf hE hR hS t_r0 hl
    rw [f_X10_fence_50] at hf
    obtain ⟨k50, e_k50⟩ : ∃ y, y = f_X10_fence_50 r0 x1 n := ⟨_, rfl⟩
    have hf := lt_e hf e_k50
    rw [← e_k50] at hk50
    refine lv_iload_n C.x C.b dX10_fence_50 rfl (lv_at hl 2 rfl) ?_
    refine lv_iload_n C.x C.b dX10_fence_51 rfl (lv_at hl 1 rfl) ?_
    refine lv_icmp_ge (tgt := 118) C.x C.b dX10_fence_52 (by decide) (fun c12 => ?_) (fun c12 => ?_)
    · have hf := it_t hf c12
      refine lv_aload_n C.x C.b dX10_fence_118 rfl (lv_at hl 0 rfl) ?_
      refine r_geti C hR t_r0 fl_X10_110 rfl dX10_fence_119 ?_
      refine lv_if_le (tgt := 129) C.x C.b dX10_fence_122 (by decide) (fun c13 => ?_) (fun c13 => ?_)
      · simp only [if_pos c13] at hf
        refine lv_iconst (v := (0 : Int32)) C.x C.b dX10_fence_129 (by decide) ?_
        exact w_X10_fence_130 C hr hlk _ _ _ _ _ hf hE hR hS t_r0 z_0 (lv_sub hl [0, 1] rfl)
      · simp only [if_neg c13] at hf
        refine lv_iconst (v := (1 : Int32)) C.x C.b dX10_fence_125 (by decide) ?_
        refine lv_goto (tgt := 130) C.x C.b dX10_fence_126 (by decide) ?_
        exact w_X10_fence_130 C hr hlk _ _ _ _ _ hf hE hR hS t_r0 z_1 (lv_sub hl [0, 1] rfl)
    · have hf := it_f hf c12
      refine lv_iconst (v := (1 : Int32)) C.x C.b dX10_fence_55 (by decide) ?_
      refine lv_istore_n (lv' := [(3, .int (1 : Int32)), (0, .ref (G.2.2 + r0)), (1, .int x1), (2, .int x2)]) C.x C.b dX10_fence_56 rfl hl (by decide) rfl (fun ls hl => ?_)
      exact w_X10_fence_57 C hr hlk hk50 FU _ _ _ _ _ _ hf hE hR hS t_r0 (lv_sub hl [1, 2, 3, 0] rfl)
set_option maxRecDepth 100000 in
set_option maxHeartbeats 4000000 in
theorem w_X10_fence_21 {G : Gt} {l : Launch} {p : Program} {e : Env} {s : State} {m : MethodId} {args : Array Value} {below : List Frame} {meth : Method} {c : Code}  {h0 : Hp} {out : (Int32 × Hp)} {r0 : Nat} {x1 : Int32}  (C : Cx G p m c cX10_fence 4 s args RX10) (hr : meth.sig.returnType = some .int) (hlk : meth.locks = false)   (n : Nat) : P_X10_fence_21 G l p e s m args below meth c h0 out r0 x1 (f_X10_fence_21 r0 x1 n) := by
  induction n with
  | zero => intro H locs ls h x2 hf hE hR hS t_r0 hl; cases hf
  | succ n hk21 =>
    intro H locs ls h x2 hf hE hR hS t_r0 hl
    rw [f_X10_fence_21] at hf
    obtain ⟨k21, e_k21⟩ : ∃ y, y = f_X10_fence_21 r0 x1 n := ⟨_, rfl⟩
    have hf := lt_e hf e_k21
    rw [← e_k21] at hk21
    refine lv_iload_n C.x C.b dX10_fence_21 rfl (lv_at hl 2 rfl) ?_
    refine lv_iload_n C.x C.b dX10_fence_22 rfl (lv_at hl 1 rfl) ?_
    refine lv_icmp_gt (tgt := 43) C.x C.b dX10_fence_23 (by decide) (fun c4 => ?_) (fun c4 => ?_)
    · have hf := it_t hf c4
      refine lv_aload_n C.x C.b dX10_fence_43 rfl (lv_at hl 0 rfl) ?_
      refine lv_iconst (v := (0 : Int32)) C.x C.b dX10_fence_44 (by decide) ?_
      refine r_puti C hR hS t_r0 fl_X10_110 fp_X10_10_1 rfl dX10_fence_45 (fun H locs hR hS => ?_)
      obtain ⟨h5, e_h5⟩ : ∃ y, y = upI h r0 1 (0 : Int32) := ⟨_, rfl⟩
      rw [← e_h5] at hR
      have hf := lt_e hf e_h5
      have hE := eI e_h5 hE
      have t_r0 := tI e_h5 t_r0
      refine lv_iconst (v := (0 : Int32)) C.x C.b dX10_fence_48 (by decide) ?_
      refine lv_istore_n (lv' := [(2, .int (0 : Int32)), (0, .ref (G.2.2 + r0)), (1, .int x1)]) C.x C.b dX10_fence_49 rfl hl (by decide) rfl (fun ls hl => ?_)
      exact w_X10_fence_50 C hr hlk FU _ _ _ _ _ hf hE hR hS t_r0 (lv_sub hl [1, 2, 0] rfl)
    · have hf := it_f hf c4
      refine lv_aload_n C.x C.b dX10_fence_26 rfl (lv_at hl 0 rfl) ?_
      obtain ⟨g6, hf⟩ := gd_e hf
      refine r_getr C hR t_r0 fl_X10_84 (by decide) (nz_e g6) dX10_fence_27 (fun tq7 => ?_)
      have tg6 := okA tq7 rfl
      refine lv_iload_n C.x C.b dX10_fence_30 rfl (lv_at hl 2 rfl) ?_
      refine lv_aload_n C.x C.b dX10_fence_31 rfl (lv_at hl 0 rfl) ?_
      refine lv_iload_n C.x C.b dX10_fence_32 rfl (lv_at hl 2 rfl) ?_
      obtain ⟨q8, h_q8, hf⟩ := bd_e hf
      refine r_callV (As := [.int x2]) (rest := [.int x2, .ref (G.2.2 + (hpR h r0 39))]) C hR hS t_r0 rfl mk_X10_worthOf cl_X10_434 (k_X10_worthOf t_r0 h_q8) ⟨⟨Nat.le_of_ble_eq_true rfl, Nat.le_of_ble_eq_true rfl⟩, ⟨rfl, rfl⟩, Nat.le_of_ble_eq_true rfl, Nat.le_of_ble_eq_true rfl⟩ rfl hl.1 rfl (Nat.le_of_ble_eq_true rfl) dX10_fence_33 (fun H locs hR hS hE1 z_q8 => ?_)
      have hE := hE.tr hE1
      have tg6 := hE1.k tg6 (by decide)
      have t_r0 := hE1.at t_r0 (by decide)
      obtain ⟨g9, hf⟩ := gd_e hf
      refine r_iast C hR hS tg6 g9 dX10_fence_36 (fun H locs hR hS => ?_)
      obtain ⟨h10, e_h10⟩ : ∃ y, y = upI q8.2 (hpR h r0 39) (ix x2) q8.1 := ⟨_, rfl⟩
      rw [← e_h10] at hR
      have hf := lt_e hf e_h10
      have hE := eI e_h10 hE
      have t_r0 := tI e_h10 t_r0
      obtain ⟨v11, e_v11⟩ : ∃ y : Int32, y = x2 + (1 : Int32) := ⟨_, rfl⟩
      have hf := lt_e hf e_v11
      refine lv_iinc (v := v11) (lv' := [(2, .int v11), (0, .ref (G.2.2 + r0)), (1, .int x1)]) C.x C.b dX10_fence_37 hl (k := 2) rfl (by rw [e_v11]; rfl) (by decide) rfl (fun ls hl => ?_)
      refine lv_goto (tgt := 21) C.x C.b dX10_fence_40 (by decide) ?_
      exact hk21 _ _ _ _ _ hf hE hR hS t_r0 (lv_sub hl [1, 2, 0] rfl)
set_option maxRecDepth 100000 in
set_option maxHeartbeats 4000000 in
theorem k_X10_fence {G : Gt} {l : Launch}  {h : Hp} {r0 : Nat} {x1 : Int32} {out : (Int32 × Hp)} (t_r0 : hpT h r0 = (1, 10))  (hf : f_X10_fence  h r0 x1 = some out) : Mt G l yX10_fence cX10_fence 4 (some .int) rm_X10_fence [.ref (G.2.2 + r0), .int x1] h (some (.int out.1)) out.2 0 0 0 := by
  refine r_met (by decide +kernel) (Nat.le_of_ble_eq_true rfl) ?_
  intro p e s m args below meth c ls C hr hlk hnm hR hS hl
  have hE : Ext h h := Ext.rf
  have hl : lv_has ls 4 [(0, .ref (G.2.2 + r0)), (1, .int x1)] := hl
  rw [f_X10_fence] at hf
  refine lv_aload_n C.x C.b dX10_fence_0 rfl (lv_at hl 0 rfl) ?_
  refine lv_iconst (v := (0 : Int32)) C.x C.b dX10_fence_1 (by decide) ?_
  refine r_puti C hR hS t_r0 fl_X10_103 fp_X10_10_0 rfl dX10_fence_2 (fun H locs hR hS => ?_)
  obtain ⟨h1, e_h1⟩ : ∃ y, y = upI h r0 0 (0 : Int32) := ⟨_, rfl⟩
  rw [← e_h1] at hR
  have hf := lt_e hf e_h1
  have hE := eI e_h1 hE
  have t_r0 := tI e_h1 t_r0
  refine lv_iload_n C.x C.b dX10_fence_5 rfl (lv_at hl 1 rfl) ?_
  refine lv_i2l C.x C.b dX10_fence_6 rfl ?_
  refine lv_lconst (v := (0 : Int64)) C.x C.b dX10_fence_7 (by decide) ?_
  refine lv_ldc2 C.x C.b C.ow (C.ts _ lk_X10_432) dX10_fence_8 ?_
  obtain ⟨q2, h_q2, hf⟩ := bd_e hf
  refine r_callS (As := [.long (x1.toInt64), .long (0 : Int64), .long (40 : Int64)]) (rest := []) C hR hS mk_X10_in cl_X10_117 (k_X10_in h_q2) ⟨⟨Nat.le_of_ble_eq_true rfl, Nat.le_of_ble_eq_true rfl⟩, ⟨rfl, rfl⟩, Nat.le_of_ble_eq_true rfl, Nat.le_of_ble_eq_true rfl⟩ rfl hl.1 rfl (Nat.le_of_ble_eq_true rfl) dX10_fence_11 (fun H locs hR hS hE1 z_q2 => ?_)
  have z_q2 := z_q2 _ rfl
  refine lv_if_ne (tgt := 19) C.x C.b dX10_fence_14 (by decide) (fun c3 => ?_) (fun c3 => ?_)
  · have hf := it_f hf c3
    refine lv_iconst (v := (0 : Int32)) C.x C.b dX10_fence_19 (by decide) ?_
    refine lv_istore_n (lv' := [(2, .int (0 : Int32)), (0, .ref (G.2.2 + r0)), (1, .int x1)]) C.x C.b dX10_fence_20 rfl hl (by decide) rfl (fun ls hl => ?_)
    exact w_X10_fence_21 C hr hlk FU _ _ _ _ _ hf hE hR hS t_r0 (lv_sub hl [1, 2, 0] rfl)
  · have hf := it_t hf c3
    refine lv_iconst (v := (-1 : Int32)) C.x C.b dX10_fence_17 (by decide) ?_
    have hf := so_e hf
    subst hf
    exact r_iret C hr hlk hR hE hS dX10_fence_18

def rm_X10_onIn : Room := { frames := 8, cells := 0, slots := 0, locals := 194 }
set_option maxRecDepth 100000 in
set_option maxHeartbeats 4000000 in
theorem k_X10_onIn {G : Gt} {l : Launch}  {h : Hp} {r0 : Nat} {x1 : Int32} {out : (Int32 × Hp)} (t_r0 : hpT h r0 = (1, 10))  (hf : f_X10_onIn  h r0 x1 = some out) : Mt G l yX10_onIn cX10_onIn 2 (some .int) rm_X10_onIn [.ref (G.2.2 + r0), .int x1] h (some (.int out.1)) out.2 0 0 0 := by
  refine r_met (by decide +kernel) (Nat.le_of_ble_eq_true rfl) ?_
  intro p e s m args below meth c ls C hr hlk hnm hR hS hl
  have hE : Ext h h := Ext.rf
  have hl : lv_has ls 2 [(0, .ref (G.2.2 + r0)), (1, .int x1)] := hl
  rw [f_X10_onIn] at hf
  refine lv_aload_n C.x C.b dX10_onIn_0 rfl (lv_at hl 0 rfl) ?_
  obtain ⟨q1, h_q1, hf⟩ := bd_e hf
  refine r_callV (As := []) (rest := []) C hR hS t_r0 rfl mk_X10_copies cl_X10_379 (k_X10_copies t_r0 h_q1) ⟨⟨Nat.le_of_ble_eq_true rfl, Nat.le_of_ble_eq_true rfl⟩, ⟨rfl, rfl⟩, Nat.le_of_ble_eq_true rfl, Nat.le_of_ble_eq_true rfl⟩ rfl hl.1 rfl (Nat.le_of_ble_eq_true rfl) dX10_onIn_1 (fun H locs hR hS hE1 z_q1 => ?_)
  have hE := hE.tr hE1
  have t_r0 := hE1.at t_r0 (by decide)
  refine lv_aload_n C.x C.b dX10_onIn_4 rfl (lv_at hl 0 rfl) ?_
  refine lv_aload_n C.x C.b dX10_onIn_5 rfl (lv_at hl 0 rfl) ?_
  obtain ⟨g2, hf⟩ := gd_e hf
  refine r_getr C hR t_r0 fl_X10_24 (by decide) (nz_e g2) dX10_onIn_6 (fun tq3 => ?_)
  have tg2 := okA tq3 rfl
  refine lv_iload_n C.x C.b dX10_onIn_9 rfl (lv_at hl 1 rfl) ?_
  obtain ⟨q4, h_q4, hf⟩ := bd_e hf
  refine r_callV (As := [.ref (G.2.2 + (hpR q1 r0 7)), .int x1]) (rest := []) C hR hS t_r0 rfl mk_X10_goesOn cl_X10_336 (k_X10_goesOn t_r0 tg2 h_q4) ⟨⟨Nat.le_of_ble_eq_true rfl, Nat.le_of_ble_eq_true rfl⟩, ⟨rfl, rfl⟩, Nat.le_of_ble_eq_true rfl, Nat.le_of_ble_eq_true rfl⟩ rfl hl.1 rfl (Nat.le_of_ble_eq_true rfl) dX10_onIn_10 (fun H locs hR hS hE1 z_q4 => ?_)
  have hE := hE.tr hE1
  have t_r0 := hE1.at t_r0 (by decide)
  refine lv_aload_n C.x C.b dX10_onIn_13 rfl (lv_at hl 0 rfl) ?_
  obtain ⟨g5, hf⟩ := gd_e hf
  refine r_getr C hR t_r0 fl_X10_24 (by decide) (nz_e g5) dX10_onIn_14 (fun tq6 => ?_)
  have tg5 := okA tq6 rfl
  obtain ⟨q7, h_q7, hf⟩ := bd_e hf
  refine r_callS (As := [.ref (G.2.2 + (hpR q4 r0 7))]) (rest := []) C hR hS mk_X10_on cl_X10_311 (k_X10_on tg5 h_q7) ⟨⟨Nat.le_of_ble_eq_true rfl, Nat.le_of_ble_eq_true rfl⟩, ⟨rfl, rfl⟩, Nat.le_of_ble_eq_true rfl, Nat.le_of_ble_eq_true rfl⟩ rfl hl.1 rfl (Nat.le_of_ble_eq_true rfl) dX10_onIn_17 (fun H locs hR hS hE1 z_q7 => ?_)
  obtain ⟨q8, h_q8, hf⟩ := bd_e hf
  refine r_callS (As := [.int q7]) (rest := []) C hR hS mk_J6_bitCount_0f7a4 cl_X10_264 (k_J6_bitCount_0f7a4 h_q8) ⟨⟨Nat.le_of_ble_eq_true rfl, Nat.le_of_ble_eq_true rfl⟩, ⟨rfl, rfl⟩, Nat.le_of_ble_eq_true rfl, Nat.le_of_ble_eq_true rfl⟩ rfl hl.1 rfl (Nat.le_of_ble_eq_true rfl) dX10_onIn_20 (fun H locs hR hS hE1 z_q8 => ?_)
  have hf := so_e hf
  subst hf
  exact r_iret C hr hlk hR hE hS dX10_onIn_23

def rm_X10_law : Room := { frames := 98, cells := 0, slots := 0, locals := 2258 }
def P_X10_law_107 (G : Gt) (l : Launch) (p : Program) (e : Env) (s : State) (m : MethodId) (args : Array Value) (below : List Frame) (meth : Method) (c : Code) (h0 : Hp) (out : (Int32 × Hp)) (r0 : Nat) (k : Hp → Int32 → Int32 → Int32 → Int32 → Option (Int32 × Hp)) : Prop := ∀ (H : Heap) (locs : List Loc) (ls : Array Slot) (h : Hp) (x2 : Int32) (x3 : Int32) (x4 : Int32) (x5 : Int32), k h x2 x3 x4 x5 = some out → Ext h0 h → Rel G h H → va_S (AA G.2.2) s.heap H locs → hpT h r0 = (1, 10) → lv_has ls 6 [(0, .ref (G.2.2 + r0)), (2, .int x2), (3, .int x3), (4, .int x4), (5, .int x5)] → W p l e rm_X10_law s m args below meth c H locs 0 0 (MQ below (Qm G h0 out.2 (some (.int out.1)) 0) args s 0 0 (AA G.2.2)) (F0 m 107 ls [])
def P_X10_law_37 (G : Gt) (l : Launch) (p : Program) (e : Env) (s : State) (m : MethodId) (args : Array Value) (below : List Frame) (meth : Method) (c : Code) (h0 : Hp) (out : (Int32 × Hp)) (r0 : Nat) (k : Hp → Int32 → Int32 → Int32 → Option (Int32 × Hp)) : Prop := ∀ (H : Heap) (locs : List Loc) (ls : Array Slot) (h : Hp) (x2 : Int32) (x3 : Int32) (x4 : Int32), k h x2 x3 x4 = some out → Ext h0 h → Rel G h H → va_S (AA G.2.2) s.heap H locs → hpT h r0 = (1, 10) → lv_has ls 6 [(0, .ref (G.2.2 + r0)), (2, .int x2), (3, .int x3), (4, .int x4)] → W p l e rm_X10_law s m args below meth c H locs 0 0 (MQ below (Qm G h0 out.2 (some (.int out.1)) 0) args s 0 0 (AA G.2.2)) (F0 m 37 ls [])
set_option maxRecDepth 100000 in
set_option maxHeartbeats 4000000 in
theorem w_X10_law_107 {G : Gt} {l : Launch} {p : Program} {e : Env} {s : State} {m : MethodId} {args : Array Value} {below : List Frame} {meth : Method} {c : Code}  {h0 : Hp} {out : (Int32 × Hp)} {r0 : Nat}  (C : Cx G p m c cX10_law 6 s args RX10) (hr : meth.sig.returnType = some .int) (hlk : meth.locks = false)   (n : Nat) : P_X10_law_107 G l p e s m args below meth c h0 out r0 (f_X10_law_107 r0 n) := by
  induction n with
  | zero => intro H locs ls h x2 x3 x4 x5 hf hE hR hS t_r0 hl; cases hf
  | succ n hk107 =>
    intro H locs ls h x2 x3 x4 x5 hf hE hR hS t_r0 hl
    rw [f_X10_law_107] at hf
    obtain ⟨k107, e_k107⟩ : ∃ y, y = f_X10_law_107 r0 n := ⟨_, rfl⟩
    have hf := lt_e hf e_k107
    rw [← e_k107] at hk107
    refine lv_iload C.x C.b dX10_law_107 (lv_at hl 4 rfl) ?_
    refine lv_aload_n C.x C.b dX10_law_109 rfl (lv_at hl 0 rfl) ?_
    obtain ⟨g22, hf⟩ := gd_e hf
    refine r_getr C hR t_r0 fl_X10_20 (by decide) (nz_e g22) dX10_law_110 (fun tq23 => ?_)
    have tg22 := okA tq23 rfl
    refine lv_bipush (v := (48 : Int32)) C.x C.b dX10_law_113 (by decide) ?_
    obtain ⟨g24, hf⟩ := gd_e hf
    refine r_iald C hR tg22 g24 dX10_law_115 ?_
    refine lv_icmp_ge (tgt := 136) C.x C.b dX10_law_116 (by decide) (fun c25 => ?_) (fun c25 => ?_)
    · have hf := it_t hf c25
      refine lv_aload_n C.x C.b dX10_law_136 rfl (lv_at hl 0 rfl) ?_
      refine lv_aload_n C.x C.b dX10_law_137 rfl (lv_at hl 0 rfl) ?_
      obtain ⟨g26, hf⟩ := gd_e hf
      refine r_getr C hR t_r0 fl_X10_91 (by decide) (nz_e g26) dX10_law_138 (fun tq27 => ?_)
      have tg26 := okA tq27 rfl
      refine lv_iload_n C.x C.b dX10_law_141 rfl (lv_at hl 2 rfl) ?_
      obtain ⟨q28, h_q28, hf⟩ := bd_e hf
      refine r_callV (As := [.ref (G.2.2 + (hpR h r0 41)), .int x3]) (rest := []) C hR hS t_r0 rfl mk_X10_laysCode cl_X10_252 (k_X10_laysCode t_r0 tg26 h_q28) ⟨⟨Nat.le_of_ble_eq_true rfl, Nat.le_of_ble_eq_true rfl⟩, ⟨rfl, rfl⟩, Nat.le_of_ble_eq_true rfl, Nat.le_of_ble_eq_true rfl⟩ rfl hl.1 rfl (Nat.le_of_ble_eq_true rfl) dX10_law_142 (fun H locs hR hS hE1 z_q28 => ?_)
      have hE := hE.tr hE1
      have t_r0 := hE1.at t_r0 (by decide)
      refine lv_iload C.x C.b dX10_law_145 (lv_at hl 3 rfl) ?_
      refine lv_iload_n C.x C.b dX10_law_147 rfl (lv_at hl 1 rfl) ?_
      refine lv_isub C.x C.b dX10_law_148 ?_
      have hf := so_e hf
      subst hf
      exact r_iret C hr hlk hR hE hS dX10_law_149
    · have hf := it_f hf c25
      refine lv_aload_n C.x C.b dX10_law_119 rfl (lv_at hl 0 rfl) ?_
      refine lv_aload_n C.x C.b dX10_law_120 rfl (lv_at hl 0 rfl) ?_
      refine lv_iload C.x C.b dX10_law_121 (lv_at hl 4 rfl) ?_
      obtain ⟨q29, h_q29, hf⟩ := bd_e hf
      refine r_callV (As := [.int x5]) (rest := [.ref (G.2.2 + r0)]) C hR hS t_r0 rfl mk_X10_lossOn cl_X10_286 (k_X10_lossOn t_r0 h_q29) ⟨⟨Nat.le_of_ble_eq_true rfl, Nat.le_of_ble_eq_true rfl⟩, ⟨rfl, rfl⟩, Nat.le_of_ble_eq_true rfl, Nat.le_of_ble_eq_true rfl⟩ rfl hl.1 rfl (Nat.le_of_ble_eq_true rfl) dX10_law_123 (fun H locs hR hS hE1 z_q29 => ?_)
      have hE := hE.tr hE1
      have t_r0 := hE1.at t_r0 (by decide)
      refine lv_i2l C.x C.b dX10_law_126 rfl ?_
      obtain ⟨q30, h_q30, hf⟩ := bd_e hf
      refine r_callV (As := [.long (q29.1.toInt64)]) (rest := []) C hR hS t_r0 rfl mk_X10_enters cl_X10_339 (k_X10_enters t_r0 h_q30) ⟨⟨Nat.le_of_ble_eq_true rfl, Nat.le_of_ble_eq_true rfl⟩, ⟨rfl, rfl⟩, Nat.le_of_ble_eq_true rfl, Nat.le_of_ble_eq_true rfl⟩ rfl hl.1 rfl (Nat.le_of_ble_eq_true rfl) dX10_law_127 (fun H locs hR hS hE1 z_q30 => ?_)
      have hE := hE.tr hE1
      have t_r0 := hE1.at t_r0 (by decide)
      obtain ⟨v31, e_v31⟩ : ∃ y : Int32, y = x5 + (1 : Int32) := ⟨_, rfl⟩
      have hf := lt_e hf e_v31
      refine lv_iinc (v := v31) (lv' := [(5, .int v31), (0, .ref (G.2.2 + r0)), (2, .int x2), (3, .int x3), (4, .int x4)]) C.x C.b dX10_law_130 hl (k := 4) rfl (by rw [e_v31]; rfl) (by decide) rfl (fun ls hl => ?_)
      refine lv_goto (tgt := 107) C.x C.b dX10_law_133 (by decide) ?_
      exact hk107 _ _ _ _ _ _ _ _ hf hE hR hS t_r0 (lv_sub hl [1, 2, 3, 4, 0] rfl)
set_option maxRecDepth 100000 in
set_option maxHeartbeats 4000000 in
theorem w_X10_law_37 {G : Gt} {l : Launch} {p : Program} {e : Env} {s : State} {m : MethodId} {args : Array Value} {below : List Frame} {meth : Method} {c : Code}  {h0 : Hp} {out : (Int32 × Hp)} {r0 : Nat}  (C : Cx G p m c cX10_law 6 s args RX10) (hr : meth.sig.returnType = some .int) (hlk : meth.locks = false)   (n : Nat) : P_X10_law_37 G l p e s m args below meth c h0 out r0 (f_X10_law_37 r0 n) := by
  induction n with
  | zero => intro H locs ls h x2 x3 x4 hf hE hR hS t_r0 hl; cases hf
  | succ n hk37 =>
    intro H locs ls h x2 x3 x4 hf hE hR hS t_r0 hl
    rw [f_X10_law_37] at hf
    obtain ⟨k37, e_k37⟩ : ∃ y, y = f_X10_law_37 r0 n := ⟨_, rfl⟩
    have hf := lt_e hf e_k37
    rw [← e_k37] at hk37
    refine lv_iload C.x C.b dX10_law_37 (lv_at hl 3 rfl) ?_
    refine lv_aload_n C.x C.b dX10_law_39 rfl (lv_at hl 0 rfl) ?_
    refine r_geti C hR t_r0 fl_X10_246 rfl dX10_law_40 ?_
    refine lv_icmp_ge (tgt := 66) C.x C.b dX10_law_43 (by decide) (fun c6 => ?_) (fun c6 => ?_)
    · have hf := it_t hf c6
      refine lv_aload_n C.x C.b dX10_law_66 rfl (lv_at hl 0 rfl) ?_
      refine lv_aload_n C.x C.b dX10_law_67 rfl (lv_at hl 0 rfl) ?_
      obtain ⟨g7, hf⟩ := gd_e hf
      refine r_getr C hR t_r0 fl_X10_36 (by decide) (nz_e g7) dX10_law_68 (fun tq8 => ?_)
      have tg7 := okA tq8 rfl
      refine lv_aload_n C.x C.b dX10_law_71 rfl (lv_at hl 0 rfl) ?_
      refine r_geti C hR t_r0 fl_X10_218 rfl dX10_law_72 ?_
      obtain ⟨q9, h_q9, hf⟩ := bd_e hf
      refine r_callV (As := [.ref (G.2.2 + (hpR h r0 16)), .int (hpI h r0 18)]) (rest := []) C hR hS t_r0 rfl mk_X10_laysCode cl_X10_252 (k_X10_laysCode t_r0 tg7 h_q9) ⟨⟨Nat.le_of_ble_eq_true rfl, Nat.le_of_ble_eq_true rfl⟩, ⟨rfl, rfl⟩, Nat.le_of_ble_eq_true rfl, Nat.le_of_ble_eq_true rfl⟩ rfl hl.1 rfl (Nat.le_of_ble_eq_true rfl) dX10_law_75 (fun H locs hR hS hE1 z_q9 => ?_)
      have hE := hE.tr hE1
      have t_r0 := hE1.at t_r0 (by decide)
      refine lv_aload_n C.x C.b dX10_law_78 rfl (lv_at hl 0 rfl) ?_
      refine lv_bipush (v := (9 : Int32)) C.x C.b dX10_law_79 (by decide) ?_
      obtain ⟨q10, h_q10, hf⟩ := bd_e hf
      refine r_callV (As := [.int (9 : Int32)]) (rest := []) C hR hS t_r0 rfl mk_X10_onIn cl_X10_437 (k_X10_onIn t_r0 h_q10) ⟨⟨Nat.le_of_ble_eq_true rfl, Nat.le_of_ble_eq_true rfl⟩, ⟨rfl, rfl⟩, Nat.le_of_ble_eq_true rfl, Nat.le_of_ble_eq_true rfl⟩ rfl hl.1 rfl (Nat.le_of_ble_eq_true rfl) dX10_law_81 (fun H locs hR hS hE1 z_q10 => ?_)
      have hE := hE.tr hE1
      have t_r0 := hE1.at t_r0 (by decide)
      refine lv_istore (lv' := [(4, .int q10.1), (0, .ref (G.2.2 + r0)), (2, .int x2), (3, .int x3)]) C.x C.b dX10_law_84 hl (by decide) rfl (fun ls hl => ?_)
      refine lv_aload_n C.x C.b dX10_law_86 rfl (lv_at hl 1 rfl) ?_
      refine lv_iconst (v := (0 : Int32)) C.x C.b dX10_law_87 (by decide) ?_
      refine r_puti C hR hS t_r0 fl_X10_110 fp_X10_10_1 rfl dX10_law_88 (fun H locs hR hS => ?_)
      obtain ⟨h11, e_h11⟩ : ∃ y, y = upI q10.2 r0 1 (0 : Int32) := ⟨_, rfl⟩
      rw [← e_h11] at hR
      have hf := lt_e hf e_h11
      have hE := eI e_h11 hE
      have t_r0 := tI e_h11 t_r0
      refine lv_aload_n C.x C.b dX10_law_91 rfl (lv_at hl 1 rfl) ?_
      refine lv_iload C.x C.b dX10_law_92 (lv_at hl 0 rfl) ?_
      refine lv_i2l C.x C.b dX10_law_94 rfl ?_
      obtain ⟨q12, h_q12, hf⟩ := bd_e hf
      refine r_callV (As := [.long (q10.1.toInt64)]) (rest := []) C hR hS t_r0 rfl mk_X10_enters cl_X10_339 (k_X10_enters t_r0 h_q12) ⟨⟨Nat.le_of_ble_eq_true rfl, Nat.le_of_ble_eq_true rfl⟩, ⟨rfl, rfl⟩, Nat.le_of_ble_eq_true rfl, Nat.le_of_ble_eq_true rfl⟩ rfl hl.1 rfl (Nat.le_of_ble_eq_true rfl) dX10_law_95 (fun H locs hR hS hE1 z_q12 => ?_)
      have hE := hE.tr hE1
      have t_r0 := hE1.at t_r0 (by decide)
      refine lv_aload_n C.x C.b dX10_law_98 rfl (lv_at hl 1 rfl) ?_
      refine lv_iload_n C.x C.b dX10_law_99 rfl (lv_at hl 2 rfl) ?_
      refine lv_i2l C.x C.b dX10_law_100 rfl ?_
      obtain ⟨q13, h_q13, hf⟩ := bd_e hf
      refine r_callV (As := [.long (x2.toInt64)]) (rest := []) C hR hS t_r0 rfl mk_X10_enters cl_X10_339 (k_X10_enters t_r0 h_q13) ⟨⟨Nat.le_of_ble_eq_true rfl, Nat.le_of_ble_eq_true rfl⟩, ⟨rfl, rfl⟩, Nat.le_of_ble_eq_true rfl, Nat.le_of_ble_eq_true rfl⟩ rfl hl.1 rfl (Nat.le_of_ble_eq_true rfl) dX10_law_101 (fun H locs hR hS hE1 z_q13 => ?_)
      have hE := hE.tr hE1
      have t_r0 := hE1.at t_r0 (by decide)
      refine lv_iconst (v := (0 : Int32)) C.x C.b dX10_law_104 (by decide) ?_
      refine lv_istore (lv' := [(5, .int (0 : Int32)), (4, .int q10.1), (0, .ref (G.2.2 + r0)), (2, .int x2), (3, .int x3)]) C.x C.b dX10_law_105 hl (by decide) rfl (fun ls hl => ?_)
      exact w_X10_law_107 C hr hlk FU _ _ _ _ _ _ _ _ hf hE hR hS t_r0 (lv_sub hl [2, 3, 4, 1, 0] rfl)
    · have hf := it_f hf c6
      refine lv_aload_n C.x C.b dX10_law_46 rfl (lv_at hl 0 rfl) ?_
      obtain ⟨g14, hf⟩ := gd_e hf
      refine r_getr C hR t_r0 fl_X10_91 (by decide) (nz_e g14) dX10_law_47 (fun tq15 => ?_)
      have tg14 := okA tq15 rfl
      refine lv_iload C.x C.b dX10_law_50 (lv_at hl 3 rfl) ?_
      refine lv_aload_n C.x C.b dX10_law_52 rfl (lv_at hl 0 rfl) ?_
      obtain ⟨g16, hf⟩ := gd_e hf
      refine r_getr C hR t_r0 fl_X10_33 (by decide) (nz_e g16) dX10_law_53 (fun tq17 => ?_)
      have tg16 := okA tq17 rfl
      refine lv_iload C.x C.b dX10_law_56 (lv_at hl 3 rfl) ?_
      obtain ⟨g18, hf⟩ := gd_e hf
      refine r_iald C hR tg16 g18 dX10_law_58 ?_
      obtain ⟨g19, hf⟩ := gd_e hf
      refine r_iast C hR hS tg14 g19 dX10_law_59 (fun H locs hR hS => ?_)
      obtain ⟨h20, e_h20⟩ : ∃ y, y = upI h (hpR h r0 41) (ix x4) (hpI h (hpR h r0 15) (ix x4)) := ⟨_, rfl⟩
      rw [← e_h20] at hR
      have hf := lt_e hf e_h20
      have hE := eI e_h20 hE
      have t_r0 := tI e_h20 t_r0
      obtain ⟨v21, e_v21⟩ : ∃ y : Int32, y = x4 + (1 : Int32) := ⟨_, rfl⟩
      have hf := lt_e hf e_v21
      refine lv_iinc (v := v21) (lv' := [(4, .int v21), (0, .ref (G.2.2 + r0)), (2, .int x2), (3, .int x3)]) C.x C.b dX10_law_60 hl (k := 3) rfl (by rw [e_v21]; rfl) (by decide) rfl (fun ls hl => ?_)
      refine lv_goto (tgt := 37) C.x C.b dX10_law_63 (by decide) ?_
      exact hk37 _ _ _ _ _ _ _ hf hE hR hS t_r0 (lv_sub hl [1, 2, 3, 0] rfl)
set_option maxRecDepth 100000 in
set_option maxHeartbeats 4000000 in
theorem k_X10_law {G : Gt} {l : Launch}  {h : Hp} {r0 : Nat} {out : (Int32 × Hp)} (t_r0 : hpT h r0 = (1, 10))  (hf : f_X10_law  h r0 = some out) : Mt G l yX10_law cX10_law 6 (some .int) rm_X10_law [.ref (G.2.2 + r0)] h (some (.int out.1)) out.2 0 0 0 := by
  refine r_met (by decide +kernel) (Nat.le_of_ble_eq_true rfl) ?_
  intro p e s m args below meth c ls C hr hlk hnm hR hS hl
  have hE : Ext h h := Ext.rf
  have hl : lv_has ls 6 [(0, .ref (G.2.2 + r0))] := hl
  rw [f_X10_law] at hf
  refine lv_aload_n C.x C.b dX10_law_0 rfl (lv_at hl 0 rfl) ?_
  refine lv_iconst (v := (0 : Int32)) C.x C.b dX10_law_1 (by decide) ?_
  refine r_puti C hR hS t_r0 fl_X10_103 fp_X10_10_0 rfl dX10_law_2 (fun H locs hR hS => ?_)
  obtain ⟨h1, e_h1⟩ : ∃ y, y = upI h r0 0 (0 : Int32) := ⟨_, rfl⟩
  rw [← e_h1] at hR
  have hf := lt_e hf e_h1
  have hE := eI e_h1 hE
  have t_r0 := tI e_h1 t_r0
  refine lv_aload_n C.x C.b dX10_law_5 rfl (lv_at hl 0 rfl) ?_
  obtain ⟨q2, h_q2, hf⟩ := bd_e hf
  refine r_callV (As := []) (rest := []) C hR hS t_r0 rfl mk_X10_readsRule cl_X10_249 (k_X10_readsRule t_r0 h_q2) ⟨⟨Nat.le_of_ble_eq_true rfl, Nat.le_of_ble_eq_true rfl⟩, ⟨rfl, rfl⟩, Nat.le_of_ble_eq_true rfl, Nat.le_of_ble_eq_true rfl⟩ rfl hl.1 rfl (Nat.le_of_ble_eq_true rfl) dX10_law_6 (fun H locs hR hS hE1 z_q2 => ?_)
  have hE := hE.tr hE1
  have t_r0 := hE1.at t_r0 (by decide)
  refine lv_istore_n (lv' := [(1, .int q2.1), (0, .ref (G.2.2 + r0))]) C.x C.b dX10_law_9 rfl hl (by decide) rfl (fun ls hl => ?_)
  refine lv_iload_n C.x C.b dX10_law_10 rfl (lv_at hl 0 rfl) ?_
  refine lv_if_ge (tgt := 22) C.x C.b dX10_law_11 (by decide) (fun c3 => ?_) (fun c3 => ?_)
  · have hf := it_t hf c3
    refine lv_aload_n C.x C.b dX10_law_22 rfl (lv_at hl 1 rfl) ?_
    refine lv_bipush (v := (9 : Int32)) C.x C.b dX10_law_23 (by decide) ?_
    obtain ⟨q4, h_q4, hf⟩ := bd_e hf
    refine r_callV (As := [.int (9 : Int32)]) (rest := []) C hR hS t_r0 rfl mk_X10_onIn cl_X10_437 (k_X10_onIn t_r0 h_q4) ⟨⟨Nat.le_of_ble_eq_true rfl, Nat.le_of_ble_eq_true rfl⟩, ⟨rfl, rfl⟩, Nat.le_of_ble_eq_true rfl, Nat.le_of_ble_eq_true rfl⟩ rfl hl.1 rfl (Nat.le_of_ble_eq_true rfl) dX10_law_25 (fun H locs hR hS hE1 z_q4 => ?_)
    have hE := hE.tr hE1
    have t_r0 := hE1.at t_r0 (by decide)
    refine lv_istore_n (lv' := [(2, .int q4.1), (1, .int q2.1), (0, .ref (G.2.2 + r0))]) C.x C.b dX10_law_28 rfl hl (by decide) rfl (fun ls hl => ?_)
    refine lv_aload_n C.x C.b dX10_law_29 rfl (lv_at hl 2 rfl) ?_
    refine r_geti C hR t_r0 fl_X10_246 rfl dX10_law_30 ?_
    refine lv_topi (fun v5 e_v5 => ?_)
    have hf := lt_e hf e_v5
    refine lv_istore_n (lv' := [(3, .int v5), (2, .int q4.1), (1, .int q2.1), (0, .ref (G.2.2 + r0))]) C.x C.b dX10_law_33 rfl hl (by decide) rfl (fun ls hl => ?_)
    refine lv_iconst (v := (0 : Int32)) C.x C.b dX10_law_34 (by decide) ?_
    refine lv_istore (lv' := [(4, .int (0 : Int32)), (3, .int v5), (2, .int q4.1), (1, .int q2.1), (0, .ref (G.2.2 + r0))]) C.x C.b dX10_law_35 hl (by decide) rfl (fun ls hl => ?_)
    exact w_X10_law_37 C hr hlk FU _ _ _ _ _ _ _ hf hE hR hS t_r0 (lv_sub hl [4, 2, 1, 0] rfl)
  · have hf := it_f hf c3
    refine lv_iload_n C.x C.b dX10_law_14 rfl (lv_at hl 0 rfl) ?_
    refine lv_iconst (v := (1 : Int32)) C.x C.b dX10_law_15 (by decide) ?_
    refine lv_iadd C.x C.b dX10_law_16 ?_
    refine lv_sipush (v := (10000 : Int32)) C.x C.b dX10_law_17 (by decide) ?_
    refine lv_isub C.x C.b dX10_law_20 ?_
    have hf := so_e hf
    subst hf
    exact r_iret C hr hlk hR hE hS dX10_law_21

def rm_X10_gets : Room := { frames := 1, cells := 0, slots := 0, locals := 14 }
def P_X10_gets_12 (G : Gt) (l : Launch) (p : Program) (e : Env) (s : State) (m : MethodId) (args : Array Value) (below : List Frame) (meth : Method) (c : Code) (h : Hp) (out : Int32) (x0 : Int32) (x1 : Int32) (x2 : Int32) (k : Int32 → Option Int32) : Prop := ∀ (H : Heap) (locs : List Loc) (ls : Array Slot) (s0 : Int32), k s0 = some out → Rel G h H → va_S (AA G.2.2) s.heap H locs → lv_has ls 3 [(0, .int x0), (1, .int x1), (2, .int x2)] → W p l e rm_X10_gets s m args below meth c H locs 0 0 (MQ below (Qm G h h (some (.int out)) 0) args s 0 0 (AA G.2.2)) (F0 m 12 ls [.int s0])
set_option maxRecDepth 100000 in
set_option maxHeartbeats 4000000 in
theorem w_X10_gets_12 {G : Gt} {l : Launch} {p : Program} {e : Env} {s : State} {m : MethodId} {args : Array Value} {below : List Frame} {meth : Method} {c : Code}  {h : Hp} {out : Int32} {x0 : Int32} {x1 : Int32} {x2 : Int32}  (C : Cx G p m c cX10_gets 3 s args RX10) (hr : meth.sig.returnType = some .int) (hlk : meth.locks = false)   : P_X10_gets_12 G l p e s m args below meth c h out x0 x1 x2 (f_X10_gets_12 h x0 x1 x2) := by
  intro H locs ls s0 hf hR hS  hl
  rw [f_X10_gets_12] at hf
  refine lv_iload_n C.x C.b dX10_gets_12 rfl (lv_at hl 0 rfl) ?_
  refine lv_isub C.x C.b dX10_gets_13 ?_
  refine lv_iconst (v := (0 : Int32)) C.x C.b dX10_gets_14 (by decide) ?_
  refine lv_iload_n C.x C.b dX10_gets_15 rfl (lv_at hl 0 rfl) ?_
  refine lv_iload_n C.x C.b dX10_gets_16 rfl (lv_at hl 1 rfl) ?_
  refine lv_iadd C.x C.b dX10_gets_17 ?_
  refine lv_bipush (v := (9 : Int32)) C.x C.b dX10_gets_18 (by decide) ?_
  refine lv_isub C.x C.b dX10_gets_20 ?_
  refine va_mmax C.x C.b (C.ml.trans hl.1.symm) C.ow (C.ts _ lk_X10_272) (C.ts _ lk_Mmax_s) (C.ts _ lk_Math) (C.ts _ lk_Mmax_c) (Nat.le_of_ble_eq_true rfl) (Nat.le_of_ble_eq_true rfl) (Nat.le_of_ble_eq_true rfl) (Nat.le_of_ble_eq_true rfl) dX10_gets_21 ?_
  refine lv_topi (fun v2 e_v2 => ?_)
  have hf := lt_e hf e_v2
  refine lv_isub C.x C.b dX10_gets_24 ?_
  have hf := so_e hf
  subst hf
  exact r_iret C hr hlk hR Ext.rf hS dX10_gets_25
set_option maxRecDepth 100000 in
set_option maxHeartbeats 4000000 in
theorem k_X10_gets {G : Gt} {l : Launch}  {h : Hp} {x0 : Int32} {x1 : Int32} {x2 : Int32} {out : Int32}   (hf : f_X10_gets  h x0 x1 x2 = some out) : Mt G l yX10_gets cX10_gets 3 (some .int) rm_X10_gets [.int x0, .int x1, .int x2] h (some (.int out)) h 0 0 0 := by
  refine r_met (by decide +kernel) (Nat.le_of_ble_eq_true rfl) ?_
  intro p e s m args below meth c ls C hr hlk hnm hR hS hl
  have hl : lv_has ls 3 [(0, .int x0), (1, .int x1), (2, .int x2)] := hl
  rw [f_X10_gets] at hf
  refine lv_iload_n C.x C.b dX10_gets_0 rfl (lv_at hl 0 rfl) ?_
  refine lv_iload_n C.x C.b dX10_gets_1 rfl (lv_at hl 1 rfl) ?_
  refine lv_iadd C.x C.b dX10_gets_2 ?_
  refine lv_iconst (v := (4 : Int32)) C.x C.b dX10_gets_3 (by decide) ?_
  refine lv_icmp_le (tgt := 11) C.x C.b dX10_gets_4 (by decide) (fun c1 => ?_) (fun c1 => ?_)
  · simp only [if_pos c1] at hf
    refine lv_iconst (v := (0 : Int32)) C.x C.b dX10_gets_11 (by decide) ?_
    exact w_X10_gets_12 C hr hlk _ _ _ _ hf hR hS (lv_sub hl [0, 1, 2] rfl)
  · simp only [if_neg c1] at hf
    refine lv_iload_n C.x C.b dX10_gets_7 rfl (lv_at hl 2 rfl) ?_
    refine lv_goto (tgt := 12) C.x C.b dX10_gets_8 (by decide) ?_
    exact w_X10_gets_12 C hr hlk _ _ _ _ hf hR hS (lv_sub hl [0, 1, 2] rfl)

def rm_X10_isRest : Room := { frames := 2, cells := 0, slots := 0, locals := 36 }
def P_X10_isRest_37 (G : Gt) (l : Launch) (p : Program) (e : Env) (s : State) (m : MethodId) (args : Array Value) (below : List Frame) (meth : Method) (c : Code) (h : Hp) (out : Int32) (x0 : Int32) (x1 : Int32) (x2 : Int32) (k : Int32 → Int32 → Option Int32) : Prop := ∀ (H : Heap) (locs : List Loc) (ls : Array Slot) (s0 : Int32) (x4 : Int32), k s0 x4 = some out → Rel G h H → va_S (AA G.2.2) s.heap H locs → narrow .boolean (.int s0) = .int s0 → lv_has ls 5 [(0, .int x0), (1, .int x1), (2, .int x2), (4, .int x4)] → W p l e rm_X10_isRest s m args below meth c H locs 0 0 (MQ below (Qm G h h (some (.int out)) 1) args s 0 0 (AA G.2.2)) (F0 m 37 ls [.int s0])
def P_X10_isRest_36 (G : Gt) (l : Launch) (p : Program) (e : Env) (s : State) (m : MethodId) (args : Array Value) (below : List Frame) (meth : Method) (c : Code) (h : Hp) (out : Int32) (x0 : Int32) (x1 : Int32) (x2 : Int32) (k : Int32 → Option Int32) : Prop := ∀ (H : Heap) (locs : List Loc) (ls : Array Slot) (x4 : Int32), k x4 = some out → Rel G h H → va_S (AA G.2.2) s.heap H locs → lv_has ls 5 [(0, .int x0), (1, .int x1), (2, .int x2), (4, .int x4)] → W p l e rm_X10_isRest s m args below meth c H locs 0 0 (MQ below (Qm G h h (some (.int out)) 1) args s 0 0 (AA G.2.2)) (F0 m 36 ls [])
def P_X10_isRest_5 (G : Gt) (l : Launch) (p : Program) (e : Env) (s : State) (m : MethodId) (args : Array Value) (below : List Frame) (meth : Method) (c : Code) (h : Hp) (out : Int32) (x0 : Int32) (x1 : Int32) (x2 : Int32) (k : Int32 → Int32 → Option Int32) : Prop := ∀ (H : Heap) (locs : List Loc) (ls : Array Slot) (x3 : Int32) (x4 : Int32), k x3 x4 = some out → Rel G h H → va_S (AA G.2.2) s.heap H locs → narrow .boolean (.int x3) = .int x3 → lv_has ls 5 [(0, .int x0), (1, .int x1), (2, .int x2), (3, .int x3), (4, .int x4)] → W p l e rm_X10_isRest s m args below meth c H locs 0 0 (MQ below (Qm G h h (some (.int out)) 1) args s 0 0 (AA G.2.2)) (F0 m 5 ls [])
set_option maxRecDepth 100000 in
set_option maxHeartbeats 4000000 in
theorem w_X10_isRest_37 {G : Gt} {l : Launch} {p : Program} {e : Env} {s : State} {m : MethodId} {args : Array Value} {below : List Frame} {meth : Method} {c : Code}  {h : Hp} {out : Int32} {x0 : Int32} {x1 : Int32} {x2 : Int32} {k5 : Int32 → Int32 → Option Int32} (C : Cx G p m c cX10_isRest 5 s args RX10) (hr : meth.sig.returnType = some .boolean) (hlk : meth.locks = false)  (hk5 : P_X10_isRest_5 G l p e s m args below meth c h out x0 x1 x2 k5) : P_X10_isRest_37 G l p e s m args below meth c h out x0 x1 x2 (f_X10_isRest_37 h x0 x1 x2 k5) := by
  intro H locs ls s0 x4 hf hR hS z_s0 hl
  rw [f_X10_isRest_37] at hf
  refine lv_istore_n (lv' := [(3, .int s0), (0, .int x0), (1, .int x1), (2, .int x2), (4, .int x4)]) C.x C.b dX10_isRest_37 rfl hl (by decide) rfl (fun ls hl => ?_)
  obtain ⟨v6, e_v6⟩ : ∃ y : Int32, y = x4 + (1 : Int32) := ⟨_, rfl⟩
  have hf := lt_e hf e_v6
  refine lv_iinc (v := v6) (lv' := [(4, .int v6), (3, .int s0), (0, .int x0), (1, .int x1), (2, .int x2)]) C.x C.b dX10_isRest_38 hl (k := 4) rfl (by rw [e_v6]; rfl) (by decide) rfl (fun ls hl => ?_)
  refine lv_goto (tgt := 5) C.x C.b dX10_isRest_41 (by decide) ?_
  exact hk5 _ _ _ _ _ hf hR hS z_s0 (lv_sub hl [2, 3, 4, 1, 0] rfl)
set_option maxRecDepth 100000 in
set_option maxHeartbeats 4000000 in
theorem w_X10_isRest_36 {G : Gt} {l : Launch} {p : Program} {e : Env} {s : State} {m : MethodId} {args : Array Value} {below : List Frame} {meth : Method} {c : Code}  {h : Hp} {out : Int32} {x0 : Int32} {x1 : Int32} {x2 : Int32} {k5 : Int32 → Int32 → Option Int32} (C : Cx G p m c cX10_isRest 5 s args RX10) (hr : meth.sig.returnType = some .boolean) (hlk : meth.locks = false)  (hk5 : P_X10_isRest_5 G l p e s m args below meth c h out x0 x1 x2 k5) : P_X10_isRest_36 G l p e s m args below meth c h out x0 x1 x2 (f_X10_isRest_36 h x0 x1 x2 k5) := by
  intro H locs ls x4 hf hR hS  hl
  rw [f_X10_isRest_36] at hf
  refine lv_iconst (v := (0 : Int32)) C.x C.b dX10_isRest_36 (by decide) ?_
  exact w_X10_isRest_37 C hr hlk hk5 _ _ _ _ _ hf hR hS z_0 (lv_sub hl [0, 1, 2, 3] rfl)
set_option maxRecDepth 100000 in
set_option maxHeartbeats 4000000 in
theorem w_X10_isRest_5 {G : Gt} {l : Launch} {p : Program} {e : Env} {s : State} {m : MethodId} {args : Array Value} {below : List Frame} {meth : Method} {c : Code}  {h : Hp} {out : Int32} {x0 : Int32} {x1 : Int32} {x2 : Int32}  (C : Cx G p m c cX10_isRest 5 s args RX10) (hr : meth.sig.returnType = some .boolean) (hlk : meth.locks = false)   (n : Nat) : P_X10_isRest_5 G l p e s m args below meth c h out x0 x1 x2 (f_X10_isRest_5 h x0 x1 x2 n) := by
  induction n with
  | zero => intro H locs ls x3 x4 hf hR hS z_x3 hl; cases hf
  | succ n hk5 =>
    intro H locs ls x3 x4 hf hR hS z_x3 hl
    rw [f_X10_isRest_5] at hf
    obtain ⟨k5, e_k5⟩ : ∃ y, y = f_X10_isRest_5 h x0 x1 x2 n := ⟨_, rfl⟩
    have hf := lt_e hf e_k5
    rw [← e_k5] at hk5
    refine lv_iload C.x C.b dX10_isRest_5 (lv_at hl 4 rfl) ?_
    refine lv_bipush (v := (9 : Int32)) C.x C.b dX10_isRest_7 (by decide) ?_
    refine lv_icmp_gt (tgt := 44) C.x C.b dX10_isRest_9 (by decide) (fun c1 => ?_) (fun c1 => ?_)
    · have hf := it_t hf c1
      refine lv_iload_n C.x C.b dX10_isRest_44 rfl (lv_at hl 3 rfl) ?_
      have hf := so_e hf
      subst hf
      exact r_zret C hr hlk hR Ext.rf hS z_x3 dX10_isRest_45
    · have hf := it_f hf c1
      refine lv_iload_n C.x C.b dX10_isRest_12 rfl (lv_at hl 3 rfl) ?_
      refine lv_if_eq (tgt := 36) C.x C.b dX10_isRest_13 (by decide) (fun c2 => ?_) (fun c2 => ?_)
      · have hf := it_t hf c2
        exact w_X10_isRest_36 C hr hlk hk5 _ _ _ _ hf hR hS (lv_sub hl [0, 1, 2, 4] rfl)
      · have hf := it_f hf c2
        refine lv_iload C.x C.b dX10_isRest_16 (lv_at hl 4 rfl) ?_
        refine lv_iload_n C.x C.b dX10_isRest_18 rfl (lv_at hl 1 rfl) ?_
        refine lv_iload_n C.x C.b dX10_isRest_19 rfl (lv_at hl 2 rfl) ?_
        obtain ⟨q3, h_q3, hf⟩ := bd_e hf
        refine r_callS (As := [.int x4, .int x1, .int x2]) (rest := []) C hR hS mk_X10_gets cl_X10_440 (k_X10_gets h_q3) ⟨⟨Nat.le_of_ble_eq_true rfl, Nat.le_of_ble_eq_true rfl⟩, ⟨rfl, rfl⟩, Nat.le_of_ble_eq_true rfl, Nat.le_of_ble_eq_true rfl⟩ rfl hl.1 rfl (Nat.le_of_ble_eq_true rfl) dX10_isRest_20 (fun H locs hR hS hE1 z_q3 => ?_)
        refine lv_iload_n C.x C.b dX10_isRest_23 rfl (lv_at hl 0 rfl) ?_
        refine lv_iload_n C.x C.b dX10_isRest_24 rfl (lv_at hl 1 rfl) ?_
        refine lv_iload_n C.x C.b dX10_isRest_25 rfl (lv_at hl 2 rfl) ?_
        obtain ⟨q4, h_q4, hf⟩ := bd_e hf
        refine r_callS (As := [.int x0, .int x1, .int x2]) (rest := [.int q3]) C hR hS mk_X10_gets cl_X10_440 (k_X10_gets h_q4) ⟨⟨Nat.le_of_ble_eq_true rfl, Nat.le_of_ble_eq_true rfl⟩, ⟨rfl, rfl⟩, Nat.le_of_ble_eq_true rfl, Nat.le_of_ble_eq_true rfl⟩ rfl hl.1 rfl (Nat.le_of_ble_eq_true rfl) dX10_isRest_26 (fun H locs hR hS hE1 z_q4 => ?_)
        refine lv_icmp_gt (tgt := 36) C.x C.b dX10_isRest_29 (by decide) (fun c5 => ?_) (fun c5 => ?_)
        · have hf := it_t hf c5
          exact w_X10_isRest_36 C hr hlk hk5 _ _ _ _ hf hR hS (lv_sub hl [0, 1, 2, 4] rfl)
        · have hf := it_f hf c5
          refine lv_iconst (v := (1 : Int32)) C.x C.b dX10_isRest_32 (by decide) ?_
          refine lv_goto (tgt := 37) C.x C.b dX10_isRest_33 (by decide) ?_
          exact w_X10_isRest_37 C hr hlk hk5 _ _ _ _ _ hf hR hS z_1 (lv_sub hl [0, 1, 2, 4] rfl)
set_option maxRecDepth 100000 in
set_option maxHeartbeats 4000000 in
theorem k_X10_isRest {G : Gt} {l : Launch}  {h : Hp} {x0 : Int32} {x1 : Int32} {x2 : Int32} {out : Int32}   (hf : f_X10_isRest  h x0 x1 x2 = some out) : Mt G l yX10_isRest cX10_isRest 5 (some .boolean) rm_X10_isRest [.int x0, .int x1, .int x2] h (some (.int out)) h 1 0 0 := by
  refine r_met (by decide +kernel) (Nat.le_of_ble_eq_true rfl) ?_
  intro p e s m args below meth c ls C hr hlk hnm hR hS hl
  have hl : lv_has ls 5 [(0, .int x0), (1, .int x1), (2, .int x2)] := hl
  rw [f_X10_isRest] at hf
  refine lv_iconst (v := (1 : Int32)) C.x C.b dX10_isRest_0 (by decide) ?_
  refine lv_istore_n (lv' := [(3, .int (1 : Int32)), (0, .int x0), (1, .int x1), (2, .int x2)]) C.x C.b dX10_isRest_1 rfl hl (by decide) rfl (fun ls hl => ?_)
  refine lv_iconst (v := (0 : Int32)) C.x C.b dX10_isRest_2 (by decide) ?_
  refine lv_istore (lv' := [(4, .int (0 : Int32)), (3, .int (1 : Int32)), (0, .int x0), (1, .int x1), (2, .int x2)]) C.x C.b dX10_isRest_3 hl (by decide) rfl (fun ls hl => ?_)
  exact w_X10_isRest_5 C hr hlk FU _ _ _ _ _ hf hR hS z_1 (lv_sub hl [2, 3, 4, 1, 0] rfl)

def rm_X10_rests : Room := { frames := 3, cells := 0, slots := 0, locals := 60 }
def P_X10_rests_84 (G : Gt) (l : Launch) (p : Program) (e : Env) (s : State) (m : MethodId) (args : Array Value) (below : List Frame) (meth : Method) (c : Code) (h0 : Hp) (out : (Int32 × Hp)) (r0 : Nat) (x1 : Int32) (k : Hp → Int32 → Int32 → Int32 → Option (Int32 × Hp)) : Prop := ∀ (H : Heap) (locs : List Loc) (ls : Array Slot) (h : Hp) (x2 : Int32) (x3 : Int32) (x4 : Int32), k h x2 x3 x4 = some out → Ext h0 h → Rel G h H → va_S (AA G.2.2) s.heap H locs → hpT h r0 = (1, 10) → lv_has ls 5 [(0, .ref (G.2.2 + r0)), (1, .int x1), (2, .int x2), (3, .int x3), (4, .int x4)] → W p l e rm_X10_rests s m args below meth c H locs 0 0 (MQ below (Qm G h0 out.2 (some (.int out.1)) 0) args s 0 0 (AA G.2.2)) (F0 m 84 ls [])
def P_X10_rests_81 (G : Gt) (l : Launch) (p : Program) (e : Env) (s : State) (m : MethodId) (args : Array Value) (below : List Frame) (meth : Method) (c : Code) (h0 : Hp) (out : (Int32 × Hp)) (r0 : Nat) (x1 : Int32) (k : Hp → Int32 → Int32 → Int32 → Option (Int32 × Hp)) : Prop := ∀ (H : Heap) (locs : List Loc) (ls : Array Slot) (h : Hp) (x2 : Int32) (x3 : Int32) (x4 : Int32), k h x2 x3 x4 = some out → Ext h0 h → Rel G h H → va_S (AA G.2.2) s.heap H locs → hpT h r0 = (1, 10) → lv_has ls 5 [(0, .ref (G.2.2 + r0)), (1, .int x1), (2, .int x2), (3, .int x3), (4, .int x4)] → W p l e rm_X10_rests s m args below meth c H locs 0 0 (MQ below (Qm G h0 out.2 (some (.int out.1)) 0) args s 0 0 (AA G.2.2)) (F0 m 81 ls [])
def P_X10_rests_37 (G : Gt) (l : Launch) (p : Program) (e : Env) (s : State) (m : MethodId) (args : Array Value) (below : List Frame) (meth : Method) (c : Code) (h0 : Hp) (out : (Int32 × Hp)) (r0 : Nat) (x1 : Int32) (k : Hp → Int32 → Int32 → Int32 → Option (Int32 × Hp)) : Prop := ∀ (H : Heap) (locs : List Loc) (ls : Array Slot) (h : Hp) (x2 : Int32) (x3 : Int32) (x4 : Int32), k h x2 x3 x4 = some out → Ext h0 h → Rel G h H → va_S (AA G.2.2) s.heap H locs → hpT h r0 = (1, 10) → lv_has ls 5 [(0, .ref (G.2.2 + r0)), (1, .int x1), (2, .int x2), (3, .int x3), (4, .int x4)] → W p l e rm_X10_rests s m args below meth c H locs 0 0 (MQ below (Qm G h0 out.2 (some (.int out.1)) 0) args s 0 0 (AA G.2.2)) (F0 m 37 ls [])
def P_X10_rests_28 (G : Gt) (l : Launch) (p : Program) (e : Env) (s : State) (m : MethodId) (args : Array Value) (below : List Frame) (meth : Method) (c : Code) (h0 : Hp) (out : (Int32 × Hp)) (r0 : Nat) (x1 : Int32) (k : Hp → Int32 → Int32 → Option (Int32 × Hp)) : Prop := ∀ (H : Heap) (locs : List Loc) (ls : Array Slot) (h : Hp) (x2 : Int32) (x3 : Int32), k h x2 x3 = some out → Ext h0 h → Rel G h H → va_S (AA G.2.2) s.heap H locs → hpT h r0 = (1, 10) → lv_has ls 5 [(0, .ref (G.2.2 + r0)), (1, .int x1), (2, .int x2), (3, .int x3)] → W p l e rm_X10_rests s m args below meth c H locs 0 0 (MQ below (Qm G h0 out.2 (some (.int out.1)) 0) args s 0 0 (AA G.2.2)) (F0 m 28 ls [])
set_option maxRecDepth 100000 in
set_option maxHeartbeats 4000000 in
theorem w_X10_rests_84 {G : Gt} {l : Launch} {p : Program} {e : Env} {s : State} {m : MethodId} {args : Array Value} {below : List Frame} {meth : Method} {c : Code}  {h0 : Hp} {out : (Int32 × Hp)} {r0 : Nat} {x1 : Int32} {k28 : Hp → Int32 → Int32 → Option (Int32 × Hp)} {k37 : Hp → Int32 → Int32 → Int32 → Option (Int32 × Hp)} (C : Cx G p m c cX10_rests 5 s args RX10) (hr : meth.sig.returnType = some .int) (hlk : meth.locks = false)  (hk28 : P_X10_rests_28 G l p e s m args below meth c h0 out r0 x1 k28) (hk37 : P_X10_rests_37 G l p e s m args below meth c h0 out r0 x1 k37) : P_X10_rests_84 G l p e s m args below meth c h0 out r0 x1 (f_X10_rests_84 r0 x1 k28 k37) := by
  intro H locs ls h x2 x3 x4 hf hE hR hS t_r0 hl
  rw [f_X10_rests_84] at hf
  obtain ⟨v16, e_v16⟩ : ∃ y : Int32, y = x4 + (1 : Int32) := ⟨_, rfl⟩
  have hf := lt_e hf e_v16
  refine lv_iinc (v := v16) (lv' := [(4, .int v16), (0, .ref (G.2.2 + r0)), (1, .int x1), (2, .int x2), (3, .int x3)]) C.x C.b dX10_rests_84 hl (k := 4) rfl (by rw [e_v16]; rfl) (by decide) rfl (fun ls hl => ?_)
  refine lv_goto (tgt := 37) C.x C.b dX10_rests_87 (by decide) ?_
  exact hk37 _ _ _ _ _ _ _ hf hE hR hS t_r0 (lv_sub hl [1, 2, 3, 4, 0] rfl)
set_option maxRecDepth 100000 in
set_option maxHeartbeats 4000000 in
theorem w_X10_rests_81 {G : Gt} {l : Launch} {p : Program} {e : Env} {s : State} {m : MethodId} {args : Array Value} {below : List Frame} {meth : Method} {c : Code}  {h0 : Hp} {out : (Int32 × Hp)} {r0 : Nat} {x1 : Int32} {k28 : Hp → Int32 → Int32 → Option (Int32 × Hp)} {k37 : Hp → Int32 → Int32 → Int32 → Option (Int32 × Hp)} (C : Cx G p m c cX10_rests 5 s args RX10) (hr : meth.sig.returnType = some .int) (hlk : meth.locks = false)  (hk28 : P_X10_rests_28 G l p e s m args below meth c h0 out r0 x1 k28) (hk37 : P_X10_rests_37 G l p e s m args below meth c h0 out r0 x1 k37) : P_X10_rests_81 G l p e s m args below meth c h0 out r0 x1 (f_X10_rests_81 r0 x1 k28 k37) := by
  intro H locs ls h x2 x3 x4 hf hE hR hS t_r0 hl
  rw [f_X10_rests_81] at hf
  obtain ⟨v15, e_v15⟩ : ∃ y : Int32, y = x2 + (1 : Int32) := ⟨_, rfl⟩
  have hf := lt_e hf e_v15
  refine lv_iinc (v := v15) (lv' := [(2, .int v15), (0, .ref (G.2.2 + r0)), (1, .int x1), (3, .int x3), (4, .int x4)]) C.x C.b dX10_rests_81 hl (k := 2) rfl (by rw [e_v15]; rfl) (by decide) rfl (fun ls hl => ?_)
  exact w_X10_rests_84 C hr hlk hk28 hk37 _ _ _ _ _ _ _ hf hE hR hS t_r0 (lv_sub hl [1, 2, 0, 3, 4] rfl)
set_option maxRecDepth 100000 in
set_option maxHeartbeats 4000000 in
theorem w_X10_rests_37 {G : Gt} {l : Launch} {p : Program} {e : Env} {s : State} {m : MethodId} {args : Array Value} {below : List Frame} {meth : Method} {c : Code}  {h0 : Hp} {out : (Int32 × Hp)} {r0 : Nat} {x1 : Int32} {k28 : Hp → Int32 → Int32 → Option (Int32 × Hp)} (C : Cx G p m c cX10_rests 5 s args RX10) (hr : meth.sig.returnType = some .int) (hlk : meth.locks = false)  (hk28 : P_X10_rests_28 G l p e s m args below meth c h0 out r0 x1 k28) (n : Nat) : P_X10_rests_37 G l p e s m args below meth c h0 out r0 x1 (f_X10_rests_37 r0 x1 k28 n) := by
  induction n with
  | zero => intro H locs ls h x2 x3 x4 hf hE hR hS t_r0 hl; cases hf
  | succ n hk37 =>
    intro H locs ls h x2 x3 x4 hf hE hR hS t_r0 hl
    rw [f_X10_rests_37] at hf
    obtain ⟨k37, e_k37⟩ : ∃ y, y = f_X10_rests_37 r0 x1 k28 n := ⟨_, rfl⟩
    have hf := lt_e hf e_k37
    rw [← e_k37] at hk37
    refine lv_iload C.x C.b dX10_rests_37 (lv_at hl 4 rfl) ?_
    refine lv_bipush (v := (9 : Int32)) C.x C.b dX10_rests_39 (by decide) ?_
    refine lv_icmp_gt (tgt := 90) C.x C.b dX10_rests_41 (by decide) (fun c6 => ?_) (fun c6 => ?_)
    · have hf := it_t hf c6
      obtain ⟨v7, e_v7⟩ : ∃ y : Int32, y = x3 + (1 : Int32) := ⟨_, rfl⟩
      have hf := lt_e hf e_v7
      refine lv_iinc (v := v7) (lv' := [(3, .int v7), (0, .ref (G.2.2 + r0)), (1, .int x1), (2, .int x2), (4, .int x4)]) C.x C.b dX10_rests_90 hl (k := 3) rfl (by rw [e_v7]; rfl) (by decide) rfl (fun ls hl => ?_)
      refine lv_goto (tgt := 28) C.x C.b dX10_rests_93 (by decide) ?_
      exact hk28 _ _ _ _ _ _ hf hE hR hS t_r0 (lv_sub hl [1, 2, 3, 0] rfl)
    · have hf := it_f hf c6
      refine lv_iload_n C.x C.b dX10_rests_44 rfl (lv_at hl 3 rfl) ?_
      refine lv_iload C.x C.b dX10_rests_45 (lv_at hl 4 rfl) ?_
      refine lv_iload_n C.x C.b dX10_rests_47 rfl (lv_at hl 1 rfl) ?_
      obtain ⟨q8, h_q8, hf⟩ := bd_e hf
      refine r_callS (As := [.int x3, .int x4, .int x1]) (rest := []) C hR hS mk_X10_isRest cl_X10_445 (k_X10_isRest h_q8) ⟨⟨Nat.le_of_ble_eq_true rfl, Nat.le_of_ble_eq_true rfl⟩, ⟨rfl, rfl⟩, Nat.le_of_ble_eq_true rfl, Nat.le_of_ble_eq_true rfl⟩ rfl hl.1 rfl (Nat.le_of_ble_eq_true rfl) dX10_rests_48 (fun H locs hR hS hE1 z_q8 => ?_)
      have z_q8 := z_q8 _ rfl
      refine lv_if_eq (tgt := 84) C.x C.b dX10_rests_51 (by decide) (fun c9 => ?_) (fun c9 => ?_)
      · have hf := it_t hf c9
        exact w_X10_rests_84 C hr hlk hk28 hk37 _ _ _ _ _ _ _ hf hE hR hS t_r0 (lv_sub hl [0, 1, 2, 3, 4] rfl)
      · have hf := it_f hf c9
        refine lv_iload C.x C.b dX10_rests_54 (lv_at hl 4 rfl) ?_
        refine lv_iload_n C.x C.b dX10_rests_56 rfl (lv_at hl 3 rfl) ?_
        refine lv_iload_n C.x C.b dX10_rests_57 rfl (lv_at hl 1 rfl) ?_
        obtain ⟨q10, h_q10, hf⟩ := bd_e hf
        refine r_callS (As := [.int x4, .int x3, .int x1]) (rest := []) C hR hS mk_X10_isRest cl_X10_445 (k_X10_isRest h_q10) ⟨⟨Nat.le_of_ble_eq_true rfl, Nat.le_of_ble_eq_true rfl⟩, ⟨rfl, rfl⟩, Nat.le_of_ble_eq_true rfl, Nat.le_of_ble_eq_true rfl⟩ rfl hl.1 rfl (Nat.le_of_ble_eq_true rfl) dX10_rests_58 (fun H locs hR hS hE1 z_q10 => ?_)
        have z_q10 := z_q10 _ rfl
        refine lv_if_eq (tgt := 84) C.x C.b dX10_rests_61 (by decide) (fun c11 => ?_) (fun c11 => ?_)
        · have hf := it_t hf c11
          exact w_X10_rests_84 C hr hlk hk28 hk37 _ _ _ _ _ _ _ hf hE hR hS t_r0 (lv_sub hl [0, 1, 2, 3, 4] rfl)
        · have hf := it_f hf c11
          refine lv_iload_n C.x C.b dX10_rests_64 rfl (lv_at hl 2 rfl) ?_
          refine lv_if_ne (tgt := 81) C.x C.b dX10_rests_65 (by decide) (fun c12 => ?_) (fun c12 => ?_)
          · have hf := it_f hf c12
            exact w_X10_rests_81 C hr hlk hk28 hk37 _ _ _ _ _ _ _ hf hE hR hS t_r0 (lv_sub hl [0, 1, 2, 3, 4] rfl)
          · have hf := it_t hf c12
            refine lv_aload_n C.x C.b dX10_rests_68 rfl (lv_at hl 0 rfl) ?_
            refine lv_iload_n C.x C.b dX10_rests_69 rfl (lv_at hl 3 rfl) ?_
            refine lv_i2l C.x C.b dX10_rests_70 rfl ?_
            obtain ⟨q13, h_q13, hf⟩ := bd_e hf
            refine r_callV (As := [.long (x3.toInt64)]) (rest := []) C hR hS t_r0 rfl mk_X10_enters cl_X10_339 (k_X10_enters t_r0 h_q13) ⟨⟨Nat.le_of_ble_eq_true rfl, Nat.le_of_ble_eq_true rfl⟩, ⟨rfl, rfl⟩, Nat.le_of_ble_eq_true rfl, Nat.le_of_ble_eq_true rfl⟩ rfl hl.1 rfl (Nat.le_of_ble_eq_true rfl) dX10_rests_71 (fun H locs hR hS hE1 z_q13 => ?_)
            have hE := hE.tr hE1
            have t_r0 := hE1.at t_r0 (by decide)
            refine lv_aload_n C.x C.b dX10_rests_74 rfl (lv_at hl 0 rfl) ?_
            refine lv_iload C.x C.b dX10_rests_75 (lv_at hl 4 rfl) ?_
            refine lv_i2l C.x C.b dX10_rests_77 rfl ?_
            obtain ⟨q14, h_q14, hf⟩ := bd_e hf
            refine r_callV (As := [.long (x4.toInt64)]) (rest := []) C hR hS t_r0 rfl mk_X10_enters cl_X10_339 (k_X10_enters t_r0 h_q14) ⟨⟨Nat.le_of_ble_eq_true rfl, Nat.le_of_ble_eq_true rfl⟩, ⟨rfl, rfl⟩, Nat.le_of_ble_eq_true rfl, Nat.le_of_ble_eq_true rfl⟩ rfl hl.1 rfl (Nat.le_of_ble_eq_true rfl) dX10_rests_78 (fun H locs hR hS hE1 z_q14 => ?_)
            have hE := hE.tr hE1
            have t_r0 := hE1.at t_r0 (by decide)
            exact w_X10_rests_81 C hr hlk hk28 hk37 _ _ _ _ _ _ _ hf hE hR hS t_r0 (lv_sub hl [0, 1, 2, 3, 4] rfl)
set_option maxRecDepth 100000 in
set_option maxHeartbeats 4000000 in
theorem w_X10_rests_28 {G : Gt} {l : Launch} {p : Program} {e : Env} {s : State} {m : MethodId} {args : Array Value} {below : List Frame} {meth : Method} {c : Code}  {h0 : Hp} {out : (Int32 × Hp)} {r0 : Nat} {x1 : Int32}  (C : Cx G p m c cX10_rests 5 s args RX10) (hr : meth.sig.returnType = some .int) (hlk : meth.locks = false)   (n : Nat) : P_X10_rests_28 G l p e s m args below meth c h0 out r0 x1 (f_X10_rests_28 r0 x1 n) := by
  induction n with
  | zero => intro H locs ls h x2 x3 hf hE hR hS t_r0 hl; cases hf
  | succ n hk28 =>
    intro H locs ls h x2 x3 hf hE hR hS t_r0 hl
    rw [f_X10_rests_28] at hf
    obtain ⟨k28, e_k28⟩ : ∃ y, y = f_X10_rests_28 r0 x1 n := ⟨_, rfl⟩
    have hf := lt_e hf e_k28
    rw [← e_k28] at hk28
    refine lv_iload_n C.x C.b dX10_rests_28 rfl (lv_at hl 3 rfl) ?_
    refine lv_bipush (v := (9 : Int32)) C.x C.b dX10_rests_29 (by decide) ?_
    refine lv_icmp_gt (tgt := 96) C.x C.b dX10_rests_31 (by decide) (fun c5 => ?_) (fun c5 => ?_)
    · have hf := it_t hf c5
      refine lv_iload_n C.x C.b dX10_rests_96 rfl (lv_at hl 2 rfl) ?_
      have hf := so_e hf
      subst hf
      exact r_iret C hr hlk hR hE hS dX10_rests_97
    · have hf := it_f hf c5
      refine lv_iconst (v := (0 : Int32)) C.x C.b dX10_rests_34 (by decide) ?_
      refine lv_istore (lv' := [(4, .int (0 : Int32)), (0, .ref (G.2.2 + r0)), (1, .int x1), (2, .int x2), (3, .int x3)]) C.x C.b dX10_rests_35 hl (by decide) rfl (fun ls hl => ?_)
      exact w_X10_rests_37 C hr hlk hk28 FU _ _ _ _ _ _ _ hf hE hR hS t_r0 (lv_sub hl [1, 2, 3, 4, 0] rfl)
set_option maxRecDepth 100000 in
set_option maxHeartbeats 4000000 in
theorem k_X10_rests {G : Gt} {l : Launch}  {h : Hp} {r0 : Nat} {x1 : Int32} {out : (Int32 × Hp)} (t_r0 : hpT h r0 = (1, 10))  (hf : f_X10_rests  h r0 x1 = some out) : Mt G l yX10_rests cX10_rests 5 (some .int) rm_X10_rests [.ref (G.2.2 + r0), .int x1] h (some (.int out.1)) out.2 0 0 0 := by
  refine r_met (by decide +kernel) (Nat.le_of_ble_eq_true rfl) ?_
  intro p e s m args below meth c ls C hr hlk hnm hR hS hl
  have hE : Ext h h := Ext.rf
  have hl : lv_has ls 5 [(0, .ref (G.2.2 + r0)), (1, .int x1)] := hl
  rw [f_X10_rests] at hf
  refine lv_aload_n C.x C.b dX10_rests_0 rfl (lv_at hl 0 rfl) ?_
  refine lv_iconst (v := (0 : Int32)) C.x C.b dX10_rests_1 (by decide) ?_
  refine r_puti C hR hS t_r0 fl_X10_103 fp_X10_10_0 rfl dX10_rests_2 (fun H locs hR hS => ?_)
  obtain ⟨h1, e_h1⟩ : ∃ y, y = upI h r0 0 (0 : Int32) := ⟨_, rfl⟩
  rw [← e_h1] at hR
  have hf := lt_e hf e_h1
  have hE := eI e_h1 hE
  have t_r0 := tI e_h1 t_r0
  refine lv_iload_n C.x C.b dX10_rests_5 rfl (lv_at hl 1 rfl) ?_
  refine lv_i2l C.x C.b dX10_rests_6 rfl ?_
  refine lv_lconst (v := (0 : Int64)) C.x C.b dX10_rests_7 (by decide) ?_
  refine lv_ldc2 C.x C.b C.ow (C.ts _ lk_X10_443) dX10_rests_8 ?_
  obtain ⟨q2, h_q2, hf⟩ := bd_e hf
  refine r_callS (As := [.long (x1.toInt64), .long (0 : Int64), .long (20 : Int64)]) (rest := []) C hR hS mk_X10_in cl_X10_117 (k_X10_in h_q2) ⟨⟨Nat.le_of_ble_eq_true rfl, Nat.le_of_ble_eq_true rfl⟩, ⟨rfl, rfl⟩, Nat.le_of_ble_eq_true rfl, Nat.le_of_ble_eq_true rfl⟩ rfl hl.1 rfl (Nat.le_of_ble_eq_true rfl) dX10_rests_11 (fun H locs hR hS hE1 z_q2 => ?_)
  have z_q2 := z_q2 _ rfl
  refine lv_if_ne (tgt := 19) C.x C.b dX10_rests_14 (by decide) (fun c3 => ?_) (fun c3 => ?_)
  · have hf := it_f hf c3
    refine lv_iconst (v := (0 : Int32)) C.x C.b dX10_rests_19 (by decide) ?_
    refine lv_istore_n (lv' := [(2, .int (0 : Int32)), (0, .ref (G.2.2 + r0)), (1, .int x1)]) C.x C.b dX10_rests_20 rfl hl (by decide) rfl (fun ls hl => ?_)
    refine lv_aload_n C.x C.b dX10_rests_21 rfl (lv_at hl 1 rfl) ?_
    refine lv_iconst (v := (0 : Int32)) C.x C.b dX10_rests_22 (by decide) ?_
    refine r_puti C hR hS t_r0 fl_X10_110 fp_X10_10_1 rfl dX10_rests_23 (fun H locs hR hS => ?_)
    obtain ⟨h4, e_h4⟩ : ∃ y, y = upI h1 r0 1 (0 : Int32) := ⟨_, rfl⟩
    rw [← e_h4] at hR
    have hf := lt_e hf e_h4
    have hE := eI e_h4 hE
    have t_r0 := tI e_h4 t_r0
    refine lv_iconst (v := (0 : Int32)) C.x C.b dX10_rests_26 (by decide) ?_
    refine lv_istore_n (lv' := [(3, .int (0 : Int32)), (2, .int (0 : Int32)), (0, .ref (G.2.2 + r0)), (1, .int x1)]) C.x C.b dX10_rests_27 rfl hl (by decide) rfl (fun ls hl => ?_)
    exact w_X10_rests_28 C hr hlk FU _ _ _ _ _ _ hf hE hR hS t_r0 (lv_sub hl [2, 3, 1, 0] rfl)
  · have hf := it_t hf c3
    refine lv_iconst (v := (-1 : Int32)) C.x C.b dX10_rests_17 (by decide) ?_
    have hf := so_e hf
    subst hf
    exact r_iret C hr hlk hR hE hS dX10_rests_18

def rm_X10_draws : Room := { frames := 0, cells := 0, slots := 0, locals := 0 }
set_option maxRecDepth 100000 in
set_option maxHeartbeats 4000000 in
theorem k_X10_draws {G : Gt} {l : Launch}  {h : Hp} {r0 : Nat} {x1 : Int32} {out : (Int32 × Hp)} (t_r0 : hpT h r0 = (1, 10))  (hf : f_X10_draws  h r0 x1 = some out) : Mt G l yX10_draws cX10_draws 2 (some .int) rm_X10_draws [.ref (G.2.2 + r0), .int x1] h (some (.int out.1)) out.2 0 0 0 := by
  refine r_met (by decide +kernel) (Nat.le_of_ble_eq_true rfl) ?_
  intro p e s m args below meth c ls C hr hlk hnm hR hS hl
  have hE : Ext h h := Ext.rf
  have hl : lv_has ls 2 [(0, .ref (G.2.2 + r0)), (1, .int x1)] := hl
  rw [f_X10_draws] at hf
  refine lv_aload_n C.x C.b dX10_draws_0 rfl (lv_at hl 0 rfl) ?_
  refine lv_aload_n C.x C.b dX10_draws_1 rfl (lv_at hl 0 rfl) ?_
  refine r_geti C hR t_r0 fl_X10_448 rfl dX10_draws_2 ?_
  refine lv_ldcw C.x C.b C.ow (C.ts _ lk_X10_451) dX10_draws_5 ?_
  refine lv_imul C.x C.b dX10_draws_8 ?_
  refine lv_sipush (v := (12345 : Int32)) C.x C.b dX10_draws_9 (by decide) ?_
  refine lv_iadd C.x C.b dX10_draws_12 ?_
  refine r_puti C hR hS t_r0 fl_X10_448 fp_X10_10_42 rfl dX10_draws_13 (fun H locs hR hS => ?_)
  obtain ⟨h1, e_h1⟩ : ∃ y, y = upI h r0 42 (((hpI h r0 42) * (1103515245 : Int32)) + (12345 : Int32)) := ⟨_, rfl⟩
  rw [← e_h1] at hR
  have hf := lt_e hf e_h1
  have hE := eI e_h1 hE
  have t_r0 := tI e_h1 t_r0
  refine lv_aload_n C.x C.b dX10_draws_16 rfl (lv_at hl 0 rfl) ?_
  refine r_geti C hR t_r0 fl_X10_448 rfl dX10_draws_17 ?_
  refine lv_bipush (v := (16 : Int32)) C.x C.b dX10_draws_20 (by decide) ?_
  refine lv_iushr C.x C.b dX10_draws_22 rfl ?_
  refine lv_topi (fun v2 e_v2 => ?_)
  have hf := lt_e hf e_v2
  refine lv_iload_n C.x C.b dX10_draws_23 rfl (lv_at hl 1 rfl) ?_
  obtain ⟨g3, hf⟩ := gd_e hf
  refine lv_irem C.x C.b dX10_draws_24 (nz32_e g3) ?_
  refine lv_topi (fun v4 e_v4 => ?_)
  have hf := lt_e hf e_v4
  have hf := so_e hf
  subst hf
  exact r_iret C hr hlk hR hE hS dX10_draws_25

def rm_X10_drawn : Room := { frames := 8, cells := 0, slots := 0, locals := 194 }
def P_X10_drawn_168 (G : Gt) (l : Launch) (p : Program) (e : Env) (s : State) (m : MethodId) (args : Array Value) (below : List Frame) (meth : Method) (c : Code) (h0 : Hp) (out : (Int32 × Hp)) (r0 : Nat) (x1 : Int32) (x2 : Int32) (k : Hp → Int32 → Option (Int32 × Hp)) : Prop := ∀ (H : Heap) (locs : List Loc) (ls : Array Slot) (h : Hp) (x3 : Int32), k h x3 = some out → Ext h0 h → Rel G h H → va_S (AA G.2.2) s.heap H locs → hpT h r0 = (1, 10) → lv_has ls 8 [(0, .ref (G.2.2 + r0)), (1, .int x1), (2, .int x2), (3, .int x3)] → W p l e rm_X10_drawn s m args below meth c H locs 0 0 (MQ below (Qm G h0 out.2 (some (.int out.1)) 0) args s 0 0 (AA G.2.2)) (F0 m 168 ls [])
def P_X10_drawn_39 (G : Gt) (l : Launch) (p : Program) (e : Env) (s : State) (m : MethodId) (args : Array Value) (below : List Frame) (meth : Method) (c : Code) (h0 : Hp) (out : (Int32 × Hp)) (r0 : Nat) (x1 : Int32) (x2 : Int32) (k : Hp → Int32 → Option (Int32 × Hp)) : Prop := ∀ (H : Heap) (locs : List Loc) (ls : Array Slot) (h : Hp) (x3 : Int32), k h x3 = some out → Ext h0 h → Rel G h H → va_S (AA G.2.2) s.heap H locs → hpT h r0 = (1, 10) → lv_has ls 8 [(0, .ref (G.2.2 + r0)), (1, .int x1), (2, .int x2), (3, .int x3)] → W p l e rm_X10_drawn s m args below meth c H locs 0 0 (MQ below (Qm G h0 out.2 (some (.int out.1)) 0) args s 0 0 (AA G.2.2)) (F0 m 39 ls [])
set_option maxRecDepth 100000 in
set_option maxHeartbeats 4000000 in
theorem w_X10_drawn_168 {G : Gt} {l : Launch} {p : Program} {e : Env} {s : State} {m : MethodId} {args : Array Value} {below : List Frame} {meth : Method} {c : Code}  {h0 : Hp} {out : (Int32 × Hp)} {r0 : Nat} {x1 : Int32} {x2 : Int32} {k39 : Hp → Int32 → Option (Int32 × Hp)} (C : Cx G p m c cX10_drawn 8 s args RX10) (hr : meth.sig.returnType = some .int) (hlk : meth.locks = false)  (hk39 : P_X10_drawn_39 G l p e s m args below meth c h0 out r0 x1 x2 k39) : P_X10_drawn_168 G l p e s m args below meth c h0 out r0 x1 x2 (f_X10_drawn_168 r0 x1 x2 k39) := by
  intro H locs ls h x3 hf hE hR hS t_r0 hl
  rw [f_X10_drawn_168] at hf
  obtain ⟨v47, e_v47⟩ : ∃ y : Int32, y = x3 + (1 : Int32) := ⟨_, rfl⟩
  have hf := lt_e hf e_v47
  refine lv_iinc (v := v47) (lv' := [(3, .int v47), (0, .ref (G.2.2 + r0)), (1, .int x1), (2, .int x2)]) C.x C.b dX10_drawn_168 hl (k := 3) rfl (by rw [e_v47]; rfl) (by decide) rfl (fun ls hl => ?_)
  refine lv_goto (tgt := 39) C.x C.b dX10_drawn_171 (by decide) ?_
  exact hk39 _ _ _ _ _ hf hE hR hS t_r0 (lv_sub hl [1, 2, 3, 0] rfl)
set_option maxRecDepth 100000 in
set_option maxHeartbeats 4000000 in
theorem w_X10_drawn_39 {G : Gt} {l : Launch} {p : Program} {e : Env} {s : State} {m : MethodId} {args : Array Value} {below : List Frame} {meth : Method} {c : Code}  {h0 : Hp} {out : (Int32 × Hp)} {r0 : Nat} {x1 : Int32} {x2 : Int32}  (C : Cx G p m c cX10_drawn 8 s args RX10) (hr : meth.sig.returnType = some .int) (hlk : meth.locks = false)   (n : Nat) : P_X10_drawn_39 G l p e s m args below meth c h0 out r0 x1 x2 (f_X10_drawn_39 r0 x1 x2 n) := by
  induction n with
  | zero => intro H locs ls h x3 hf hE hR hS t_r0 hl; cases hf
  | succ n hk39 =>
    intro H locs ls h x3 hf hE hR hS t_r0 hl
    rw [f_X10_drawn_39] at hf
    obtain ⟨k39, e_k39⟩ : ∃ y, y = f_X10_drawn_39 r0 x1 x2 n := ⟨_, rfl⟩
    have hf := lt_e hf e_k39
    rw [← e_k39] at hk39
    refine lv_iload_n C.x C.b dX10_drawn_39 rfl (lv_at hl 3 rfl) ?_
    refine lv_iload_n C.x C.b dX10_drawn_40 rfl (lv_at hl 2 rfl) ?_
    refine lv_icmp_ge (tgt := 174) C.x C.b dX10_drawn_41 (by decide) (fun c9 => ?_) (fun c9 => ?_)
    · have hf := it_t hf c9
      refine lv_aload_n C.x C.b dX10_drawn_174 rfl (lv_at hl 0 rfl) ?_
      refine lv_iconst (v := (0 : Int32)) C.x C.b dX10_drawn_175 (by decide) ?_
      refine r_puti C hR hS t_r0 fl_X10_110 fp_X10_10_1 rfl dX10_drawn_176 (fun H locs hR hS => ?_)
      obtain ⟨h10, e_h10⟩ : ∃ y, y = upI h r0 1 (0 : Int32) := ⟨_, rfl⟩
      rw [← e_h10] at hR
      have hf := lt_e hf e_h10
      have hE := eI e_h10 hE
      have t_r0 := tI e_h10 t_r0
      refine lv_aload_n C.x C.b dX10_drawn_179 rfl (lv_at hl 0 rfl) ?_
      refine lv_aload_n C.x C.b dX10_drawn_180 rfl (lv_at hl 0 rfl) ?_
      obtain ⟨g11, hf⟩ := gd_e hf
      refine r_getr C hR t_r0 fl_X10_24 (by decide) (nz_e g11) dX10_drawn_181 (fun tq12 => ?_)
      have tg11 := okA tq12 rfl
      refine lv_bipush (v := (48 : Int32)) C.x C.b dX10_drawn_184 (by decide) ?_
      obtain ⟨g13, hf⟩ := gd_e hf
      refine r_iald C hR tg11 g13 dX10_drawn_186 ?_
      refine lv_i2l C.x C.b dX10_drawn_187 rfl ?_
      obtain ⟨q14, h_q14, hf⟩ := bd_e hf
      refine r_callV (As := [.long ((hpI h10 (hpR h10 r0 7) (ix (48 : Int32))).toInt64)]) (rest := []) C hR hS t_r0 rfl mk_X10_enters cl_X10_339 (k_X10_enters t_r0 h_q14) ⟨⟨Nat.le_of_ble_eq_true rfl, Nat.le_of_ble_eq_true rfl⟩, ⟨rfl, rfl⟩, Nat.le_of_ble_eq_true rfl, Nat.le_of_ble_eq_true rfl⟩ rfl hl.1 rfl (Nat.le_of_ble_eq_true rfl) dX10_drawn_188 (fun H locs hR hS hE1 z_q14 => ?_)
      have hE := hE.tr hE1
      have t_r0 := hE1.at t_r0 (by decide)
      refine lv_aload_n C.x C.b dX10_drawn_191 rfl (lv_at hl 0 rfl) ?_
      refine lv_aload_n C.x C.b dX10_drawn_192 rfl (lv_at hl 0 rfl) ?_
      refine r_geti C hR t_r0 fl_X10_315 rfl dX10_drawn_193 ?_
      refine lv_i2l C.x C.b dX10_drawn_196 rfl ?_
      obtain ⟨q15, h_q15, hf⟩ := bd_e hf
      refine r_callV (As := [.long ((hpI q14 r0 25).toInt64)]) (rest := []) C hR hS t_r0 rfl mk_X10_enters cl_X10_339 (k_X10_enters t_r0 h_q15) ⟨⟨Nat.le_of_ble_eq_true rfl, Nat.le_of_ble_eq_true rfl⟩, ⟨rfl, rfl⟩, Nat.le_of_ble_eq_true rfl, Nat.le_of_ble_eq_true rfl⟩ rfl hl.1 rfl (Nat.le_of_ble_eq_true rfl) dX10_drawn_197 (fun H locs hR hS hE1 z_q15 => ?_)
      have hE := hE.tr hE1
      have t_r0 := hE1.at t_r0 (by decide)
      refine lv_aload_n C.x C.b dX10_drawn_200 rfl (lv_at hl 0 rfl) ?_
      obtain ⟨g16, hf⟩ := gd_e hf
      refine r_getr C hR t_r0 fl_X10_24 (by decide) (nz_e g16) dX10_drawn_201 (fun tq17 => ?_)
      have tg16 := okA tq17 rfl
      obtain ⟨q18, h_q18, hf⟩ := bd_e hf
      refine r_callS (As := [.ref (G.2.2 + (hpR q15 r0 7))]) (rest := []) C hR hS mk_X10_on cl_X10_311 (k_X10_on tg16 h_q18) ⟨⟨Nat.le_of_ble_eq_true rfl, Nat.le_of_ble_eq_true rfl⟩, ⟨rfl, rfl⟩, Nat.le_of_ble_eq_true rfl, Nat.le_of_ble_eq_true rfl⟩ rfl hl.1 rfl (Nat.le_of_ble_eq_true rfl) dX10_drawn_204 (fun H locs hR hS hE1 z_q18 => ?_)
      obtain ⟨q19, h_q19, hf⟩ := bd_e hf
      refine r_callS (As := [.int q18]) (rest := []) C hR hS mk_J6_bitCount_0f7a4 cl_X10_264 (k_J6_bitCount_0f7a4 h_q19) ⟨⟨Nat.le_of_ble_eq_true rfl, Nat.le_of_ble_eq_true rfl⟩, ⟨rfl, rfl⟩, Nat.le_of_ble_eq_true rfl, Nat.le_of_ble_eq_true rfl⟩ rfl hl.1 rfl (Nat.le_of_ble_eq_true rfl) dX10_drawn_207 (fun H locs hR hS hE1 z_q19 => ?_)
      have hf := so_e hf
      subst hf
      exact r_iret C hr hlk hR hE hS dX10_drawn_210
    · have hf := it_f hf c9
      refine lv_aload_n C.x C.b dX10_drawn_44 rfl (lv_at hl 0 rfl) ?_
      refine lv_iconst (v := (4 : Int32)) C.x C.b dX10_drawn_45 (by decide) ?_
      obtain ⟨q20, h_q20, hf⟩ := bd_e hf
      refine r_callV (As := [.int (4 : Int32)]) (rest := []) C hR hS t_r0 rfl mk_X10_draws cl_X10_452 (k_X10_draws t_r0 h_q20) ⟨⟨Nat.le_of_ble_eq_true rfl, Nat.le_of_ble_eq_true rfl⟩, ⟨rfl, rfl⟩, Nat.le_of_ble_eq_true rfl, Nat.le_of_ble_eq_true rfl⟩ rfl hl.1 rfl (Nat.le_of_ble_eq_true rfl) dX10_drawn_46 (fun H locs hR hS hE1 z_q20 => ?_)
      have hE := hE.tr hE1
      have t_r0 := hE1.at t_r0 (by decide)
      refine lv_istore (lv' := [(4, .int q20.1), (0, .ref (G.2.2 + r0)), (1, .int x1), (2, .int x2), (3, .int x3)]) C.x C.b dX10_drawn_49 hl (by decide) rfl (fun ls hl => ?_)
      refine lv_iload C.x C.b dX10_drawn_51 (lv_at hl 0 rfl) ?_
      refine lv_iconst (v := (2 : Int32)) C.x C.b dX10_drawn_53 (by decide) ?_
      refine lv_icmp_ge (tgt := 68) C.x C.b dX10_drawn_54 (by decide) (fun c21 => ?_) (fun c21 => ?_)
      · have hf := it_t hf c21
        refine lv_iload C.x C.b dX10_drawn_68 (lv_at hl 0 rfl) ?_
        refine lv_iconst (v := (2 : Int32)) C.x C.b dX10_drawn_70 (by decide) ?_
        refine lv_icmp_ne (tgt := 129) C.x C.b dX10_drawn_71 (by decide) (fun c22 => ?_) (fun c22 => ?_)
        · have hf := it_f hf c22
          refine lv_aload_n C.x C.b dX10_drawn_129 rfl (lv_at hl 1 rfl) ?_
          obtain ⟨g23, hf⟩ := gd_e hf
          refine r_getr C hR t_r0 fl_X10_24 (by decide) (nz_e g23) dX10_drawn_130 (fun tq24 => ?_)
          have tg23 := okA tq24 rfl
          refine lv_bipush (v := (48 : Int32)) C.x C.b dX10_drawn_133 (by decide) ?_
          obtain ⟨g25, hf⟩ := gd_e hf
          refine r_iald C hR tg23 g25 dX10_drawn_135 ?_
          refine lv_if_le (tgt := 168) C.x C.b dX10_drawn_136 (by decide) (fun c26 => ?_) (fun c26 => ?_)
          · have hf := it_t hf c26
            exact w_X10_drawn_168 C hr hlk hk39 _ _ _ _ _ hf hE hR hS t_r0 (lv_sub hl [1, 2, 3, 4] rfl)
          · have hf := it_f hf c26
            refine lv_aload_n C.x C.b dX10_drawn_139 rfl (lv_at hl 1 rfl) ?_
            refine lv_aload_n C.x C.b dX10_drawn_140 rfl (lv_at hl 1 rfl) ?_
            refine r_getr C hR t_r0 fl_X10_24 (by decide) (nz_e g23) dX10_drawn_141 (fun tq27 => ?_)
            refine lv_bipush (v := (48 : Int32)) C.x C.b dX10_drawn_144 (by decide) ?_
            obtain ⟨g28, hf⟩ := gd_e hf
            refine r_iald C hR tg23 g28 dX10_drawn_146 ?_
            obtain ⟨q29, h_q29, hf⟩ := bd_e hf
            refine r_callV (As := [.int (hpI q20.2 (hpR q20.2 r0 7) (ix (48 : Int32)))]) (rest := []) C hR hS t_r0 rfl mk_X10_draws cl_X10_452 (k_X10_draws t_r0 h_q29) ⟨⟨Nat.le_of_ble_eq_true rfl, Nat.le_of_ble_eq_true rfl⟩, ⟨rfl, rfl⟩, Nat.le_of_ble_eq_true rfl, Nat.le_of_ble_eq_true rfl⟩ rfl hl.1 rfl (Nat.le_of_ble_eq_true rfl) dX10_drawn_147 (fun H locs hR hS hE1 z_q29 => ?_)
            have hE := hE.tr hE1
            have t_r0 := hE1.at t_r0 (by decide)
            refine lv_istore (lv' := [(5, .int q29.1), (4, .int q20.1), (0, .ref (G.2.2 + r0)), (1, .int x1), (2, .int x2), (3, .int x3)]) C.x C.b dX10_drawn_150 hl (by decide) rfl (fun ls hl => ?_)
            refine lv_aload_n C.x C.b dX10_drawn_152 rfl (lv_at hl 2 rfl) ?_
            refine lv_aload_n C.x C.b dX10_drawn_153 rfl (lv_at hl 2 rfl) ?_
            obtain ⟨g30, hf⟩ := gd_e hf
            refine r_getr C hR t_r0 fl_X10_24 (by decide) (nz_e g30) dX10_drawn_154 (fun tq31 => ?_)
            have tg30 := okA tq31 rfl
            refine lv_iload C.x C.b dX10_drawn_157 (lv_at hl 0 rfl) ?_
            refine lv_aload_n C.x C.b dX10_drawn_159 rfl (lv_at hl 2 rfl) ?_
            refine lv_iconst (v := (4 : Int32)) C.x C.b dX10_drawn_160 (by decide) ?_
            obtain ⟨q32, h_q32, hf⟩ := bd_e hf
            refine r_callV (As := [.int (4 : Int32)]) (rest := [.int q29.1, .ref (G.2.2 + (hpR q29.2 r0 7)), .ref (G.2.2 + r0)]) C hR hS t_r0 rfl mk_X10_draws cl_X10_452 (k_X10_draws t_r0 h_q32) ⟨⟨Nat.le_of_ble_eq_true rfl, Nat.le_of_ble_eq_true rfl⟩, ⟨rfl, rfl⟩, Nat.le_of_ble_eq_true rfl, Nat.le_of_ble_eq_true rfl⟩ rfl hl.1 rfl (Nat.le_of_ble_eq_true rfl) dX10_drawn_161 (fun H locs hR hS hE1 z_q32 => ?_)
            have hE := hE.tr hE1
            have t_r0 := hE1.at t_r0 (by decide)
            have tg30 := hE1.k tg30 (by decide)
            obtain ⟨q33, h_q33, hf⟩ := bd_e hf
            refine r_callV (As := [.ref (G.2.2 + (hpR q29.2 r0 7)), .int q29.1, .int q32.1]) (rest := []) C hR hS t_r0 rfl mk_X10_movesOne cl_X10_356 (k_X10_movesOne t_r0 tg30 h_q33) ⟨⟨Nat.le_of_ble_eq_true rfl, Nat.le_of_ble_eq_true rfl⟩, ⟨rfl, rfl⟩, Nat.le_of_ble_eq_true rfl, Nat.le_of_ble_eq_true rfl⟩ rfl hl.1 rfl (Nat.le_of_ble_eq_true rfl) dX10_drawn_164 (fun H locs hR hS hE1 z_q33 => ?_)
            have hE := hE.tr hE1
            have t_r0 := hE1.at t_r0 (by decide)
            refine lv_pop C.x C.b dX10_drawn_167 rfl ?_
            exact w_X10_drawn_168 C hr hlk hk39 _ _ _ _ _ hf hE hR hS t_r0 (lv_sub hl [2, 3, 4, 5] rfl)
        · have hf := it_t hf c22
          refine lv_aload_n C.x C.b dX10_drawn_74 rfl (lv_at hl 1 rfl) ?_
          refine lv_aload_n C.x C.b dX10_drawn_75 rfl (lv_at hl 1 rfl) ?_
          obtain ⟨q34, h_q34, hf⟩ := bd_e hf
          refine r_callV (As := []) (rest := [.ref (G.2.2 + r0)]) C hR hS t_r0 rfl mk_X10_cells cl_X10_113 (k_X10_cells t_r0 h_q34) ⟨⟨Nat.le_of_ble_eq_true rfl, Nat.le_of_ble_eq_true rfl⟩, ⟨rfl, rfl⟩, Nat.le_of_ble_eq_true rfl, Nat.le_of_ble_eq_true rfl⟩ rfl hl.1 rfl (Nat.le_of_ble_eq_true rfl) dX10_drawn_76 (fun H locs hR hS hE1 z_q34 => ?_)
          obtain ⟨q35, h_q35, hf⟩ := bd_e hf
          refine r_callV (As := [.int q34]) (rest := []) C hR hS t_r0 rfl mk_X10_draws cl_X10_452 (k_X10_draws t_r0 h_q35) ⟨⟨Nat.le_of_ble_eq_true rfl, Nat.le_of_ble_eq_true rfl⟩, ⟨rfl, rfl⟩, Nat.le_of_ble_eq_true rfl, Nat.le_of_ble_eq_true rfl⟩ rfl hl.1 rfl (Nat.le_of_ble_eq_true rfl) dX10_drawn_79 (fun H locs hR hS hE1 z_q35 => ?_)
          have hE := hE.tr hE1
          have t_r0 := hE1.at t_r0 (by decide)
          refine lv_istore (lv' := [(5, .int q35.1), (4, .int q20.1), (0, .ref (G.2.2 + r0)), (1, .int x1), (2, .int x2), (3, .int x3)]) C.x C.b dX10_drawn_82 hl (by decide) rfl (fun ls hl => ?_)
          refine lv_iconst (v := (1 : Int32)) C.x C.b dX10_drawn_84 (by decide) ?_
          refine lv_aload_n C.x C.b dX10_drawn_85 rfl (lv_at hl 2 rfl) ?_
          refine lv_iconst (v := (3 : Int32)) C.x C.b dX10_drawn_86 (by decide) ?_
          obtain ⟨q36, h_q36, hf⟩ := bd_e hf
          refine r_callV (As := [.int (3 : Int32)]) (rest := [.int (1 : Int32)]) C hR hS t_r0 rfl mk_X10_draws cl_X10_452 (k_X10_draws t_r0 h_q36) ⟨⟨Nat.le_of_ble_eq_true rfl, Nat.le_of_ble_eq_true rfl⟩, ⟨rfl, rfl⟩, Nat.le_of_ble_eq_true rfl, Nat.le_of_ble_eq_true rfl⟩ rfl hl.1 rfl (Nat.le_of_ble_eq_true rfl) dX10_drawn_87 (fun H locs hR hS hE1 z_q36 => ?_)
          have hE := hE.tr hE1
          have t_r0 := hE1.at t_r0 (by decide)
          refine lv_iadd C.x C.b dX10_drawn_90 ?_
          refine lv_topi (fun v37 e_v37 => ?_)
          have hf := lt_e hf e_v37
          refine lv_istore (lv' := [(6, .int v37), (5, .int q35.1), (4, .int q20.1), (0, .ref (G.2.2 + r0)), (1, .int x1), (2, .int x2), (3, .int x3)]) C.x C.b dX10_drawn_91 hl (by decide) rfl (fun ls hl => ?_)
          refine lv_iconst (v := (1 : Int32)) C.x C.b dX10_drawn_93 (by decide) ?_
          refine lv_aload_n C.x C.b dX10_drawn_94 rfl (lv_at hl 3 rfl) ?_
          refine lv_iconst (v := (3 : Int32)) C.x C.b dX10_drawn_95 (by decide) ?_
          obtain ⟨q38, h_q38, hf⟩ := bd_e hf
          refine r_callV (As := [.int (3 : Int32)]) (rest := [.int (1 : Int32)]) C hR hS t_r0 rfl mk_X10_draws cl_X10_452 (k_X10_draws t_r0 h_q38) ⟨⟨Nat.le_of_ble_eq_true rfl, Nat.le_of_ble_eq_true rfl⟩, ⟨rfl, rfl⟩, Nat.le_of_ble_eq_true rfl, Nat.le_of_ble_eq_true rfl⟩ rfl hl.1 rfl (Nat.le_of_ble_eq_true rfl) dX10_drawn_96 (fun H locs hR hS hE1 z_q38 => ?_)
          have hE := hE.tr hE1
          have t_r0 := hE1.at t_r0 (by decide)
          refine lv_iadd C.x C.b dX10_drawn_99 ?_
          refine lv_topi (fun v39 e_v39 => ?_)
          have hf := lt_e hf e_v39
          refine lv_istore (lv' := [(7, .int v39), (6, .int v37), (5, .int q35.1), (4, .int q20.1), (0, .ref (G.2.2 + r0)), (1, .int x1), (2, .int x2), (3, .int x3)]) C.x C.b dX10_drawn_100 hl (by decide) rfl (fun ls hl => ?_)
          refine lv_aload_n C.x C.b dX10_drawn_102 rfl (lv_at hl 4 rfl) ?_
          refine lv_aload_n C.x C.b dX10_drawn_103 rfl (lv_at hl 4 rfl) ?_
          obtain ⟨g40, hf⟩ := gd_e hf
          refine r_getr C hR t_r0 fl_X10_24 (by decide) (nz_e g40) dX10_drawn_104 (fun tq41 => ?_)
          have tg40 := okA tq41 rfl
          refine lv_iload C.x C.b dX10_drawn_107 (lv_at hl 2 rfl) ?_
          refine lv_iload C.x C.b dX10_drawn_109 (lv_at hl 1 rfl) ?_
          refine lv_iload C.x C.b dX10_drawn_111 (lv_at hl 0 rfl) ?_
          refine lv_iconst (v := (1 : Int32)) C.x C.b dX10_drawn_113 (by decide) ?_
          refine lv_aload_n C.x C.b dX10_drawn_114 rfl (lv_at hl 4 rfl) ?_
          refine lv_bipush (v := (9 : Int32)) C.x C.b dX10_drawn_115 (by decide) ?_
          obtain ⟨q42, h_q42, hf⟩ := bd_e hf
          refine r_callV (As := [.int (9 : Int32)]) (rest := [.int (1 : Int32), .int v39, .int v37, .int q35.1, .ref (G.2.2 + (hpR q38.2 r0 7)), .ref (G.2.2 + r0)]) C hR hS t_r0 rfl mk_X10_draws cl_X10_452 (k_X10_draws t_r0 h_q42) ⟨⟨Nat.le_of_ble_eq_true rfl, Nat.le_of_ble_eq_true rfl⟩, ⟨rfl, rfl⟩, Nat.le_of_ble_eq_true rfl, Nat.le_of_ble_eq_true rfl⟩ rfl hl.1 rfl (Nat.le_of_ble_eq_true rfl) dX10_drawn_117 (fun H locs hR hS hE1 z_q42 => ?_)
          have hE := hE.tr hE1
          have t_r0 := hE1.at t_r0 (by decide)
          have tg40 := hE1.k tg40 (by decide)
          refine lv_iadd C.x C.b dX10_drawn_120 ?_
          refine lv_iconst (v := (0 : Int32)) C.x C.b dX10_drawn_121 (by decide) ?_
          obtain ⟨q43, h_q43, hf⟩ := bd_e hf
          refine r_callV (As := [.ref (G.2.2 + (hpR q38.2 r0 7)), .int q35.1, .int v37, .int v39, .int ((1 : Int32) + q42.1), .int (0 : Int32)]) (rest := []) C hR hS t_r0 rfl mk_X10_pitches cl_X10_343 (k_X10_pitches t_r0 tg40 h_q43) ⟨⟨Nat.le_of_ble_eq_true rfl, Nat.le_of_ble_eq_true rfl⟩, ⟨rfl, rfl⟩, Nat.le_of_ble_eq_true rfl, Nat.le_of_ble_eq_true rfl⟩ rfl hl.1 rfl (Nat.le_of_ble_eq_true rfl) dX10_drawn_122 (fun H locs hR hS hE1 z_q43 => ?_)
          have hE := hE.tr hE1
          have t_r0 := hE1.at t_r0 (by decide)
          refine lv_pop C.x C.b dX10_drawn_125 rfl ?_
          refine lv_goto (tgt := 168) C.x C.b dX10_drawn_126 (by decide) ?_
          exact w_X10_drawn_168 C hr hlk hk39 _ _ _ _ _ hf hE hR hS t_r0 (lv_sub hl [4, 5, 6, 7] rfl)
      · have hf := it_f hf c21
        refine lv_aload_n C.x C.b dX10_drawn_57 rfl (lv_at hl 1 rfl) ?_
        refine lv_aload_n C.x C.b dX10_drawn_58 rfl (lv_at hl 1 rfl) ?_
        obtain ⟨g44, hf⟩ := gd_e hf
        refine r_getr C hR t_r0 fl_X10_24 (by decide) (nz_e g44) dX10_drawn_59 (fun tq45 => ?_)
        have tg44 := okA tq45 rfl
        obtain ⟨q46, h_q46, hf⟩ := bd_e hf
        refine r_callV (As := [.ref (G.2.2 + (hpR q20.2 r0 7))]) (rest := []) C hR hS t_r0 rfl mk_X10_yearGoes cl_X10_318 (k_X10_yearGoes t_r0 tg44 h_q46) ⟨⟨Nat.le_of_ble_eq_true rfl, Nat.le_of_ble_eq_true rfl⟩, ⟨rfl, rfl⟩, Nat.le_of_ble_eq_true rfl, Nat.le_of_ble_eq_true rfl⟩ rfl hl.1 rfl (Nat.le_of_ble_eq_true rfl) dX10_drawn_62 (fun H locs hR hS hE1 z_q46 => ?_)
        have hE := hE.tr hE1
        have t_r0 := hE1.at t_r0 (by decide)
        refine lv_goto (tgt := 168) C.x C.b dX10_drawn_65 (by decide) ?_
        exact w_X10_drawn_168 C hr hlk hk39 _ _ _ _ _ hf hE hR hS t_r0 (lv_sub hl [1, 2, 3, 4] rfl)
set_option maxRecDepth 100000 in
set_option maxHeartbeats 4000000 in
theorem k_X10_drawn {G : Gt} {l : Launch}  {h : Hp} {r0 : Nat} {x1 : Int32} {x2 : Int32} {out : (Int32 × Hp)} (t_r0 : hpT h r0 = (1, 10))  (hf : f_X10_drawn  h r0 x1 x2 = some out) : Mt G l yX10_drawn cX10_drawn 8 (some .int) rm_X10_drawn [.ref (G.2.2 + r0), .int x1, .int x2] h (some (.int out.1)) out.2 0 0 0 := by
  refine r_met (by decide +kernel) (Nat.le_of_ble_eq_true rfl) ?_
  intro p e s m args below meth c ls C hr hlk hnm hR hS hl
  have hE : Ext h h := Ext.rf
  have hl : lv_has ls 8 [(0, .ref (G.2.2 + r0)), (1, .int x1), (2, .int x2)] := hl
  rw [f_X10_drawn] at hf
  refine lv_aload_n C.x C.b dX10_drawn_0 rfl (lv_at hl 0 rfl) ?_
  refine lv_iconst (v := (0 : Int32)) C.x C.b dX10_drawn_1 (by decide) ?_
  refine r_puti C hR hS t_r0 fl_X10_103 fp_X10_10_0 rfl dX10_drawn_2 (fun H locs hR hS => ?_)
  obtain ⟨h1, e_h1⟩ : ∃ y, y = upI h r0 0 (0 : Int32) := ⟨_, rfl⟩
  rw [← e_h1] at hR
  have hf := lt_e hf e_h1
  have hE := eI e_h1 hE
  have t_r0 := tI e_h1 t_r0
  refine lv_iload_n C.x C.b dX10_drawn_5 rfl (lv_at hl 2 rfl) ?_
  refine lv_i2l C.x C.b dX10_drawn_6 rfl ?_
  refine lv_lconst (v := (1 : Int64)) C.x C.b dX10_drawn_7 (by decide) ?_
  refine lv_ldc2 C.x C.b C.ow (C.ts _ lk_X10_331) dX10_drawn_8 ?_
  obtain ⟨q2, h_q2, hf⟩ := bd_e hf
  refine r_callS (As := [.long (x2.toInt64), .long (1 : Int64), .long (60 : Int64)]) (rest := []) C hR hS mk_X10_in cl_X10_117 (k_X10_in h_q2) ⟨⟨Nat.le_of_ble_eq_true rfl, Nat.le_of_ble_eq_true rfl⟩, ⟨rfl, rfl⟩, Nat.le_of_ble_eq_true rfl, Nat.le_of_ble_eq_true rfl⟩ rfl hl.1 rfl (Nat.le_of_ble_eq_true rfl) dX10_drawn_11 (fun H locs hR hS hE1 z_q2 => ?_)
  have z_q2 := z_q2 _ rfl
  refine lv_if_ne (tgt := 19) C.x C.b dX10_drawn_14 (by decide) (fun c3 => ?_) (fun c3 => ?_)
  · have hf := it_f hf c3
    refine lv_aload_n C.x C.b dX10_drawn_19 rfl (lv_at hl 0 rfl) ?_
    refine lv_iload_n C.x C.b dX10_drawn_20 rfl (lv_at hl 1 rfl) ?_
    refine r_puti C hR hS t_r0 fl_X10_448 fp_X10_10_42 rfl dX10_drawn_21 (fun H locs hR hS => ?_)
    obtain ⟨h4, e_h4⟩ : ∃ y, y = upI h1 r0 42 x1 := ⟨_, rfl⟩
    rw [← e_h4] at hR
    have hf := lt_e hf e_h4
    have hE := eI e_h4 hE
    have t_r0 := tI e_h4 t_r0
    refine lv_aload_n C.x C.b dX10_drawn_24 rfl (lv_at hl 0 rfl) ?_
    obtain ⟨q5, h_q5, hf⟩ := bd_e hf
    refine r_callV (As := []) (rest := []) C hR hS t_r0 rfl mk_X10_copies cl_X10_379 (k_X10_copies t_r0 h_q5) ⟨⟨Nat.le_of_ble_eq_true rfl, Nat.le_of_ble_eq_true rfl⟩, ⟨rfl, rfl⟩, Nat.le_of_ble_eq_true rfl, Nat.le_of_ble_eq_true rfl⟩ rfl hl.1 rfl (Nat.le_of_ble_eq_true rfl) dX10_drawn_25 (fun H locs hR hS hE1 z_q5 => ?_)
    have hE := hE.tr hE1
    have t_r0 := hE1.at t_r0 (by decide)
    refine lv_aload_n C.x C.b dX10_drawn_28 rfl (lv_at hl 0 rfl) ?_
    refine lv_aload_n C.x C.b dX10_drawn_29 rfl (lv_at hl 0 rfl) ?_
    obtain ⟨g6, hf⟩ := gd_e hf
    refine r_getr C hR t_r0 fl_X10_24 (by decide) (nz_e g6) dX10_drawn_30 (fun tq7 => ?_)
    have tg6 := okA tq7 rfl
    refine lv_iconst (v := (0 : Int32)) C.x C.b dX10_drawn_33 (by decide) ?_
    obtain ⟨q8, h_q8, hf⟩ := bd_e hf
    refine r_callV (As := [.ref (G.2.2 + (hpR q5 r0 7)), .int (0 : Int32)]) (rest := []) C hR hS t_r0 rfl mk_X10_goesOn cl_X10_336 (k_X10_goesOn t_r0 tg6 h_q8) ⟨⟨Nat.le_of_ble_eq_true rfl, Nat.le_of_ble_eq_true rfl⟩, ⟨rfl, rfl⟩, Nat.le_of_ble_eq_true rfl, Nat.le_of_ble_eq_true rfl⟩ rfl hl.1 rfl (Nat.le_of_ble_eq_true rfl) dX10_drawn_34 (fun H locs hR hS hE1 z_q8 => ?_)
    have hE := hE.tr hE1
    have t_r0 := hE1.at t_r0 (by decide)
    refine lv_iconst (v := (0 : Int32)) C.x C.b dX10_drawn_37 (by decide) ?_
    refine lv_istore_n (lv' := [(3, .int (0 : Int32)), (0, .ref (G.2.2 + r0)), (1, .int x1), (2, .int x2)]) C.x C.b dX10_drawn_38 rfl hl (by decide) rfl (fun ls hl => ?_)
    exact w_X10_drawn_39 C hr hlk FU _ _ _ _ _ hf hE hR hS t_r0 (lv_sub hl [1, 2, 3, 0] rfl)
  · have hf := it_t hf c3
    refine lv_iconst (v := (-1 : Int32)) C.x C.b dX10_drawn_17 (by decide) ?_
    have hf := so_e hf
    subst hf
    exact r_iret C hr hlk hR hE hS dX10_drawn_18

def rm_X10_keep : Room := { frames := 1, cells := 0, slots := 0, locals := 25 }
def P_X10_keep_38 (G : Gt) (l : Launch) (p : Program) (e : Env) (s : State) (m : MethodId) (args : Array Value) (below : List Frame) (meth : Method) (c : Code) (h0 : Hp) (out : (Int32 × Hp)) (r0 : Nat) (x1 : Int32) (k : Hp → Int32 → Option (Int32 × Hp)) : Prop := ∀ (H : Heap) (locs : List Loc) (ls : Array Slot) (h : Hp) (x2 : Int32), k h x2 = some out → Ext h0 h → Rel G h H → va_S (AA G.2.2) s.heap H locs → hpT h r0 = (1, 10) → lv_has ls 3 [(0, .ref (G.2.2 + r0)), (1, .int x1), (2, .int x2)] → W p l e rm_X10_keep s m args below meth c H locs 0 0 (MQ below (Qm G h0 out.2 (some (.int out.1)) 1) args s 0 0 (AA G.2.2)) (F0 m 38 ls [])
set_option maxRecDepth 100000 in
set_option maxHeartbeats 4000000 in
theorem w_X10_keep_38 {G : Gt} {l : Launch} {p : Program} {e : Env} {s : State} {m : MethodId} {args : Array Value} {below : List Frame} {meth : Method} {c : Code}  {h0 : Hp} {out : (Int32 × Hp)} {r0 : Nat} {x1 : Int32}  (C : Cx G p m c cX10_keep 3 s args RX10) (hr : meth.sig.returnType = some .boolean) (hlk : meth.locks = false)   (n : Nat) : P_X10_keep_38 G l p e s m args below meth c h0 out r0 x1 (f_X10_keep_38 r0 x1 n) := by
  induction n with
  | zero => intro H locs ls h x2 hf hE hR hS t_r0 hl; cases hf
  | succ n hk38 =>
    intro H locs ls h x2 hf hE hR hS t_r0 hl
    rw [f_X10_keep_38] at hf
    obtain ⟨k38, e_k38⟩ : ∃ y, y = f_X10_keep_38 r0 x1 n := ⟨_, rfl⟩
    have hf := lt_e hf e_k38
    rw [← e_k38] at hk38
    refine lv_iload_n C.x C.b dX10_keep_38 rfl (lv_at hl 2 rfl) ?_
    refine lv_bipush (v := (51 : Int32)) C.x C.b dX10_keep_39 (by decide) ?_
    refine lv_icmp_ge (tgt := 67) C.x C.b dX10_keep_41 (by decide) (fun c12 => ?_) (fun c12 => ?_)
    · have hf := it_t hf c12
      refine lv_iconst (v := (1 : Int32)) C.x C.b dX10_keep_67 (by decide) ?_
      have hf := so_e hf
      subst hf
      exact r_zret C hr hlk hR hE hS z_1 dX10_keep_68
    · have hf := it_f hf c12
      refine lv_aload_n C.x C.b dX10_keep_44 rfl (lv_at hl 0 rfl) ?_
      obtain ⟨g13, hf⟩ := gd_e hf
      refine r_getr C hR t_r0 fl_X10_100 (by decide) (nz_e g13) dX10_keep_45 (fun tq14 => ?_)
      have tg13 := okA tq14 rfl
      refine lv_bipush (v := (51 : Int32)) C.x C.b dX10_keep_48 (by decide) ?_
      refine lv_iload_n C.x C.b dX10_keep_50 rfl (lv_at hl 1 rfl) ?_
      refine lv_imul C.x C.b dX10_keep_51 ?_
      refine lv_iload_n C.x C.b dX10_keep_52 rfl (lv_at hl 2 rfl) ?_
      refine lv_iadd C.x C.b dX10_keep_53 ?_
      refine lv_aload_n C.x C.b dX10_keep_54 rfl (lv_at hl 0 rfl) ?_
      obtain ⟨g15, hf⟩ := gd_e hf
      refine r_getr C hR t_r0 fl_X10_20 (by decide) (nz_e g15) dX10_keep_55 (fun tq16 => ?_)
      have tg15 := okA tq16 rfl
      refine lv_iload_n C.x C.b dX10_keep_58 rfl (lv_at hl 2 rfl) ?_
      obtain ⟨g17, hf⟩ := gd_e hf
      refine r_iald C hR tg15 g17 dX10_keep_59 ?_
      obtain ⟨g18, hf⟩ := gd_e hf
      refine r_iast C hR hS tg13 g18 dX10_keep_60 (fun H locs hR hS => ?_)
      obtain ⟨h19, e_h19⟩ : ∃ y, y = upI h (hpR h r0 45) (ix (((51 : Int32) * x1) + x2)) (hpI h (hpR h r0 6) (ix x2)) := ⟨_, rfl⟩
      rw [← e_h19] at hR
      have hf := lt_e hf e_h19
      have hE := eI e_h19 hE
      have t_r0 := tI e_h19 t_r0
      obtain ⟨v20, e_v20⟩ : ∃ y : Int32, y = x2 + (1 : Int32) := ⟨_, rfl⟩
      have hf := lt_e hf e_v20
      refine lv_iinc (v := v20) (lv' := [(2, .int v20), (0, .ref (G.2.2 + r0)), (1, .int x1)]) C.x C.b dX10_keep_61 hl (k := 2) rfl (by rw [e_v20]; rfl) (by decide) rfl (fun ls hl => ?_)
      refine lv_goto (tgt := 38) C.x C.b dX10_keep_64 (by decide) ?_
      exact hk38 _ _ _ _ _ hf hE hR hS t_r0 (lv_sub hl [1, 2, 0] rfl)
set_option maxRecDepth 100000 in
set_option maxHeartbeats 4000000 in
theorem k_X10_keep {G : Gt} {l : Launch}  {h : Hp} {r0 : Nat} {x1 : Int32} {out : (Int32 × Hp)} (t_r0 : hpT h r0 = (1, 10))  (hf : f_X10_keep  h r0 x1 = some out) : Mt G l yX10_keep cX10_keep 3 (some .boolean) rm_X10_keep [.ref (G.2.2 + r0), .int x1] h (some (.int out.1)) out.2 1 0 0 := by
  refine r_met (by decide +kernel) (Nat.le_of_ble_eq_true rfl) ?_
  intro p e s m args below meth c ls C hr hlk hnm hR hS hl
  have hE : Ext h h := Ext.rf
  have hl : lv_has ls 3 [(0, .ref (G.2.2 + r0)), (1, .int x1)] := hl
  rw [f_X10_keep] at hf
  refine lv_aload_n C.x C.b dX10_keep_0 rfl (lv_at hl 0 rfl) ?_
  refine lv_iconst (v := (0 : Int32)) C.x C.b dX10_keep_1 (by decide) ?_
  refine r_puti C hR hS t_r0 fl_X10_103 fp_X10_10_0 rfl dX10_keep_2 (fun H locs hR hS => ?_)
  obtain ⟨h1, e_h1⟩ : ∃ y, y = upI h r0 0 (0 : Int32) := ⟨_, rfl⟩
  rw [← e_h1] at hR
  have hf := lt_e hf e_h1
  have hE := eI e_h1 hE
  have t_r0 := tI e_h1 t_r0
  refine lv_iload_n C.x C.b dX10_keep_5 rfl (lv_at hl 1 rfl) ?_
  refine lv_i2l C.x C.b dX10_keep_6 rfl ?_
  refine lv_lconst (v := (0 : Int64)) C.x C.b dX10_keep_7 (by decide) ?_
  refine lv_ldc2 C.x C.b C.ow (C.ts _ lk_X10_292) dX10_keep_8 ?_
  obtain ⟨q2, h_q2, hf⟩ := bd_e hf
  refine r_callS (As := [.long (x1.toInt64), .long (0 : Int64), .long (2 : Int64)]) (rest := []) C hR hS mk_X10_in cl_X10_117 (k_X10_in h_q2) ⟨⟨Nat.le_of_ble_eq_true rfl, Nat.le_of_ble_eq_true rfl⟩, ⟨rfl, rfl⟩, Nat.le_of_ble_eq_true rfl, Nat.le_of_ble_eq_true rfl⟩ rfl hl.1 rfl (Nat.le_of_ble_eq_true rfl) dX10_keep_11 (fun H locs hR hS hE1 z_q2 => ?_)
  have z_q2 := z_q2 _ rfl
  refine lv_if_ne (tgt := 19) C.x C.b dX10_keep_14 (by decide) (fun c3 => ?_) (fun c3 => ?_)
  · have hf := it_f hf c3
    refine lv_aload_n C.x C.b dX10_keep_19 rfl (lv_at hl 0 rfl) ?_
    obtain ⟨g4, hf⟩ := gd_e hf
    refine r_getr C hR t_r0 fl_X10_94 (by decide) (nz_e g4) dX10_keep_20 (fun tq5 => ?_)
    have tg4 := okA tq5 rfl
    refine lv_iload_n C.x C.b dX10_keep_23 rfl (lv_at hl 1 rfl) ?_
    refine lv_iconst (v := (1 : Int32)) C.x C.b dX10_keep_24 (by decide) ?_
    obtain ⟨g6, hf⟩ := gd_e hf
    refine r_zast C hR hS tg4 g6 (vz_1) dX10_keep_25 (fun H locs hR hS => ?_)
    obtain ⟨h7, e_h7⟩ : ∃ y, y = upI h1 (hpR h1 r0 43) (ix x1) (1 : Int32) := ⟨_, rfl⟩
    rw [← e_h7] at hR
    have hf := lt_e hf e_h7
    have hE := eI e_h7 hE
    have t_r0 := tI e_h7 t_r0
    refine lv_aload_n C.x C.b dX10_keep_26 rfl (lv_at hl 0 rfl) ?_
    obtain ⟨g8, hf⟩ := gd_e hf
    refine r_getr C hR t_r0 fl_X10_97 (by decide) (nz_e g8) dX10_keep_27 (fun tq9 => ?_)
    have tg8 := okA tq9 rfl
    refine lv_iload_n C.x C.b dX10_keep_30 rfl (lv_at hl 1 rfl) ?_
    refine lv_aload_n C.x C.b dX10_keep_31 rfl (lv_at hl 0 rfl) ?_
    refine r_geti C hR t_r0 fl_X10_194 rfl dX10_keep_32 ?_
    obtain ⟨g10, hf⟩ := gd_e hf
    refine r_iast C hR hS tg8 g10 dX10_keep_35 (fun H locs hR hS => ?_)
    obtain ⟨h11, e_h11⟩ : ∃ y, y = upI h7 (hpR h7 r0 44) (ix x1) (hpI h7 r0 5) := ⟨_, rfl⟩
    rw [← e_h11] at hR
    have hf := lt_e hf e_h11
    have hE := eI e_h11 hE
    have t_r0 := tI e_h11 t_r0
    refine lv_iconst (v := (0 : Int32)) C.x C.b dX10_keep_36 (by decide) ?_
    refine lv_istore_n (lv' := [(2, .int (0 : Int32)), (0, .ref (G.2.2 + r0)), (1, .int x1)]) C.x C.b dX10_keep_37 rfl hl (by decide) rfl (fun ls hl => ?_)
    exact w_X10_keep_38 C hr hlk FU _ _ _ _ _ hf hE hR hS t_r0 (lv_sub hl [1, 2, 0] rfl)
  · have hf := it_t hf c3
    refine lv_iconst (v := (0 : Int32)) C.x C.b dX10_keep_17 (by decide) ?_
    have hf := so_e hf
    subst hf
    exact r_zret C hr hlk hR hE hS z_0 dX10_keep_18

def rm_X10_again : Room := { frames := 1, cells := 0, slots := 0, locals := 25 }
def P_X10_again_43 (G : Gt) (l : Launch) (p : Program) (e : Env) (s : State) (m : MethodId) (args : Array Value) (below : List Frame) (meth : Method) (c : Code) (h0 : Hp) (out : (Int32 × Hp)) (r0 : Nat) (x1 : Int32) (k : Hp → Int32 → Option (Int32 × Hp)) : Prop := ∀ (H : Heap) (locs : List Loc) (ls : Array Slot) (h : Hp) (x2 : Int32), k h x2 = some out → Ext h0 h → Rel G h H → va_S (AA G.2.2) s.heap H locs → hpT h r0 = (1, 10) → lv_has ls 3 [(0, .ref (G.2.2 + r0)), (1, .int x1), (2, .int x2)] → W p l e rm_X10_again s m args below meth c H locs 0 0 (MQ below (Qm G h0 out.2 (some (.int out.1)) 1) args s 0 0 (AA G.2.2)) (F0 m 43 ls [])
set_option maxRecDepth 100000 in
set_option maxHeartbeats 4000000 in
theorem w_X10_again_43 {G : Gt} {l : Launch} {p : Program} {e : Env} {s : State} {m : MethodId} {args : Array Value} {below : List Frame} {meth : Method} {c : Code}  {h0 : Hp} {out : (Int32 × Hp)} {r0 : Nat} {x1 : Int32}  (C : Cx G p m c cX10_again 3 s args RX10) (hr : meth.sig.returnType = some .boolean) (hlk : meth.locks = false)   (n : Nat) : P_X10_again_43 G l p e s m args below meth c h0 out r0 x1 (f_X10_again_43 r0 x1 n) := by
  induction n with
  | zero => intro H locs ls h x2 hf hE hR hS t_r0 hl; cases hf
  | succ n hk43 =>
    intro H locs ls h x2 hf hE hR hS t_r0 hl
    rw [f_X10_again_43] at hf
    obtain ⟨k43, e_k43⟩ : ∃ y, y = f_X10_again_43 r0 x1 n := ⟨_, rfl⟩
    have hf := lt_e hf e_k43
    rw [← e_k43] at hk43
    refine lv_iload_n C.x C.b dX10_again_43 rfl (lv_at hl 2 rfl) ?_
    refine lv_bipush (v := (51 : Int32)) C.x C.b dX10_again_44 (by decide) ?_
    refine lv_icmp_ge (tgt := 72) C.x C.b dX10_again_46 (by decide) (fun c12 => ?_) (fun c12 => ?_)
    · have hf := it_t hf c12
      refine lv_aload_n C.x C.b dX10_again_72 rfl (lv_at hl 0 rfl) ?_
      refine lv_iconst (v := (0 : Int32)) C.x C.b dX10_again_73 (by decide) ?_
      refine r_puti C hR hS t_r0 fl_X10_191 fp_X10_10_22 rfl dX10_again_74 (fun H locs hR hS => ?_)
      obtain ⟨h13, e_h13⟩ : ∃ y, y = upI h r0 22 (0 : Int32) := ⟨_, rfl⟩
      rw [← e_h13] at hR
      have hf := lt_e hf e_h13
      have hE := eI e_h13 hE
      have t_r0 := tI e_h13 t_r0
      refine lv_iconst (v := (1 : Int32)) C.x C.b dX10_again_77 (by decide) ?_
      have hf := so_e hf
      subst hf
      exact r_zret C hr hlk hR hE hS z_1 dX10_again_78
    · have hf := it_f hf c12
      refine lv_aload_n C.x C.b dX10_again_49 rfl (lv_at hl 0 rfl) ?_
      obtain ⟨g14, hf⟩ := gd_e hf
      refine r_getr C hR t_r0 fl_X10_20 (by decide) (nz_e g14) dX10_again_50 (fun tq15 => ?_)
      have tg14 := okA tq15 rfl
      refine lv_iload_n C.x C.b dX10_again_53 rfl (lv_at hl 2 rfl) ?_
      refine lv_aload_n C.x C.b dX10_again_54 rfl (lv_at hl 0 rfl) ?_
      obtain ⟨g16, hf⟩ := gd_e hf
      refine r_getr C hR t_r0 fl_X10_100 (by decide) (nz_e g16) dX10_again_55 (fun tq17 => ?_)
      have tg16 := okA tq17 rfl
      refine lv_bipush (v := (51 : Int32)) C.x C.b dX10_again_58 (by decide) ?_
      refine lv_iload_n C.x C.b dX10_again_60 rfl (lv_at hl 1 rfl) ?_
      refine lv_imul C.x C.b dX10_again_61 ?_
      refine lv_iload_n C.x C.b dX10_again_62 rfl (lv_at hl 2 rfl) ?_
      refine lv_iadd C.x C.b dX10_again_63 ?_
      obtain ⟨g18, hf⟩ := gd_e hf
      refine r_iald C hR tg16 g18 dX10_again_64 ?_
      obtain ⟨g19, hf⟩ := gd_e hf
      refine r_iast C hR hS tg14 g19 dX10_again_65 (fun H locs hR hS => ?_)
      obtain ⟨h20, e_h20⟩ : ∃ y, y = upI h (hpR h r0 6) (ix x2) (hpI h (hpR h r0 45) (ix (((51 : Int32) * x1) + x2))) := ⟨_, rfl⟩
      rw [← e_h20] at hR
      have hf := lt_e hf e_h20
      have hE := eI e_h20 hE
      have t_r0 := tI e_h20 t_r0
      obtain ⟨v21, e_v21⟩ : ∃ y : Int32, y = x2 + (1 : Int32) := ⟨_, rfl⟩
      have hf := lt_e hf e_v21
      refine lv_iinc (v := v21) (lv' := [(2, .int v21), (0, .ref (G.2.2 + r0)), (1, .int x1)]) C.x C.b dX10_again_66 hl (k := 2) rfl (by rw [e_v21]; rfl) (by decide) rfl (fun ls hl => ?_)
      refine lv_goto (tgt := 43) C.x C.b dX10_again_69 (by decide) ?_
      exact hk43 _ _ _ _ _ hf hE hR hS t_r0 (lv_sub hl [1, 2, 0] rfl)
set_option maxRecDepth 100000 in
set_option maxHeartbeats 4000000 in
theorem k_X10_again {G : Gt} {l : Launch}  {h : Hp} {r0 : Nat} {x1 : Int32} {out : (Int32 × Hp)} (t_r0 : hpT h r0 = (1, 10))  (hf : f_X10_again  h r0 x1 = some out) : Mt G l yX10_again cX10_again 3 (some .boolean) rm_X10_again [.ref (G.2.2 + r0), .int x1] h (some (.int out.1)) out.2 1 0 0 := by
  refine r_met (by decide +kernel) (Nat.le_of_ble_eq_true rfl) ?_
  intro p e s m args below meth c ls C hr hlk hnm hR hS hl
  have hE : Ext h h := Ext.rf
  have hl : lv_has ls 3 [(0, .ref (G.2.2 + r0)), (1, .int x1)] := hl
  rw [f_X10_again] at hf
  refine lv_aload_n C.x C.b dX10_again_0 rfl (lv_at hl 0 rfl) ?_
  refine lv_iconst (v := (0 : Int32)) C.x C.b dX10_again_1 (by decide) ?_
  refine r_puti C hR hS t_r0 fl_X10_103 fp_X10_10_0 rfl dX10_again_2 (fun H locs hR hS => ?_)
  obtain ⟨h1, e_h1⟩ : ∃ y, y = upI h r0 0 (0 : Int32) := ⟨_, rfl⟩
  rw [← e_h1] at hR
  have hf := lt_e hf e_h1
  have hE := eI e_h1 hE
  have t_r0 := tI e_h1 t_r0
  refine lv_iload_n C.x C.b dX10_again_5 rfl (lv_at hl 1 rfl) ?_
  refine lv_i2l C.x C.b dX10_again_6 rfl ?_
  refine lv_lconst (v := (0 : Int64)) C.x C.b dX10_again_7 (by decide) ?_
  refine lv_ldc2 C.x C.b C.ow (C.ts _ lk_X10_292) dX10_again_8 ?_
  obtain ⟨q2, h_q2, hf⟩ := bd_e hf
  refine r_callS (As := [.long (x1.toInt64), .long (0 : Int64), .long (2 : Int64)]) (rest := []) C hR hS mk_X10_in cl_X10_117 (k_X10_in h_q2) ⟨⟨Nat.le_of_ble_eq_true rfl, Nat.le_of_ble_eq_true rfl⟩, ⟨rfl, rfl⟩, Nat.le_of_ble_eq_true rfl, Nat.le_of_ble_eq_true rfl⟩ rfl hl.1 rfl (Nat.le_of_ble_eq_true rfl) dX10_again_11 (fun H locs hR hS hE1 z_q2 => ?_)
  have z_q2 := z_q2 _ rfl
  refine lv_if_eq (tgt := 39) C.x C.b dX10_again_14 (by decide) (fun c3 => ?_) (fun c3 => ?_)
  · have hf := it_t hf c3
    refine lv_iconst (v := (0 : Int32)) C.x C.b dX10_again_39 (by decide) ?_
    have hf := so_e hf
    subst hf
    exact r_zret C hr hlk hR hE hS z_0 dX10_again_40
  · have hf := it_f hf c3
    refine lv_aload_n C.x C.b dX10_again_17 rfl (lv_at hl 0 rfl) ?_
    obtain ⟨g4, hf⟩ := gd_e hf
    refine r_getr C hR t_r0 fl_X10_94 (by decide) (nz_e g4) dX10_again_18 (fun tq5 => ?_)
    have tg4 := okA tq5 rfl
    refine lv_iload_n C.x C.b dX10_again_21 rfl (lv_at hl 1 rfl) ?_
    obtain ⟨g6, hf⟩ := gd_e hf
    refine r_zald C hR tg4 g6 dX10_again_22 ?_
    refine lv_if_eq (tgt := 39) C.x C.b dX10_again_23 (by decide) (fun c7 => ?_) (fun c7 => ?_)
    · have hf := it_t hf c7
      refine lv_iconst (v := (0 : Int32)) C.x C.b dX10_again_39 (by decide) ?_
      have hf := so_e hf
      subst hf
      exact r_zret C hr hlk hR hE hS z_0 dX10_again_40
    · have hf := it_f hf c7
      refine lv_aload_n C.x C.b dX10_again_26 rfl (lv_at hl 0 rfl) ?_
      obtain ⟨g8, hf⟩ := gd_e hf
      refine r_getr C hR t_r0 fl_X10_97 (by decide) (nz_e g8) dX10_again_27 (fun tq9 => ?_)
      have tg8 := okA tq9 rfl
      refine lv_iload_n C.x C.b dX10_again_30 rfl (lv_at hl 1 rfl) ?_
      obtain ⟨g10, hf⟩ := gd_e hf
      refine r_iald C hR tg8 g10 dX10_again_31 ?_
      refine lv_aload_n C.x C.b dX10_again_32 rfl (lv_at hl 0 rfl) ?_
      refine r_geti C hR t_r0 fl_X10_194 rfl dX10_again_33 ?_
      refine lv_icmp_eq (tgt := 41) C.x C.b dX10_again_36 (by decide) (fun c11 => ?_) (fun c11 => ?_)
      · have hf := it_t hf c11
        refine lv_iconst (v := (0 : Int32)) C.x C.b dX10_again_41 (by decide) ?_
        refine lv_istore_n (lv' := [(2, .int (0 : Int32)), (0, .ref (G.2.2 + r0)), (1, .int x1)]) C.x C.b dX10_again_42 rfl hl (by decide) rfl (fun ls hl => ?_)
        exact w_X10_again_43 C hr hlk FU _ _ _ _ _ hf hE hR hS t_r0 (lv_sub hl [1, 2, 0] rfl)
      · have hf := it_f hf c11
        refine lv_iconst (v := (0 : Int32)) C.x C.b dX10_again_39 (by decide) ?_
        have hf := so_e hf
        subst hf
        exact r_zret C hr hlk hR hE hS z_0 dX10_again_40

