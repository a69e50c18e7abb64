def rm_X0_move : Room := { frames := 3, cells := 0, slots := 0, locals := 64 }
def P_X0_move_70 (G : Gt) (l : Launch) (p : Program) (e : Env) (s : State) (m : MethodId) (args : Array Value) (below : List Frame) (meth : Method) (c : Code) (h0 : Hp) (out : (Int32 × Hp)) (r0 : Nat) (x1 : Int32) (x2 : Int32) (k : Hp → Int32 → Int32 → Int32 → Option (Int32 × Hp)) : Prop := ∀ (H : Heap) (locs : List Loc) (ls : Array Slot) (h : Hp) (s0 : Int32) (s1 : Int32) (x3 : Int32), k h s0 s1 x3 = some out → Ext h0 h → Rel G h H → va_S (AA G.2.2) s.heap H locs → hpT h r0 = (1, 0) → lv_has ls 5 [(0, .ref (G.2.2 + r0)), (1, .int x1), (2, .int x2), (3, .int x3)] → W p l e rm_X0_move s m args below meth c H locs 0 0 (MQ below (Qm G h0 out.2 (some (.int out.1)) 0) args s 0 0 (AA G.2.2)) (F0 m 70 ls [.int s1, .int s0])
def P_X0_move_43 (G : Gt) (l : Launch) (p : Program) (e : Env) (s : State) (m : MethodId) (args : Array Value) (below : List Frame) (meth : Method) (c : Code) (h0 : Hp) (out : (Int32 × Hp)) (r0 : Nat) (x1 : Int32) (x2 : Int32) (k : Hp → Int32 → Int32 → Option (Int32 × Hp)) : Prop := ∀ (H : Heap) (locs : List Loc) (ls : Array Slot) (h : Hp) (s0 : Int32) (s1 : Int32), k h s0 s1 = some out → Ext h0 h → Rel G h H → va_S (AA G.2.2) s.heap H locs → hpT h r0 = (1, 0) → lv_has ls 5 [(0, .ref (G.2.2 + r0)), (1, .int x1), (2, .int x2)] → W p l e rm_X0_move s m args below meth c H locs 0 0 (MQ below (Qm G h0 out.2 (some (.int out.1)) 0) args s 0 0 (AA G.2.2)) (F0 m 43 ls [.int s1, .int s0])
set_option maxRecDepth 100000 in
set_option maxHeartbeats 4000000 in
theorem w_X0_move_70 {G : Gt} {l : Launch} {p : Program} {e : Env} {s : State} {m : MethodId} {args : Array Value} {below : List Frame} {meth : Method} {c : Code}  {h0 : Hp} {out : (Int32 × Hp)} {r0 : Nat} {x1 : Int32} {x2 : Int32}  (C : Cx G p m c cX0_move 5 s args RX0) (hr : meth.sig.returnType = some .int) (hlk : meth.locks = false)   : P_X0_move_70 G l p e s m args below meth c h0 out r0 x1 x2 (f_X0_move_70 r0 x1 x2) := by
  intro H locs ls h s0 s1 x3 hf hE hR hS t_r0 hl
  rw [f_X0_move_70] at hf
  refine lv_iadd C.x C.b dX0_move_70 ?_
  refine lv_topi (fun v16 e_v16 => ?_)
  have hf := lt_e hf e_v16
  refine lv_istore (lv' := [(4, .int v16), (0, .ref (G.2.2 + r0)), (1, .int x1), (2, .int x2), (3, .int x3)]) C.x C.b dX0_move_71 hl (by decide) rfl (fun ls hl => ?_)
  refine lv_aload_n C.x C.b dX0_move_73 rfl (lv_at hl 1 rfl) ?_
  refine lv_aload_n C.x C.b dX0_move_74 rfl (lv_at hl 1 rfl) ?_
  refine lv_iload_n C.x C.b dX0_move_75 rfl (lv_at hl 4 rfl) ?_
  refine lv_iload C.x C.b dX0_move_76 (lv_at hl 0 rfl) ?_
  obtain ⟨q17, h_q17, hf⟩ := bd_e hf
  refine r_callV (As := [.int x3, .int v16]) (rest := [.ref (G.2.2 + r0)]) C hR hS t_r0 rfl mk_X0_cellAt cl_X0_66 (k_X0_cellAt t_r0 h_q17) ⟨⟨Nat.le_of_ble_eq_true rfl, Nat.le_of_ble_eq_true rfl⟩, ⟨rfl, rfl⟩, Nat.le_of_ble_eq_true rfl, Nat.le_of_ble_eq_true rfl⟩ rfl hl.1 rfl (Nat.le_of_ble_eq_true rfl) dX0_move_78 (fun H locs hR hS hE1 z_q17 => ?_)
  refine lv_aload_n C.x C.b dX0_move_81 rfl (lv_at hl 1 rfl) ?_
  obtain ⟨g18, hf⟩ := gd_e hf
  refine r_getr C hR t_r0 fl_X0_25 (by decide) (nz_e g18) dX0_move_82 (fun tq19 => ?_)
  have tg18 := okA tq19 rfl
  refine lv_iload_n C.x C.b dX0_move_85 rfl (lv_at hl 2 rfl) ?_
  obtain ⟨g20, hf⟩ := gd_e hf
  refine r_iald C hR tg18 g20 dX0_move_86 ?_
  refine lv_aload_n C.x C.b dX0_move_87 rfl (lv_at hl 1 rfl) ?_
  obtain ⟨g21, hf⟩ := gd_e hf
  refine r_getr C hR t_r0 fl_X0_28 (by decide) (nz_e g21) dX0_move_88 (fun tq22 => ?_)
  have tg21 := okA tq22 rfl
  refine lv_iload_n C.x C.b dX0_move_91 rfl (lv_at hl 2 rfl) ?_
  obtain ⟨g23, hf⟩ := gd_e hf
  refine r_iald C hR tg21 g23 dX0_move_92 ?_
  obtain ⟨q24, h_q24, hf⟩ := bd_e hf
  refine r_callV (As := [.int q17, .int (hpI h (hpR h r0 7) (ix x1)), .int (hpI h (hpR h r0 8) (ix x1))]) (rest := []) C hR hS t_r0 rfl mk_X0_holds cl_X0_135 (k_X0_holds t_r0 h_q24) ⟨⟨Nat.le_of_ble_eq_true rfl, Nat.le_of_ble_eq_true rfl⟩, ⟨rfl, rfl⟩, Nat.le_of_ble_eq_true rfl, Nat.le_of_ble_eq_true rfl⟩ rfl hl.1 rfl (Nat.le_of_ble_eq_true rfl) dX0_move_93 (fun H locs hR hS hE1 z_q24 => ?_)
  have z_q24 := z_q24 _ rfl
  refine lv_if_ne (tgt := 102) C.x C.b dX0_move_96 (by decide) (fun c25 => ?_) (fun c25 => ?_)
  · have hf := it_f hf c25
    refine lv_aload_n C.x C.b dX0_move_102 rfl (lv_at hl 1 rfl) ?_
    obtain ⟨g26, hf⟩ := gd_e hf
    refine r_getr C hR t_r0 fl_X0_18 (by decide) (nz_e g26) dX0_move_103 (fun tq27 => ?_)
    have tg26 := okA tq27 rfl
    refine lv_iload_n C.x C.b dX0_move_106 rfl (lv_at hl 2 rfl) ?_
    refine lv_iload_n C.x C.b dX0_move_107 rfl (lv_at hl 4 rfl) ?_
    obtain ⟨g28, hf⟩ := gd_e hf
    refine r_iast C hR hS tg26 g28 dX0_move_108 (fun H locs hR hS => ?_)
    obtain ⟨h29, e_h29⟩ : ∃ y, y = upI h (hpR h r0 5) (ix x1) x3 := ⟨_, rfl⟩
    rw [← e_h29] at hR
    have hf := lt_e hf e_h29
    have hE := eI e_h29 hE
    have t_r0 := tI e_h29 t_r0
    refine lv_aload_n C.x C.b dX0_move_109 rfl (lv_at hl 1 rfl) ?_
    obtain ⟨g30, hf⟩ := gd_e hf
    refine r_getr C hR t_r0 fl_X0_22 (by decide) (nz_e g30) dX0_move_110 (fun tq31 => ?_)
    have tg30 := okA tq31 rfl
    refine lv_iload_n C.x C.b dX0_move_113 rfl (lv_at hl 2 rfl) ?_
    refine lv_iload C.x C.b dX0_move_114 (lv_at hl 0 rfl) ?_
    obtain ⟨g32, hf⟩ := gd_e hf
    refine r_iast C hR hS tg30 g32 dX0_move_116 (fun H locs hR hS => ?_)
    obtain ⟨h33, e_h33⟩ : ∃ y, y = upI h29 (hpR h29 r0 6) (ix x1) v16 := ⟨_, rfl⟩
    rw [← e_h33] at hR
    have hf := lt_e hf e_h33
    have hE := eI e_h33 hE
    have t_r0 := tI e_h33 t_r0
    refine lv_aload_n C.x C.b dX0_move_117 rfl (lv_at hl 1 rfl) ?_
    refine lv_iload_n C.x C.b dX0_move_118 rfl (lv_at hl 2 rfl) ?_
    obtain ⟨q34, h_q34, hf⟩ := bd_e hf
    refine r_callV (As := [.int x1]) (rest := []) C hR hS t_r0 rfl mk_X0_firstCell cl_X0_159 (k_X0_firstCell t_r0 h_q34) ⟨⟨Nat.le_of_ble_eq_true rfl, Nat.le_of_ble_eq_true rfl⟩, ⟨rfl, rfl⟩, Nat.le_of_ble_eq_true rfl, Nat.le_of_ble_eq_true rfl⟩ rfl hl.1 rfl (Nat.le_of_ble_eq_true rfl) dX0_move_119 (fun H locs hR hS hE1 z_q34 => ?_)
    have hf := so_e hf
    subst hf
    exact r_iret C hr hlk hR hE hS dX0_move_122
  · have hf := it_t hf c25
    refine lv_bipush (v := (-2 : Int32)) C.x C.b dX0_move_99 (by decide) ?_
    have hf := so_e hf
    subst hf
    exact r_iret C hr hlk hR hE hS dX0_move_101
set_option maxRecDepth 100000 in
set_option maxHeartbeats 4000000 in
theorem w_X0_move_43 {G : Gt} {l : Launch} {p : Program} {e : Env} {s : State} {m : MethodId} {args : Array Value} {below : List Frame} {meth : Method} {c : Code}  {h0 : Hp} {out : (Int32 × Hp)} {r0 : Nat} {x1 : Int32} {x2 : Int32}  (C : Cx G p m c cX0_move 5 s args RX0) (hr : meth.sig.returnType = some .int) (hlk : meth.locks = false)   : P_X0_move_43 G l p e s m args below meth c h0 out r0 x1 x2 (f_X0_move_43 r0 x1 x2) := by
  intro H locs ls h s0 s1 hf hE hR hS t_r0 hl
  rw [f_X0_move_43] at hf
  refine lv_iadd C.x C.b dX0_move_43 ?_
  refine lv_topi (fun v10 e_v10 => ?_)
  have hf := lt_e hf e_v10
  refine lv_istore_n (lv' := [(3, .int v10), (0, .ref (G.2.2 + r0)), (1, .int x1), (2, .int x2)]) C.x C.b dX0_move_44 rfl hl (by decide) rfl (fun ls hl => ?_)
  refine lv_aload_n C.x C.b dX0_move_45 rfl (lv_at hl 1 rfl) ?_
  obtain ⟨g11, hf⟩ := gd_e hf
  refine r_getr C hR t_r0 fl_X0_22 (by decide) (nz_e g11) dX0_move_46 (fun tq12 => ?_)
  have tg11 := okA tq12 rfl
  refine lv_iload_n C.x C.b dX0_move_49 rfl (lv_at hl 2 rfl) ?_
  obtain ⟨g13, hf⟩ := gd_e hf
  refine r_iald C hR tg11 g13 dX0_move_50 ?_
  refine lv_iload_n C.x C.b dX0_move_51 rfl (lv_at hl 3 rfl) ?_
  refine lv_iconst (v := (1 : Int32)) C.x C.b dX0_move_52 (by decide) ?_
  refine lv_icmp_ne (tgt := 60) C.x C.b dX0_move_53 (by decide) (fun c14 => ?_) (fun c14 => ?_)
  · simp only [if_neg c14] at hf
    refine lv_iload_n C.x C.b dX0_move_60 rfl (lv_at hl 3 rfl) ?_
    refine lv_iconst (v := (3 : Int32)) C.x C.b dX0_move_61 (by decide) ?_
    refine lv_icmp_ne (tgt := 69) C.x C.b dX0_move_62 (by decide) (fun c15 => ?_) (fun c15 => ?_)
    · simp only [if_neg c15] at hf
      refine lv_iconst (v := (0 : Int32)) C.x C.b dX0_move_69 (by decide) ?_
      exact w_X0_move_70 C hr hlk _ _ _ _ _ _ _ hf hE hR hS t_r0 (lv_sub hl [1, 2, 3, 0] rfl)
    · simp only [if_pos c15] at hf
      refine lv_iconst (v := (-1 : Int32)) C.x C.b dX0_move_65 (by decide) ?_
      refine lv_goto (tgt := 70) C.x C.b dX0_move_66 (by decide) ?_
      exact w_X0_move_70 C hr hlk _ _ _ _ _ _ _ hf hE hR hS t_r0 (lv_sub hl [1, 2, 3, 0] rfl)
  · simp only [if_pos c14] at hf
    refine lv_iconst (v := (1 : Int32)) C.x C.b dX0_move_56 (by decide) ?_
    refine lv_goto (tgt := 70) C.x C.b dX0_move_57 (by decide) ?_
    exact w_X0_move_70 C hr hlk _ _ _ _ _ _ _ hf hE hR hS t_r0 (lv_sub hl [1, 2, 3, 0] rfl)
set_option maxRecDepth 100000 in
set_option maxHeartbeats 4000000 in
theorem k_X0_move {G : Gt} {l : Launch}  {h : Hp} {r0 : Nat} {x1 : Int32} {x2 : Int32} {out : (Int32 × Hp)} (t_r0 : hpT h r0 = (1, 0))  (hf : f_X0_move  h r0 x1 x2 = some out) : Mt G l yX0_move cX0_move 5 (some .int) rm_X0_move [.ref (G.2.2 + r0), .int x1, .int x2] h (some (.int out.1)) out.2 0 0 0 := by
  refine r_met (by decide +kernel) (Nat.le_of_ble_eq_true rfl) ?_
  intro p e s m args below meth c ls C hr hlk hnm hR hS hl
  have hE : Ext h h := Ext.rf
  have hl : lv_has ls 5 [(0, .ref (G.2.2 + r0)), (1, .int x1), (2, .int x2)] := hl
  rw [f_X0_move] at hf
  refine lv_aload_n C.x C.b dX0_move_0 rfl (lv_at hl 0 rfl) ?_
  refine lv_iload_n C.x C.b dX0_move_1 rfl (lv_at hl 1 rfl) ?_
  obtain ⟨q1, h_q1, hf⟩ := bd_e hf
  refine r_callV (As := [.int x1]) (rest := []) C hR hS t_r0 rfl mk_X0_has cl_X0_70 (k_X0_has t_r0 h_q1) ⟨⟨Nat.le_of_ble_eq_true rfl, Nat.le_of_ble_eq_true rfl⟩, ⟨rfl, rfl⟩, Nat.le_of_ble_eq_true rfl, Nat.le_of_ble_eq_true rfl⟩ rfl hl.1 rfl (Nat.le_of_ble_eq_true rfl) dX0_move_2 (fun H locs hR hS hE1 z_q1 => ?_)
  have z_q1 := z_q1 _ rfl
  refine lv_if_eq (tgt := 17) C.x C.b dX0_move_5 (by decide) (fun c2 => ?_) (fun c2 => ?_)
  · have hf := it_t hf c2
    refine lv_iconst (v := (-1 : Int32)) C.x C.b dX0_move_17 (by decide) ?_
    have hf := so_e hf
    subst hf
    exact r_iret C hr hlk hR hE hS dX0_move_18
  · have hf := it_f hf c2
    refine lv_iload_n C.x C.b dX0_move_8 rfl (lv_at hl 2 rfl) ?_
    refine lv_if_lt (tgt := 17) C.x C.b dX0_move_9 (by decide) (fun c3 => ?_) (fun c3 => ?_)
    · have hf := it_t hf c3
      refine lv_iconst (v := (-1 : Int32)) C.x C.b dX0_move_17 (by decide) ?_
      have hf := so_e hf
      subst hf
      exact r_iret C hr hlk hR hE hS dX0_move_18
    · have hf := it_f hf c3
      refine lv_iload_n C.x C.b dX0_move_12 rfl (lv_at hl 2 rfl) ?_
      refine lv_iconst (v := (3 : Int32)) C.x C.b dX0_move_13 (by decide) ?_
      refine lv_icmp_le (tgt := 19) C.x C.b dX0_move_14 (by decide) (fun c4 => ?_) (fun c4 => ?_)
      · have hf := it_t hf c4
        refine lv_aload_n C.x C.b dX0_move_19 rfl (lv_at hl 0 rfl) ?_
        obtain ⟨g5, hf⟩ := gd_e hf
        refine r_getr C hR t_r0 fl_X0_18 (by decide) (nz_e g5) dX0_move_20 (fun tq6 => ?_)
        have tg5 := okA tq6 rfl
        refine lv_iload_n C.x C.b dX0_move_23 rfl (lv_at hl 1 rfl) ?_
        obtain ⟨g7, hf⟩ := gd_e hf
        refine r_iald C hR tg5 g7 dX0_move_24 ?_
        refine lv_iload_n C.x C.b dX0_move_25 rfl (lv_at hl 2 rfl) ?_
        refine lv_iconst (v := (2 : Int32)) C.x C.b dX0_move_26 (by decide) ?_
        refine lv_icmp_ne (tgt := 34) C.x C.b dX0_move_27 (by decide) (fun c8 => ?_) (fun c8 => ?_)
        · simp only [if_neg c8] at hf
          refine lv_iload_n C.x C.b dX0_move_34 rfl (lv_at hl 2 rfl) ?_
          refine lv_if_ne (tgt := 42) C.x C.b dX0_move_35 (by decide) (fun c9 => ?_) (fun c9 => ?_)
          · simp only [if_neg c9] at hf
            refine lv_iconst (v := (0 : Int32)) C.x C.b dX0_move_42 (by decide) ?_
            exact w_X0_move_43 C hr hlk _ _ _ _ _ _ hf hE hR hS t_r0 (lv_sub hl [0, 1, 2] rfl)
          · simp only [if_pos c9] at hf
            refine lv_iconst (v := (-1 : Int32)) C.x C.b dX0_move_38 (by decide) ?_
            refine lv_goto (tgt := 43) C.x C.b dX0_move_39 (by decide) ?_
            exact w_X0_move_43 C hr hlk _ _ _ _ _ _ hf hE hR hS t_r0 (lv_sub hl [0, 1, 2] rfl)
        · simp only [if_pos c8] at hf
          refine lv_iconst (v := (1 : Int32)) C.x C.b dX0_move_30 (by decide) ?_
          refine lv_goto (tgt := 43) C.x C.b dX0_move_31 (by decide) ?_
          exact w_X0_move_43 C hr hlk _ _ _ _ _ _ hf hE hR hS t_r0 (lv_sub hl [0, 1, 2] rfl)
      · have hf := it_f hf c4
        refine lv_iconst (v := (-1 : Int32)) C.x C.b dX0_move_17 (by decide) ?_
        have hf := so_e hf
        subst hf
        exact r_iret C hr hlk hR hE hS dX0_move_18

def rm_X0_weaken : Room := { frames := 1, cells := 0, slots := 0, locals := 13 }
def P_X0_weaken_6 (G : Gt) (l : Launch) (p : Program) (e : Env) (s : State) (m : MethodId) (args : Array Value) (below : List Frame) (meth : Method) (c : Code) (h0 : Hp) (out : Hp) (r0 : Nat) (x1 : Int32) (k : Hp → Int32 → Option Hp) : Prop := ∀ (H : Heap) (locs : List Loc) (ls : Array Slot) (h : Hp) (x2 : Int32), k h x2 = some out → Ext h0 h → Rel G h H → va_S (AA G.2.2) s.heap H locs → hpT h r0 = (1, 0) → lv_has ls 3 [(0, .ref (G.2.2 + r0)), (1, .int x1), (2, .int x2)] → W p l e rm_X0_weaken s m args below meth c H locs 0 0 (MQ below (Qm G h0 out (none) 0) args s 0 0 (AA G.2.2)) (F0 m 6 ls [])
set_option maxRecDepth 100000 in
set_option maxHeartbeats 4000000 in
theorem w_X0_weaken_6 {G : Gt} {l : Launch} {p : Program} {e : Env} {s : State} {m : MethodId} {args : Array Value} {below : List Frame} {meth : Method} {c : Code}  {h0 : Hp} {out : Hp} {r0 : Nat} {x1 : Int32}  (C : Cx G p m c cX0_weaken 3 s args RX0) (hr : meth.sig.returnType = none) (hlk : meth.locks = false)   (n : Nat) : P_X0_weaken_6 G l p e s m args below meth c h0 out r0 x1 (f_X0_weaken_6 r0 x1 n) := by
  induction n with
  | zero => intro H locs ls h x2 hf hE hR hS t_r0 hl; cases hf
  | succ n hk6 =>
    intro H locs ls h x2 hf hE hR hS t_r0 hl
    rw [f_X0_weaken_6] at hf
    obtain ⟨k6, e_k6⟩ : ∃ y, y = f_X0_weaken_6 r0 x1 n := ⟨_, rfl⟩
    have hf := lt_e hf e_k6
    rw [← e_k6] at hk6
    refine lv_iload_n C.x C.b dX0_weaken_6 rfl (lv_at hl 2 rfl) ?_
    refine lv_aload_n C.x C.b dX0_weaken_7 rfl (lv_at hl 0 rfl) ?_
    refine r_geti C hR t_r0 fl_X0_40 rfl dX0_weaken_8 ?_
    refine lv_icmp_ge (tgt := 27) C.x C.b dX0_weaken_11 (by decide) (fun c2 => ?_) (fun c2 => ?_)
    · have hf := it_t hf c2
      have hf := so_e hf
      subst hf
      exact r_vret C hr hlk hR hE hS dX0_weaken_27
    · have hf := it_f hf c2
      refine lv_aload_n C.x C.b dX0_weaken_14 rfl (lv_at hl 0 rfl) ?_
      obtain ⟨g3, hf⟩ := gd_e hf
      refine r_getr C hR t_r0 fl_X0_31 (by decide) (nz_e g3) dX0_weaken_15 (fun tq4 => ?_)
      have tg3 := okA tq4 rfl
      refine lv_iload_n C.x C.b dX0_weaken_18 rfl (lv_at hl 2 rfl) ?_
      refine lv_iconst (v := (0 : Int32)) C.x C.b dX0_weaken_19 (by decide) ?_
      obtain ⟨g5, hf⟩ := gd_e hf
      refine r_iast C hR hS tg3 g5 dX0_weaken_20 (fun H locs hR hS => ?_)
      obtain ⟨h6, e_h6⟩ : ∃ y, y = upI h (hpR h r0 9) (ix x2) (0 : Int32) := ⟨_, rfl⟩
      rw [← e_h6] at hR
      have hf := lt_e hf e_h6
      have hE := eI e_h6 hE
      have t_r0 := tI e_h6 t_r0
      obtain ⟨v7, e_v7⟩ : ∃ y : Int32, y = x2 + (1 : Int32) := ⟨_, rfl⟩
      have hf := lt_e hf e_v7
      refine lv_iinc (v := v7) (lv' := [(2, .int v7), (0, .ref (G.2.2 + r0)), (1, .int x1)]) C.x C.b dX0_weaken_21 hl (k := 2) rfl (by rw [e_v7]; rfl) (by decide) rfl (fun ls hl => ?_)
      refine lv_goto (tgt := 6) C.x C.b dX0_weaken_24 (by decide) ?_
      exact hk6 _ _ _ _ _ hf hE hR hS t_r0 (lv_sub hl [1, 2, 0] rfl)
set_option maxRecDepth 100000 in
set_option maxHeartbeats 4000000 in
theorem k_X0_weaken {G : Gt} {l : Launch}  {h : Hp} {r0 : Nat} {x1 : Int32} {out : Hp} (t_r0 : hpT h r0 = (1, 0))  (hf : f_X0_weaken  h r0 x1 = some out) : Mt G l yX0_weaken cX0_weaken 3 (none) rm_X0_weaken [.ref (G.2.2 + r0), .int x1] h (none) out 0 0 0 := by
  refine r_met (by decide +kernel) (Nat.le_of_ble_eq_true rfl) ?_
  intro p e s m args below meth c ls C hr hlk hnm hR hS hl
  have hE : Ext h h := Ext.rf
  have hl : lv_has ls 3 [(0, .ref (G.2.2 + r0)), (1, .int x1)] := hl
  rw [f_X0_weaken] at hf
  refine lv_iconst (v := (0 : Int32)) C.x C.b dX0_weaken_0 (by decide) ?_
  refine lv_iload_n C.x C.b dX0_weaken_1 rfl (lv_at hl 1 rfl) ?_
  refine va_mmax C.x C.b (C.ml.trans hl.1.symm) C.ow (C.ts _ lk_X0_125) (C.ts _ lk_Mmax_s) (C.ts _ lk_Math) (C.ts _ lk_Mmax_c) (Nat.le_of_ble_eq_true rfl) (Nat.le_of_ble_eq_true rfl) (Nat.le_of_ble_eq_true rfl) (Nat.le_of_ble_eq_true rfl) dX0_weaken_2 ?_
  refine lv_topi (fun v1 e_v1 => ?_)
  have hf := lt_e hf e_v1
  refine lv_istore_n (lv' := [(2, .int v1), (0, .ref (G.2.2 + r0)), (1, .int x1)]) C.x C.b dX0_weaken_5 rfl hl (by decide) rfl (fun ls hl => ?_)
  exact w_X0_weaken_6 C hr hlk FU _ _ _ _ _ hf hE hR hS t_r0 (lv_sub hl [1, 2, 0] rfl)

def rm_X6_get : Room := { frames := 0, cells := 0, slots := 0, locals := 0 }
set_option maxRecDepth 100000 in
set_option maxHeartbeats 4000000 in
theorem k_X6_get {G : Gt} {l : Launch}  {h : Hp} {r0 : Nat} {x1 : Int32} {out : Int32} (t_r0 : hpT h r0 = (1, 6))  (hf : f_X6_get  h r0 x1 = some out) : Mt G l yX6_get cX6_get 2 (some .int) rm_X6_get [.ref (G.2.2 + r0), .int x1] h (some (.int out)) h 0 0 0 := by
  refine r_met (by decide +kernel) (Nat.le_of_ble_eq_true rfl) ?_
  intro p e s m args below meth c ls C hr hlk hnm hR hS hl
  have hl : lv_has ls 2 [(0, .ref (G.2.2 + r0)), (1, .int x1)] := hl
  rw [f_X6_get] at hf
  refine lv_iload_n C.x C.b dX6_get_0 rfl (lv_at hl 1 rfl) ?_
  refine lv_if_lt (tgt := 21) C.x C.b dX6_get_1 (by decide) (fun c1 => ?_) (fun c1 => ?_)
  · have hf := it_t hf c1
    refine lv_iconst (v := (-1 : Int32)) C.x C.b dX6_get_21 (by decide) ?_
    have hf := so_e hf
    subst hf
    exact r_iret C hr hlk hR Ext.rf hS dX6_get_22
  · have hf := it_f hf c1
    refine lv_iload_n C.x C.b dX6_get_4 rfl (lv_at hl 1 rfl) ?_
    refine lv_aload_n C.x C.b dX6_get_5 rfl (lv_at hl 0 rfl) ?_
    refine r_geti C hR t_r0 fl_X6_15 rfl dX6_get_6 ?_
    refine lv_icmp_ge (tgt := 21) C.x C.b dX6_get_9 (by decide) (fun c2 => ?_) (fun c2 => ?_)
    · have hf := it_t hf c2
      refine lv_iconst (v := (-1 : Int32)) C.x C.b dX6_get_21 (by decide) ?_
      have hf := so_e hf
      subst hf
      exact r_iret C hr hlk hR Ext.rf hS dX6_get_22
    · have hf := it_f hf c2
      refine lv_aload_n C.x C.b dX6_get_12 rfl (lv_at hl 0 rfl) ?_
      obtain ⟨g3, hf⟩ := gd_e hf
      refine r_getr C hR t_r0 fl_X6_9 (by decide) (nz_e g3) dX6_get_13 (fun tq4 => ?_)
      have tg3 := okA tq4 rfl
      refine lv_iload_n C.x C.b dX6_get_16 rfl (lv_at hl 1 rfl) ?_
      obtain ⟨g5, hf⟩ := gd_e hf
      refine r_iald C hR tg3 g5 dX6_get_17 ?_
      refine lv_goto (tgt := 22) C.x C.b dX6_get_18 (by decide) ?_
      have hf := so_e hf
      subst hf
      exact r_iret C hr hlk hR Ext.rf hS dX6_get_22

def rm_X6_digit : Room := { frames := 1, cells := 0, slots := 0, locals := 21 }
def P_X6_digit_14 (G : Gt) (l : Launch) (p : Program) (e : Env) (s : State) (m : MethodId) (args : Array Value) (below : List Frame) (meth : Method) (c : Code) (h : Hp) (out : Int32) (r0 : Nat) (x1 : Int32) (x2 : Int32) (k : Int32 → Option Int32) : Prop := ∀ (H : Heap) (locs : List Loc) (ls : Array Slot) (s0 : Int32), k s0 = some out → Rel G h H → va_S (AA G.2.2) s.heap H locs → hpT h r0 = (1, 6) → lv_has ls 4 [(0, .ref (G.2.2 + r0)), (1, .int x1), (2, .int x2)] → W p l e rm_X6_digit s m args below meth c H locs 0 0 (MQ below (Qm G h h (some (.int out)) 0) args s 0 0 (AA G.2.2)) (F0 m 14 ls [.int s0])
set_option maxRecDepth 100000 in
set_option maxHeartbeats 4000000 in
theorem w_X6_digit_14 {G : Gt} {l : Launch} {p : Program} {e : Env} {s : State} {m : MethodId} {args : Array Value} {below : List Frame} {meth : Method} {c : Code}  {h : Hp} {out : Int32} {r0 : Nat} {x1 : Int32} {x2 : Int32}  (C : Cx G p m c cX6_digit 4 s args RX6) (hr : meth.sig.returnType = some .int) (hlk : meth.locks = false)   : P_X6_digit_14 G l p e s m args below meth c h out r0 x1 x2 (f_X6_digit_14 h r0 x1 x2) := by
  intro H locs ls s0 hf hR hS t_r0 hl
  rw [f_X6_digit_14] at hf
  refine lv_istore_n (lv' := [(3, .int s0), (0, .ref (G.2.2 + r0)), (1, .int x1), (2, .int x2)]) C.x C.b dX6_digit_14 rfl hl (by decide) rfl (fun ls hl => ?_)
  refine lv_iload_n C.x C.b dX6_digit_15 rfl (lv_at hl 0 rfl) ?_
  refine lv_bipush (v := (48 : Int32)) C.x C.b dX6_digit_16 (by decide) ?_
  refine lv_icmp_lt (tgt := 34) C.x C.b dX6_digit_18 (by decide) (fun c3 => ?_) (fun c3 => ?_)
  · have hf := it_t hf c3
    refine lv_iconst (v := (-1 : Int32)) C.x C.b dX6_digit_34 (by decide) ?_
    have hf := so_e hf
    subst hf
    exact r_iret C hr hlk hR Ext.rf hS dX6_digit_35
  · have hf := it_f hf c3
    refine lv_iload_n C.x C.b dX6_digit_21 rfl (lv_at hl 0 rfl) ?_
    refine lv_bipush (v := (57 : Int32)) C.x C.b dX6_digit_22 (by decide) ?_
    refine lv_icmp_gt (tgt := 34) C.x C.b dX6_digit_24 (by decide) (fun c4 => ?_) (fun c4 => ?_)
    · have hf := it_t hf c4
      refine lv_iconst (v := (-1 : Int32)) C.x C.b dX6_digit_34 (by decide) ?_
      have hf := so_e hf
      subst hf
      exact r_iret C hr hlk hR Ext.rf hS dX6_digit_35
    · have hf := it_f hf c4
      refine lv_iload_n C.x C.b dX6_digit_27 rfl (lv_at hl 0 rfl) ?_
      refine lv_bipush (v := (48 : Int32)) C.x C.b dX6_digit_28 (by decide) ?_
      refine lv_isub C.x C.b dX6_digit_30 ?_
      refine lv_goto (tgt := 35) C.x C.b dX6_digit_31 (by decide) ?_
      have hf := so_e hf
      subst hf
      exact r_iret C hr hlk hR Ext.rf hS dX6_digit_35
set_option maxRecDepth 100000 in
set_option maxHeartbeats 4000000 in
theorem k_X6_digit {G : Gt} {l : Launch}  {h : Hp} {r0 : Nat} {x1 : Int32} {x2 : Int32} {out : Int32} (t_r0 : hpT h r0 = (1, 6))  (hf : f_X6_digit  h r0 x1 x2 = some out) : Mt G l yX6_digit cX6_digit 4 (some .int) rm_X6_digit [.ref (G.2.2 + r0), .int x1, .int x2] h (some (.int out)) h 0 0 0 := by
  refine r_met (by decide +kernel) (Nat.le_of_ble_eq_true rfl) ?_
  intro p e s m args below meth c ls C hr hlk hnm hR hS hl
  have hl : lv_has ls 4 [(0, .ref (G.2.2 + r0)), (1, .int x1), (2, .int x2)] := hl
  rw [f_X6_digit] at hf
  refine lv_iload_n C.x C.b dX6_digit_0 rfl (lv_at hl 1 rfl) ?_
  refine lv_iload_n C.x C.b dX6_digit_1 rfl (lv_at hl 2 rfl) ?_
  refine lv_icmp_ge (tgt := 13) C.x C.b dX6_digit_2 (by decide) (fun c1 => ?_) (fun c1 => ?_)
  · have hf := it_t hf c1
    refine lv_iconst (v := (-1 : Int32)) C.x C.b dX6_digit_13 (by decide) ?_
    exact w_X6_digit_14 C hr hlk _ _ _ _ hf hR hS t_r0 (lv_sub hl [0, 1, 2] rfl)
  · have hf := it_f hf c1
    refine lv_aload_n C.x C.b dX6_digit_5 rfl (lv_at hl 0 rfl) ?_
    refine lv_iload_n C.x C.b dX6_digit_6 rfl (lv_at hl 1 rfl) ?_
    obtain ⟨q2, h_q2, hf⟩ := bd_e hf
    refine r_callV (As := [.int x1]) (rest := []) C hR hS t_r0 rfl mk_X6_get cl_X6_19 (k_X6_get t_r0 h_q2) ⟨⟨Nat.le_of_ble_eq_true rfl, Nat.le_of_ble_eq_true rfl⟩, ⟨rfl, rfl⟩, Nat.le_of_ble_eq_true rfl, Nat.le_of_ble_eq_true rfl⟩ rfl hl.1 rfl (Nat.le_of_ble_eq_true rfl) dX6_digit_7 (fun H locs hR hS hE1 z_q2 => ?_)
    refine lv_goto (tgt := 14) C.x C.b dX6_digit_10 (by decide) ?_
    exact w_X6_digit_14 C hr hlk _ _ _ _ hf hR hS t_r0 (lv_sub hl [0, 1, 2] rfl)

def rm_X0_takeDigit : Room := { frames := 0, cells := 0, slots := 0, locals := 0 }
set_option maxRecDepth 100000 in
set_option maxHeartbeats 4000000 in
theorem k_X0_takeDigit {G : Gt} {l : Launch}  {h : Hp} {r0 : Nat} {x1 : Int32} {x2 : Int32} {out : (Int32 × Hp)} (t_r0 : hpT h r0 = (1, 0))  (hf : f_X0_takeDigit  h r0 x1 x2 = some out) : Mt G l yX0_takeDigit cX0_takeDigit 3 (some .boolean) rm_X0_takeDigit [.ref (G.2.2 + r0), .int x1, .int x2] h (some (.int out.1)) out.2 1 0 0 := by
  refine r_met (by decide +kernel) (Nat.le_of_ble_eq_true rfl) ?_
  intro p e s m args below meth c ls C hr hlk hnm hR hS hl
  have hE : Ext h h := Ext.rf
  have hl : lv_has ls 3 [(0, .ref (G.2.2 + r0)), (1, .int x1), (2, .int x2)] := hl
  rw [f_X0_takeDigit] at hf
  refine lv_aload_n C.x C.b dX0_takeDigit_0 rfl (lv_at hl 0 rfl) ?_
  refine r_geti C hR t_r0 fl_X0_40 rfl dX0_takeDigit_1 ?_
  refine lv_bipush (v := (8 : Int32)) C.x C.b dX0_takeDigit_4 (by decide) ?_
  refine lv_icmp_lt (tgt := 11) C.x C.b dX0_takeDigit_6 (by decide) (fun c1 => ?_) (fun c1 => ?_)
  · have hf := it_t hf c1
    refine lv_iload_n C.x C.b dX0_takeDigit_11 rfl (lv_at hl 1 rfl) ?_
    by_cases c41_0 : x1 = (0 : Int32)
    · have hf := it_t hf c41_0
      refine lv_tableIn (tgt := 48) C.x C.b dX0_takeDigit_12 (by rw [c41_0]; decide) (by rw [c41_0]; decide) (by rw [c41_0]; rfl) (by decide) ?_
      refine lv_aload_n C.x C.b dX0_takeDigit_48 rfl (lv_at hl 0 rfl) ?_
      obtain ⟨g2, hf⟩ := gd_e hf
      refine r_getr C hR t_r0 fl_X0_18 (by decide) (nz_e g2) dX0_takeDigit_49 (fun tq3 => ?_)
      have tg2 := okA tq3 rfl
      refine lv_aload_n C.x C.b dX0_takeDigit_52 rfl (lv_at hl 0 rfl) ?_
      refine r_geti C hR t_r0 fl_X0_40 rfl dX0_takeDigit_53 ?_
      refine lv_iload_n C.x C.b dX0_takeDigit_56 rfl (lv_at hl 2 rfl) ?_
      obtain ⟨g4, hf⟩ := gd_e hf
      refine r_iast C hR hS tg2 g4 dX0_takeDigit_57 (fun H locs hR hS => ?_)
      obtain ⟨h5, e_h5⟩ : ∃ y, y = upI h (hpR h r0 5) (ix (hpI h r0 2)) x2 := ⟨_, rfl⟩
      rw [← e_h5] at hR
      have hf := lt_e hf e_h5
      have hE := eI e_h5 hE
      have t_r0 := tI e_h5 t_r0
      refine lv_iload_n C.x C.b dX0_takeDigit_58 rfl (lv_at hl 2 rfl) ?_
      refine lv_aload_n C.x C.b dX0_takeDigit_59 rfl (lv_at hl 0 rfl) ?_
      refine r_geti C hR t_r0 fl_X0_9 rfl dX0_takeDigit_60 ?_
      refine lv_icmp_ge (tgt := 70) C.x C.b dX0_takeDigit_63 (by decide) (fun c6 => ?_) (fun c6 => ?_)
      · have hf := it_t hf c6
        refine lv_iconst (v := (0 : Int32)) C.x C.b dX0_takeDigit_70 (by decide) ?_
        have hf := so_e hf
        subst hf
        exact r_zret C hr hlk hR hE hS z_0 dX0_takeDigit_71
      · have hf := it_f hf c6
        refine lv_iconst (v := (1 : Int32)) C.x C.b dX0_takeDigit_66 (by decide) ?_
        refine lv_goto (tgt := 71) C.x C.b dX0_takeDigit_67 (by decide) ?_
        have hf := so_e hf
        subst hf
        exact r_zret C hr hlk hR hE hS z_1 dX0_takeDigit_71
    have hf := it_f hf c41_0
    by_cases c41_1 : x1 = (1 : Int32)
    · have hf := it_t hf c41_1
      refine lv_tableIn (tgt := 72) C.x C.b dX0_takeDigit_12 (by rw [c41_1]; decide) (by rw [c41_1]; decide) (by rw [c41_1]; rfl) (by decide) ?_
      refine lv_aload_n C.x C.b dX0_takeDigit_72 rfl (lv_at hl 0 rfl) ?_
      obtain ⟨g7, hf⟩ := gd_e hf
      refine r_getr C hR t_r0 fl_X0_22 (by decide) (nz_e g7) dX0_takeDigit_73 (fun tq8 => ?_)
      have tg7 := okA tq8 rfl
      refine lv_aload_n C.x C.b dX0_takeDigit_76 rfl (lv_at hl 0 rfl) ?_
      refine r_geti C hR t_r0 fl_X0_40 rfl dX0_takeDigit_77 ?_
      refine lv_iload_n C.x C.b dX0_takeDigit_80 rfl (lv_at hl 2 rfl) ?_
      obtain ⟨g9, hf⟩ := gd_e hf
      refine r_iast C hR hS tg7 g9 dX0_takeDigit_81 (fun H locs hR hS => ?_)
      obtain ⟨h10, e_h10⟩ : ∃ y, y = upI h (hpR h r0 6) (ix (hpI h r0 2)) x2 := ⟨_, rfl⟩
      rw [← e_h10] at hR
      have hf := lt_e hf e_h10
      have hE := eI e_h10 hE
      have t_r0 := tI e_h10 t_r0
      refine lv_iload_n C.x C.b dX0_takeDigit_82 rfl (lv_at hl 2 rfl) ?_
      refine lv_aload_n C.x C.b dX0_takeDigit_83 rfl (lv_at hl 0 rfl) ?_
      refine r_geti C hR t_r0 fl_X0_15 rfl dX0_takeDigit_84 ?_
      refine lv_icmp_ge (tgt := 94) C.x C.b dX0_takeDigit_87 (by decide) (fun c11 => ?_) (fun c11 => ?_)
      · have hf := it_t hf c11
        refine lv_iconst (v := (0 : Int32)) C.x C.b dX0_takeDigit_94 (by decide) ?_
        have hf := so_e hf
        subst hf
        exact r_zret C hr hlk hR hE hS z_0 dX0_takeDigit_95
      · have hf := it_f hf c11
        refine lv_iconst (v := (1 : Int32)) C.x C.b dX0_takeDigit_90 (by decide) ?_
        refine lv_goto (tgt := 95) C.x C.b dX0_takeDigit_91 (by decide) ?_
        have hf := so_e hf
        subst hf
        exact r_zret C hr hlk hR hE hS z_1 dX0_takeDigit_95
    have hf := it_f hf c41_1
    by_cases c41_2 : x1 = (2 : Int32)
    · have hf := it_t hf c41_2
      refine lv_tableIn (tgt := 96) C.x C.b dX0_takeDigit_12 (by rw [c41_2]; decide) (by rw [c41_2]; decide) (by rw [c41_2]; rfl) (by decide) ?_
      refine lv_aload_n C.x C.b dX0_takeDigit_96 rfl (lv_at hl 0 rfl) ?_
      obtain ⟨g12, hf⟩ := gd_e hf
      refine r_getr C hR t_r0 fl_X0_25 (by decide) (nz_e g12) dX0_takeDigit_97 (fun tq13 => ?_)
      have tg12 := okA tq13 rfl
      refine lv_aload_n C.x C.b dX0_takeDigit_100 rfl (lv_at hl 0 rfl) ?_
      refine r_geti C hR t_r0 fl_X0_40 rfl dX0_takeDigit_101 ?_
      refine lv_iload_n C.x C.b dX0_takeDigit_104 rfl (lv_at hl 2 rfl) ?_
      obtain ⟨g14, hf⟩ := gd_e hf
      refine r_iast C hR hS tg12 g14 dX0_takeDigit_105 (fun H locs hR hS => ?_)
      obtain ⟨h15, e_h15⟩ : ∃ y, y = upI h (hpR h r0 7) (ix (hpI h r0 2)) x2 := ⟨_, rfl⟩
      rw [← e_h15] at hR
      have hf := lt_e hf e_h15
      have hE := eI e_h15 hE
      have t_r0 := tI e_h15 t_r0
      refine lv_iload_n C.x C.b dX0_takeDigit_106 rfl (lv_at hl 2 rfl) ?_
      refine lv_iconst (v := (1 : Int32)) C.x C.b dX0_takeDigit_107 (by decide) ?_
      refine lv_icmp_lt (tgt := 138) C.x C.b dX0_takeDigit_108 (by decide) (fun c16 => ?_) (fun c16 => ?_)
      · have hf := it_t hf c16
        refine lv_iconst (v := (0 : Int32)) C.x C.b dX0_takeDigit_138 (by decide) ?_
        have hf := so_e hf
        subst hf
        exact r_zret C hr hlk hR hE hS z_0 dX0_takeDigit_139
      · have hf := it_f hf c16
        refine lv_iload_n C.x C.b dX0_takeDigit_111 rfl (lv_at hl 2 rfl) ?_
        refine lv_iconst (v := (3 : Int32)) C.x C.b dX0_takeDigit_112 (by decide) ?_
        refine lv_icmp_gt (tgt := 138) C.x C.b dX0_takeDigit_113 (by decide) (fun c17 => ?_) (fun c17 => ?_)
        · have hf := it_t hf c17
          refine lv_iconst (v := (0 : Int32)) C.x C.b dX0_takeDigit_138 (by decide) ?_
          have hf := so_e hf
          subst hf
          exact r_zret C hr hlk hR hE hS z_0 dX0_takeDigit_139
        · have hf := it_f hf c17
          refine lv_aload_n C.x C.b dX0_takeDigit_116 rfl (lv_at hl 0 rfl) ?_
          obtain ⟨g18, hf⟩ := gd_e hf
          refine r_getr C hR t_r0 fl_X0_18 (by decide) (nz_e g18) dX0_takeDigit_117 (fun tq19 => ?_)
          have tg18 := okA tq19 rfl
          refine lv_aload_n C.x C.b dX0_takeDigit_120 rfl (lv_at hl 0 rfl) ?_
          refine r_geti C hR t_r0 fl_X0_40 rfl dX0_takeDigit_121 ?_
          obtain ⟨g20, hf⟩ := gd_e hf
          refine r_iald C hR tg18 g20 dX0_takeDigit_124 ?_
          refine lv_iload_n C.x C.b dX0_takeDigit_125 rfl (lv_at hl 2 rfl) ?_
          refine lv_iadd C.x C.b dX0_takeDigit_126 ?_
          refine lv_aload_n C.x C.b dX0_takeDigit_127 rfl (lv_at hl 0 rfl) ?_
          refine r_geti C hR t_r0 fl_X0_9 rfl dX0_takeDigit_128 ?_
          refine lv_icmp_gt (tgt := 138) C.x C.b dX0_takeDigit_131 (by decide) (fun c21 => ?_) (fun c21 => ?_)
          · have hf := it_t hf c21
            refine lv_iconst (v := (0 : Int32)) C.x C.b dX0_takeDigit_138 (by decide) ?_
            have hf := so_e hf
            subst hf
            exact r_zret C hr hlk hR hE hS z_0 dX0_takeDigit_139
          · have hf := it_f hf c21
            refine lv_iconst (v := (1 : Int32)) C.x C.b dX0_takeDigit_134 (by decide) ?_
            refine lv_goto (tgt := 139) C.x C.b dX0_takeDigit_135 (by decide) ?_
            have hf := so_e hf
            subst hf
            exact r_zret C hr hlk hR hE hS z_1 dX0_takeDigit_139
    have hf := it_f hf c41_2
    by_cases c41_3 : x1 = (3 : Int32)
    · have hf := it_t hf c41_3
      refine lv_tableIn (tgt := 140) C.x C.b dX0_takeDigit_12 (by rw [c41_3]; decide) (by rw [c41_3]; decide) (by rw [c41_3]; rfl) (by decide) ?_
      refine lv_aload_n C.x C.b dX0_takeDigit_140 rfl (lv_at hl 0 rfl) ?_
      obtain ⟨g22, hf⟩ := gd_e hf
      refine r_getr C hR t_r0 fl_X0_28 (by decide) (nz_e g22) dX0_takeDigit_141 (fun tq23 => ?_)
      have tg22 := okA tq23 rfl
      refine lv_aload_n C.x C.b dX0_takeDigit_144 rfl (lv_at hl 0 rfl) ?_
      refine r_geti C hR t_r0 fl_X0_40 rfl dX0_takeDigit_145 ?_
      refine lv_iload_n C.x C.b dX0_takeDigit_148 rfl (lv_at hl 2 rfl) ?_
      obtain ⟨g24, hf⟩ := gd_e hf
      refine r_iast C hR hS tg22 g24 dX0_takeDigit_149 (fun H locs hR hS => ?_)
      obtain ⟨h25, e_h25⟩ : ∃ y, y = upI h (hpR h r0 8) (ix (hpI h r0 2)) x2 := ⟨_, rfl⟩
      rw [← e_h25] at hR
      have hf := lt_e hf e_h25
      have hE := eI e_h25 hE
      have t_r0 := tI e_h25 t_r0
      refine lv_iload_n C.x C.b dX0_takeDigit_150 rfl (lv_at hl 2 rfl) ?_
      refine lv_iconst (v := (1 : Int32)) C.x C.b dX0_takeDigit_151 (by decide) ?_
      refine lv_icmp_lt (tgt := 182) C.x C.b dX0_takeDigit_152 (by decide) (fun c26 => ?_) (fun c26 => ?_)
      · have hf := it_t hf c26
        refine lv_iconst (v := (0 : Int32)) C.x C.b dX0_takeDigit_182 (by decide) ?_
        have hf := so_e hf
        subst hf
        exact r_zret C hr hlk hR hE hS z_0 dX0_takeDigit_183
      · have hf := it_f hf c26
        refine lv_iload_n C.x C.b dX0_takeDigit_155 rfl (lv_at hl 2 rfl) ?_
        refine lv_iconst (v := (3 : Int32)) C.x C.b dX0_takeDigit_156 (by decide) ?_
        refine lv_icmp_gt (tgt := 182) C.x C.b dX0_takeDigit_157 (by decide) (fun c27 => ?_) (fun c27 => ?_)
        · have hf := it_t hf c27
          refine lv_iconst (v := (0 : Int32)) C.x C.b dX0_takeDigit_182 (by decide) ?_
          have hf := so_e hf
          subst hf
          exact r_zret C hr hlk hR hE hS z_0 dX0_takeDigit_183
        · have hf := it_f hf c27
          refine lv_aload_n C.x C.b dX0_takeDigit_160 rfl (lv_at hl 0 rfl) ?_
          obtain ⟨g28, hf⟩ := gd_e hf
          refine r_getr C hR t_r0 fl_X0_22 (by decide) (nz_e g28) dX0_takeDigit_161 (fun tq29 => ?_)
          have tg28 := okA tq29 rfl
          refine lv_aload_n C.x C.b dX0_takeDigit_164 rfl (lv_at hl 0 rfl) ?_
          refine r_geti C hR t_r0 fl_X0_40 rfl dX0_takeDigit_165 ?_
          obtain ⟨g30, hf⟩ := gd_e hf
          refine r_iald C hR tg28 g30 dX0_takeDigit_168 ?_
          refine lv_iload_n C.x C.b dX0_takeDigit_169 rfl (lv_at hl 2 rfl) ?_
          refine lv_iadd C.x C.b dX0_takeDigit_170 ?_
          refine lv_aload_n C.x C.b dX0_takeDigit_171 rfl (lv_at hl 0 rfl) ?_
          refine r_geti C hR t_r0 fl_X0_15 rfl dX0_takeDigit_172 ?_
          refine lv_icmp_gt (tgt := 182) C.x C.b dX0_takeDigit_175 (by decide) (fun c31 => ?_) (fun c31 => ?_)
          · have hf := it_t hf c31
            refine lv_iconst (v := (0 : Int32)) C.x C.b dX0_takeDigit_182 (by decide) ?_
            have hf := so_e hf
            subst hf
            exact r_zret C hr hlk hR hE hS z_0 dX0_takeDigit_183
          · have hf := it_f hf c31
            refine lv_iconst (v := (1 : Int32)) C.x C.b dX0_takeDigit_178 (by decide) ?_
            refine lv_goto (tgt := 183) C.x C.b dX0_takeDigit_179 (by decide) ?_
            have hf := so_e hf
            subst hf
            exact r_zret C hr hlk hR hE hS z_1 dX0_takeDigit_183
    have hf := it_f hf c41_3
    by_cases c41_4 : x1 = (4 : Int32)
    · have hf := it_t hf c41_4
      refine lv_tableIn (tgt := 184) C.x C.b dX0_takeDigit_12 (by rw [c41_4]; decide) (by rw [c41_4]; decide) (by rw [c41_4]; rfl) (by decide) ?_
      refine lv_aload_n C.x C.b dX0_takeDigit_184 rfl (lv_at hl 0 rfl) ?_
      obtain ⟨g32, hf⟩ := gd_e hf
      refine r_getr C hR t_r0 fl_X0_31 (by decide) (nz_e g32) dX0_takeDigit_185 (fun tq33 => ?_)
      have tg32 := okA tq33 rfl
      refine lv_aload_n C.x C.b dX0_takeDigit_188 rfl (lv_at hl 0 rfl) ?_
      refine r_geti C hR t_r0 fl_X0_40 rfl dX0_takeDigit_189 ?_
      refine lv_iload_n C.x C.b dX0_takeDigit_192 rfl (lv_at hl 2 rfl) ?_
      obtain ⟨g34, hf⟩ := gd_e hf
      refine r_iast C hR hS tg32 g34 dX0_takeDigit_193 (fun H locs hR hS => ?_)
      obtain ⟨h35, e_h35⟩ : ∃ y, y = upI h (hpR h r0 9) (ix (hpI h r0 2)) x2 := ⟨_, rfl⟩
      rw [← e_h35] at hR
      have hf := lt_e hf e_h35
      have hE := eI e_h35 hE
      have t_r0 := tI e_h35 t_r0
      refine lv_iload_n C.x C.b dX0_takeDigit_194 rfl (lv_at hl 2 rfl) ?_
      refine lv_iconst (v := (1 : Int32)) C.x C.b dX0_takeDigit_195 (by decide) ?_
      refine lv_icmp_lt (tgt := 203) C.x C.b dX0_takeDigit_196 (by decide) (fun c36 => ?_) (fun c36 => ?_)
      · have hf := it_t hf c36
        refine lv_iconst (v := (0 : Int32)) C.x C.b dX0_takeDigit_203 (by decide) ?_
        have hf := so_e hf
        subst hf
        exact r_zret C hr hlk hR hE hS z_0 dX0_takeDigit_204
      · have hf := it_f hf c36
        refine lv_iconst (v := (1 : Int32)) C.x C.b dX0_takeDigit_199 (by decide) ?_
        refine lv_goto (tgt := 204) C.x C.b dX0_takeDigit_200 (by decide) ?_
        have hf := so_e hf
        subst hf
        exact r_zret C hr hlk hR hE hS z_1 dX0_takeDigit_204
    have hf := it_f hf c41_4
    refine lv_tableOut (tgt := 205) C.x C.b dX0_takeDigit_12 (tb_out 5 (by decide) (fun j hj => match j, hj with | 0, _ => fun q => c41_0 (q.trans (by decide)) | 1, _ => fun q => c41_1 (q.trans (by decide)) | 2, _ => fun q => c41_2 (q.trans (by decide)) | 3, _ => fun q => c41_3 (q.trans (by decide)) | 4, _ => fun q => c41_4 (q.trans (by decide)) | n + 5, hn => absurd hn (by omega))) (by decide) ?_
    refine lv_aload_n C.x C.b dX0_takeDigit_205 rfl (lv_at hl 0 rfl) ?_
    obtain ⟨g37, hf⟩ := gd_e hf
    refine r_getr C hR t_r0 fl_X0_34 (by decide) (nz_e g37) dX0_takeDigit_206 (fun tq38 => ?_)
    have tg37 := okA tq38 rfl
    refine lv_aload_n C.x C.b dX0_takeDigit_209 rfl (lv_at hl 0 rfl) ?_
    refine r_geti C hR t_r0 fl_X0_40 rfl dX0_takeDigit_210 ?_
    refine lv_iload_n C.x C.b dX0_takeDigit_213 rfl (lv_at hl 2 rfl) ?_
    obtain ⟨g39, hf⟩ := gd_e hf
    refine r_iast C hR hS tg37 g39 dX0_takeDigit_214 (fun H locs hR hS => ?_)
    obtain ⟨h40, e_h40⟩ : ∃ y, y = upI h (hpR h r0 10) (ix (hpI h r0 2)) x2 := ⟨_, rfl⟩
    rw [← e_h40] at hR
    have hf := lt_e hf e_h40
    have hE := eI e_h40 hE
    have t_r0 := tI e_h40 t_r0
    refine lv_iconst (v := (1 : Int32)) C.x C.b dX0_takeDigit_215 (by decide) ?_
    have hf := so_e hf
    subst hf
    exact r_zret C hr hlk hR hE hS z_1 dX0_takeDigit_216
  · have hf := it_f hf c1
    refine lv_iconst (v := (0 : Int32)) C.x C.b dX0_takeDigit_9 (by decide) ?_
    have hf := so_e hf
    subst hf
    exact r_zret C hr hlk hR hE hS z_0 dX0_takeDigit_10

def rm_X0_readLine : Room := { frames := 2, cells := 0, slots := 0, locals := 44 }
def P_X0_readLine_49 (G : Gt) (l : Launch) (p : Program) (e : Env) (s : State) (m : MethodId) (args : Array Value) (below : List Frame) (meth : Method) (c : Code) (h0 : Hp) (out : (Int32 × Hp)) (r0 : Nat) (r1 : Nat) (x2 : Int32) (x3 : Int32) (k : Hp → Int32 → Option (Int32 × Hp)) : Prop := ∀ (H : Heap) (locs : List Loc) (ls : Array Slot) (h : Hp) (x4 : Int32), k h x4 = some out → Ext h0 h → Rel G h H → va_S (AA G.2.2) s.heap H locs → hpT h r0 = (1, 0) → hpT h r1 = (1, 6) → lv_has ls 6 [(0, .ref (G.2.2 + r0)), (1, .ref (G.2.2 + r1)), (2, .int x2), (3, .int x3), (4, .int x4)] → W p l e rm_X0_readLine s m args below meth c H locs 0 0 (MQ below (Qm G h0 out.2 (some (.int out.1)) 0) args s 0 0 (AA G.2.2)) (F0 m 49 ls [])
def P_X0_readLine_14 (G : Gt) (l : Launch) (p : Program) (e : Env) (s : State) (m : MethodId) (args : Array Value) (below : List Frame) (meth : Method) (c : Code) (h0 : Hp) (out : (Int32 × Hp)) (r0 : Nat) (r1 : Nat) (x2 : Int32) (x3 : Int32) (k : Hp → Int32 → Option (Int32 × Hp)) : Prop := ∀ (H : Heap) (locs : List Loc) (ls : Array Slot) (h : Hp) (x4 : Int32), k h x4 = some out → Ext h0 h → Rel G h H → va_S (AA G.2.2) s.heap H locs → hpT h r0 = (1, 0) → hpT h r1 = (1, 6) → lv_has ls 6 [(0, .ref (G.2.2 + r0)), (1, .ref (G.2.2 + r1)), (2, .int x2), (3, .int x3), (4, .int x4)] → W p l e rm_X0_readLine s m args below meth c H locs 0 0 (MQ below (Qm G h0 out.2 (some (.int out.1)) 0) args s 0 0 (AA G.2.2)) (F0 m 14 ls [])
set_option maxRecDepth 100000 in
set_option maxHeartbeats 4000000 in
theorem w_X0_readLine_49 {G : Gt} {l : Launch} {p : Program} {e : Env} {s : State} {m : MethodId} {args : Array Value} {below : List Frame} {meth : Method} {c : Code}  {h0 : Hp} {out : (Int32 × Hp)} {r0 : Nat} {r1 : Nat} {x2 : Int32} {x3 : Int32}  (C : Cx G p m c cX0_readLine 6 s args RX0) (hr : meth.sig.returnType = some .int) (hlk : meth.locks = false)   : P_X0_readLine_49 G l p e s m args below meth c h0 out r0 r1 x2 x3 (f_X0_readLine_49 r0 r1 x2 x3) := by
  intro H locs ls h x4 hf hE hR hS t_r0 t_r1 hl
  rw [f_X0_readLine_49] at hf
  refine lv_iload_n C.x C.b dX0_readLine_49 rfl (lv_at hl 2 rfl) ?_
  refine lv_iload C.x C.b dX0_readLine_50 (lv_at hl 4 rfl) ?_
  refine lv_iadd C.x C.b dX0_readLine_52 ?_
  have hf := so_e hf
  subst hf
  exact r_iret C hr hlk hR hE hS dX0_readLine_53
set_option maxRecDepth 100000 in
set_option maxHeartbeats 4000000 in
theorem w_X0_readLine_14 {G : Gt} {l : Launch} {p : Program} {e : Env} {s : State} {m : MethodId} {args : Array Value} {below : List Frame} {meth : Method} {c : Code}  {h0 : Hp} {out : (Int32 × Hp)} {r0 : Nat} {r1 : Nat} {x2 : Int32} {x3 : Int32}  (C : Cx G p m c cX0_readLine 6 s args RX0) (hr : meth.sig.returnType = some .int) (hlk : meth.locks = false)   (n : Nat) : P_X0_readLine_14 G l p e s m args below meth c h0 out r0 r1 x2 x3 (f_X0_readLine_14 r0 r1 x2 x3 n) := by
  induction n with
  | zero => intro H locs ls h x4 hf hE hR hS t_r0 t_r1 hl; cases hf
  | succ n hk14 =>
    intro H locs ls h x4 hf hE hR hS t_r0 t_r1 hl
    rw [f_X0_readLine_14] at hf
    obtain ⟨k14, e_k14⟩ : ∃ y, y = f_X0_readLine_14 r0 r1 x2 x3 n := ⟨_, rfl⟩
    have hf := lt_e hf e_k14
    rw [← e_k14] at hk14
    refine lv_iload C.x C.b dX0_readLine_14 (lv_at hl 4 rfl) ?_
    refine lv_bipush (v := (6 : Int32)) C.x C.b dX0_readLine_16 (by decide) ?_
    refine lv_icmp_ge (tgt := 60) C.x C.b dX0_readLine_18 (by decide) (fun c2 => ?_) (fun c2 => ?_)
    · have hf := it_t hf c2
      refine lv_aload_n C.x C.b dX0_readLine_60 rfl (lv_at hl 0 rfl) ?_
      obtain ⟨g3, hf⟩ := gd_e hf
      refine r_getr C hR t_r0 fl_X0_37 (by decide) (nz_e g3) dX0_readLine_61 (fun tq4 => ?_)
      have tg3 := okA tq4 rfl
      refine lv_aload_n C.x C.b dX0_readLine_64 rfl (lv_at hl 0 rfl) ?_
      refine r_geti C hR t_r0 fl_X0_40 rfl dX0_readLine_65 ?_
      refine lv_iconst (v := (0 : Int32)) C.x C.b dX0_readLine_68 (by decide) ?_
      obtain ⟨g5, hf⟩ := gd_e hf
      refine r_iast C hR hS tg3 g5 dX0_readLine_69 (fun H locs hR hS => ?_)
      obtain ⟨h6, e_h6⟩ : ∃ y, y = upI h (hpR h r0 11) (ix (hpI h r0 2)) (0 : Int32) := ⟨_, rfl⟩
      rw [← e_h6] at hR
      have hf := lt_e hf e_h6
      have hE := eI e_h6 hE
      have t_r0 := tI e_h6 t_r0
      have t_r1 := tI e_h6 t_r1
      refine lv_aload_n C.x C.b dX0_readLine_70 rfl (lv_at hl 0 rfl) ?_
      refine lv_dup C.x C.b dX0_readLine_71 rfl ?_
      refine r_geti C hR t_r0 fl_X0_40 rfl dX0_readLine_72 ?_
      refine lv_iconst (v := (1 : Int32)) C.x C.b dX0_readLine_75 (by decide) ?_
      refine lv_iadd C.x C.b dX0_readLine_76 ?_
      refine r_puti C hR hS t_r0 fl_X0_40 fp_X0_0_2 rfl dX0_readLine_77 (fun H locs hR hS => ?_)
      obtain ⟨h7, e_h7⟩ : ∃ y, y = upI h6 r0 2 ((hpI h6 r0 2) + (1 : Int32)) := ⟨_, rfl⟩
      rw [← e_h7] at hR
      have hf := lt_e hf e_h7
      have hE := eI e_h7 hE
      have t_r0 := tI e_h7 t_r0
      have t_r1 := tI e_h7 t_r1
      refine lv_iconst (v := (-1 : Int32)) C.x C.b dX0_readLine_80 (by decide) ?_
      have hf := so_e hf
      subst hf
      exact r_iret C hr hlk hR hE hS dX0_readLine_81
    · have hf := it_f hf c2
      refine lv_aload_n C.x C.b dX0_readLine_21 rfl (lv_at hl 1 rfl) ?_
      refine lv_iload_n C.x C.b dX0_readLine_22 rfl (lv_at hl 2 rfl) ?_
      refine lv_iload C.x C.b dX0_readLine_23 (lv_at hl 4 rfl) ?_
      refine lv_iadd C.x C.b dX0_readLine_25 ?_
      refine lv_iload_n C.x C.b dX0_readLine_26 rfl (lv_at hl 3 rfl) ?_
      obtain ⟨q8, h_q8, hf⟩ := bd_e hf
      refine r_callV (As := [.int (x2 + x4), .int x3]) (rest := []) C hR hS t_r1 rfl mk_X6_digit cl_X0_162 (k_X6_digit t_r1 h_q8) ⟨⟨Nat.le_of_ble_eq_true rfl, Nat.le_of_ble_eq_true rfl⟩, ⟨rfl, rfl⟩, Nat.le_of_ble_eq_true rfl, Nat.le_of_ble_eq_true rfl⟩ rfl hl.1 rfl (Nat.le_of_ble_eq_true rfl) dX0_readLine_27 (fun H locs hR hS hE1 z_q8 => ?_)
      refine lv_istore (lv' := [(5, .int q8), (0, .ref (G.2.2 + r0)), (1, .ref (G.2.2 + r1)), (2, .int x2), (3, .int x3), (4, .int x4)]) C.x C.b dX0_readLine_30 hl (by decide) rfl (fun ls hl => ?_)
      refine lv_iload C.x C.b dX0_readLine_32 (lv_at hl 0 rfl) ?_
      refine lv_iconst (v := (-1 : Int32)) C.x C.b dX0_readLine_34 (by decide) ?_
      refine lv_icmp_eq (tgt := 49) C.x C.b dX0_readLine_35 (by decide) (fun c9 => ?_) (fun c9 => ?_)
      · have hf := it_t hf c9
        exact w_X0_readLine_49 C hr hlk _ _ _ _ _ hf hE hR hS t_r0 t_r1 (lv_sub hl [1, 2, 3, 4, 5] rfl)
      · have hf := it_f hf c9
        refine lv_aload_n C.x C.b dX0_readLine_38 rfl (lv_at hl 1 rfl) ?_
        refine lv_iload C.x C.b dX0_readLine_39 (lv_at hl 5 rfl) ?_
        refine lv_iload C.x C.b dX0_readLine_41 (lv_at hl 0 rfl) ?_
        obtain ⟨q10, h_q10, hf⟩ := bd_e hf
        refine r_callV (As := [.int x4, .int q8]) (rest := []) C hR hS t_r0 rfl mk_X0_takeDigit cl_X0_167 (k_X0_takeDigit t_r0 h_q10) ⟨⟨Nat.le_of_ble_eq_true rfl, Nat.le_of_ble_eq_true rfl⟩, ⟨rfl, rfl⟩, Nat.le_of_ble_eq_true rfl, Nat.le_of_ble_eq_true rfl⟩ rfl hl.1 rfl (Nat.le_of_ble_eq_true rfl) dX0_readLine_43 (fun H locs hR hS hE1 z_q10 => ?_)
        have hE := hE.tr hE1
        have t_r0 := hE1.at t_r0 (by decide)
        have t_r1 := hE1.at t_r1 (by decide)
        have z_q10 := z_q10 _ rfl
        refine lv_if_ne (tgt := 54) C.x C.b dX0_readLine_46 (by decide) (fun c11 => ?_) (fun c11 => ?_)
        · have hf := it_f hf c11
          obtain ⟨v12, e_v12⟩ : ∃ y : Int32, y = x4 + (1 : Int32) := ⟨_, rfl⟩
          have hf := lt_e hf e_v12
          refine lv_iinc (v := v12) (lv' := [(4, .int v12), (5, .int q8), (0, .ref (G.2.2 + r0)), (1, .ref (G.2.2 + r1)), (2, .int x2), (3, .int x3)]) C.x C.b dX0_readLine_54 hl (k := 5) rfl (by rw [e_v12]; rfl) (by decide) rfl (fun ls hl => ?_)
          refine lv_goto (tgt := 14) C.x C.b dX0_readLine_57 (by decide) ?_
          exact hk14 _ _ _ _ _ hf hE hR hS t_r0 t_r1 (lv_sub hl [2, 3, 4, 5, 0] rfl)
        · have hf := it_t hf c11
          exact w_X0_readLine_49 C hr hlk _ _ _ _ _ hf hE hR hS t_r0 t_r1 (lv_sub hl [1, 2, 3, 4, 5] rfl)
set_option maxRecDepth 100000 in
set_option maxHeartbeats 4000000 in
theorem k_X0_readLine {G : Gt} {l : Launch}  {h : Hp} {r0 : Nat} {r1 : Nat} {x2 : Int32} {x3 : Int32} {out : (Int32 × Hp)} (t_r0 : hpT h r0 = (1, 0)) (t_r1 : hpT h r1 = (1, 6))  (hf : f_X0_readLine  h r0 r1 x2 x3 = some out) : Mt G l yX0_readLine cX0_readLine 6 (some .int) rm_X0_readLine [.ref (G.2.2 + r0), .ref (G.2.2 + r1), .int x2, .int x3] h (some (.int out.1)) out.2 0 0 0 := by
  refine r_met (by decide +kernel) (Nat.le_of_ble_eq_true rfl) ?_
  intro p e s m args below meth c ls C hr hlk hnm hR hS hl
  have hE : Ext h h := Ext.rf
  have hl : lv_has ls 6 [(0, .ref (G.2.2 + r0)), (1, .ref (G.2.2 + r1)), (2, .int x2), (3, .int x3)] := hl
  rw [f_X0_readLine] at hf
  refine lv_aload_n C.x C.b dX0_readLine_0 rfl (lv_at hl 0 rfl) ?_
  refine r_geti C hR t_r0 fl_X0_40 rfl dX0_readLine_1 ?_
  refine lv_bipush (v := (8 : Int32)) C.x C.b dX0_readLine_4 (by decide) ?_
  refine lv_icmp_lt (tgt := 11) C.x C.b dX0_readLine_6 (by decide) (fun c1 => ?_) (fun c1 => ?_)
  · have hf := it_t hf c1
    refine lv_iconst (v := (0 : Int32)) C.x C.b dX0_readLine_11 (by decide) ?_
    refine lv_istore (lv' := [(4, .int (0 : Int32)), (0, .ref (G.2.2 + r0)), (1, .ref (G.2.2 + r1)), (2, .int x2), (3, .int x3)]) C.x C.b dX0_readLine_12 hl (by decide) rfl (fun ls hl => ?_)
    exact w_X0_readLine_14 C hr hlk FU _ _ _ _ _ hf hE hR hS t_r0 t_r1 (lv_sub hl [1, 2, 3, 4, 0] rfl)
  · have hf := it_f hf c1
    refine lv_iload_n C.x C.b dX0_readLine_9 rfl (lv_at hl 2 rfl) ?_
    have hf := so_e hf
    subst hf
    exact r_iret C hr hlk hR hE hS dX0_readLine_10

def rm_X1_init : Room := { frames := 1, cells := 0, slots := 0, locals := 12 }
set_option maxRecDepth 100000 in
set_option maxHeartbeats 4000000 in
theorem k_X1_init {G : Gt} {l : Launch}  {h : Hp} {r0 : Nat} {x1 : Int32} {out : Hp} (t_r0 : hpT h r0 = (1, 1))  (hf : f_X1_init  h r0 x1 = some out) : Mt G l yX1_init cX1_init 2 (none) rm_X1_init [.ref (G.2.2 + r0), .int x1] h (none) out 0 0 0 := by
  refine r_met (by decide +kernel) (Nat.le_of_ble_eq_true rfl) ?_
  intro p e s m args below meth c ls C hr hlk hnm hR hS hl
  have hE : Ext h h := Ext.rf
  have hl : lv_has ls 2 [(0, .ref (G.2.2 + r0)), (1, .int x1)] := hl
  rw [f_X1_init] at hf
  refine lv_aload_n C.x C.b dX1_init_0 rfl (lv_at hl 0 rfl) ?_
  refine r_objinit C hl.1 lk_X1_1 lk_oi_i lk_oi_c (Nat.le_of_ble_eq_true rfl) (Nat.le_of_ble_eq_true rfl) dX1_init_1 ?_
  refine lv_aload_n C.x C.b dX1_init_4 rfl (lv_at hl 0 rfl) ?_
  refine lv_iload_n C.x C.b dX1_init_5 rfl (lv_at hl 1 rfl) ?_
  refine r_puti C hR hS t_r0 fl_X1_7 fp_X1_1_0 rfl dX1_init_6 (fun H locs hR hS => ?_)
  obtain ⟨h1, e_h1⟩ : ∃ y, y = upI h r0 0 x1 := ⟨_, rfl⟩
  rw [← e_h1] at hR
  have hf := lt_e hf e_h1
  have hE := eI e_h1 hE
  have t_r0 := tI e_h1 t_r0
  have hf := so_e hf
  subst hf
  exact r_vret C hr hlk hR hE hS dX1_init_9

def rm_X1_of : Room := { frames := 0, cells := 0, slots := 0, locals := 0 }
set_option maxRecDepth 100000 in
set_option maxHeartbeats 4000000 in
theorem k_X1_of {G : Gt} {l : Launch}  {h : Hp} {r0 : Nat} {x1 : Int32} {out : (Int32 × Hp)} (t_r0 : hpT h r0 = (1, 1))  (hf : f_X1_of  h r0 x1 = some out) : Mt G l yX1_of cX1_of 2 (some .int) rm_X1_of [.ref (G.2.2 + r0), .int x1] h (some (.int out.1)) out.2 0 0 0 := by
  refine r_met (by decide +kernel) (Nat.le_of_ble_eq_true rfl) ?_
  intro p e s m args below meth c ls C hr hlk hnm hR hS hl
  have hE : Ext h h := Ext.rf
  have hl : lv_has ls 2 [(0, .ref (G.2.2 + r0)), (1, .int x1)] := hl
  rw [f_X1_of] at hf
  refine lv_aload_n C.x C.b dX1_of_0 rfl (lv_at hl 0 rfl) ?_
  refine lv_aload_n C.x C.b dX1_of_1 rfl (lv_at hl 0 rfl) ?_
  refine r_geti C hR t_r0 fl_X1_7 rfl dX1_of_2 ?_
  refine lv_ldc C.x C.b C.ow (C.ts _ lk_X1_13) dX1_of_5 ?_
  refine lv_imul C.x C.b dX1_of_7 ?_
  refine lv_sipush (v := (12345 : Int32)) C.x C.b dX1_of_8 (by decide) ?_
  refine lv_iadd C.x C.b dX1_of_11 ?_
  refine r_puti C hR hS t_r0 fl_X1_7 fp_X1_1_0 rfl dX1_of_12 (fun H locs hR hS => ?_)
  obtain ⟨h1, e_h1⟩ : ∃ y, y = upI h r0 0 (((hpI h r0 0) * (1103515245 : Int32)) + (12345 : Int32)) := ⟨_, rfl⟩
  rw [← e_h1] at hR
  have hf := lt_e hf e_h1
  have hE := eI e_h1 hE
  have t_r0 := tI e_h1 t_r0
  refine lv_iload_n C.x C.b dX1_of_15 rfl (lv_at hl 1 rfl) ?_
  refine lv_if_le (tgt := 31) C.x C.b dX1_of_16 (by decide) (fun c2 => ?_) (fun c2 => ?_)
  · have hf := it_t hf c2
    refine lv_iconst (v := (0 : Int32)) C.x C.b dX1_of_31 (by decide) ?_
    have hf := so_e hf
    subst hf
    exact r_iret C hr hlk hR hE hS dX1_of_32
  · have hf := it_f hf c2
    refine lv_aload_n C.x C.b dX1_of_19 rfl (lv_at hl 0 rfl) ?_
    refine r_geti C hR t_r0 fl_X1_7 rfl dX1_of_20 ?_
    refine lv_bipush (v := (16 : Int32)) C.x C.b dX1_of_23 (by decide) ?_
    refine lv_iushr C.x C.b dX1_of_25 rfl ?_
    refine lv_topi (fun v3 e_v3 => ?_)
    have hf := lt_e hf e_v3
    refine lv_iload_n C.x C.b dX1_of_26 rfl (lv_at hl 1 rfl) ?_
    obtain ⟨g4, hf⟩ := gd_e hf
    refine lv_irem C.x C.b dX1_of_27 (nz32_e g4) ?_
    refine lv_topi (fun v5 e_v5 => ?_)
    have hf := lt_e hf e_v5
    refine lv_goto (tgt := 32) C.x C.b dX1_of_28 (by decide) ?_
    have hf := so_e hf
    subst hf
    exact r_iret C hr hlk hR hE hS dX1_of_32

def rm_X2_init_10 : Room := { frames := 1, cells := 3, slots := 30, locals := 12 }
set_option maxRecDepth 100000 in
set_option maxHeartbeats 4000000 in
theorem k_X2_init_10 {G : Gt} {l : Launch}  {h : Hp} {r0 : Nat} {out : Hp} (t_r0 : hpT h r0 = (1, 2))  (hf : f_X2_init_10  h r0 = some out) : Mt G l yX2_init cX2_init 2 (none) rm_X2_init_10 [.ref (G.2.2 + r0), .int (10 : Int32)] h (none) out 0 3 30 := by
  refine r_met (by decide +kernel) (Nat.le_of_ble_eq_true rfl) ?_
  intro p e s m args below meth c ls C hr hlk hnm hR hS hl
  have hE : Ext h h := Ext.rf
  have hl : lv_has ls 2 [(0, .ref (G.2.2 + r0)), (1, .int (10 : Int32))] := hl
  rw [f_X2_init_10] at hf
  refine lv_aload_n C.x C.b dX2_init_0 rfl (lv_at hl 0 rfl) ?_
  refine r_objinit C hl.1 lk_X2_1 lk_oi_i lk_oi_c (Nat.le_of_ble_eq_true rfl) (Nat.le_of_ble_eq_true rfl) dX2_init_1 ?_
  refine lv_aload_n C.x C.b dX2_init_4 rfl (lv_at hl 0 rfl) ?_
  refine lv_iload_n C.x C.b dX2_init_5 rfl (lv_at hl 1 rfl) ?_
  refine r_newiN C hR hS (10 : Int32) (by decide) (Nat.le_of_ble_eq_true rfl) lk_arr_int (Nat.le_of_ble_eq_true rfl) (Nat.le_of_ble_eq_true rfl) dX2_init_6 (fun H a1 e_a1 hR hS hE1 t_a1 => ?_)
  have hf := lt_e hf e_a1
  obtain ⟨h2, e_h2⟩ : ∃ y, y = hpNew h (2, ix (10 : Int32)) := ⟨_, rfl⟩
  rw [← e_h2] at hR hE1 t_a1
  have hf := lt_e hf e_h2
  have hE := hE.tr hE1
  have t_r0 := hE1.at t_r0 (by decide)
  refine r_putr C hR hS true (fun _ => hnm) (ne0k hR t_a1 (by decide)) t_r0 (okT_a t_a1 rfl (by decide)) fl_X2_7 fp_X2_2_0 (by decide) dX2_init_8 (fun H locs hR hS => ?_)
  obtain ⟨h3, e_h3⟩ : ∃ y, y = upR h2 r0 0 a1 := ⟨_, rfl⟩
  rw [← e_h3] at hR
  have hf := lt_e hf e_h3
  have hE := eR e_h3 hE
  have t_r0 := tR e_h3 t_r0
  refine lv_aload_n C.x C.b dX2_init_11 rfl (lv_at hl 0 rfl) ?_
  refine lv_iload_n C.x C.b dX2_init_12 rfl (lv_at hl 1 rfl) ?_
  refine r_newiN C hR hS (10 : Int32) (by decide) (Nat.le_of_ble_eq_true rfl) lk_arr_int (Nat.le_of_ble_eq_true rfl) (Nat.le_of_ble_eq_true rfl) dX2_init_13 (fun H a4 e_a4 hR hS hE1 t_a4 => ?_)
  have hf := lt_e hf e_a4
  obtain ⟨h5, e_h5⟩ : ∃ y, y = hpNew h3 (2, ix (10 : Int32)) := ⟨_, rfl⟩
  rw [← e_h5] at hR hE1 t_a4
  have hf := lt_e hf e_h5
  have hE := hE.tr hE1
  have t_r0 := hE1.at t_r0 (by decide)
  refine r_putr C hR hS true (fun _ => hnm) (ne0k hR t_a4 (by decide)) t_r0 (okT_a t_a4 rfl (by decide)) fl_X2_13 fp_X2_2_1 (by decide) dX2_init_15 (fun H locs hR hS => ?_)
  obtain ⟨h6, e_h6⟩ : ∃ y, y = upR h5 r0 1 a4 := ⟨_, rfl⟩
  rw [← e_h6] at hR
  have hf := lt_e hf e_h6
  have hE := eR e_h6 hE
  have t_r0 := tR e_h6 t_r0
  refine lv_aload_n C.x C.b dX2_init_18 rfl (lv_at hl 0 rfl) ?_
  refine lv_iload_n C.x C.b dX2_init_19 rfl (lv_at hl 1 rfl) ?_
  refine r_newiN C hR hS (10 : Int32) (by decide) (Nat.le_of_ble_eq_true rfl) lk_arr_int (Nat.le_of_ble_eq_true rfl) (Nat.le_of_ble_eq_true rfl) dX2_init_20 (fun H a7 e_a7 hR hS hE1 t_a7 => ?_)
  have hf := lt_e hf e_a7
  obtain ⟨h8, e_h8⟩ : ∃ y, y = hpNew h6 (2, ix (10 : Int32)) := ⟨_, rfl⟩
  rw [← e_h8] at hR hE1 t_a7
  have hf := lt_e hf e_h8
  have hE := hE.tr hE1
  have t_r0 := hE1.at t_r0 (by decide)
  refine r_putr C hR hS true (fun _ => hnm) (ne0k hR t_a7 (by decide)) t_r0 (okT_a t_a7 rfl (by decide)) fl_X2_16 fp_X2_2_2 (by decide) dX2_init_22 (fun H locs hR hS => ?_)
  obtain ⟨h9, e_h9⟩ : ∃ y, y = upR h8 r0 2 a7 := ⟨_, rfl⟩
  rw [← e_h9] at hR
  have hf := lt_e hf e_h9
  have hE := eR e_h9 hE
  have t_r0 := tR e_h9 t_r0
  have hf := so_e hf
  subst hf
  refine W.widen (k := 3) (n := 30) (Nat.le_of_ble_eq_true rfl) (Nat.le_of_ble_eq_true rfl) ?_
  exact r_vret C hr hlk hR hE hS dX2_init_25

def rm_X2_init_12 : Room := { frames := 1, cells := 3, slots := 36, locals := 12 }
set_option maxRecDepth 100000 in
set_option maxHeartbeats 4000000 in
theorem k_X2_init_12 {G : Gt} {l : Launch}  {h : Hp} {r0 : Nat} {out : Hp} (t_r0 : hpT h r0 = (1, 2))  (hf : f_X2_init_12  h r0 = some out) : Mt G l yX2_init cX2_init 2 (none) rm_X2_init_12 [.ref (G.2.2 + r0), .int (12 : Int32)] h (none) out 0 3 36 := by
  refine r_met (by decide +kernel) (Nat.le_of_ble_eq_true rfl) ?_
  intro p e s m args below meth c ls C hr hlk hnm hR hS hl
  have hE : Ext h h := Ext.rf
  have hl : lv_has ls 2 [(0, .ref (G.2.2 + r0)), (1, .int (12 : Int32))] := hl
  rw [f_X2_init_12] at hf
  refine lv_aload_n C.x C.b dX2_init_0 rfl (lv_at hl 0 rfl) ?_
  refine r_objinit C hl.1 lk_X2_1 lk_oi_i lk_oi_c (Nat.le_of_ble_eq_true rfl) (Nat.le_of_ble_eq_true rfl) dX2_init_1 ?_
  refine lv_aload_n C.x C.b dX2_init_4 rfl (lv_at hl 0 rfl) ?_
  refine lv_iload_n C.x C.b dX2_init_5 rfl (lv_at hl 1 rfl) ?_
  refine r_newiN C hR hS (12 : Int32) (by decide) (Nat.le_of_ble_eq_true rfl) lk_arr_int (Nat.le_of_ble_eq_true rfl) (Nat.le_of_ble_eq_true rfl) dX2_init_6 (fun H a1 e_a1 hR hS hE1 t_a1 => ?_)
  have hf := lt_e hf e_a1
  obtain ⟨h2, e_h2⟩ : ∃ y, y = hpNew h (2, ix (12 : Int32)) := ⟨_, rfl⟩
  rw [← e_h2] at hR hE1 t_a1
  have hf := lt_e hf e_h2
  have hE := hE.tr hE1
  have t_r0 := hE1.at t_r0 (by decide)
  refine r_putr C hR hS true (fun _ => hnm) (ne0k hR t_a1 (by decide)) t_r0 (okT_a t_a1 rfl (by decide)) fl_X2_7 fp_X2_2_0 (by decide) dX2_init_8 (fun H locs hR hS => ?_)
  obtain ⟨h3, e_h3⟩ : ∃ y, y = upR h2 r0 0 a1 := ⟨_, rfl⟩
  rw [← e_h3] at hR
  have hf := lt_e hf e_h3
  have hE := eR e_h3 hE
  have t_r0 := tR e_h3 t_r0
  refine lv_aload_n C.x C.b dX2_init_11 rfl (lv_at hl 0 rfl) ?_
  refine lv_iload_n C.x C.b dX2_init_12 rfl (lv_at hl 1 rfl) ?_
  refine r_newiN C hR hS (12 : Int32) (by decide) (Nat.le_of_ble_eq_true rfl) lk_arr_int (Nat.le_of_ble_eq_true rfl) (Nat.le_of_ble_eq_true rfl) dX2_init_13 (fun H a4 e_a4 hR hS hE1 t_a4 => ?_)
  have hf := lt_e hf e_a4
  obtain ⟨h5, e_h5⟩ : ∃ y, y = hpNew h3 (2, ix (12 : Int32)) := ⟨_, rfl⟩
  rw [← e_h5] at hR hE1 t_a4
  have hf := lt_e hf e_h5
  have hE := hE.tr hE1
  have t_r0 := hE1.at t_r0 (by decide)
  refine r_putr C hR hS true (fun _ => hnm) (ne0k hR t_a4 (by decide)) t_r0 (okT_a t_a4 rfl (by decide)) fl_X2_13 fp_X2_2_1 (by decide) dX2_init_15 (fun H locs hR hS => ?_)
  obtain ⟨h6, e_h6⟩ : ∃ y, y = upR h5 r0 1 a4 := ⟨_, rfl⟩
  rw [← e_h6] at hR
  have hf := lt_e hf e_h6
  have hE := eR e_h6 hE
  have t_r0 := tR e_h6 t_r0
  refine lv_aload_n C.x C.b dX2_init_18 rfl (lv_at hl 0 rfl) ?_
  refine lv_iload_n C.x C.b dX2_init_19 rfl (lv_at hl 1 rfl) ?_
  refine r_newiN C hR hS (12 : Int32) (by decide) (Nat.le_of_ble_eq_true rfl) lk_arr_int (Nat.le_of_ble_eq_true rfl) (Nat.le_of_ble_eq_true rfl) dX2_init_20 (fun H a7 e_a7 hR hS hE1 t_a7 => ?_)
  have hf := lt_e hf e_a7
  obtain ⟨h8, e_h8⟩ : ∃ y, y = hpNew h6 (2, ix (12 : Int32)) := ⟨_, rfl⟩
  rw [← e_h8] at hR hE1 t_a7
  have hf := lt_e hf e_h8
  have hE := hE.tr hE1
  have t_r0 := hE1.at t_r0 (by decide)
  refine r_putr C hR hS true (fun _ => hnm) (ne0k hR t_a7 (by decide)) t_r0 (okT_a t_a7 rfl (by decide)) fl_X2_16 fp_X2_2_2 (by decide) dX2_init_22 (fun H locs hR hS => ?_)
  obtain ⟨h9, e_h9⟩ : ∃ y, y = upR h8 r0 2 a7 := ⟨_, rfl⟩
  rw [← e_h9] at hR
  have hf := lt_e hf e_h9
  have hE := eR e_h9 hE
  have t_r0 := tR e_h9 t_r0
  have hf := so_e hf
  subst hf
  refine W.widen (k := 3) (n := 36) (Nat.le_of_ble_eq_true rfl) (Nat.le_of_ble_eq_true rfl) ?_
  exact r_vret C hr hlk hR hE hS dX2_init_25

def rm_X2_isFull : Room := { frames := 0, cells := 0, slots := 0, locals := 0 }
set_option maxRecDepth 100000 in
set_option maxHeartbeats 4000000 in
theorem k_X2_isFull {G : Gt} {l : Launch}  {h : Hp} {r0 : Nat} {out : Int32} (t_r0 : hpT h r0 = (1, 2))  (hf : f_X2_isFull  h r0 = some out) : Mt G l yX2_isFull cX2_isFull 1 (some .boolean) rm_X2_isFull [.ref (G.2.2 + r0)] h (some (.int out)) h 1 0 0 := by
  refine r_met (by decide +kernel) (Nat.le_of_ble_eq_true rfl) ?_
  intro p e s m args below meth c ls C hr hlk hnm hR hS hl
  have hl : lv_has ls 1 [(0, .ref (G.2.2 + r0))] := hl
  rw [f_X2_isFull] at hf
  refine lv_aload_n C.x C.b dX2_isFull_0 rfl (lv_at hl 0 rfl) ?_
  refine r_geti C hR t_r0 fl_X2_19 rfl dX2_isFull_1 ?_
  refine lv_aload_n C.x C.b dX2_isFull_4 rfl (lv_at hl 0 rfl) ?_
  obtain ⟨g1, hf⟩ := gd_e hf
  refine r_getr C hR t_r0 fl_X2_7 (by decide) (nz_e g1) dX2_isFull_5 (fun tq2 => ?_)
  have tg1 := okA tq2 rfl
  refine r_alen C hR (Or.inl tg1) dX2_isFull_8 ?_
  refine lv_icmp_lt (tgt := 16) C.x C.b dX2_isFull_9 (by decide) (fun c3 => ?_) (fun c3 => ?_)
  · have hf := it_t hf c3
    refine lv_iconst (v := (0 : Int32)) C.x C.b dX2_isFull_16 (by decide) ?_
    have hf := so_e hf
    subst hf
    exact r_zret C hr hlk hR Ext.rf hS z_0 dX2_isFull_17
  · have hf := it_f hf c3
    refine lv_iconst (v := (1 : Int32)) C.x C.b dX2_isFull_12 (by decide) ?_
    refine lv_goto (tgt := 17) C.x C.b dX2_isFull_13 (by decide) ?_
    have hf := so_e hf
    subst hf
    exact r_zret C hr hlk hR Ext.rf hS z_1 dX2_isFull_17

def rm_X2_add : Room := { frames := 1, cells := 0, slots := 0, locals := 20 }
set_option maxRecDepth 100000 in
set_option maxHeartbeats 4000000 in
theorem k_X2_add {G : Gt} {l : Launch}  {h : Hp} {r0 : Nat} {x1 : Int32} {x2 : Int32} {x3 : Int32} {out : Hp} (t_r0 : hpT h r0 = (1, 2))  (hf : f_X2_add  h r0 x1 x2 x3 = some out) : Mt G l yX2_add cX2_add 4 (none) rm_X2_add [.ref (G.2.2 + r0), .int x1, .int x2, .int x3] h (none) out 0 0 0 := by
  refine r_met (by decide +kernel) (Nat.le_of_ble_eq_true rfl) ?_
  intro p e s m args below meth c ls C hr hlk hnm hR hS hl
  have hE : Ext h h := Ext.rf
  have hl : lv_has ls 4 [(0, .ref (G.2.2 + r0)), (1, .int x1), (2, .int x2), (3, .int x3)] := hl
  rw [f_X2_add] at hf
  refine lv_aload_n C.x C.b dX2_add_0 rfl (lv_at hl 0 rfl) ?_
  obtain ⟨q1, h_q1, hf⟩ := bd_e hf
  refine r_callV (As := []) (rest := []) C hR hS t_r0 rfl mk_X2_isFull cl_X2_23 (k_X2_isFull t_r0 h_q1) ⟨⟨Nat.le_of_ble_eq_true rfl, Nat.le_of_ble_eq_true rfl⟩, ⟨rfl, rfl⟩, Nat.le_of_ble_eq_true rfl, Nat.le_of_ble_eq_true rfl⟩ rfl hl.1 rfl (Nat.le_of_ble_eq_true rfl) dX2_add_1 (fun H locs hR hS hE1 z_q1 => ?_)
  have z_q1 := z_q1 _ rfl
  refine lv_if_ne (tgt := 47) C.x C.b dX2_add_4 (by decide) (fun c2 => ?_) (fun c2 => ?_)
  · have hf := it_f hf c2
    have hf := so_e hf
    subst hf
    exact r_vret C hr hlk hR hE hS dX2_add_47
  · have hf := it_t hf c2
    refine lv_aload_n C.x C.b dX2_add_7 rfl (lv_at hl 0 rfl) ?_
    obtain ⟨g3, hf⟩ := gd_e hf
    refine r_getr C hR t_r0 fl_X2_7 (by decide) (nz_e g3) dX2_add_8 (fun tq4 => ?_)
    have tg3 := okA tq4 rfl
    refine lv_aload_n C.x C.b dX2_add_11 rfl (lv_at hl 0 rfl) ?_
    refine r_geti C hR t_r0 fl_X2_19 rfl dX2_add_12 ?_
    refine lv_iload_n C.x C.b dX2_add_15 rfl (lv_at hl 1 rfl) ?_
    obtain ⟨g5, hf⟩ := gd_e hf
    refine r_iast C hR hS tg3 g5 dX2_add_16 (fun H locs hR hS => ?_)
    obtain ⟨h6, e_h6⟩ : ∃ y, y = upI h (hpR h r0 0) (ix (hpI h r0 3)) x1 := ⟨_, rfl⟩
    rw [← e_h6] at hR
    have hf := lt_e hf e_h6
    have hE := eI e_h6 hE
    have t_r0 := tI e_h6 t_r0
    refine lv_aload_n C.x C.b dX2_add_17 rfl (lv_at hl 0 rfl) ?_
    obtain ⟨g7, hf⟩ := gd_e hf
    refine r_getr C hR t_r0 fl_X2_13 (by decide) (nz_e g7) dX2_add_18 (fun tq8 => ?_)
    have tg7 := okA tq8 rfl
    refine lv_aload_n C.x C.b dX2_add_21 rfl (lv_at hl 0 rfl) ?_
    refine r_geti C hR t_r0 fl_X2_19 rfl dX2_add_22 ?_
    refine lv_iload_n C.x C.b dX2_add_25 rfl (lv_at hl 2 rfl) ?_
    obtain ⟨g9, hf⟩ := gd_e hf
    refine r_iast C hR hS tg7 g9 dX2_add_26 (fun H locs hR hS => ?_)
    obtain ⟨h10, e_h10⟩ : ∃ y, y = upI h6 (hpR h6 r0 1) (ix (hpI h6 r0 3)) x2 := ⟨_, rfl⟩
    rw [← e_h10] at hR
    have hf := lt_e hf e_h10
    have hE := eI e_h10 hE
    have t_r0 := tI e_h10 t_r0
    refine lv_aload_n C.x C.b dX2_add_27 rfl (lv_at hl 0 rfl) ?_
    obtain ⟨g11, hf⟩ := gd_e hf
    refine r_getr C hR t_r0 fl_X2_16 (by decide) (nz_e g11) dX2_add_28 (fun tq12 => ?_)
    have tg11 := okA tq12 rfl
    refine lv_aload_n C.x C.b dX2_add_31 rfl (lv_at hl 0 rfl) ?_
    refine r_geti C hR t_r0 fl_X2_19 rfl dX2_add_32 ?_
    refine lv_iload_n C.x C.b dX2_add_35 rfl (lv_at hl 3 rfl) ?_
    obtain ⟨g13, hf⟩ := gd_e hf
    refine r_iast C hR hS tg11 g13 dX2_add_36 (fun H locs hR hS => ?_)
    obtain ⟨h14, e_h14⟩ : ∃ y, y = upI h10 (hpR h10 r0 2) (ix (hpI h10 r0 3)) x3 := ⟨_, rfl⟩
    rw [← e_h14] at hR
    have hf := lt_e hf e_h14
    have hE := eI e_h14 hE
    have t_r0 := tI e_h14 t_r0
    refine lv_aload_n C.x C.b dX2_add_37 rfl (lv_at hl 0 rfl) ?_
    refine lv_dup C.x C.b dX2_add_38 rfl ?_
    refine r_geti C hR t_r0 fl_X2_19 rfl dX2_add_39 ?_
    refine lv_iconst (v := (1 : Int32)) C.x C.b dX2_add_42 (by decide) ?_
    refine lv_iadd C.x C.b dX2_add_43 ?_
    refine r_puti C hR hS t_r0 fl_X2_19 fp_X2_2_3 rfl dX2_add_44 (fun H locs hR hS => ?_)
    obtain ⟨h15, e_h15⟩ : ∃ y, y = upI h14 r0 3 ((hpI h14 r0 3) + (1 : Int32)) := ⟨_, rfl⟩
    rw [← e_h15] at hR
    have hf := lt_e hf e_h15
    have hE := eI e_h15 hE
    have t_r0 := tI e_h15 t_r0
    have hf := so_e hf
    subst hf
    exact r_vret C hr hlk hR hE hS dX2_add_47

def rm_X2_wipe : Room := { frames := 0, cells := 0, slots := 0, locals := 0 }
set_option maxRecDepth 100000 in
set_option maxHeartbeats 4000000 in
theorem k_X2_wipe {G : Gt} {l : Launch}  {h : Hp} {r0 : Nat} {out : (Int32 × Hp)} (t_r0 : hpT h r0 = (1, 2))  (hf : f_X2_wipe  h r0 = some out) : Mt G l yX2_wipe cX2_wipe 2 (some .int) rm_X2_wipe [.ref (G.2.2 + r0)] h (some (.int out.1)) out.2 0 0 0 := by
  refine r_met (by decide +kernel) (Nat.le_of_ble_eq_true rfl) ?_
  intro p e s m args below meth c ls C hr hlk hnm hR hS hl
  have hE : Ext h h := Ext.rf
  have hl : lv_has ls 2 [(0, .ref (G.2.2 + r0))] := hl
  rw [f_X2_wipe] at hf
  refine lv_aload_n C.x C.b dX2_wipe_0 rfl (lv_at hl 0 rfl) ?_
  refine r_geti C hR t_r0 fl_X2_19 rfl dX2_wipe_1 ?_
  refine lv_topi (fun v1 e_v1 => ?_)
  have hf := lt_e hf e_v1
  refine lv_istore_n (lv' := [(1, .int v1), (0, .ref (G.2.2 + r0))]) C.x C.b dX2_wipe_4 rfl hl (by decide) rfl (fun ls hl => ?_)
  refine lv_aload_n C.x C.b dX2_wipe_5 rfl (lv_at hl 1 rfl) ?_
  refine lv_iconst (v := (0 : Int32)) C.x C.b dX2_wipe_6 (by decide) ?_
  refine r_puti C hR hS t_r0 fl_X2_19 fp_X2_2_3 rfl dX2_wipe_7 (fun H locs hR hS => ?_)
  obtain ⟨h2, e_h2⟩ : ∃ y, y = upI h r0 3 (0 : Int32) := ⟨_, rfl⟩
  rw [← e_h2] at hR
  have hf := lt_e hf e_h2
  have hE := eI e_h2 hE
  have t_r0 := tI e_h2 t_r0
  refine lv_iload_n C.x C.b dX2_wipe_10 rfl (lv_at hl 0 rfl) ?_
  have hf := so_e hf
  subst hf
  exact r_iret C hr hlk hR hE hS dX2_wipe_11

