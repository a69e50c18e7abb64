def rm_X10_quiet : Room := { frames := 5, cells := 0, slots := 0, locals := 126 }
def P_X10_quiet_62 (G : Gt) (l : Launch) (p : Program) (e : Env) (s : State) (m : MethodId) (args : Array Value) (below : List Frame) (meth : Method) (c : Code) (h0 : Hp) (out : (Int32 × Hp)) (r0 : Nat) (x1 : Int32) (x2 : Int32) (k : Hp → Nat → Int32 → Int32 → Int32 → Option (Int32 × Hp)) : Prop := ∀ (H : Heap) (locs : List Loc) (ls : Array Slot) (h : Hp) (s0 : Nat) (s1 : Int32) (s2 : Int32) (x3 : Int32), k h s0 s1 s2 x3 = some out → Ext h0 h → Rel G h H → va_S (AA G.2.2) s.heap H locs → hpT h r0 = (1, 10) → (hpT h s0).1 = 2 → lv_has ls 4 [(0, .ref (G.2.2 + r0)), (1, .int x1), (2, .int x2), (3, .int x3)] → W p l e rm_X10_quiet s m args below meth c H locs 0 0 (MQ below (Qm G h0 out.2 (some (.int out.1)) 0) args s 0 0 (AA G.2.2)) (F0 m 62 ls [.int s2, .int s1, .ref (G.2.2 + s0)])
def P_X10_quiet_61 (G : Gt) (l : Launch) (p : Program) (e : Env) (s : State) (m : MethodId) (args : Array Value) (below : List Frame) (meth : Method) (c : Code) (h0 : Hp) (out : (Int32 × Hp)) (r0 : Nat) (x1 : Int32) (x2 : Int32) (k : Hp → Nat → Int32 → Int32 → Option (Int32 × Hp)) : Prop := ∀ (H : Heap) (locs : List Loc) (ls : Array Slot) (h : Hp) (s0 : Nat) (s1 : Int32) (x3 : Int32), k h s0 s1 x3 = some out → Ext h0 h → Rel G h H → va_S (AA G.2.2) s.heap H locs → hpT h r0 = (1, 10) → (hpT h s0).1 = 2 → lv_has ls 4 [(0, .ref (G.2.2 + r0)), (1, .int x1), (2, .int x2), (3, .int x3)] → W p l e rm_X10_quiet s m args below meth c H locs 0 0 (MQ below (Qm G h0 out.2 (some (.int out.1)) 0) args s 0 0 (AA G.2.2)) (F0 m 61 ls [.int s1, .ref (G.2.2 + s0)])
def P_X10_quiet_25 (G : Gt) (l : Launch) (p : Program) (e : Env) (s : State) (m : MethodId) (args : Array Value) (below : List Frame) (meth : Method) (c : Code) (h0 : Hp) (out : (Int32 × Hp)) (r0 : Nat) (x1 : Int32) (x2 : Int32) (k : Hp → Int32 → Option (Int32 × Hp)) : Prop := ∀ (H : Heap) (locs : List Loc) (ls : Array Slot) (h : Hp) (x3 : Int32), k h x3 = some out → Ext h0 h → Rel G h H → va_S (AA G.2.2) s.heap H locs → hpT h r0 = (1, 10) → lv_has ls 4 [(0, .ref (G.2.2 + r0)), (1, .int x1), (2, .int x2), (3, .int x3)] → W p l e rm_X10_quiet s m args below meth c H locs 0 0 (MQ below (Qm G h0 out.2 (some (.int out.1)) 0) args s 0 0 (AA G.2.2)) (F0 m 25 ls [])
set_option maxRecDepth 100000 in
set_option maxHeartbeats 4000000 in
theorem w_X10_quiet_62 {G : Gt} {l : Launch} {p : Program} {e : Env} {s : State} {m : MethodId} {args : Array Value} {below : List Frame} {meth : Method} {c : Code} {h0 : Hp} {out : (Int32 × Hp)} {r0 : Nat} {x1 : Int32} {x2 : Int32} {k25 : Hp → Int32 → Option (Int32 × Hp)} (C : Cx G p m c cX10_quiet 4 s args RX10) (hr : meth.sig.returnType = some .int) (hlk : meth.locks = false) (hk25 : P_X10_quiet_25 G l p e s m args below meth c h0 out r0 x1 x2 k25) : P_X10_quiet_62 G l p e s m args below meth c h0 out r0 x1 x2 (f_X10_quiet_62 r0 x1 x2 k25) := by
  intro H locs ls h s0 s1 s2 x3 hf hE hR hS t_r0 t_s0 hl
  rw [f_X10_quiet_62] at hf
  obtain ⟨g22, hf⟩ := gd_e hf
  refine r_iast C hR hS t_s0 g22 dX10_quiet_62 (fun H locs hR hS => ?_)
  obtain ⟨h23, e_h23⟩ : ∃ y, y = upI h s0 (ix s1) s2 := ⟨_, rfl⟩
  rw [← e_h23] at hR
  have hf := lt_e hf e_h23
  have hE := eI e_h23 hE
  have t_r0 := tI e_h23 t_r0
  obtain ⟨v24, e_v24⟩ : ∃ y : Int32, y = x3 + (1 : Int32) := ⟨_, rfl⟩
  have hf := lt_e hf e_v24
  refine lv_iinc (v := v24) (lv' := [(3, .int v24), (0, .ref (G.2.2 + r0)), (1, .int x1), (2, .int x2)]) C.x C.b dX10_quiet_63 hl (k := 3) rfl (by rw [e_v24]; rfl) (by decide) rfl (fun ls hl => ?_)
  refine lv_goto (tgt := 25) C.x C.b dX10_quiet_66 (by decide) ?_
  exact hk25 _ _ _ _ _ hf hE hR hS t_r0 (lv_sub hl [1, 2, 3, 0] rfl)
set_option maxRecDepth 100000 in
set_option maxHeartbeats 4000000 in
theorem w_X10_quiet_61 {G : Gt} {l : Launch} {p : Program} {e : Env} {s : State} {m : MethodId} {args : Array Value} {below : List Frame} {meth : Method} {c : Code} {h0 : Hp} {out : (Int32 × Hp)} {r0 : Nat} {x1 : Int32} {x2 : Int32} {k25 : Hp → Int32 → Option (Int32 × Hp)} (C : Cx G p m c cX10_quiet 4 s args RX10) (hr : meth.sig.returnType = some .int) (hlk : meth.locks = false) (hk25 : P_X10_quiet_25 G l p e s m args below meth c h0 out r0 x1 x2 k25) : P_X10_quiet_61 G l p e s m args below meth c h0 out r0 x1 x2 (f_X10_quiet_61 r0 x1 x2 k25) := by
  intro H locs ls h s0 s1 x3 hf hE hR hS t_r0 t_s0 hl
  rw [f_X10_quiet_61] at hf
  refine lv_iconst (v := (1 : Int32)) C.x C.b dX10_quiet_61 (by decide) ?_
  exact w_X10_quiet_62 C hr hlk hk25 _ _ _ _ _ _ _ _ hf hE hR hS t_r0 t_s0 (lv_sub hl [0, 1, 2, 3] rfl)
set_option maxRecDepth 100000 in
set_option maxHeartbeats 4000000 in
theorem w_X10_quiet_25 {G : Gt} {l : Launch} {p : Program} {e : Env} {s : State} {m : MethodId} {args : Array Value} {below : List Frame} {meth : Method} {c : Code} {h0 : Hp} {out : (Int32 × Hp)} {r0 : Nat} {x1 : Int32} {x2 : Int32}  (C : Cx G p m c cX10_quiet 4 s args RX10) (hr : meth.sig.returnType = some .int) (hlk : meth.locks = false)  (n : Nat) : P_X10_quiet_25 G l p e s m args below meth c h0 out r0 x1 x2 (f_X10_quiet_25 r0 x1 x2 n) := by
  induction n with
  | zero => intro H locs ls h x3 hf hE hR hS t_r0 hl; cases hf
  | succ n hk25 =>
    intro H locs ls h x3 hf hE hR hS t_r0 hl
    rw [f_X10_quiet_25] at hf
    obtain ⟨k25, e_k25⟩ : ∃ y, y = f_X10_quiet_25 r0 x1 x2 n := ⟨_, rfl⟩
    have hf := lt_e hf e_k25
    rw [← e_k25] at hk25
    refine lv_iload_n C.x C.b dX10_quiet_25 rfl (lv_at hl 3 rfl) ?_
    refine lv_aload_n C.x C.b dX10_quiet_26 rfl (lv_at hl 0 rfl) ?_
    obtain ⟨q6, h_q6, hf⟩ := bd_e hf
    refine r_callV (As := []) (rest := [.int x3]) C hR hS t_r0 rfl mk_X10_cells cl_X10_113 (k_X10_cells t_r0 h_q6) ⟨⟨Nat.le_of_ble_eq_true rfl, Nat.le_of_ble_eq_true rfl⟩, ⟨rfl, rfl⟩, Nat.le_of_ble_eq_true rfl, Nat.le_of_ble_eq_true rfl⟩ rfl hl.1 rfl (Nat.le_of_ble_eq_true rfl) dX10_quiet_27 (fun H locs hR hS hE1 z_q6 => ?_)
    refine lv_icmp_ge (tgt := 69) C.x C.b dX10_quiet_30 (by decide) (fun c7 => ?_) (fun c7 => ?_)
    · have hf := it_t hf c7
      refine lv_aload_n C.x C.b dX10_quiet_69 rfl (lv_at hl 0 rfl) ?_
      refine lv_iload_n C.x C.b dX10_quiet_70 rfl (lv_at hl 2 rfl) ?_
      refine lv_iconst (v := (0 : Int32)) C.x C.b dX10_quiet_71 (by decide) ?_
      obtain ⟨q8, h_q8, hf⟩ := bd_e hf
      refine r_callV (As := [.int x2, .int (0 : Int32)]) (rest := []) C hR hS t_r0 rfl mk_X10_laysYet cl_X10_402 (k_X10_laysYet t_r0 h_q8) ⟨⟨Nat.le_of_ble_eq_true rfl, Nat.le_of_ble_eq_true rfl⟩, ⟨rfl, rfl⟩, Nat.le_of_ble_eq_true rfl, Nat.le_of_ble_eq_true rfl⟩ rfl hl.1 rfl (Nat.le_of_ble_eq_true rfl) dX10_quiet_72 (fun H locs hR hS hE1 z_q8 => ?_)
      have hE := hE.tr hE1
      have t_r0 := hE1.at t_r0 (by decide)
      refine lv_aload_n C.x C.b dX10_quiet_75 rfl (lv_at hl 0 rfl) ?_
      obtain ⟨g9, hf⟩ := gd_e hf
      refine r_getr C hR t_r0 fl_X10_60 (by decide) (nz_e g9) dX10_quiet_76 (fun tq10 => ?_)
      have tg9 := okA tq10 rfl
      refine lv_iload_n C.x C.b dX10_quiet_79 rfl (lv_at hl 1 rfl) ?_
      refine lv_iconst (v := (0 : Int32)) C.x C.b dX10_quiet_80 (by decide) ?_
      obtain ⟨q11, h_q11, hf⟩ := bd_e hf
      refine r_callS (As := [.int x1, .int (0 : Int32)]) (rest := [.ref (G.2.2 + (hpR q8 r0 29))]) C hR hS mk_X10_state cl_X10_396 (k_X10_state h_q11) ⟨⟨Nat.le_of_ble_eq_true rfl, Nat.le_of_ble_eq_true rfl⟩, ⟨rfl, rfl⟩, Nat.le_of_ble_eq_true rfl, Nat.le_of_ble_eq_true rfl⟩ rfl hl.1 rfl (Nat.le_of_ble_eq_true rfl) dX10_quiet_81 (fun H locs hR hS hE1 z_q11 => ?_)
      obtain ⟨g12, hf⟩ := gd_e hf
      refine r_iald C hR tg9 g12 dX10_quiet_84 ?_
      refine lv_ldcw C.x C.b C.ow (C.ts _ lk_X10_392) dX10_quiet_85 ?_
      refine lv_icmp_lt (tgt := 96) C.x C.b dX10_quiet_88 (by decide) (fun c13 => ?_) (fun c13 => ?_)
      · have hf := it_t hf c13
        refine lv_aload_n C.x C.b dX10_quiet_96 rfl (lv_at hl 0 rfl) ?_
        refine lv_iload_n C.x C.b dX10_quiet_97 rfl (lv_at hl 1 rfl) ?_
        refine lv_iconst (v := (0 : Int32)) C.x C.b dX10_quiet_98 (by decide) ?_
        obtain ⟨q14, h_q14, hf⟩ := bd_e hf
        refine r_callV (As := [.int x1, .int (0 : Int32)]) (rest := []) C hR hS t_r0 rfl mk_X10_tellsWay cl_X10_406 (k_X10_tellsWay t_r0 h_q14) ⟨⟨Nat.le_of_ble_eq_true rfl, Nat.le_of_ble_eq_true rfl⟩, ⟨rfl, rfl⟩, Nat.le_of_ble_eq_true rfl, Nat.le_of_ble_eq_true rfl⟩ rfl hl.1 rfl (Nat.le_of_ble_eq_true rfl) dX10_quiet_99 (fun H locs hR hS hE1 z_q14 => ?_)
        have hE := hE.tr hE1
        have t_r0 := hE1.at t_r0 (by decide)
        refine lv_iconst (v := (1 : Int32)) C.x C.b dX10_quiet_102 (by decide) ?_
        refine lv_isub C.x C.b dX10_quiet_103 ?_
        have hf := so_e hf
        subst hf
        exact r_iret C hr hlk hR hE hS dX10_quiet_104
      · have hf := it_f hf c13
        refine lv_bipush (v := (-2 : Int32)) C.x C.b dX10_quiet_91 (by decide) ?_
        refine lv_goto (tgt := 104) C.x C.b dX10_quiet_93 (by decide) ?_
        have hf := so_e hf
        subst hf
        exact r_iret C hr hlk hR hE hS dX10_quiet_104
    · have hf := it_f hf c7
      refine lv_aload_n C.x C.b dX10_quiet_33 rfl (lv_at hl 0 rfl) ?_
      obtain ⟨g15, hf⟩ := gd_e hf
      refine r_getr C hR t_r0 fl_X10_63 (by decide) (nz_e g15) dX10_quiet_34 (fun tq16 => ?_)
      have tg15 := okA tq16 rfl
      refine lv_iload_n C.x C.b dX10_quiet_37 rfl (lv_at hl 3 rfl) ?_
      refine lv_iload_n C.x C.b dX10_quiet_38 rfl (lv_at hl 3 rfl) ?_
      refine lv_iload_n C.x C.b dX10_quiet_39 rfl (lv_at hl 2 rfl) ?_
      refine lv_icmp_eq (tgt := 61) C.x C.b dX10_quiet_40 (by decide) (fun c17 => ?_) (fun c17 => ?_)
      · have hf := it_t hf c17
        exact w_X10_quiet_61 C hr hlk hk25 _ _ _ _ _ _ _ hf hE hR hS t_r0 tg15 (lv_sub hl [0, 1, 2, 3] rfl)
      · have hf := it_f hf c17
        refine lv_aload_n C.x C.b dX10_quiet_43 rfl (lv_at hl 0 rfl) ?_
        refine lv_aload_n C.x C.b dX10_quiet_44 rfl (lv_at hl 0 rfl) ?_
        obtain ⟨g18, hf⟩ := gd_e hf
        refine r_getr C hR t_r0 fl_X10_20 (by decide) (nz_e g18) dX10_quiet_45 (fun tq19 => ?_)
        have tg18 := okA tq19 rfl
        refine lv_iload_n C.x C.b dX10_quiet_48 rfl (lv_at hl 3 rfl) ?_
        obtain ⟨q20, h_q20, hf⟩ := bd_e hf
        refine r_callV (As := [.ref (G.2.2 + (hpR h r0 6)), .int x3]) (rest := [.int x3, .ref (G.2.2 + (hpR h r0 30))]) C hR hS t_r0 rfl mk_X10_campsOver cl_X10_294 (k_X10_campsOver t_r0 tg18 h_q20) ⟨⟨Nat.le_of_ble_eq_true rfl, Nat.le_of_ble_eq_true rfl⟩, ⟨rfl, rfl⟩, Nat.le_of_ble_eq_true rfl, Nat.le_of_ble_eq_true rfl⟩ rfl hl.1 rfl (Nat.le_of_ble_eq_true rfl) dX10_quiet_49 (fun H locs hR hS hE1 z_q20 => ?_)
        refine lv_if_eq (tgt := 61) C.x C.b dX10_quiet_52 (by decide) (fun c21 => ?_) (fun c21 => ?_)
        · have hf := it_t hf c21
          exact w_X10_quiet_61 C hr hlk hk25 _ _ _ _ _ _ _ hf hE hR hS t_r0 tg15 (lv_sub hl [0, 1, 2, 3] rfl)
        · have hf := it_f hf c21
          refine lv_ldcw C.x C.b C.ow (C.ts _ lk_X10_392) dX10_quiet_55 ?_
          refine lv_goto (tgt := 62) C.x C.b dX10_quiet_58 (by decide) ?_
          exact w_X10_quiet_62 C hr hlk hk25 _ _ _ _ _ _ _ _ hf hE hR hS t_r0 tg15 (lv_sub hl [0, 1, 2, 3] rfl)
set_option maxRecDepth 100000 in
set_option maxHeartbeats 4000000 in
theorem k_X10_quiet {G : Gt} {l : Launch} {h : Hp} {r0 : Nat} {x1 : Int32} {x2 : Int32} {out : (Int32 × Hp)} (t_r0 : hpT h r0 = (1, 10))  (hf : f_X10_quiet h r0 x1 x2 = some out) : Mt G l yX10_quiet cX10_quiet 4 (some .int) rm_X10_quiet [.ref (G.2.2 + r0), .int x1, .int x2] h (some (.int out.1)) out.2 0 0 0 := by
  refine r_met (by decide +kernel) (Nat.le_of_ble_eq_true rfl) ?_
  intro p e s m args below meth c ls C hr hlk hnm hR hS hl
  have hE : Ext h h := Ext.rf
  have hl : lv_has ls 4 [(0, .ref (G.2.2 + r0)), (1, .int x1), (2, .int x2)] := hl
  rw [f_X10_quiet] at hf
  refine lv_aload_n C.x C.b dX10_quiet_0 rfl (lv_at hl 0 rfl) ?_
  refine lv_iconst (v := (0 : Int32)) C.x C.b dX10_quiet_1 (by decide) ?_
  refine r_puti C hR hS t_r0 fl_X10_103 fp_X10_10_0 rfl dX10_quiet_2 (fun H locs hR hS => ?_)
  obtain ⟨h1, e_h1⟩ : ∃ y, y = upI h r0 0 (0 : Int32) := ⟨_, rfl⟩
  rw [← e_h1] at hR
  have hf := lt_e hf e_h1
  have hE := eI e_h1 hE
  have t_r0 := tI e_h1 t_r0
  refine lv_aload_n C.x C.b dX10_quiet_5 rfl (lv_at hl 0 rfl) ?_
  refine lv_iload_n C.x C.b dX10_quiet_6 rfl (lv_at hl 1 rfl) ?_
  obtain ⟨q2, h_q2, hf⟩ := bd_e hf
  refine r_callV (As := [.int x1]) (rest := []) C hR hS t_r0 rfl mk_X10_isCell cl_X10_289 (k_X10_isCell t_r0 h_q2) ⟨⟨Nat.le_of_ble_eq_true rfl, Nat.le_of_ble_eq_true rfl⟩, ⟨rfl, rfl⟩, Nat.le_of_ble_eq_true rfl, Nat.le_of_ble_eq_true rfl⟩ rfl hl.1 rfl (Nat.le_of_ble_eq_true rfl) dX10_quiet_7 (fun H locs hR hS hE1 z_q2 => ?_)
  have z_q2 := z_q2 _ rfl
  refine lv_if_eq (tgt := 21) C.x C.b dX10_quiet_10 (by decide) (fun c3 => ?_) (fun c3 => ?_)
  · have hf := it_t hf c3
    refine lv_iconst (v := (-1 : Int32)) C.x C.b dX10_quiet_21 (by decide) ?_
    have hf := so_e hf
    subst hf
    exact r_iret C hr hlk hR hE hS dX10_quiet_22
  · have hf := it_f hf c3
    refine lv_aload_n C.x C.b dX10_quiet_13 rfl (lv_at hl 0 rfl) ?_
    refine lv_iload_n C.x C.b dX10_quiet_14 rfl (lv_at hl 2 rfl) ?_
    obtain ⟨q4, h_q4, hf⟩ := bd_e hf
    refine r_callV (As := [.int x2]) (rest := []) C hR hS t_r0 rfl mk_X10_isCell cl_X10_289 (k_X10_isCell t_r0 h_q4) ⟨⟨Nat.le_of_ble_eq_true rfl, Nat.le_of_ble_eq_true rfl⟩, ⟨rfl, rfl⟩, Nat.le_of_ble_eq_true rfl, Nat.le_of_ble_eq_true rfl⟩ rfl hl.1 rfl (Nat.le_of_ble_eq_true rfl) dX10_quiet_15 (fun H locs hR hS hE1 z_q4 => ?_)
    have z_q4 := z_q4 _ rfl
    refine lv_if_ne (tgt := 23) C.x C.b dX10_quiet_18 (by decide) (fun c5 => ?_) (fun c5 => ?_)
    · have hf := it_f hf c5
      refine lv_iconst (v := (0 : Int32)) C.x C.b dX10_quiet_23 (by decide) ?_
      refine lv_istore_n (lv' := [(3, .int (0 : Int32)), (0, .ref (G.2.2 + r0)), (1, .int x1), (2, .int x2)]) C.x C.b dX10_quiet_24 rfl hl (by decide) rfl (fun ls hl => ?_)
      exact w_X10_quiet_25 C hr hlk FU _ _ _ _ _ hf hE hR hS t_r0 (lv_sub hl [1, 2, 3, 0] rfl)
    · have hf := it_t hf c5
      refine lv_iconst (v := (-1 : Int32)) C.x C.b dX10_quiet_21 (by decide) ?_
      have hf := so_e hf
      subst hf
      exact r_iret C hr hlk hR hE hS dX10_quiet_22

def rm_X10_soft : Room := { frames := 5, cells := 0, slots := 0, locals := 126 }
def P_X10_soft_25 (G : Gt) (l : Launch) (p : Program) (e : Env) (s : State) (m : MethodId) (args : Array Value) (below : List Frame) (meth : Method) (c : Code) (h0 : Hp) (out : (Int32 × Hp)) (r0 : Nat) (x1 : Int32) (x2 : Int32) (k : Hp → Int32 → Option (Int32 × Hp)) : Prop := ∀ (H : Heap) (locs : List Loc) (ls : Array Slot) (h : Hp) (x3 : Int32), k h x3 = some out → Ext h0 h → Rel G h H → va_S (AA G.2.2) s.heap H locs → hpT h r0 = (1, 10) → lv_has ls 4 [(0, .ref (G.2.2 + r0)), (1, .int x1), (2, .int x2), (3, .int x3)] → W p l e rm_X10_soft s m args below meth c H locs 0 0 (MQ below (Qm G h0 out.2 (some (.int out.1)) 0) args s 0 0 (AA G.2.2)) (F0 m 25 ls [])
set_option maxRecDepth 100000 in
set_option maxHeartbeats 4000000 in
theorem w_X10_soft_25 {G : Gt} {l : Launch} {p : Program} {e : Env} {s : State} {m : MethodId} {args : Array Value} {below : List Frame} {meth : Method} {c : Code} {h0 : Hp} {out : (Int32 × Hp)} {r0 : Nat} {x1 : Int32} {x2 : Int32}  (C : Cx G p m c cX10_soft 4 s args RX10) (hr : meth.sig.returnType = some .int) (hlk : meth.locks = false)  (n : Nat) : P_X10_soft_25 G l p e s m args below meth c h0 out r0 x1 x2 (f_X10_soft_25 r0 x1 x2 n) := by
  induction n with
  | zero => intro H locs ls h x3 hf hE hR hS t_r0 hl; cases hf
  | succ n hk25 =>
    intro H locs ls h x3 hf hE hR hS t_r0 hl
    rw [f_X10_soft_25] at hf
    obtain ⟨k25, e_k25⟩ : ∃ y, y = f_X10_soft_25 r0 x1 x2 n := ⟨_, rfl⟩
    have hf := lt_e hf e_k25
    rw [← e_k25] at hk25
    refine lv_iload_n C.x C.b dX10_soft_25 rfl (lv_at hl 3 rfl) ?_
    refine lv_aload_n C.x C.b dX10_soft_26 rfl (lv_at hl 0 rfl) ?_
    obtain ⟨q6, h_q6, hf⟩ := bd_e hf
    refine r_callV (As := []) (rest := [.int x3]) C hR hS t_r0 rfl mk_X10_cells cl_X10_113 (k_X10_cells t_r0 h_q6) ⟨⟨Nat.le_of_ble_eq_true rfl, Nat.le_of_ble_eq_true rfl⟩, ⟨rfl, rfl⟩, Nat.le_of_ble_eq_true rfl, Nat.le_of_ble_eq_true rfl⟩ rfl hl.1 rfl (Nat.le_of_ble_eq_true rfl) dX10_soft_27 (fun H locs hR hS hE1 z_q6 => ?_)
    refine lv_icmp_ge (tgt := 59) C.x C.b dX10_soft_30 (by decide) (fun c7 => ?_) (fun c7 => ?_)
    · have hf := it_t hf c7
      refine lv_aload_n C.x C.b dX10_soft_59 rfl (lv_at hl 0 rfl) ?_
      refine lv_iload_n C.x C.b dX10_soft_60 rfl (lv_at hl 2 rfl) ?_
      refine lv_iconst (v := (0 : Int32)) C.x C.b dX10_soft_61 (by decide) ?_
      obtain ⟨q8, h_q8, hf⟩ := bd_e hf
      refine r_callV (As := [.int x2, .int (0 : Int32)]) (rest := []) C hR hS t_r0 rfl mk_X10_laysYet cl_X10_402 (k_X10_laysYet t_r0 h_q8) ⟨⟨Nat.le_of_ble_eq_true rfl, Nat.le_of_ble_eq_true rfl⟩, ⟨rfl, rfl⟩, Nat.le_of_ble_eq_true rfl, Nat.le_of_ble_eq_true rfl⟩ rfl hl.1 rfl (Nat.le_of_ble_eq_true rfl) dX10_soft_62 (fun H locs hR hS hE1 z_q8 => ?_)
      have hE := hE.tr hE1
      have t_r0 := hE1.at t_r0 (by decide)
      refine lv_aload_n C.x C.b dX10_soft_65 rfl (lv_at hl 0 rfl) ?_
      refine lv_aload_n C.x C.b dX10_soft_66 rfl (lv_at hl 0 rfl) ?_
      obtain ⟨g9, hf⟩ := gd_e hf
      refine r_getr C hR t_r0 fl_X10_20 (by decide) (nz_e g9) dX10_soft_67 (fun tq10 => ?_)
      have tg9 := okA tq10 rfl
      refine lv_iload_n C.x C.b dX10_soft_70 rfl (lv_at hl 1 rfl) ?_
      obtain ⟨q11, h_q11, hf⟩ := bd_e hf
      refine r_callV (As := [.ref (G.2.2 + (hpR q8 r0 6)), .int x1]) (rest := []) C hR hS t_r0 rfl mk_X10_strengthOn cl_X10_297 (k_X10_strengthOn t_r0 tg9 h_q11) ⟨⟨Nat.le_of_ble_eq_true rfl, Nat.le_of_ble_eq_true rfl⟩, ⟨rfl, rfl⟩, Nat.le_of_ble_eq_true rfl, Nat.le_of_ble_eq_true rfl⟩ rfl hl.1 rfl (Nat.le_of_ble_eq_true rfl) dX10_soft_71 (fun H locs hR hS hE1 z_q11 => ?_)
      refine lv_aload_n C.x C.b dX10_soft_74 rfl (lv_at hl 0 rfl) ?_
      obtain ⟨g12, hf⟩ := gd_e hf
      refine r_getr C hR t_r0 fl_X10_60 (by decide) (nz_e g12) dX10_soft_75 (fun tq13 => ?_)
      have tg12 := okA tq13 rfl
      refine lv_iload_n C.x C.b dX10_soft_78 rfl (lv_at hl 1 rfl) ?_
      refine lv_iconst (v := (0 : Int32)) C.x C.b dX10_soft_79 (by decide) ?_
      obtain ⟨q14, h_q14, hf⟩ := bd_e hf
      refine r_callS (As := [.int x1, .int (0 : Int32)]) (rest := [.ref (G.2.2 + (hpR q8 r0 29)), .int q11]) C hR hS mk_X10_state cl_X10_396 (k_X10_state h_q14) ⟨⟨Nat.le_of_ble_eq_true rfl, Nat.le_of_ble_eq_true rfl⟩, ⟨rfl, rfl⟩, Nat.le_of_ble_eq_true rfl, Nat.le_of_ble_eq_true rfl⟩ rfl hl.1 rfl (Nat.le_of_ble_eq_true rfl) dX10_soft_80 (fun H locs hR hS hE1 z_q14 => ?_)
      obtain ⟨g15, hf⟩ := gd_e hf
      refine r_iald C hR tg12 g15 dX10_soft_83 ?_
      refine lv_bipush (v := (100 : Int32)) C.x C.b dX10_soft_84 (by decide) ?_
      refine lv_idiv C.x C.b dX10_soft_86 (by decide) ?_
      refine lv_iadd C.x C.b dX10_soft_87 ?_
      refine lv_topi (fun v16 e_v16 => ?_)
      have hf := lt_e hf e_v16
      refine lv_istore_n (lv' := [(3, .int v16), (0, .ref (G.2.2 + r0)), (1, .int x1), (2, .int x2)]) C.x C.b dX10_soft_88 rfl hl (by decide) rfl (fun ls hl => ?_)
      refine lv_aload_n C.x C.b dX10_soft_89 rfl (lv_at hl 1 rfl) ?_
      refine lv_iload_n C.x C.b dX10_soft_90 rfl (lv_at hl 2 rfl) ?_
      refine lv_iconst (v := (0 : Int32)) C.x C.b dX10_soft_91 (by decide) ?_
      obtain ⟨q17, h_q17, hf⟩ := bd_e hf
      refine r_callV (As := [.int x1, .int (0 : Int32)]) (rest := []) C hR hS t_r0 rfl mk_X10_tellsWay cl_X10_406 (k_X10_tellsWay t_r0 h_q17) ⟨⟨Nat.le_of_ble_eq_true rfl, Nat.le_of_ble_eq_true rfl⟩, ⟨rfl, rfl⟩, Nat.le_of_ble_eq_true rfl, Nat.le_of_ble_eq_true rfl⟩ rfl hl.1 rfl (Nat.le_of_ble_eq_true rfl) dX10_soft_92 (fun H locs hR hS hE1 z_q17 => ?_)
      have hE := hE.tr hE1
      have t_r0 := hE1.at t_r0 (by decide)
      refine lv_pop C.x C.b dX10_soft_95 rfl ?_
      refine lv_iload_n C.x C.b dX10_soft_96 rfl (lv_at hl 0 rfl) ?_
      have hf := so_e hf
      subst hf
      exact r_iret C hr hlk hR hE hS dX10_soft_97
    · have hf := it_f hf c7
      refine lv_aload_n C.x C.b dX10_soft_33 rfl (lv_at hl 0 rfl) ?_
      obtain ⟨g18, hf⟩ := gd_e hf
      refine r_getr C hR t_r0 fl_X10_63 (by decide) (nz_e g18) dX10_soft_34 (fun tq19 => ?_)
      have tg18 := okA tq19 rfl
      refine lv_iload_n C.x C.b dX10_soft_37 rfl (lv_at hl 3 rfl) ?_
      refine lv_bipush (v := (100 : Int32)) C.x C.b dX10_soft_38 (by decide) ?_
      refine lv_aload_n C.x C.b dX10_soft_40 rfl (lv_at hl 0 rfl) ?_
      refine lv_aload_n C.x C.b dX10_soft_41 rfl (lv_at hl 0 rfl) ?_
      obtain ⟨g20, hf⟩ := gd_e hf
      refine r_getr C hR t_r0 fl_X10_20 (by decide) (nz_e g20) dX10_soft_42 (fun tq21 => ?_)
      have tg20 := okA tq21 rfl
      refine lv_iload_n C.x C.b dX10_soft_45 rfl (lv_at hl 3 rfl) ?_
      obtain ⟨q22, h_q22, hf⟩ := bd_e hf
      refine r_callV (As := [.ref (G.2.2 + (hpR h r0 6)), .int x3]) (rest := [.int (100 : Int32), .int x3, .ref (G.2.2 + (hpR h r0 30))]) C hR hS t_r0 rfl mk_X10_strengthOn cl_X10_297 (k_X10_strengthOn t_r0 tg20 h_q22) ⟨⟨Nat.le_of_ble_eq_true rfl, Nat.le_of_ble_eq_true rfl⟩, ⟨rfl, rfl⟩, Nat.le_of_ble_eq_true rfl, Nat.le_of_ble_eq_true rfl⟩ rfl hl.1 rfl (Nat.le_of_ble_eq_true rfl) dX10_soft_46 (fun H locs hR hS hE1 z_q22 => ?_)
      refine lv_imul C.x C.b dX10_soft_49 ?_
      refine lv_iconst (v := (1 : Int32)) C.x C.b dX10_soft_50 (by decide) ?_
      refine lv_iadd C.x C.b dX10_soft_51 ?_
      obtain ⟨g23, hf⟩ := gd_e hf
      refine r_iast C hR hS tg18 g23 dX10_soft_52 (fun H locs hR hS => ?_)
      obtain ⟨h24, e_h24⟩ : ∃ y, y = upI h (hpR h r0 30) (ix x3) (((100 : Int32) * q22) + (1 : Int32)) := ⟨_, rfl⟩
      rw [← e_h24] at hR
      have hf := lt_e hf e_h24
      have hE := eI e_h24 hE
      have t_r0 := tI e_h24 t_r0
      obtain ⟨v25, e_v25⟩ : ∃ y : Int32, y = x3 + (1 : Int32) := ⟨_, rfl⟩
      have hf := lt_e hf e_v25
      refine lv_iinc (v := v25) (lv' := [(3, .int v25), (0, .ref (G.2.2 + r0)), (1, .int x1), (2, .int x2)]) C.x C.b dX10_soft_53 hl (k := 3) rfl (by rw [e_v25]; rfl) (by decide) rfl (fun ls hl => ?_)
      refine lv_goto (tgt := 25) C.x C.b dX10_soft_56 (by decide) ?_
      exact hk25 _ _ _ _ _ hf hE hR hS t_r0 (lv_sub hl [1, 2, 3, 0] rfl)
set_option maxRecDepth 100000 in
set_option maxHeartbeats 4000000 in
theorem k_X10_soft {G : Gt} {l : Launch} {h : Hp} {r0 : Nat} {x1 : Int32} {x2 : Int32} {out : (Int32 × Hp)} (t_r0 : hpT h r0 = (1, 10))  (hf : f_X10_soft h r0 x1 x2 = some out) : Mt G l yX10_soft cX10_soft 4 (some .int) rm_X10_soft [.ref (G.2.2 + r0), .int x1, .int x2] h (some (.int out.1)) out.2 0 0 0 := by
  refine r_met (by decide +kernel) (Nat.le_of_ble_eq_true rfl) ?_
  intro p e s m args below meth c ls C hr hlk hnm hR hS hl
  have hE : Ext h h := Ext.rf
  have hl : lv_has ls 4 [(0, .ref (G.2.2 + r0)), (1, .int x1), (2, .int x2)] := hl
  rw [f_X10_soft] at hf
  refine lv_aload_n C.x C.b dX10_soft_0 rfl (lv_at hl 0 rfl) ?_
  refine lv_iconst (v := (0 : Int32)) C.x C.b dX10_soft_1 (by decide) ?_
  refine r_puti C hR hS t_r0 fl_X10_103 fp_X10_10_0 rfl dX10_soft_2 (fun H locs hR hS => ?_)
  obtain ⟨h1, e_h1⟩ : ∃ y, y = upI h r0 0 (0 : Int32) := ⟨_, rfl⟩
  rw [← e_h1] at hR
  have hf := lt_e hf e_h1
  have hE := eI e_h1 hE
  have t_r0 := tI e_h1 t_r0
  refine lv_aload_n C.x C.b dX10_soft_5 rfl (lv_at hl 0 rfl) ?_
  refine lv_iload_n C.x C.b dX10_soft_6 rfl (lv_at hl 1 rfl) ?_
  obtain ⟨q2, h_q2, hf⟩ := bd_e hf
  refine r_callV (As := [.int x1]) (rest := []) C hR hS t_r0 rfl mk_X10_isCell cl_X10_289 (k_X10_isCell t_r0 h_q2) ⟨⟨Nat.le_of_ble_eq_true rfl, Nat.le_of_ble_eq_true rfl⟩, ⟨rfl, rfl⟩, Nat.le_of_ble_eq_true rfl, Nat.le_of_ble_eq_true rfl⟩ rfl hl.1 rfl (Nat.le_of_ble_eq_true rfl) dX10_soft_7 (fun H locs hR hS hE1 z_q2 => ?_)
  have z_q2 := z_q2 _ rfl
  refine lv_if_eq (tgt := 21) C.x C.b dX10_soft_10 (by decide) (fun c3 => ?_) (fun c3 => ?_)
  · have hf := it_t hf c3
    refine lv_iconst (v := (-1 : Int32)) C.x C.b dX10_soft_21 (by decide) ?_
    have hf := so_e hf
    subst hf
    exact r_iret C hr hlk hR hE hS dX10_soft_22
  · have hf := it_f hf c3
    refine lv_aload_n C.x C.b dX10_soft_13 rfl (lv_at hl 0 rfl) ?_
    refine lv_iload_n C.x C.b dX10_soft_14 rfl (lv_at hl 2 rfl) ?_
    obtain ⟨q4, h_q4, hf⟩ := bd_e hf
    refine r_callV (As := [.int x2]) (rest := []) C hR hS t_r0 rfl mk_X10_isCell cl_X10_289 (k_X10_isCell t_r0 h_q4) ⟨⟨Nat.le_of_ble_eq_true rfl, Nat.le_of_ble_eq_true rfl⟩, ⟨rfl, rfl⟩, Nat.le_of_ble_eq_true rfl, Nat.le_of_ble_eq_true rfl⟩ rfl hl.1 rfl (Nat.le_of_ble_eq_true rfl) dX10_soft_15 (fun H locs hR hS hE1 z_q4 => ?_)
    have z_q4 := z_q4 _ rfl
    refine lv_if_ne (tgt := 23) C.x C.b dX10_soft_18 (by decide) (fun c5 => ?_) (fun c5 => ?_)
    · have hf := it_f hf c5
      refine lv_iconst (v := (0 : Int32)) C.x C.b dX10_soft_23 (by decide) ?_
      refine lv_istore_n (lv' := [(3, .int (0 : Int32)), (0, .ref (G.2.2 + r0)), (1, .int x1), (2, .int x2)]) C.x C.b dX10_soft_24 rfl hl (by decide) rfl (fun ls hl => ?_)
      exact w_X10_soft_25 C hr hlk FU _ _ _ _ _ hf hE hR hS t_r0 (lv_sub hl [1, 2, 3, 0] rfl)
    · have hf := it_t hf c5
      refine lv_iconst (v := (-1 : Int32)) C.x C.b dX10_soft_21 (by decide) ?_
      have hf := so_e hf
      subst hf
      exact r_iret C hr hlk hR hE hS dX10_soft_22

def rm_X10_seenFrom : Room := { frames := 4, cells := 0, slots := 0, locals := 98 }
def P_X10_seenFrom_116 (G : Gt) (l : Launch) (p : Program) (e : Env) (s : State) (m : MethodId) (args : Array Value) (below : List Frame) (meth : Method) (c : Code) (h : Hp) (out : Int32) (r0 : Nat) (x1 : Int32) (k : Int32 → Int32 → Int32 → Int32 → Int32 → Int32 → Int32 → Option Int32) : Prop := ∀ (H : Heap) (locs : List Loc) (ls : Array Slot) (s0 : Int32) (s1 : Int32) (x2 : Int32) (x3 : Int32) (x4 : Int32) (x5 : Int32) (x7 : Int32), k s0 s1 x2 x3 x4 x5 x7 = some out → Rel G h H → va_S (AA G.2.2) s.heap H locs → hpT h r0 = (1, 10) → lv_has ls 8 [(0, .ref (G.2.2 + r0)), (1, .int x1), (2, .int x2), (3, .int x3), (4, .int x4), (5, .int x5), (7, .int x7)] → W p l e rm_X10_seenFrom s m args below meth c H locs 0 0 (MQ below (Qm G h h (some (.int out)) 0) args s 0 0 (AA G.2.2)) (F0 m 116 ls [.int s1, .int s0])
def P_X10_seenFrom_87 (G : Gt) (l : Launch) (p : Program) (e : Env) (s : State) (m : MethodId) (args : Array Value) (below : List Frame) (meth : Method) (c : Code) (h : Hp) (out : Int32) (r0 : Nat) (x1 : Int32) (k : Int32 → Int32 → Int32 → Int32 → Int32 → Int32 → Int32 → Option Int32) : Prop := ∀ (H : Heap) (locs : List Loc) (ls : Array Slot) (s0 : Int32) (s1 : Int32) (x3 : Int32) (x4 : Int32) (x5 : Int32) (x6 : Int32) (x7 : Int32), k s0 s1 x3 x4 x5 x6 x7 = some out → Rel G h H → va_S (AA G.2.2) s.heap H locs → hpT h r0 = (1, 10) → lv_has ls 8 [(0, .ref (G.2.2 + r0)), (1, .int x1), (3, .int x3), (4, .int x4), (5, .int x5), (6, .int x6), (7, .int x7)] → W p l e rm_X10_seenFrom s m args below meth c H locs 0 0 (MQ below (Qm G h h (some (.int out)) 0) args s 0 0 (AA G.2.2)) (F0 m 87 ls [.int s1, .int s0])
def P_X10_seenFrom_86 (G : Gt) (l : Launch) (p : Program) (e : Env) (s : State) (m : MethodId) (args : Array Value) (below : List Frame) (meth : Method) (c : Code) (h : Hp) (out : Int32) (r0 : Nat) (x1 : Int32) (k : Int32 → Int32 → Int32 → Int32 → Int32 → Int32 → Option Int32) : Prop := ∀ (H : Heap) (locs : List Loc) (ls : Array Slot) (s0 : Int32) (x3 : Int32) (x4 : Int32) (x5 : Int32) (x6 : Int32) (x7 : Int32), k s0 x3 x4 x5 x6 x7 = some out → Rel G h H → va_S (AA G.2.2) s.heap H locs → hpT h r0 = (1, 10) → lv_has ls 8 [(0, .ref (G.2.2 + r0)), (1, .int x1), (3, .int x3), (4, .int x4), (5, .int x5), (6, .int x6), (7, .int x7)] → W p l e rm_X10_seenFrom s m args below meth c H locs 0 0 (MQ below (Qm G h h (some (.int out)) 0) args s 0 0 (AA G.2.2)) (F0 m 86 ls [.int s0])
def P_X10_seenFrom_41 (G : Gt) (l : Launch) (p : Program) (e : Env) (s : State) (m : MethodId) (args : Array Value) (below : List Frame) (meth : Method) (c : Code) (h : Hp) (out : Int32) (r0 : Nat) (x1 : Int32) (k : Int32 → Int32 → Int32 → Int32 → Int32 → Int32 → Option Int32) : Prop := ∀ (H : Heap) (locs : List Loc) (ls : Array Slot) (x2 : Int32) (x3 : Int32) (x4 : Int32) (x5 : Int32) (x6 : Int32) (x7 : Int32), k x2 x3 x4 x5 x6 x7 = some out → Rel G h H → va_S (AA G.2.2) s.heap H locs → hpT h r0 = (1, 10) → lv_has ls 8 [(0, .ref (G.2.2 + r0)), (1, .int x1), (2, .int x2), (3, .int x3), (4, .int x4), (5, .int x5), (6, .int x6), (7, .int x7)] → W p l e rm_X10_seenFrom s m args below meth c H locs 0 0 (MQ below (Qm G h h (some (.int out)) 0) args s 0 0 (AA G.2.2)) (F0 m 41 ls [])
def P_X10_seenFrom_7 (G : Gt) (l : Launch) (p : Program) (e : Env) (s : State) (m : MethodId) (args : Array Value) (below : List Frame) (meth : Method) (c : Code) (h : Hp) (out : Int32) (r0 : Nat) (x1 : Int32) (k : Int32 → Int32 → Int32 → Option Int32) : Prop := ∀ (H : Heap) (locs : List Loc) (ls : Array Slot) (x2 : Int32) (x3 : Int32) (x4 : Int32), k x2 x3 x4 = some out → Rel G h H → va_S (AA G.2.2) s.heap H locs → hpT h r0 = (1, 10) → lv_has ls 8 [(0, .ref (G.2.2 + r0)), (1, .int x1), (2, .int x2), (3, .int x3), (4, .int x4)] → W p l e rm_X10_seenFrom s m args below meth c H locs 0 0 (MQ below (Qm G h h (some (.int out)) 0) args s 0 0 (AA G.2.2)) (F0 m 7 ls [])
set_option maxRecDepth 100000 in
set_option maxHeartbeats 4000000 in
theorem w_X10_seenFrom_116 {G : Gt} {l : Launch} {p : Program} {e : Env} {s : State} {m : MethodId} {args : Array Value} {below : List Frame} {meth : Method} {c : Code} {h : Hp} {out : Int32} {r0 : Nat} {x1 : Int32} {k7 : Int32 → Int32 → Int32 → Option Int32} {k41 : Int32 → Int32 → Int32 → Int32 → Int32 → Int32 → Option Int32} (C : Cx G p m c cX10_seenFrom 8 s args RX10) (hr : meth.sig.returnType = some .int) (hlk : meth.locks = false) (hk7 : P_X10_seenFrom_7 G l p e s m args below meth c h out r0 x1 k7) (hk41 : P_X10_seenFrom_41 G l p e s m args below meth c h out r0 x1 k41) : P_X10_seenFrom_116 G l p e s m args below meth c h out r0 x1 (f_X10_seenFrom_116 h r0 x1 k7 k41) := by
  intro H locs ls s0 s1 x2 x3 x4 x5 x7 hf hR hS t_r0 hl
  rw [f_X10_seenFrom_116] at hf
  refine va_mmax C.x C.b (C.ml.trans hl.1.symm) C.ow (C.ts _ lk_X10_272) (C.ts _ lk_Mmax_s) (C.ts _ lk_Math) (C.ts _ lk_Mmax_c) (Nat.le_of_ble_eq_true rfl) (Nat.le_of_ble_eq_true rfl) (Nat.le_of_ble_eq_true rfl) (Nat.le_of_ble_eq_true rfl) dX10_seenFrom_116 ?_
  refine lv_topi (fun v23 e_v23 => ?_)
  have hf := lt_e hf e_v23
  refine lv_istore (lv' := [(6, .int v23), (0, .ref (G.2.2 + r0)), (1, .int x1), (2, .int x2), (3, .int x3), (4, .int x4), (5, .int x5), (7, .int x7)]) C.x C.b dX10_seenFrom_119 hl (by decide) rfl (fun ls hl => ?_)
  obtain ⟨v24, e_v24⟩ : ∃ y : Int32, y = x7 + (1 : Int32) := ⟨_, rfl⟩
  have hf := lt_e hf e_v24
  refine lv_iinc (v := v24) (lv' := [(7, .int v24), (6, .int v23), (0, .ref (G.2.2 + r0)), (1, .int x1), (2, .int x2), (3, .int x3), (4, .int x4), (5, .int x5)]) C.x C.b dX10_seenFrom_121 hl (k := 7) rfl (by rw [e_v24]; rfl) (by decide) rfl (fun ls hl => ?_)
  refine lv_goto (tgt := 41) C.x C.b dX10_seenFrom_124 (by decide) ?_
  exact hk41 _ _ _ _ _ _ _ _ _ hf hR hS t_r0 (lv_sub hl [2, 3, 4, 5, 6, 7, 1, 0] rfl)
set_option maxRecDepth 100000 in
set_option maxHeartbeats 4000000 in
theorem w_X10_seenFrom_87 {G : Gt} {l : Launch} {p : Program} {e : Env} {s : State} {m : MethodId} {args : Array Value} {below : List Frame} {meth : Method} {c : Code} {h : Hp} {out : Int32} {r0 : Nat} {x1 : Int32} {k7 : Int32 → Int32 → Int32 → Option Int32} {k41 : Int32 → Int32 → Int32 → Int32 → Int32 → Int32 → Option Int32} (C : Cx G p m c cX10_seenFrom 8 s args RX10) (hr : meth.sig.returnType = some .int) (hlk : meth.locks = false) (hk7 : P_X10_seenFrom_7 G l p e s m args below meth c h out r0 x1 k7) (hk41 : P_X10_seenFrom_41 G l p e s m args below meth c h out r0 x1 k41) : P_X10_seenFrom_87 G l p e s m args below meth c h out r0 x1 (f_X10_seenFrom_87 h r0 x1 k7 k41) := by
  intro H locs ls s0 s1 x3 x4 x5 x6 x7 hf hR hS t_r0 hl
  rw [f_X10_seenFrom_87] at hf
  refine lv_ior C.x C.b dX10_seenFrom_87 ?_
  refine lv_topi (fun v17 e_v17 => ?_)
  have hf := lt_e hf e_v17
  refine lv_istore_n (lv' := [(2, .int v17), (0, .ref (G.2.2 + r0)), (1, .int x1), (3, .int x3), (4, .int x4), (5, .int x5), (6, .int x6), (7, .int x7)]) C.x C.b dX10_seenFrom_88 rfl hl (by decide) rfl (fun ls hl => ?_)
  refine lv_iload C.x C.b dX10_seenFrom_89 (lv_at hl 6 rfl) ?_
  refine lv_iload C.x C.b dX10_seenFrom_91 (lv_at hl 5 rfl) ?_
  refine lv_i2l C.x C.b dX10_seenFrom_93 rfl ?_
  refine lv_iload C.x C.b dX10_seenFrom_94 (lv_at hl 7 rfl) ?_
  obtain ⟨q18, h_q18, hf⟩ := bd_e hf
  refine r_callS (As := [.long (x5.toInt64), .int x7]) (rest := [.int x6]) C hR hS mk_X10_has cl_X10_137 (k_X10_has h_q18) ⟨⟨Nat.le_of_ble_eq_true rfl, Nat.le_of_ble_eq_true rfl⟩, ⟨rfl, rfl⟩, Nat.le_of_ble_eq_true rfl, Nat.le_of_ble_eq_true rfl⟩ rfl hl.1 rfl (Nat.le_of_ble_eq_true rfl) dX10_seenFrom_96 (fun H locs hR hS hE1 z_q18 => ?_)
  have z_q18 := z_q18 _ rfl
  refine lv_if_eq (tgt := 115) C.x C.b dX10_seenFrom_99 (by decide) (fun c19 => ?_) (fun c19 => ?_)
  · have hf := it_t hf c19
    refine lv_iconst (v := (0 : Int32)) C.x C.b dX10_seenFrom_115 (by decide) ?_
    exact w_X10_seenFrom_116 C hr hlk hk7 hk41 _ _ _ _ _ _ _ _ _ _ hf hR hS t_r0 (lv_sub hl [1, 2, 0, 3, 4, 5, 7] rfl)
  · have hf := it_f hf c19
    refine lv_aload_n C.x C.b dX10_seenFrom_102 rfl (lv_at hl 1 rfl) ?_
    obtain ⟨g20, hf⟩ := gd_e hf
    refine r_getr C hR t_r0 fl_X10_20 (by decide) (nz_e g20) dX10_seenFrom_103 (fun tq21 => ?_)
    have tg20 := okA tq21 rfl
    refine lv_bipush (v := (24 : Int32)) C.x C.b dX10_seenFrom_106 (by decide) ?_
    refine lv_iload C.x C.b dX10_seenFrom_108 (lv_at hl 7 rfl) ?_
    refine lv_iadd C.x C.b dX10_seenFrom_110 ?_
    obtain ⟨g22, hf⟩ := gd_e hf
    refine r_iald C hR tg20 g22 dX10_seenFrom_111 ?_
    refine lv_goto (tgt := 116) C.x C.b dX10_seenFrom_112 (by decide) ?_
    exact w_X10_seenFrom_116 C hr hlk hk7 hk41 _ _ _ _ _ _ _ _ _ _ hf hR hS t_r0 (lv_sub hl [1, 2, 0, 3, 4, 5, 7] rfl)
set_option maxRecDepth 100000 in
set_option maxHeartbeats 4000000 in
theorem w_X10_seenFrom_86 {G : Gt} {l : Launch} {p : Program} {e : Env} {s : State} {m : MethodId} {args : Array Value} {below : List Frame} {meth : Method} {c : Code} {h : Hp} {out : Int32} {r0 : Nat} {x1 : Int32} {k7 : Int32 → Int32 → Int32 → Option Int32} {k41 : Int32 → Int32 → Int32 → Int32 → Int32 → Int32 → Option Int32} (C : Cx G p m c cX10_seenFrom 8 s args RX10) (hr : meth.sig.returnType = some .int) (hlk : meth.locks = false) (hk7 : P_X10_seenFrom_7 G l p e s m args below meth c h out r0 x1 k7) (hk41 : P_X10_seenFrom_41 G l p e s m args below meth c h out r0 x1 k41) : P_X10_seenFrom_86 G l p e s m args below meth c h out r0 x1 (f_X10_seenFrom_86 h r0 x1 k7 k41) := by
  intro H locs ls s0 x3 x4 x5 x6 x7 hf hR hS t_r0 hl
  rw [f_X10_seenFrom_86] at hf
  refine lv_iconst (v := (0 : Int32)) C.x C.b dX10_seenFrom_86 (by decide) ?_
  exact w_X10_seenFrom_87 C hr hlk hk7 hk41 _ _ _ _ _ _ _ _ _ _ hf hR hS t_r0 (lv_sub hl [0, 1, 2, 3, 4, 5, 6] rfl)
set_option maxRecDepth 100000 in
set_option maxHeartbeats 4000000 in
theorem w_X10_seenFrom_41 {G : Gt} {l : Launch} {p : Program} {e : Env} {s : State} {m : MethodId} {args : Array Value} {below : List Frame} {meth : Method} {c : Code} {h : Hp} {out : Int32} {r0 : Nat} {x1 : Int32} {k7 : Int32 → Int32 → Int32 → Option Int32} (C : Cx G p m c cX10_seenFrom 8 s args RX10) (hr : meth.sig.returnType = some .int) (hlk : meth.locks = false) (hk7 : P_X10_seenFrom_7 G l p e s m args below meth c h out r0 x1 k7) (n : Nat) : P_X10_seenFrom_41 G l p e s m args below meth c h out r0 x1 (f_X10_seenFrom_41 h r0 x1 k7 n) := by
  induction n with
  | zero => intro H locs ls x2 x3 x4 x5 x6 x7 hf hR hS t_r0 hl; cases hf
  | succ n hk41 =>
    intro H locs ls x2 x3 x4 x5 x6 x7 hf hR hS t_r0 hl
    rw [f_X10_seenFrom_41] at hf
    obtain ⟨k41, e_k41⟩ : ∃ y, y = f_X10_seenFrom_41 h r0 x1 k7 n := ⟨_, rfl⟩
    have hf := lt_e hf e_k41
    rw [← e_k41] at hk41
    refine lv_iload C.x C.b dX10_seenFrom_41 (lv_at hl 7 rfl) ?_
    refine lv_aload_n C.x C.b dX10_seenFrom_43 rfl (lv_at hl 0 rfl) ?_
    obtain ⟨g5, hf⟩ := gd_e hf
    refine r_getr C hR t_r0 fl_X10_20 (by decide) (nz_e g5) dX10_seenFrom_44 (fun tq6 => ?_)
    have tg5 := okA tq6 rfl
    refine lv_bipush (v := (48 : Int32)) C.x C.b dX10_seenFrom_47 (by decide) ?_
    obtain ⟨g7, hf⟩ := gd_e hf
    refine r_iald C hR tg5 g7 dX10_seenFrom_49 ?_
    refine lv_icmp_ge (tgt := 127) C.x C.b dX10_seenFrom_50 (by decide) (fun c8 => ?_) (fun c8 => ?_)
    · have hf := it_t hf c8
      refine lv_iload_n C.x C.b dX10_seenFrom_127 rfl (lv_at hl 3 rfl) ?_
      refine lv_iload C.x C.b dX10_seenFrom_128 (lv_at hl 6 rfl) ?_
      refine va_mmax C.x C.b (C.ml.trans hl.1.symm) C.ow (C.ts _ lk_X10_272) (C.ts _ lk_Mmax_s) (C.ts _ lk_Math) (C.ts _ lk_Mmax_c) (Nat.le_of_ble_eq_true rfl) (Nat.le_of_ble_eq_true rfl) (Nat.le_of_ble_eq_true rfl) (Nat.le_of_ble_eq_true rfl) dX10_seenFrom_130 ?_
      refine lv_topi (fun v9 e_v9 => ?_)
      have hf := lt_e hf e_v9
      refine lv_istore_n (lv' := [(3, .int v9), (0, .ref (G.2.2 + r0)), (1, .int x1), (2, .int x2), (4, .int x4), (5, .int x5), (6, .int x6), (7, .int x7)]) C.x C.b dX10_seenFrom_133 rfl hl (by decide) rfl (fun ls hl => ?_)
      obtain ⟨v10, e_v10⟩ : ∃ y : Int32, y = x4 + (1 : Int32) := ⟨_, rfl⟩
      have hf := lt_e hf e_v10
      refine lv_iinc (v := v10) (lv' := [(4, .int v10), (3, .int v9), (0, .ref (G.2.2 + r0)), (1, .int x1), (2, .int x2), (5, .int x5), (6, .int x6), (7, .int x7)]) C.x C.b dX10_seenFrom_134 hl (k := 4) rfl (by rw [e_v10]; rfl) (by decide) rfl (fun ls hl => ?_)
      refine lv_goto (tgt := 7) C.x C.b dX10_seenFrom_137 (by decide) ?_
      exact hk7 _ _ _ _ _ _ hf hR hS t_r0 (lv_sub hl [2, 3, 4, 1, 0] rfl)
    · have hf := it_f hf c8
      refine lv_iload_n C.x C.b dX10_seenFrom_53 rfl (lv_at hl 2 rfl) ?_
      refine lv_iload C.x C.b dX10_seenFrom_54 (lv_at hl 5 rfl) ?_
      refine lv_i2l C.x C.b dX10_seenFrom_56 rfl ?_
      refine lv_iload C.x C.b dX10_seenFrom_57 (lv_at hl 7 rfl) ?_
      obtain ⟨q11, h_q11, hf⟩ := bd_e hf
      refine r_callS (As := [.long (x5.toInt64), .int x7]) (rest := [.int x2]) C hR hS mk_X10_has cl_X10_137 (k_X10_has h_q11) ⟨⟨Nat.le_of_ble_eq_true rfl, Nat.le_of_ble_eq_true rfl⟩, ⟨rfl, rfl⟩, Nat.le_of_ble_eq_true rfl, Nat.le_of_ble_eq_true rfl⟩ rfl hl.1 rfl (Nat.le_of_ble_eq_true rfl) dX10_seenFrom_59 (fun H locs hR hS hE1 z_q11 => ?_)
      have z_q11 := z_q11 _ rfl
      refine lv_if_eq (tgt := 86) C.x C.b dX10_seenFrom_62 (by decide) (fun c12 => ?_) (fun c12 => ?_)
      · have hf := it_t hf c12
        exact w_X10_seenFrom_86 C hr hlk hk7 hk41 _ _ _ _ _ _ _ _ _ hf hR hS t_r0 (lv_sub hl [0, 1, 3, 4, 5, 6, 7] rfl)
      · have hf := it_f hf c12
        refine lv_aload_n C.x C.b dX10_seenFrom_65 rfl (lv_at hl 0 rfl) ?_
        refine r_getr C hR t_r0 fl_X10_20 (by decide) (nz_e g5) dX10_seenFrom_66 (fun tq13 => ?_)
        refine lv_bipush (v := (24 : Int32)) C.x C.b dX10_seenFrom_69 (by decide) ?_
        refine lv_iload C.x C.b dX10_seenFrom_71 (lv_at hl 7 rfl) ?_
        refine lv_iadd C.x C.b dX10_seenFrom_73 ?_
        obtain ⟨g14, hf⟩ := gd_e hf
        refine r_iald C hR tg5 g14 dX10_seenFrom_74 ?_
        refine lv_iload_n C.x C.b dX10_seenFrom_75 rfl (lv_at hl 3 rfl) ?_
        refine lv_icmp_lt (tgt := 86) C.x C.b dX10_seenFrom_76 (by decide) (fun c15 => ?_) (fun c15 => ?_)
        · have hf := it_t hf c15
          exact w_X10_seenFrom_86 C hr hlk hk7 hk41 _ _ _ _ _ _ _ _ _ hf hR hS t_r0 (lv_sub hl [0, 1, 3, 4, 5, 6, 7] rfl)
        · have hf := it_f hf c15
          refine lv_iconst (v := (1 : Int32)) C.x C.b dX10_seenFrom_79 (by decide) ?_
          refine lv_iload C.x C.b dX10_seenFrom_80 (lv_at hl 7 rfl) ?_
          refine lv_ishl C.x C.b dX10_seenFrom_82 ?_
          refine lv_topi (fun v16 e_v16 => ?_)
          have hf := lt_e hf e_v16
          refine lv_goto (tgt := 87) C.x C.b dX10_seenFrom_83 (by decide) ?_
          exact w_X10_seenFrom_87 C hr hlk hk7 hk41 _ _ _ _ _ _ _ _ _ _ hf hR hS t_r0 (lv_sub hl [0, 1, 3, 4, 5, 6, 7] rfl)
set_option maxRecDepth 100000 in
set_option maxHeartbeats 4000000 in
theorem w_X10_seenFrom_7 {G : Gt} {l : Launch} {p : Program} {e : Env} {s : State} {m : MethodId} {args : Array Value} {below : List Frame} {meth : Method} {c : Code} {h : Hp} {out : Int32} {r0 : Nat} {x1 : Int32}  (C : Cx G p m c cX10_seenFrom 8 s args RX10) (hr : meth.sig.returnType = some .int) (hlk : meth.locks = false)  (n : Nat) : P_X10_seenFrom_7 G l p e s m args below meth c h out r0 x1 (f_X10_seenFrom_7 h r0 x1 n) := by
  induction n with
  | zero => intro H locs ls x2 x3 x4 hf hR hS t_r0 hl; cases hf
  | succ n hk7 =>
    intro H locs ls x2 x3 x4 hf hR hS t_r0 hl
    rw [f_X10_seenFrom_7] at hf
    obtain ⟨k7, e_k7⟩ : ∃ y, y = f_X10_seenFrom_7 h r0 x1 n := ⟨_, rfl⟩
    have hf := lt_e hf e_k7
    rw [← e_k7] at hk7
    refine lv_iload C.x C.b dX10_seenFrom_7 (lv_at hl 4 rfl) ?_
    refine lv_aload_n C.x C.b dX10_seenFrom_9 rfl (lv_at hl 0 rfl) ?_
    refine r_geti C hR t_r0 fl_X10_17 rfl dX10_seenFrom_10 ?_
    refine lv_icmp_ge (tgt := 140) C.x C.b dX10_seenFrom_13 (by decide) (fun c1 => ?_) (fun c1 => ?_)
    · have hf := it_t hf c1
      refine lv_iload_n C.x C.b dX10_seenFrom_140 rfl (lv_at hl 2 rfl) ?_
      have hf := so_e hf
      subst hf
      exact r_iret C hr hlk hR Ext.rf hS dX10_seenFrom_141
    · have hf := it_f hf c1
      refine lv_aload_n C.x C.b dX10_seenFrom_16 rfl (lv_at hl 0 rfl) ?_
      refine lv_aload_n C.x C.b dX10_seenFrom_17 rfl (lv_at hl 0 rfl) ?_
      obtain ⟨g2, hf⟩ := gd_e hf
      refine r_getr C hR t_r0 fl_X10_20 (by decide) (nz_e g2) dX10_seenFrom_18 (fun tq3 => ?_)
      have tg2 := okA tq3 rfl
      refine lv_aload_n C.x C.b dX10_seenFrom_21 rfl (lv_at hl 0 rfl) ?_
      refine r_geti C hR t_r0 fl_X10_17 rfl dX10_seenFrom_22 ?_
      refine lv_iload_n C.x C.b dX10_seenFrom_25 rfl (lv_at hl 1 rfl) ?_
      refine lv_imul C.x C.b dX10_seenFrom_26 ?_
      refine lv_iload C.x C.b dX10_seenFrom_27 (lv_at hl 4 rfl) ?_
      refine lv_iadd C.x C.b dX10_seenFrom_29 ?_
      obtain ⟨q4, h_q4, hf⟩ := bd_e hf
      refine r_callV (As := [.ref (G.2.2 + (hpR h r0 6)), .int (((hpI h r0 4) * x1) + x4)]) (rest := []) C hR hS t_r0 rfl mk_X10_campsOver cl_X10_294 (k_X10_campsOver t_r0 tg2 h_q4) ⟨⟨Nat.le_of_ble_eq_true rfl, Nat.le_of_ble_eq_true rfl⟩, ⟨rfl, rfl⟩, Nat.le_of_ble_eq_true rfl, Nat.le_of_ble_eq_true rfl⟩ rfl hl.1 rfl (Nat.le_of_ble_eq_true rfl) dX10_seenFrom_30 (fun H locs hR hS hE1 z_q4 => ?_)
      refine lv_istore (lv' := [(5, .int q4), (0, .ref (G.2.2 + r0)), (1, .int x1), (2, .int x2), (3, .int x3), (4, .int x4)]) C.x C.b dX10_seenFrom_33 hl (by decide) rfl (fun ls hl => ?_)
      refine lv_iconst (v := (0 : Int32)) C.x C.b dX10_seenFrom_35 (by decide) ?_
      refine lv_istore (lv' := [(6, .int (0 : Int32)), (5, .int q4), (0, .ref (G.2.2 + r0)), (1, .int x1), (2, .int x2), (3, .int x3), (4, .int x4)]) C.x C.b dX10_seenFrom_36 hl (by decide) rfl (fun ls hl => ?_)
      refine lv_iconst (v := (0 : Int32)) C.x C.b dX10_seenFrom_38 (by decide) ?_
      refine lv_istore (lv' := [(7, .int (0 : Int32)), (6, .int (0 : Int32)), (5, .int q4), (0, .ref (G.2.2 + r0)), (1, .int x1), (2, .int x2), (3, .int x3), (4, .int x4)]) C.x C.b dX10_seenFrom_39 hl (by decide) rfl (fun ls hl => ?_)
      exact w_X10_seenFrom_41 C hr hlk hk7 FU _ _ _ _ _ _ _ _ _ hf hR hS t_r0 (lv_sub hl [3, 4, 5, 6, 7, 2, 1, 0] rfl)
set_option maxRecDepth 100000 in
set_option maxHeartbeats 4000000 in
theorem k_X10_seenFrom {G : Gt} {l : Launch} {h : Hp} {r0 : Nat} {x1 : Int32} {out : Int32} (t_r0 : hpT h r0 = (1, 10))  (hf : f_X10_seenFrom h r0 x1 = some out) : Mt G l yX10_seenFrom cX10_seenFrom 8 (some .int) rm_X10_seenFrom [.ref (G.2.2 + r0), .int x1] h (some (.int out)) h 0 0 0 := by
  refine r_met (by decide +kernel) (Nat.le_of_ble_eq_true rfl) ?_
  intro p e s m args below meth c ls C hr hlk hnm hR hS hl
  have hl : lv_has ls 8 [(0, .ref (G.2.2 + r0)), (1, .int x1)] := hl
  rw [f_X10_seenFrom] at hf
  refine lv_iconst (v := (0 : Int32)) C.x C.b dX10_seenFrom_0 (by decide) ?_
  refine lv_istore_n (lv' := [(2, .int (0 : Int32)), (0, .ref (G.2.2 + r0)), (1, .int x1)]) C.x C.b dX10_seenFrom_1 rfl hl (by decide) rfl (fun ls hl => ?_)
  refine lv_iconst (v := (0 : Int32)) C.x C.b dX10_seenFrom_2 (by decide) ?_
  refine lv_istore_n (lv' := [(3, .int (0 : Int32)), (2, .int (0 : Int32)), (0, .ref (G.2.2 + r0)), (1, .int x1)]) C.x C.b dX10_seenFrom_3 rfl hl (by decide) rfl (fun ls hl => ?_)
  refine lv_iconst (v := (0 : Int32)) C.x C.b dX10_seenFrom_4 (by decide) ?_
  refine lv_istore (lv' := [(4, .int (0 : Int32)), (3, .int (0 : Int32)), (2, .int (0 : Int32)), (0, .ref (G.2.2 + r0)), (1, .int x1)]) C.x C.b dX10_seenFrom_5 hl (by decide) rfl (fun ls hl => ?_)
  exact w_X10_seenFrom_7 C hr hlk FU _ _ _ _ _ _ hf hR hS t_r0 (lv_sub hl [3, 4, 2, 1, 0] rfl)

def rm_X10_seen : Room := { frames := 5, cells := 0, slots := 0, locals := 125 }
set_option maxRecDepth 100000 in
set_option maxHeartbeats 4000000 in
theorem k_X10_seen {G : Gt} {l : Launch} {h : Hp} {r0 : Nat} {x1 : Int32} {out : (Int32 × Hp)} (t_r0 : hpT h r0 = (1, 10))  (hf : f_X10_seen h r0 x1 = some out) : Mt G l yX10_seen cX10_seen 3 (some .int) rm_X10_seen [.ref (G.2.2 + r0), .int x1] h (some (.int out.1)) out.2 0 0 0 := by
  refine r_met (by decide +kernel) (Nat.le_of_ble_eq_true rfl) ?_
  intro p e s m args below meth c ls C hr hlk hnm hR hS hl
  have hE : Ext h h := Ext.rf
  have hl : lv_has ls 3 [(0, .ref (G.2.2 + r0)), (1, .int x1)] := hl
  rw [f_X10_seen] at hf
  refine lv_aload_n C.x C.b dX10_seen_0 rfl (lv_at hl 0 rfl) ?_
  refine lv_iconst (v := (0 : Int32)) C.x C.b dX10_seen_1 (by decide) ?_
  refine r_puti C hR hS t_r0 fl_X10_103 fp_X10_10_0 rfl dX10_seen_2 (fun H locs hR hS => ?_)
  obtain ⟨h1, e_h1⟩ : ∃ y, y = upI h r0 0 (0 : Int32) := ⟨_, rfl⟩
  rw [← e_h1] at hR
  have hf := lt_e hf e_h1
  have hE := eI e_h1 hE
  have t_r0 := tI e_h1 t_r0
  refine lv_iload_n C.x C.b dX10_seen_5 rfl (lv_at hl 1 rfl) ?_
  refine lv_i2l C.x C.b dX10_seen_6 rfl ?_
  refine lv_lconst (v := (0 : Int64)) C.x C.b dX10_seen_7 (by decide) ?_
  refine lv_aload_n C.x C.b dX10_seen_8 rfl (lv_at hl 0 rfl) ?_
  refine r_geti C hR t_r0 fl_X10_13 rfl dX10_seen_9 ?_
  refine lv_iconst (v := (1 : Int32)) C.x C.b dX10_seen_12 (by decide) ?_
  refine lv_isub C.x C.b dX10_seen_13 ?_
  refine lv_i2l C.x C.b dX10_seen_14 rfl ?_
  obtain ⟨q2, h_q2, hf⟩ := bd_e hf
  refine r_callS (As := [.long (x1.toInt64), .long (0 : Int64), .long (((hpI h1 r0 3) - (1 : Int32)).toInt64)]) (rest := []) C hR hS mk_X10_in cl_X10_117 (k_X10_in h_q2) ⟨⟨Nat.le_of_ble_eq_true rfl, Nat.le_of_ble_eq_true rfl⟩, ⟨rfl, rfl⟩, Nat.le_of_ble_eq_true rfl, Nat.le_of_ble_eq_true rfl⟩ rfl hl.1 rfl (Nat.le_of_ble_eq_true rfl) dX10_seen_15 (fun H locs hR hS hE1 z_q2 => ?_)
  have z_q2 := z_q2 _ rfl
  refine lv_if_ne (tgt := 23) C.x C.b dX10_seen_18 (by decide) (fun c3 => ?_) (fun c3 => ?_)
  · have hf := it_f hf c3
    refine lv_aload_n C.x C.b dX10_seen_23 rfl (lv_at hl 0 rfl) ?_
    refine lv_iload_n C.x C.b dX10_seen_24 rfl (lv_at hl 1 rfl) ?_
    obtain ⟨q4, h_q4, hf⟩ := bd_e hf
    refine r_callV (As := [.int x1]) (rest := []) C hR hS t_r0 rfl mk_X10_seenFrom cl_X10_409 (k_X10_seenFrom t_r0 h_q4) ⟨⟨Nat.le_of_ble_eq_true rfl, Nat.le_of_ble_eq_true rfl⟩, ⟨rfl, rfl⟩, Nat.le_of_ble_eq_true rfl, Nat.le_of_ble_eq_true rfl⟩ rfl hl.1 rfl (Nat.le_of_ble_eq_true rfl) dX10_seen_25 (fun H locs hR hS hE1 z_q4 => ?_)
    refine lv_istore_n (lv' := [(2, .int q4), (0, .ref (G.2.2 + r0)), (1, .int x1)]) C.x C.b dX10_seen_28 rfl hl (by decide) rfl (fun ls hl => ?_)
    refine lv_aload_n C.x C.b dX10_seen_29 rfl (lv_at hl 1 rfl) ?_
    refine lv_iconst (v := (0 : Int32)) C.x C.b dX10_seen_30 (by decide) ?_
    refine r_puti C hR hS t_r0 fl_X10_110 fp_X10_10_1 rfl dX10_seen_31 (fun H locs hR hS => ?_)
    obtain ⟨h5, e_h5⟩ : ∃ y, y = upI h1 r0 1 (0 : Int32) := ⟨_, rfl⟩
    rw [← e_h5] at hR
    have hf := lt_e hf e_h5
    have hE := eI e_h5 hE
    have t_r0 := tI e_h5 t_r0
    refine lv_aload_n C.x C.b dX10_seen_34 rfl (lv_at hl 1 rfl) ?_
    refine lv_iload_n C.x C.b dX10_seen_35 rfl (lv_at hl 0 rfl) ?_
    obtain ⟨q6, h_q6, hf⟩ := bd_e hf
    refine r_callS (As := [.int q4]) (rest := [.ref (G.2.2 + r0)]) C hR hS mk_J6_bitCount_0f7a4 cl_X10_264 (k_J6_bitCount_0f7a4 h_q6) ⟨⟨Nat.le_of_ble_eq_true rfl, Nat.le_of_ble_eq_true rfl⟩, ⟨rfl, rfl⟩, Nat.le_of_ble_eq_true rfl, Nat.le_of_ble_eq_true rfl⟩ rfl hl.1 rfl (Nat.le_of_ble_eq_true rfl) dX10_seen_36 (fun H locs hR hS hE1 z_q6 => ?_)
    refine lv_i2l C.x C.b dX10_seen_39 rfl ?_
    obtain ⟨q7, h_q7, hf⟩ := bd_e hf
    refine r_callV (As := [.long (q6.toInt64)]) (rest := []) C hR hS t_r0 rfl mk_X10_enters cl_X10_339 (k_X10_enters t_r0 h_q7) ⟨⟨Nat.le_of_ble_eq_true rfl, Nat.le_of_ble_eq_true rfl⟩, ⟨rfl, rfl⟩, Nat.le_of_ble_eq_true rfl, Nat.le_of_ble_eq_true rfl⟩ rfl hl.1 rfl (Nat.le_of_ble_eq_true rfl) dX10_seen_40 (fun H locs hR hS hE1 z_q7 => ?_)
    have hE := hE.tr hE1
    have t_r0 := hE1.at t_r0 (by decide)
    refine lv_iload_n C.x C.b dX10_seen_43 rfl (lv_at hl 0 rfl) ?_
    have hf := so_e hf
    subst hf
    exact r_iret C hr hlk hR hE hS dX10_seen_44
  · have hf := it_t hf c3
    refine lv_iconst (v := (-1 : Int32)) C.x C.b dX10_seen_21 (by decide) ?_
    have hf := so_e hf
    subst hf
    exact r_iret C hr hlk hR hE hS dX10_seen_22

def rm_X10_seenBy : Room := { frames := 5, cells := 0, slots := 0, locals := 125 }
def P_X10_seenBy_31 (G : Gt) (l : Launch) (p : Program) (e : Env) (s : State) (m : MethodId) (args : Array Value) (below : List Frame) (meth : Method) (c : Code) (h : Hp) (out : Int32) (r0 : Nat) (x1 : Int32) (k : Int32 → Int32 → Int32 → Option Int32) : Prop := ∀ (H : Heap) (locs : List Loc) (ls : Array Slot) (s0 : Int32) (s1 : Int32) (x3 : Int32), k s0 s1 x3 = some out → Rel G h H → va_S (AA G.2.2) s.heap H locs → hpT h r0 = (1, 10) → lv_has ls 4 [(0, .ref (G.2.2 + r0)), (1, .int x1), (3, .int x3)] → W p l e rm_X10_seenBy s m args below meth c H locs 0 0 (MQ below (Qm G h h (some (.int out)) 0) args s 0 0 (AA G.2.2)) (F0 m 31 ls [.int s1, .int s0])
def P_X10_seenBy_4 (G : Gt) (l : Launch) (p : Program) (e : Env) (s : State) (m : MethodId) (args : Array Value) (below : List Frame) (meth : Method) (c : Code) (h : Hp) (out : Int32) (r0 : Nat) (x1 : Int32) (k : Int32 → Int32 → Option Int32) : Prop := ∀ (H : Heap) (locs : List Loc) (ls : Array Slot) (x2 : Int32) (x3 : Int32), k x2 x3 = some out → Rel G h H → va_S (AA G.2.2) s.heap H locs → hpT h r0 = (1, 10) → lv_has ls 4 [(0, .ref (G.2.2 + r0)), (1, .int x1), (2, .int x2), (3, .int x3)] → W p l e rm_X10_seenBy s m args below meth c H locs 0 0 (MQ below (Qm G h h (some (.int out)) 0) args s 0 0 (AA G.2.2)) (F0 m 4 ls [])
set_option maxRecDepth 100000 in
set_option maxHeartbeats 4000000 in
theorem w_X10_seenBy_31 {G : Gt} {l : Launch} {p : Program} {e : Env} {s : State} {m : MethodId} {args : Array Value} {below : List Frame} {meth : Method} {c : Code} {h : Hp} {out : Int32} {r0 : Nat} {x1 : Int32} {k4 : Int32 → Int32 → Option Int32} (C : Cx G p m c cX10_seenBy 4 s args RX10) (hr : meth.sig.returnType = some .int) (hlk : meth.locks = false) (hk4 : P_X10_seenBy_4 G l p e s m args below meth c h out r0 x1 k4) : P_X10_seenBy_31 G l p e s m args below meth c h out r0 x1 (f_X10_seenBy_31 h r0 x1 k4) := by
  intro H locs ls s0 s1 x3 hf hR hS t_r0 hl
  rw [f_X10_seenBy_31] at hf
  refine lv_ior C.x C.b dX10_seenBy_31 ?_
  refine lv_topi (fun v5 e_v5 => ?_)
  have hf := lt_e hf e_v5
  refine lv_istore_n (lv' := [(2, .int v5), (0, .ref (G.2.2 + r0)), (1, .int x1), (3, .int x3)]) C.x C.b dX10_seenBy_32 rfl hl (by decide) rfl (fun ls hl => ?_)
  obtain ⟨v6, e_v6⟩ : ∃ y : Int32, y = x3 + (1 : Int32) := ⟨_, rfl⟩
  have hf := lt_e hf e_v6
  refine lv_iinc (v := v6) (lv' := [(3, .int v6), (2, .int v5), (0, .ref (G.2.2 + r0)), (1, .int x1)]) C.x C.b dX10_seenBy_33 hl (k := 3) rfl (by rw [e_v6]; rfl) (by decide) rfl (fun ls hl => ?_)
  refine lv_goto (tgt := 4) C.x C.b dX10_seenBy_36 (by decide) ?_
  exact hk4 _ _ _ _ _ hf hR hS t_r0 (lv_sub hl [2, 3, 1, 0] rfl)
set_option maxRecDepth 100000 in
set_option maxHeartbeats 4000000 in
theorem w_X10_seenBy_4 {G : Gt} {l : Launch} {p : Program} {e : Env} {s : State} {m : MethodId} {args : Array Value} {below : List Frame} {meth : Method} {c : Code} {h : Hp} {out : Int32} {r0 : Nat} {x1 : Int32}  (C : Cx G p m c cX10_seenBy 4 s args RX10) (hr : meth.sig.returnType = some .int) (hlk : meth.locks = false)  (n : Nat) : P_X10_seenBy_4 G l p e s m args below meth c h out r0 x1 (f_X10_seenBy_4 h r0 x1 n) := by
  induction n with
  | zero => intro H locs ls x2 x3 hf hR hS t_r0 hl; cases hf
  | succ n hk4 =>
    intro H locs ls x2 x3 hf hR hS t_r0 hl
    rw [f_X10_seenBy_4] at hf
    obtain ⟨k4, e_k4⟩ : ∃ y, y = f_X10_seenBy_4 h r0 x1 n := ⟨_, rfl⟩
    have hf := lt_e hf e_k4
    rw [← e_k4] at hk4
    refine lv_iload_n C.x C.b dX10_seenBy_4 rfl (lv_at hl 3 rfl) ?_
    refine lv_aload_n C.x C.b dX10_seenBy_5 rfl (lv_at hl 0 rfl) ?_
    refine r_geti C hR t_r0 fl_X10_13 rfl dX10_seenBy_6 ?_
    refine lv_icmp_ge (tgt := 39) C.x C.b dX10_seenBy_9 (by decide) (fun c1 => ?_) (fun c1 => ?_)
    · have hf := it_t hf c1
      refine lv_iload_n C.x C.b dX10_seenBy_39 rfl (lv_at hl 2 rfl) ?_
      have hf := so_e hf
      subst hf
      exact r_iret C hr hlk hR Ext.rf hS dX10_seenBy_40
    · have hf := it_f hf c1
      refine lv_iload_n C.x C.b dX10_seenBy_12 rfl (lv_at hl 2 rfl) ?_
      refine lv_iload_n C.x C.b dX10_seenBy_13 rfl (lv_at hl 1 rfl) ?_
      refine lv_i2l C.x C.b dX10_seenBy_14 rfl ?_
      refine lv_iload_n C.x C.b dX10_seenBy_15 rfl (lv_at hl 3 rfl) ?_
      obtain ⟨q2, h_q2, hf⟩ := bd_e hf
      refine r_callS (As := [.long (x1.toInt64), .int x3]) (rest := [.int x2]) C hR hS mk_X10_has cl_X10_137 (k_X10_has h_q2) ⟨⟨Nat.le_of_ble_eq_true rfl, Nat.le_of_ble_eq_true rfl⟩, ⟨rfl, rfl⟩, Nat.le_of_ble_eq_true rfl, Nat.le_of_ble_eq_true rfl⟩ rfl hl.1 rfl (Nat.le_of_ble_eq_true rfl) dX10_seenBy_16 (fun H locs hR hS hE1 z_q2 => ?_)
      have z_q2 := z_q2 _ rfl
      refine lv_if_eq (tgt := 30) C.x C.b dX10_seenBy_19 (by decide) (fun c3 => ?_) (fun c3 => ?_)
      · have hf := it_t hf c3
        refine lv_iconst (v := (0 : Int32)) C.x C.b dX10_seenBy_30 (by decide) ?_
        exact w_X10_seenBy_31 C hr hlk hk4 _ _ _ _ _ _ hf hR hS t_r0 (lv_sub hl [0, 1, 3] rfl)
      · have hf := it_f hf c3
        refine lv_aload_n C.x C.b dX10_seenBy_22 rfl (lv_at hl 0 rfl) ?_
        refine lv_iload_n C.x C.b dX10_seenBy_23 rfl (lv_at hl 3 rfl) ?_
        obtain ⟨q4, h_q4, hf⟩ := bd_e hf
        refine r_callV (As := [.int x3]) (rest := [.int x2]) C hR hS t_r0 rfl mk_X10_seenFrom cl_X10_409 (k_X10_seenFrom t_r0 h_q4) ⟨⟨Nat.le_of_ble_eq_true rfl, Nat.le_of_ble_eq_true rfl⟩, ⟨rfl, rfl⟩, Nat.le_of_ble_eq_true rfl, Nat.le_of_ble_eq_true rfl⟩ rfl hl.1 rfl (Nat.le_of_ble_eq_true rfl) dX10_seenBy_24 (fun H locs hR hS hE1 z_q4 => ?_)
        refine lv_goto (tgt := 31) C.x C.b dX10_seenBy_27 (by decide) ?_
        exact w_X10_seenBy_31 C hr hlk hk4 _ _ _ _ _ _ hf hR hS t_r0 (lv_sub hl [0, 1, 3] rfl)
set_option maxRecDepth 100000 in
set_option maxHeartbeats 4000000 in
theorem k_X10_seenBy {G : Gt} {l : Launch} {h : Hp} {r0 : Nat} {x1 : Int32} {out : Int32} (t_r0 : hpT h r0 = (1, 10))  (hf : f_X10_seenBy h r0 x1 = some out) : Mt G l yX10_seenBy cX10_seenBy 4 (some .int) rm_X10_seenBy [.ref (G.2.2 + r0), .int x1] h (some (.int out)) h 0 0 0 := by
  refine r_met (by decide +kernel) (Nat.le_of_ble_eq_true rfl) ?_
  intro p e s m args below meth c ls C hr hlk hnm hR hS hl
  have hl : lv_has ls 4 [(0, .ref (G.2.2 + r0)), (1, .int x1)] := hl
  rw [f_X10_seenBy] at hf
  refine lv_iconst (v := (0 : Int32)) C.x C.b dX10_seenBy_0 (by decide) ?_
  refine lv_istore_n (lv' := [(2, .int (0 : Int32)), (0, .ref (G.2.2 + r0)), (1, .int x1)]) C.x C.b dX10_seenBy_1 rfl hl (by decide) rfl (fun ls hl => ?_)
  refine lv_iconst (v := (0 : Int32)) C.x C.b dX10_seenBy_2 (by decide) ?_
  refine lv_istore_n (lv' := [(3, .int (0 : Int32)), (2, .int (0 : Int32)), (0, .ref (G.2.2 + r0)), (1, .int x1)]) C.x C.b dX10_seenBy_3 rfl hl (by decide) rfl (fun ls hl => ?_)
  exact w_X10_seenBy_4 C hr hlk FU _ _ _ _ _ hf hR hS t_r0 (lv_sub hl [2, 3, 1, 0] rfl)

def rm_X10_seats : Room := { frames := 6, cells := 0, slots := 0, locals := 148 }
def P_X10_seats_54 (G : Gt) (l : Launch) (p : Program) (e : Env) (s : State) (m : MethodId) (args : Array Value) (below : List Frame) (meth : Method) (c : Code) (h0 : Hp) (out : (Int32 × Hp)) (r0 : Nat) (k : Hp → Int32 → Int32 → Int32 → Option (Int32 × Hp)) : Prop := ∀ (H : Heap) (locs : List Loc) (ls : Array Slot) (h : Hp) (s0 : Int32) (x1 : Int32) (x3 : Int32), k h s0 x1 x3 = some out → Ext h0 h → Rel G h H → va_S (AA G.2.2) s.heap H locs → hpT h r0 = (1, 10) → lv_has ls 4 [(0, .ref (G.2.2 + r0)), (1, .int x1), (3, .int x3)] → W p l e rm_X10_seats s m args below meth c H locs 0 0 (MQ below (Qm G h0 out.2 (some (.int out.1)) 0) args s 0 0 (AA G.2.2)) (F0 m 54 ls [.int s0])
def P_X10_seats_53 (G : Gt) (l : Launch) (p : Program) (e : Env) (s : State) (m : MethodId) (args : Array Value) (below : List Frame) (meth : Method) (c : Code) (h0 : Hp) (out : (Int32 × Hp)) (r0 : Nat) (k : Hp → Int32 → Int32 → Int32 → Option (Int32 × Hp)) : Prop := ∀ (H : Heap) (locs : List Loc) (ls : Array Slot) (h : Hp) (x1 : Int32) (x2 : Int32) (x3 : Int32), k h x1 x2 x3 = some out → Ext h0 h → Rel G h H → va_S (AA G.2.2) s.heap H locs → hpT h r0 = (1, 10) → lv_has ls 4 [(0, .ref (G.2.2 + r0)), (1, .int x1), (2, .int x2), (3, .int x3)] → W p l e rm_X10_seats s m args below meth c H locs 0 0 (MQ below (Qm G h0 out.2 (some (.int out.1)) 0) args s 0 0 (AA G.2.2)) (F0 m 53 ls [])
def P_X10_seats_22 (G : Gt) (l : Launch) (p : Program) (e : Env) (s : State) (m : MethodId) (args : Array Value) (below : List Frame) (meth : Method) (c : Code) (h0 : Hp) (out : (Int32 × Hp)) (r0 : Nat) (k : Hp → Int32 → Int32 → Int32 → Option (Int32 × Hp)) : Prop := ∀ (H : Heap) (locs : List Loc) (ls : Array Slot) (h : Hp) (x1 : Int32) (x2 : Int32) (x3 : Int32), k h x1 x2 x3 = some out → Ext h0 h → Rel G h H → va_S (AA G.2.2) s.heap H locs → hpT h r0 = (1, 10) → lv_has ls 4 [(0, .ref (G.2.2 + r0)), (1, .int x1), (2, .int x2), (3, .int x3)] → W p l e rm_X10_seats s m args below meth c H locs 0 0 (MQ below (Qm G h0 out.2 (some (.int out.1)) 0) args s 0 0 (AA G.2.2)) (F0 m 22 ls [])
set_option maxRecDepth 100000 in
set_option maxHeartbeats 4000000 in
theorem w_X10_seats_54 {G : Gt} {l : Launch} {p : Program} {e : Env} {s : State} {m : MethodId} {args : Array Value} {below : List Frame} {meth : Method} {c : Code} {h0 : Hp} {out : (Int32 × Hp)} {r0 : Nat} {k22 : Hp → Int32 → Int32 → Int32 → Option (Int32 × Hp)} (C : Cx G p m c cX10_seats 4 s args RX10) (hr : meth.sig.returnType = some .int) (hlk : meth.locks = false) (hk22 : P_X10_seats_22 G l p e s m args below meth c h0 out r0 k22) : P_X10_seats_54 G l p e s m args below meth c h0 out r0 (f_X10_seats_54 r0 k22) := by
  intro H locs ls h s0 x1 x3 hf hE hR hS t_r0 hl
  rw [f_X10_seats_54] at hf
  refine lv_istore_n (lv' := [(2, .int s0), (0, .ref (G.2.2 + r0)), (1, .int x1), (3, .int x3)]) C.x C.b dX10_seats_54 rfl hl (by decide) rfl (fun ls hl => ?_)
  obtain ⟨v17, e_v17⟩ : ∃ y : Int32, y = x3 + (1 : Int32) := ⟨_, rfl⟩
  have hf := lt_e hf e_v17
  refine lv_iinc (v := v17) (lv' := [(3, .int v17), (2, .int s0), (0, .ref (G.2.2 + r0)), (1, .int x1)]) C.x C.b dX10_seats_55 hl (k := 3) rfl (by rw [e_v17]; rfl) (by decide) rfl (fun ls hl => ?_)
  refine lv_goto (tgt := 22) C.x C.b dX10_seats_58 (by decide) ?_
  exact hk22 _ _ _ _ _ _ _ hf hE hR hS t_r0 (lv_sub hl [2, 3, 1, 0] rfl)
set_option maxRecDepth 100000 in
set_option maxHeartbeats 4000000 in
theorem w_X10_seats_53 {G : Gt} {l : Launch} {p : Program} {e : Env} {s : State} {m : MethodId} {args : Array Value} {below : List Frame} {meth : Method} {c : Code} {h0 : Hp} {out : (Int32 × Hp)} {r0 : Nat} {k22 : Hp → Int32 → Int32 → Int32 → Option (Int32 × Hp)} (C : Cx G p m c cX10_seats 4 s args RX10) (hr : meth.sig.returnType = some .int) (hlk : meth.locks = false) (hk22 : P_X10_seats_22 G l p e s m args below meth c h0 out r0 k22) : P_X10_seats_53 G l p e s m args below meth c h0 out r0 (f_X10_seats_53 r0 k22) := by
  intro H locs ls h x1 x2 x3 hf hE hR hS t_r0 hl
  rw [f_X10_seats_53] at hf
  refine lv_iload_n C.x C.b dX10_seats_53 rfl (lv_at hl 2 rfl) ?_
  exact w_X10_seats_54 C hr hlk hk22 _ _ _ _ _ _ _ hf hE hR hS t_r0 (lv_sub hl [0, 1, 3] rfl)
set_option maxRecDepth 100000 in
set_option maxHeartbeats 4000000 in
theorem w_X10_seats_22 {G : Gt} {l : Launch} {p : Program} {e : Env} {s : State} {m : MethodId} {args : Array Value} {below : List Frame} {meth : Method} {c : Code} {h0 : Hp} {out : (Int32 × Hp)} {r0 : Nat}  (C : Cx G p m c cX10_seats 4 s args RX10) (hr : meth.sig.returnType = some .int) (hlk : meth.locks = false)  (n : Nat) : P_X10_seats_22 G l p e s m args below meth c h0 out r0 (f_X10_seats_22 r0 n) := by
  induction n with
  | zero => intro H locs ls h x1 x2 x3 hf hE hR hS t_r0 hl; cases hf
  | succ n hk22 =>
    intro H locs ls h x1 x2 x3 hf hE hR hS t_r0 hl
    rw [f_X10_seats_22] at hf
    obtain ⟨k22, e_k22⟩ : ∃ y, y = f_X10_seats_22 r0 n := ⟨_, rfl⟩
    have hf := lt_e hf e_k22
    rw [← e_k22] at hk22
    refine lv_iload_n C.x C.b dX10_seats_22 rfl (lv_at hl 3 rfl) ?_
    refine lv_iconst (v := (1 : Int32)) C.x C.b dX10_seats_23 (by decide) ?_
    refine lv_aload_n C.x C.b dX10_seats_24 rfl (lv_at hl 0 rfl) ?_
    refine r_geti C hR t_r0 fl_X10_13 rfl dX10_seats_25 ?_
    refine lv_ishl C.x C.b dX10_seats_28 ?_
    refine lv_topi (fun v4 e_v4 => ?_)
    have hf := lt_e hf e_v4
    refine lv_icmp_ge (tgt := 61) C.x C.b dX10_seats_29 (by decide) (fun c5 => ?_) (fun c5 => ?_)
    · have hf := it_t hf c5
      refine lv_aload_n C.x C.b dX10_seats_61 rfl (lv_at hl 0 rfl) ?_
      refine lv_iconst (v := (0 : Int32)) C.x C.b dX10_seats_62 (by decide) ?_
      refine r_puti C hR hS t_r0 fl_X10_110 fp_X10_10_1 rfl dX10_seats_63 (fun H locs hR hS => ?_)
      obtain ⟨h6, e_h6⟩ : ∃ y, y = upI h r0 1 (0 : Int32) := ⟨_, rfl⟩
      rw [← e_h6] at hR
      have hf := lt_e hf e_h6
      have hE := eI e_h6 hE
      have t_r0 := tI e_h6 t_r0
      refine lv_aload_n C.x C.b dX10_seats_66 rfl (lv_at hl 0 rfl) ?_
      refine lv_iload_n C.x C.b dX10_seats_67 rfl (lv_at hl 2 rfl) ?_
      refine lv_i2l C.x C.b dX10_seats_68 rfl ?_
      obtain ⟨q7, h_q7, hf⟩ := bd_e hf
      refine r_callV (As := [.long (x2.toInt64)]) (rest := []) C hR hS t_r0 rfl mk_X10_enters cl_X10_339 (k_X10_enters t_r0 h_q7) ⟨⟨Nat.le_of_ble_eq_true rfl, Nat.le_of_ble_eq_true rfl⟩, ⟨rfl, rfl⟩, Nat.le_of_ble_eq_true rfl, Nat.le_of_ble_eq_true rfl⟩ rfl hl.1 rfl (Nat.le_of_ble_eq_true rfl) dX10_seats_69 (fun H locs hR hS hE1 z_q7 => ?_)
      have hE := hE.tr hE1
      have t_r0 := hE1.at t_r0 (by decide)
      refine lv_aload_n C.x C.b dX10_seats_72 rfl (lv_at hl 0 rfl) ?_
      refine lv_aload_n C.x C.b dX10_seats_73 rfl (lv_at hl 0 rfl) ?_
      obtain ⟨g8, hf⟩ := gd_e hf
      refine r_getr C hR t_r0 fl_X10_20 (by decide) (nz_e g8) dX10_seats_74 (fun tq9 => ?_)
      have tg8 := okA tq9 rfl
      obtain ⟨q10, h_q10, hf⟩ := bd_e hf
      refine r_callS (As := [.ref (G.2.2 + (hpR q7 r0 6))]) (rest := [.ref (G.2.2 + r0)]) C hR hS mk_X10_on cl_X10_311 (k_X10_on tg8 h_q10) ⟨⟨Nat.le_of_ble_eq_true rfl, Nat.le_of_ble_eq_true rfl⟩, ⟨rfl, rfl⟩, Nat.le_of_ble_eq_true rfl, Nat.le_of_ble_eq_true rfl⟩ rfl hl.1 rfl (Nat.le_of_ble_eq_true rfl) dX10_seats_77 (fun H locs hR hS hE1 z_q10 => ?_)
      refine lv_iload_n C.x C.b dX10_seats_80 rfl (lv_at hl 1 rfl) ?_
      refine lv_iconst (v := (-1 : Int32)) C.x C.b dX10_seats_81 (by decide) ?_
      refine lv_ixor C.x C.b dX10_seats_82 ?_
      refine lv_iand C.x C.b dX10_seats_83 ?_
      refine lv_i2l C.x C.b dX10_seats_84 rfl ?_
      obtain ⟨q11, h_q11, hf⟩ := bd_e hf
      refine r_callV (As := [.long ((q10 &&& (x1 ^^^ (-1 : Int32))).toInt64)]) (rest := []) C hR hS t_r0 rfl mk_X10_enters cl_X10_339 (k_X10_enters t_r0 h_q11) ⟨⟨Nat.le_of_ble_eq_true rfl, Nat.le_of_ble_eq_true rfl⟩, ⟨rfl, rfl⟩, Nat.le_of_ble_eq_true rfl, Nat.le_of_ble_eq_true rfl⟩ rfl hl.1 rfl (Nat.le_of_ble_eq_true rfl) dX10_seats_85 (fun H locs hR hS hE1 z_q11 => ?_)
      have hE := hE.tr hE1
      have t_r0 := hE1.at t_r0 (by decide)
      refine lv_iload_n C.x C.b dX10_seats_88 rfl (lv_at hl 2 rfl) ?_
      obtain ⟨q12, h_q12, hf⟩ := bd_e hf
      refine r_callS (As := [.int x2]) (rest := []) C hR hS mk_J6_bitCount_0f7a4 cl_X10_264 (k_J6_bitCount_0f7a4 h_q12) ⟨⟨Nat.le_of_ble_eq_true rfl, Nat.le_of_ble_eq_true rfl⟩, ⟨rfl, rfl⟩, Nat.le_of_ble_eq_true rfl, Nat.le_of_ble_eq_true rfl⟩ rfl hl.1 rfl (Nat.le_of_ble_eq_true rfl) dX10_seats_89 (fun H locs hR hS hE1 z_q12 => ?_)
      have hf := so_e hf
      subst hf
      exact r_iret C hr hlk hR hE hS dX10_seats_92
    · have hf := it_f hf c5
      refine lv_iload_n C.x C.b dX10_seats_32 rfl (lv_at hl 3 rfl) ?_
      refine lv_iload_n C.x C.b dX10_seats_33 rfl (lv_at hl 2 rfl) ?_
      obtain ⟨q13, h_q13, hf⟩ := bd_e hf
      refine r_callS (As := [.int x3, .int x2]) (rest := []) C hR hS mk_X10_isFewer cl_X10_393 (k_X10_isFewer h_q13) ⟨⟨Nat.le_of_ble_eq_true rfl, Nat.le_of_ble_eq_true rfl⟩, ⟨rfl, rfl⟩, Nat.le_of_ble_eq_true rfl, Nat.le_of_ble_eq_true rfl⟩ rfl hl.1 rfl (Nat.le_of_ble_eq_true rfl) dX10_seats_34 (fun H locs hR hS hE1 z_q13 => ?_)
      have z_q13 := z_q13 _ rfl
      refine lv_if_eq (tgt := 53) C.x C.b dX10_seats_37 (by decide) (fun c14 => ?_) (fun c14 => ?_)
      · have hf := it_t hf c14
        exact w_X10_seats_53 C hr hlk hk22 _ _ _ _ _ _ _ hf hE hR hS t_r0 (lv_sub hl [0, 1, 2, 3] rfl)
      · have hf := it_f hf c14
        refine lv_aload_n C.x C.b dX10_seats_40 rfl (lv_at hl 0 rfl) ?_
        refine lv_iload_n C.x C.b dX10_seats_41 rfl (lv_at hl 3 rfl) ?_
        obtain ⟨q15, h_q15, hf⟩ := bd_e hf
        refine r_callV (As := [.int x3]) (rest := []) C hR hS t_r0 rfl mk_X10_seenBy cl_X10_412 (k_X10_seenBy t_r0 h_q15) ⟨⟨Nat.le_of_ble_eq_true rfl, Nat.le_of_ble_eq_true rfl⟩, ⟨rfl, rfl⟩, Nat.le_of_ble_eq_true rfl, Nat.le_of_ble_eq_true rfl⟩ rfl hl.1 rfl (Nat.le_of_ble_eq_true rfl) dX10_seats_42 (fun H locs hR hS hE1 z_q15 => ?_)
        refine lv_iload_n C.x C.b dX10_seats_45 rfl (lv_at hl 1 rfl) ?_
        refine lv_icmp_ne (tgt := 53) C.x C.b dX10_seats_46 (by decide) (fun c16 => ?_) (fun c16 => ?_)
        · have hf := it_f hf c16
          exact w_X10_seats_53 C hr hlk hk22 _ _ _ _ _ _ _ hf hE hR hS t_r0 (lv_sub hl [0, 1, 2, 3] rfl)
        · have hf := it_t hf c16
          refine lv_iload_n C.x C.b dX10_seats_49 rfl (lv_at hl 3 rfl) ?_
          refine lv_goto (tgt := 54) C.x C.b dX10_seats_50 (by decide) ?_
          exact w_X10_seats_54 C hr hlk hk22 _ _ _ _ _ _ _ hf hE hR hS t_r0 (lv_sub hl [0, 1, 3] rfl)
set_option maxRecDepth 100000 in
set_option maxHeartbeats 4000000 in
theorem k_X10_seats {G : Gt} {l : Launch} {h : Hp} {r0 : Nat} {out : (Int32 × Hp)} (t_r0 : hpT h r0 = (1, 10))  (hf : f_X10_seats h r0 = some out) : Mt G l yX10_seats cX10_seats 4 (some .int) rm_X10_seats [.ref (G.2.2 + r0)] h (some (.int out.1)) out.2 0 0 0 := by
  refine r_met (by decide +kernel) (Nat.le_of_ble_eq_true rfl) ?_
  intro p e s m args below meth c ls C hr hlk hnm hR hS hl
  have hE : Ext h h := Ext.rf
  have hl : lv_has ls 4 [(0, .ref (G.2.2 + r0))] := hl
  rw [f_X10_seats] at hf
  refine lv_aload_n C.x C.b dX10_seats_0 rfl (lv_at hl 0 rfl) ?_
  refine lv_iconst (v := (0 : Int32)) C.x C.b dX10_seats_1 (by decide) ?_
  refine r_puti C hR hS t_r0 fl_X10_103 fp_X10_10_0 rfl dX10_seats_2 (fun H locs hR hS => ?_)
  obtain ⟨h1, e_h1⟩ : ∃ y, y = upI h r0 0 (0 : Int32) := ⟨_, rfl⟩
  rw [← e_h1] at hR
  have hf := lt_e hf e_h1
  have hE := eI e_h1 hE
  have t_r0 := tI e_h1 t_r0
  refine lv_aload_n C.x C.b dX10_seats_5 rfl (lv_at hl 0 rfl) ?_
  refine lv_iconst (v := (1 : Int32)) C.x C.b dX10_seats_6 (by decide) ?_
  refine lv_aload_n C.x C.b dX10_seats_7 rfl (lv_at hl 0 rfl) ?_
  refine r_geti C hR t_r0 fl_X10_13 rfl dX10_seats_8 ?_
  refine lv_ishl C.x C.b dX10_seats_11 ?_
  refine lv_topi (fun v2 e_v2 => ?_)
  have hf := lt_e hf e_v2
  refine lv_iconst (v := (1 : Int32)) C.x C.b dX10_seats_12 (by decide) ?_
  refine lv_isub C.x C.b dX10_seats_13 ?_
  obtain ⟨q3, h_q3, hf⟩ := bd_e hf
  refine r_callV (As := [.int (v2 - (1 : Int32))]) (rest := []) C hR hS t_r0 rfl mk_X10_seenBy cl_X10_412 (k_X10_seenBy t_r0 h_q3) ⟨⟨Nat.le_of_ble_eq_true rfl, Nat.le_of_ble_eq_true rfl⟩, ⟨rfl, rfl⟩, Nat.le_of_ble_eq_true rfl, Nat.le_of_ble_eq_true rfl⟩ rfl hl.1 rfl (Nat.le_of_ble_eq_true rfl) dX10_seats_14 (fun H locs hR hS hE1 z_q3 => ?_)
  refine lv_istore_n (lv' := [(1, .int q3), (0, .ref (G.2.2 + r0))]) C.x C.b dX10_seats_17 rfl hl (by decide) rfl (fun ls hl => ?_)
  refine lv_iconst (v := (-1 : Int32)) C.x C.b dX10_seats_18 (by decide) ?_
  refine lv_istore_n (lv' := [(2, .int (-1 : Int32)), (1, .int q3), (0, .ref (G.2.2 + r0))]) C.x C.b dX10_seats_19 rfl hl (by decide) rfl (fun ls hl => ?_)
  refine lv_iconst (v := (0 : Int32)) C.x C.b dX10_seats_20 (by decide) ?_
  refine lv_istore_n (lv' := [(3, .int (0 : Int32)), (2, .int (-1 : Int32)), (1, .int q3), (0, .ref (G.2.2 + r0))]) C.x C.b dX10_seats_21 rfl hl (by decide) rfl (fun ls hl => ?_)
  exact w_X10_seats_22 C hr hlk FU _ _ _ _ _ _ _ hf hE hR hS t_r0 (lv_sub hl [3, 2, 1, 0] rfl)

def rm_X10_marked : Room := { frames := 2, cells := 0, slots := 0, locals := 46 }
set_option maxRecDepth 100000 in
set_option maxHeartbeats 4000000 in
theorem k_X10_marked {G : Gt} {l : Launch} {h : Hp} {r0 : Nat} {x1 : Int32} {x2 : Int32} {x3 : Int32} {out : (Int32 × Hp)} (t_r0 : hpT h r0 = (1, 10))  (hf : f_X10_marked h r0 x1 x2 x3 = some out) : Mt G l yX10_marked cX10_marked 4 (some .int) rm_X10_marked [.ref (G.2.2 + r0), .int x1, .int x2, .int x3] h (some (.int out.1)) out.2 0 0 0 := by
  refine r_met (by decide +kernel) (Nat.le_of_ble_eq_true rfl) ?_
  intro p e s m args below meth c ls C hr hlk hnm hR hS hl
  have hE : Ext h h := Ext.rf
  have hl : lv_has ls 4 [(0, .ref (G.2.2 + r0)), (1, .int x1), (2, .int x2), (3, .int x3)] := hl
  rw [f_X10_marked] at hf
  refine lv_aload_n C.x C.b dX10_marked_0 rfl (lv_at hl 0 rfl) ?_
  refine lv_iconst (v := (0 : Int32)) C.x C.b dX10_marked_1 (by decide) ?_
  refine r_puti C hR hS t_r0 fl_X10_103 fp_X10_10_0 rfl dX10_marked_2 (fun H locs hR hS => ?_)
  obtain ⟨h1, e_h1⟩ : ∃ y, y = upI h r0 0 (0 : Int32) := ⟨_, rfl⟩
  rw [← e_h1] at hR
  have hf := lt_e hf e_h1
  have hE := eI e_h1 hE
  have t_r0 := tI e_h1 t_r0
  refine lv_aload_n C.x C.b dX10_marked_5 rfl (lv_at hl 0 rfl) ?_
  refine lv_iload_n C.x C.b dX10_marked_6 rfl (lv_at hl 1 rfl) ?_
  obtain ⟨q2, h_q2, hf⟩ := bd_e hf
  refine r_callV (As := [.int x1]) (rest := []) C hR hS t_r0 rfl mk_X10_isCamp cl_X10_278 (k_X10_isCamp t_r0 h_q2) ⟨⟨Nat.le_of_ble_eq_true rfl, Nat.le_of_ble_eq_true rfl⟩, ⟨rfl, rfl⟩, Nat.le_of_ble_eq_true rfl, Nat.le_of_ble_eq_true rfl⟩ rfl hl.1 rfl (Nat.le_of_ble_eq_true rfl) dX10_marked_7 (fun H locs hR hS hE1 z_q2 => ?_)
  have z_q2 := z_q2 _ rfl
  refine lv_if_eq (tgt := 44) C.x C.b dX10_marked_10 (by decide) (fun c3 => ?_) (fun c3 => ?_)
  · have hf := it_t hf c3
    refine lv_iconst (v := (-1 : Int32)) C.x C.b dX10_marked_44 (by decide) ?_
    have hf := so_e hf
    subst hf
    exact r_iret C hr hlk hR hE hS dX10_marked_45
  · have hf := it_f hf c3
    refine lv_iload_n C.x C.b dX10_marked_13 rfl (lv_at hl 2 rfl) ?_
    refine lv_i2l C.x C.b dX10_marked_14 rfl ?_
    refine lv_lconst (v := (0 : Int64)) C.x C.b dX10_marked_15 (by decide) ?_
    refine lv_ldc2 C.x C.b C.ow (C.ts _ lk_X10_415) dX10_marked_16 ?_
    obtain ⟨q4, h_q4, hf⟩ := bd_e hf
    refine r_callS (As := [.long (x2.toInt64), .long (0 : Int64), .long (30 : Int64)]) (rest := []) C hR hS mk_X10_in cl_X10_117 (k_X10_in h_q4) ⟨⟨Nat.le_of_ble_eq_true rfl, Nat.le_of_ble_eq_true rfl⟩, ⟨rfl, rfl⟩, Nat.le_of_ble_eq_true rfl, Nat.le_of_ble_eq_true rfl⟩ rfl hl.1 rfl (Nat.le_of_ble_eq_true rfl) dX10_marked_19 (fun H locs hR hS hE1 z_q4 => ?_)
    have z_q4 := z_q4 _ rfl
    refine lv_if_eq (tgt := 44) C.x C.b dX10_marked_22 (by decide) (fun c5 => ?_) (fun c5 => ?_)
    · have hf := it_t hf c5
      refine lv_iconst (v := (-1 : Int32)) C.x C.b dX10_marked_44 (by decide) ?_
      have hf := so_e hf
      subst hf
      exact r_iret C hr hlk hR hE hS dX10_marked_45
    · have hf := it_f hf c5
      refine lv_iload_n C.x C.b dX10_marked_25 rfl (lv_at hl 3 rfl) ?_
      refine lv_i2l C.x C.b dX10_marked_26 rfl ?_
      refine lv_lconst (v := (0 : Int64)) C.x C.b dX10_marked_27 (by decide) ?_
      refine lv_lconst (v := (1 : Int64)) C.x C.b dX10_marked_28 (by decide) ?_
      obtain ⟨q6, h_q6, hf⟩ := bd_e hf
      refine r_callS (As := [.long (x3.toInt64), .long (0 : Int64), .long (1 : Int64)]) (rest := []) C hR hS mk_X10_in cl_X10_117 (k_X10_in h_q6) ⟨⟨Nat.le_of_ble_eq_true rfl, Nat.le_of_ble_eq_true rfl⟩, ⟨rfl, rfl⟩, Nat.le_of_ble_eq_true rfl, Nat.le_of_ble_eq_true rfl⟩ rfl hl.1 rfl (Nat.le_of_ble_eq_true rfl) dX10_marked_29 (fun H locs hR hS hE1 z_q6 => ?_)
      have z_q6 := z_q6 _ rfl
      refine lv_if_eq (tgt := 44) C.x C.b dX10_marked_32 (by decide) (fun c7 => ?_) (fun c7 => ?_)
      · have hf := it_t hf c7
        refine lv_iconst (v := (-1 : Int32)) C.x C.b dX10_marked_44 (by decide) ?_
        have hf := so_e hf
        subst hf
        exact r_iret C hr hlk hR hE hS dX10_marked_45
      · have hf := it_f hf c7
        refine lv_aload_n C.x C.b dX10_marked_35 rfl (lv_at hl 0 rfl) ?_
        refine r_geti C hR t_r0 fl_X10_197 rfl dX10_marked_36 ?_
        refine lv_bipush (v := (10 : Int32)) C.x C.b dX10_marked_39 (by decide) ?_
        refine lv_icmp_ne (tgt := 46) C.x C.b dX10_marked_41 (by decide) (fun c8 => ?_) (fun c8 => ?_)
        · have hf := it_f hf c8
          refine lv_aload_n C.x C.b dX10_marked_46 rfl (lv_at hl 0 rfl) ?_
          obtain ⟨g9, hf⟩ := gd_e hf
          refine r_getr C hR t_r0 fl_X10_66 (by decide) (nz_e g9) dX10_marked_47 (fun tq10 => ?_)
          have tg9 := okA tq10 rfl
          refine lv_aload_n C.x C.b dX10_marked_50 rfl (lv_at hl 0 rfl) ?_
          refine r_geti C hR t_r0 fl_X10_197 rfl dX10_marked_51 ?_
          refine lv_iload_n C.x C.b dX10_marked_54 rfl (lv_at hl 1 rfl) ?_
          obtain ⟨g11, hf⟩ := gd_e hf
          refine r_iast C hR hS tg9 g11 dX10_marked_55 (fun H locs hR hS => ?_)
          obtain ⟨h12, e_h12⟩ : ∃ y, y = upI h1 (hpR h1 r0 32) (ix (hpI h1 r0 31)) x1 := ⟨_, rfl⟩
          rw [← e_h12] at hR
          have hf := lt_e hf e_h12
          have hE := eI e_h12 hE
          have t_r0 := tI e_h12 t_r0
          refine lv_aload_n C.x C.b dX10_marked_56 rfl (lv_at hl 0 rfl) ?_
          obtain ⟨g13, hf⟩ := gd_e hf
          refine r_getr C hR t_r0 fl_X10_69 (by decide) (nz_e g13) dX10_marked_57 (fun tq14 => ?_)
          have tg13 := okA tq14 rfl
          refine lv_aload_n C.x C.b dX10_marked_60 rfl (lv_at hl 0 rfl) ?_
          refine r_geti C hR t_r0 fl_X10_197 rfl dX10_marked_61 ?_
          refine lv_iload_n C.x C.b dX10_marked_64 rfl (lv_at hl 2 rfl) ?_
          obtain ⟨g15, hf⟩ := gd_e hf
          refine r_iast C hR hS tg13 g15 dX10_marked_65 (fun H locs hR hS => ?_)
          obtain ⟨h16, e_h16⟩ : ∃ y, y = upI h12 (hpR h12 r0 33) (ix (hpI h12 r0 31)) x2 := ⟨_, rfl⟩
          rw [← e_h16] at hR
          have hf := lt_e hf e_h16
          have hE := eI e_h16 hE
          have t_r0 := tI e_h16 t_r0
          refine lv_aload_n C.x C.b dX10_marked_66 rfl (lv_at hl 0 rfl) ?_
          obtain ⟨g17, hf⟩ := gd_e hf
          refine r_getr C hR t_r0 fl_X10_72 (by decide) (nz_e g17) dX10_marked_67 (fun tq18 => ?_)
          have tg17 := okA tq18 rfl
          refine lv_aload_n C.x C.b dX10_marked_70 rfl (lv_at hl 0 rfl) ?_
          refine r_geti C hR t_r0 fl_X10_197 rfl dX10_marked_71 ?_
          refine lv_iload_n C.x C.b dX10_marked_74 rfl (lv_at hl 3 rfl) ?_
          obtain ⟨g19, hf⟩ := gd_e hf
          refine r_iast C hR hS tg17 g19 dX10_marked_75 (fun H locs hR hS => ?_)
          obtain ⟨h20, e_h20⟩ : ∃ y, y = upI h16 (hpR h16 r0 34) (ix (hpI h16 r0 31)) x3 := ⟨_, rfl⟩
          rw [← e_h20] at hR
          have hf := lt_e hf e_h20
          have hE := eI e_h20 hE
          have t_r0 := tI e_h20 t_r0
          refine lv_aload_n C.x C.b dX10_marked_76 rfl (lv_at hl 0 rfl) ?_
          refine lv_dup C.x C.b dX10_marked_77 rfl ?_
          refine r_geti C hR t_r0 fl_X10_197 rfl dX10_marked_78 ?_
          refine lv_iconst (v := (1 : Int32)) C.x C.b dX10_marked_81 (by decide) ?_
          refine lv_iadd C.x C.b dX10_marked_82 ?_
          refine r_puti C hR hS t_r0 fl_X10_197 fp_X10_10_31 rfl dX10_marked_83 (fun H locs hR hS => ?_)
          obtain ⟨h21, e_h21⟩ : ∃ y, y = upI h20 r0 31 ((hpI h20 r0 31) + (1 : Int32)) := ⟨_, rfl⟩
          rw [← e_h21] at hR
          have hf := lt_e hf e_h21
          have hE := eI e_h21 hE
          have t_r0 := tI e_h21 t_r0
          refine lv_aload_n C.x C.b dX10_marked_86 rfl (lv_at hl 0 rfl) ?_
          refine r_geti C hR t_r0 fl_X10_197 rfl dX10_marked_87 ?_
          have hf := so_e hf
          subst hf
          exact r_iret C hr hlk hR hE hS dX10_marked_90
        · have hf := it_t hf c8
          refine lv_iconst (v := (-1 : Int32)) C.x C.b dX10_marked_44 (by decide) ?_
          have hf := so_e hf
          subst hf
          exact r_iret C hr hlk hR hE hS dX10_marked_45

def rm_X10_wiped : Room := { frames := 0, cells := 0, slots := 0, locals := 0 }
set_option maxRecDepth 100000 in
set_option maxHeartbeats 4000000 in
theorem k_X10_wiped {G : Gt} {l : Launch} {h : Hp} {r0 : Nat} {out : (Int32 × Hp)} (t_r0 : hpT h r0 = (1, 10))  (hf : f_X10_wiped h r0 = some out) : Mt G l yX10_wiped cX10_wiped 2 (some .int) rm_X10_wiped [.ref (G.2.2 + r0)] h (some (.int out.1)) out.2 0 0 0 := by
  refine r_met (by decide +kernel) (Nat.le_of_ble_eq_true rfl) ?_
  intro p e s m args below meth c ls C hr hlk hnm hR hS hl
  have hE : Ext h h := Ext.rf
  have hl : lv_has ls 2 [(0, .ref (G.2.2 + r0))] := hl
  rw [f_X10_wiped] at hf
  refine lv_aload_n C.x C.b dX10_wiped_0 rfl (lv_at hl 0 rfl) ?_
  refine lv_iconst (v := (0 : Int32)) C.x C.b dX10_wiped_1 (by decide) ?_
  refine r_puti C hR hS t_r0 fl_X10_103 fp_X10_10_0 rfl dX10_wiped_2 (fun H locs hR hS => ?_)
  obtain ⟨h1, e_h1⟩ : ∃ y, y = upI h r0 0 (0 : Int32) := ⟨_, rfl⟩
  rw [← e_h1] at hR
  have hf := lt_e hf e_h1
  have hE := eI e_h1 hE
  have t_r0 := tI e_h1 t_r0
  refine lv_aload_n C.x C.b dX10_wiped_5 rfl (lv_at hl 0 rfl) ?_
  refine r_geti C hR t_r0 fl_X10_197 rfl dX10_wiped_6 ?_
  refine lv_topi (fun v2 e_v2 => ?_)
  have hf := lt_e hf e_v2
  refine lv_istore_n (lv' := [(1, .int v2), (0, .ref (G.2.2 + r0))]) C.x C.b dX10_wiped_9 rfl hl (by decide) rfl (fun ls hl => ?_)
  refine lv_aload_n C.x C.b dX10_wiped_10 rfl (lv_at hl 1 rfl) ?_
  refine lv_iconst (v := (0 : Int32)) C.x C.b dX10_wiped_11 (by decide) ?_
  refine r_puti C hR hS t_r0 fl_X10_197 fp_X10_10_31 rfl dX10_wiped_12 (fun H locs hR hS => ?_)
  obtain ⟨h3, e_h3⟩ : ∃ y, y = upI h1 r0 31 (0 : Int32) := ⟨_, rfl⟩
  rw [← e_h3] at hR
  have hf := lt_e hf e_h3
  have hE := eI e_h3 hE
  have t_r0 := tI e_h3 t_r0
  refine lv_iload_n C.x C.b dX10_wiped_15 rfl (lv_at hl 0 rfl) ?_
  have hf := so_e hf
  subst hf
  exact r_iret C hr hlk hR hE hS dX10_wiped_16

def rm_X10_isLaw : Room := { frames := 7, cells := 0, slots := 0, locals := 171 }
def P_X10_isLaw_113 (G : Gt) (l : Launch) (p : Program) (e : Env) (s : State) (m : MethodId) (args : Array Value) (below : List Frame) (meth : Method) (c : Code) (h0 : Hp) (out : (Int32 × Hp)) (r0 : Nat) (x1 : Int32) (k : Hp → Int32 → Int32 → Option (Int32 × Hp)) : Prop := ∀ (H : Heap) (locs : List Loc) (ls : Array Slot) (h : Hp) (s0 : Int32) (x3 : Int32), k h s0 x3 = some out → Ext h0 h → Rel G h H → va_S (AA G.2.2) s.heap H locs → hpT h r0 = (1, 10) → narrow .boolean (.int s0) = .int s0 → lv_has ls 4 [(0, .ref (G.2.2 + r0)), (1, .int x1), (3, .int x3)] → W p l e rm_X10_isLaw s m args below meth c H locs 0 0 (MQ below (Qm G h0 out.2 (some (.int out.1)) 1) args s 0 0 (AA G.2.2)) (F0 m 113 ls [.int s0])
def P_X10_isLaw_112 (G : Gt) (l : Launch) (p : Program) (e : Env) (s : State) (m : MethodId) (args : Array Value) (below : List Frame) (meth : Method) (c : Code) (h0 : Hp) (out : (Int32 × Hp)) (r0 : Nat) (x1 : Int32) (k : Hp → Int32 → Option (Int32 × Hp)) : Prop := ∀ (H : Heap) (locs : List Loc) (ls : Array Slot) (h : Hp) (x3 : Int32), k h x3 = some out → Ext h0 h → Rel G h H → va_S (AA G.2.2) s.heap H locs → hpT h r0 = (1, 10) → lv_has ls 4 [(0, .ref (G.2.2 + r0)), (1, .int x1), (3, .int x3)] → W p l e rm_X10_isLaw s m args below meth c H locs 0 0 (MQ below (Qm G h0 out.2 (some (.int out.1)) 1) args s 0 0 (AA G.2.2)) (F0 m 112 ls [])
def P_X10_isLaw_58 (G : Gt) (l : Launch) (p : Program) (e : Env) (s : State) (m : MethodId) (args : Array Value) (below : List Frame) (meth : Method) (c : Code) (h0 : Hp) (out : (Int32 × Hp)) (r0 : Nat) (x1 : Int32) (k : Hp → Int32 → Int32 → Option (Int32 × Hp)) : Prop := ∀ (H : Heap) (locs : List Loc) (ls : Array Slot) (h : Hp) (x2 : Int32) (x3 : Int32), k h x2 x3 = some out → Ext h0 h → Rel G h H → va_S (AA G.2.2) s.heap H locs → hpT h r0 = (1, 10) → narrow .boolean (.int x2) = .int x2 → lv_has ls 4 [(0, .ref (G.2.2 + r0)), (1, .int x1), (2, .int x2), (3, .int x3)] → W p l e rm_X10_isLaw s m args below meth c H locs 0 0 (MQ below (Qm G h0 out.2 (some (.int out.1)) 1) args s 0 0 (AA G.2.2)) (F0 m 58 ls [])
def P_X10_isLaw_11 (G : Gt) (l : Launch) (p : Program) (e : Env) (s : State) (m : MethodId) (args : Array Value) (below : List Frame) (meth : Method) (c : Code) (h0 : Hp) (out : (Int32 × Hp)) (r0 : Nat) (x1 : Int32) (k : Hp → Int32 → Option (Int32 × Hp)) : Prop := ∀ (H : Heap) (locs : List Loc) (ls : Array Slot) (h : Hp) (x2 : Int32), k h x2 = some out → Ext h0 h → Rel G h H → va_S (AA G.2.2) s.heap H locs → hpT h r0 = (1, 10) → lv_has ls 4 [(0, .ref (G.2.2 + r0)), (1, .int x1), (2, .int x2)] → W p l e rm_X10_isLaw s m args below meth c H locs 0 0 (MQ below (Qm G h0 out.2 (some (.int out.1)) 1) args s 0 0 (AA G.2.2)) (F0 m 11 ls [])
set_option maxRecDepth 100000 in
set_option maxHeartbeats 4000000 in
theorem w_X10_isLaw_113 {G : Gt} {l : Launch} {p : Program} {e : Env} {s : State} {m : MethodId} {args : Array Value} {below : List Frame} {meth : Method} {c : Code} {h0 : Hp} {out : (Int32 × Hp)} {r0 : Nat} {x1 : Int32} {k58 : Hp → Int32 → Int32 → Option (Int32 × Hp)} (C : Cx G p m c cX10_isLaw 4 s args RX10) (hr : meth.sig.returnType = some .boolean) (hlk : meth.locks = false) (hk58 : P_X10_isLaw_58 G l p e s m args below meth c h0 out r0 x1 k58) : P_X10_isLaw_113 G l p e s m args below meth c h0 out r0 x1 (f_X10_isLaw_113 r0 x1 k58) := by
  intro H locs ls h s0 x3 hf hE hR hS t_r0 z_s0 hl
  rw [f_X10_isLaw_113] at hf
  refine lv_istore_n (lv' := [(2, .int s0), (0, .ref (G.2.2 + r0)), (1, .int x1), (3, .int x3)]) C.x C.b dX10_isLaw_113 rfl hl (by decide) rfl (fun ls hl => ?_)
  obtain ⟨v33, e_v33⟩ : ∃ y : Int32, y = x3 + (1 : Int32) := ⟨_, rfl⟩
  have hf := lt_e hf e_v33
  refine lv_iinc (v := v33) (lv' := [(3, .int v33), (2, .int s0), (0, .ref (G.2.2 + r0)), (1, .int x1)]) C.x C.b dX10_isLaw_114 hl (k := 3) rfl (by rw [e_v33]; rfl) (by decide) rfl (fun ls hl => ?_)
  refine lv_goto (tgt := 58) C.x C.b dX10_isLaw_117 (by decide) ?_
  exact hk58 _ _ _ _ _ _ hf hE hR hS t_r0 z_s0 (lv_sub hl [2, 3, 1, 0] rfl)
set_option maxRecDepth 100000 in
set_option maxHeartbeats 4000000 in
theorem w_X10_isLaw_112 {G : Gt} {l : Launch} {p : Program} {e : Env} {s : State} {m : MethodId} {args : Array Value} {below : List Frame} {meth : Method} {c : Code} {h0 : Hp} {out : (Int32 × Hp)} {r0 : Nat} {x1 : Int32} {k58 : Hp → Int32 → Int32 → Option (Int32 × Hp)} (C : Cx G p m c cX10_isLaw 4 s args RX10) (hr : meth.sig.returnType = some .boolean) (hlk : meth.locks = false) (hk58 : P_X10_isLaw_58 G l p e s m args below meth c h0 out r0 x1 k58) : P_X10_isLaw_112 G l p e s m args below meth c h0 out r0 x1 (f_X10_isLaw_112 r0 x1 k58) := by
  intro H locs ls h x3 hf hE hR hS t_r0 hl
  rw [f_X10_isLaw_112] at hf
  refine lv_iconst (v := (0 : Int32)) C.x C.b dX10_isLaw_112 (by decide) ?_
  exact w_X10_isLaw_113 C hr hlk hk58 _ _ _ _ _ _ hf hE hR hS t_r0 z_0 (lv_sub hl [0, 1, 2] rfl)
set_option maxRecDepth 100000 in
set_option maxHeartbeats 4000000 in
theorem w_X10_isLaw_58 {G : Gt} {l : Launch} {p : Program} {e : Env} {s : State} {m : MethodId} {args : Array Value} {below : List Frame} {meth : Method} {c : Code} {h0 : Hp} {out : (Int32 × Hp)} {r0 : Nat} {x1 : Int32}  (C : Cx G p m c cX10_isLaw 4 s args RX10) (hr : meth.sig.returnType = some .boolean) (hlk : meth.locks = false)  (n : Nat) : P_X10_isLaw_58 G l p e s m args below meth c h0 out r0 x1 (f_X10_isLaw_58 r0 x1 n) := by
  induction n with
  | zero => intro H locs ls h x2 x3 hf hE hR hS t_r0 z_x2 hl; cases hf
  | succ n hk58 =>
    intro H locs ls h x2 x3 hf hE hR hS t_r0 z_x2 hl
    rw [f_X10_isLaw_58] at hf
    obtain ⟨k58, e_k58⟩ : ∃ y, y = f_X10_isLaw_58 r0 x1 n := ⟨_, rfl⟩
    have hf := lt_e hf e_k58
    rw [← e_k58] at hk58
    refine lv_iload_n C.x C.b dX10_isLaw_58 rfl (lv_at hl 3 rfl) ?_
    refine lv_aload_n C.x C.b dX10_isLaw_59 rfl (lv_at hl 0 rfl) ?_
    refine r_geti C hR t_r0 fl_X10_197 rfl dX10_isLaw_60 ?_
    refine lv_icmp_ge (tgt := 120) C.x C.b dX10_isLaw_63 (by decide) (fun c16 => ?_) (fun c16 => ?_)
    · have hf := it_t hf c16
      refine lv_iload_n C.x C.b dX10_isLaw_120 rfl (lv_at hl 2 rfl) ?_
      have hf := so_e hf
      subst hf
      exact r_zret C hr hlk hR hE hS z_x2 dX10_isLaw_121
    · have hf := it_f hf c16
      refine lv_iload_n C.x C.b dX10_isLaw_66 rfl (lv_at hl 2 rfl) ?_
      refine lv_if_eq (tgt := 112) C.x C.b dX10_isLaw_67 (by decide) (fun c17 => ?_) (fun c17 => ?_)
      · have hf := it_t hf c17
        exact w_X10_isLaw_112 C hr hlk hk58 _ _ _ _ _ hf hE hR hS t_r0 (lv_sub hl [0, 1, 3] rfl)
      · have hf := it_f hf c17
        refine lv_aload_n C.x C.b dX10_isLaw_70 rfl (lv_at hl 0 rfl) ?_
        obtain ⟨g18, hf⟩ := gd_e hf
        refine r_getr C hR t_r0 fl_X10_75 (by decide) (nz_e g18) dX10_isLaw_71 (fun tq19 => ?_)
        have tg18 := okA tq19 rfl
        refine lv_iload_n C.x C.b dX10_isLaw_74 rfl (lv_at hl 1 rfl) ?_
        refine lv_bipush (v := (31 : Int32)) C.x C.b dX10_isLaw_75 (by decide) ?_
        refine lv_imul C.x C.b dX10_isLaw_77 ?_
        refine lv_aload_n C.x C.b dX10_isLaw_78 rfl (lv_at hl 0 rfl) ?_
        obtain ⟨g20, hf⟩ := gd_e hf
        refine r_getr C hR t_r0 fl_X10_69 (by decide) (nz_e g20) dX10_isLaw_79 (fun tq21 => ?_)
        have tg20 := okA tq21 rfl
        refine lv_iload_n C.x C.b dX10_isLaw_82 rfl (lv_at hl 3 rfl) ?_
        obtain ⟨g22, hf⟩ := gd_e hf
        refine r_iald C hR tg20 g22 dX10_isLaw_83 ?_
        refine lv_iadd C.x C.b dX10_isLaw_84 ?_
        obtain ⟨g23, hf⟩ := gd_e hf
        refine r_iald C hR tg18 g23 dX10_isLaw_85 ?_
        refine lv_i2l C.x C.b dX10_isLaw_86 rfl ?_
        refine lv_aload_n C.x C.b dX10_isLaw_87 rfl (lv_at hl 0 rfl) ?_
        obtain ⟨g24, hf⟩ := gd_e hf
        refine r_getr C hR t_r0 fl_X10_66 (by decide) (nz_e g24) dX10_isLaw_88 (fun tq25 => ?_)
        have tg24 := okA tq25 rfl
        refine lv_iload_n C.x C.b dX10_isLaw_91 rfl (lv_at hl 3 rfl) ?_
        obtain ⟨g26, hf⟩ := gd_e hf
        refine r_iald C hR tg24 g26 dX10_isLaw_92 ?_
        obtain ⟨q27, h_q27, hf⟩ := bd_e hf
        refine r_callS (As := [.long ((hpI h (hpR h r0 35) (ix ((x1 * (31 : Int32)) + (hpI h (hpR h r0 33) (ix x3))))).toInt64), .int (hpI h (hpR h r0 32) (ix x3))]) (rest := []) C hR hS mk_X10_has cl_X10_137 (k_X10_has h_q27) ⟨⟨Nat.le_of_ble_eq_true rfl, Nat.le_of_ble_eq_true rfl⟩, ⟨rfl, rfl⟩, Nat.le_of_ble_eq_true rfl, Nat.le_of_ble_eq_true rfl⟩ rfl hl.1 rfl (Nat.le_of_ble_eq_true rfl) dX10_isLaw_93 (fun H locs hR hS hE1 z_q27 => ?_)
        have z_q27 := z_q27 _ rfl
        obtain ⟨q28, h_q28, hf⟩ := bd_e hf
        refine r_callS (As := [.int q27]) (rest := []) C hR hS mk_X10_flag cl_X10_163 (k_X10_flag h_q28) ⟨⟨Nat.le_of_ble_eq_true rfl, Nat.le_of_ble_eq_true rfl⟩, ⟨rfl, rfl⟩, Nat.le_of_ble_eq_true rfl, Nat.le_of_ble_eq_true rfl⟩ rfl hl.1 rfl (Nat.le_of_ble_eq_true rfl) dX10_isLaw_96 (fun H locs hR hS hE1 z_q28 => ?_)
        refine lv_aload_n C.x C.b dX10_isLaw_99 rfl (lv_at hl 0 rfl) ?_
        obtain ⟨g29, hf⟩ := gd_e hf
        refine r_getr C hR t_r0 fl_X10_72 (by decide) (nz_e g29) dX10_isLaw_100 (fun tq30 => ?_)
        have tg29 := okA tq30 rfl
        refine lv_iload_n C.x C.b dX10_isLaw_103 rfl (lv_at hl 3 rfl) ?_
        obtain ⟨g31, hf⟩ := gd_e hf
        refine r_iald C hR tg29 g31 dX10_isLaw_104 ?_
        refine lv_icmp_ne (tgt := 112) C.x C.b dX10_isLaw_105 (by decide) (fun c32 => ?_) (fun c32 => ?_)
        · have hf := it_f hf c32
          exact w_X10_isLaw_112 C hr hlk hk58 _ _ _ _ _ hf hE hR hS t_r0 (lv_sub hl [0, 1, 3] rfl)
        · have hf := it_t hf c32
          refine lv_iconst (v := (1 : Int32)) C.x C.b dX10_isLaw_108 (by decide) ?_
          refine lv_goto (tgt := 113) C.x C.b dX10_isLaw_109 (by decide) ?_
          exact w_X10_isLaw_113 C hr hlk hk58 _ _ _ _ _ _ hf hE hR hS t_r0 z_1 (lv_sub hl [0, 1, 3] rfl)
set_option maxRecDepth 100000 in
set_option maxHeartbeats 4000000 in
theorem w_X10_isLaw_11 {G : Gt} {l : Launch} {p : Program} {e : Env} {s : State} {m : MethodId} {args : Array Value} {below : List Frame} {meth : Method} {c : Code} {h0 : Hp} {out : (Int32 × Hp)} {r0 : Nat} {x1 : Int32}  (C : Cx G p m c cX10_isLaw 4 s args RX10) (hr : meth.sig.returnType = some .boolean) (hlk : meth.locks = false)  (n : Nat) : P_X10_isLaw_11 G l p e s m args below meth c h0 out r0 x1 (f_X10_isLaw_11 r0 x1 n) := by
  induction n with
  | zero => intro H locs ls h x2 hf hE hR hS t_r0 hl; cases hf
  | succ n hk11 =>
    intro H locs ls h x2 hf hE hR hS t_r0 hl
    rw [f_X10_isLaw_11] at hf
    obtain ⟨k11, e_k11⟩ : ∃ y, y = f_X10_isLaw_11 r0 x1 n := ⟨_, rfl⟩
    have hf := lt_e hf e_k11
    rw [← e_k11] at hk11
    refine lv_iload_n C.x C.b dX10_isLaw_11 rfl (lv_at hl 2 rfl) ?_
    refine lv_bipush (v := (30 : Int32)) C.x C.b dX10_isLaw_12 (by decide) ?_
    refine lv_icmp_gt (tgt := 49) C.x C.b dX10_isLaw_14 (by decide) (fun c3 => ?_) (fun c3 => ?_)
    · have hf := it_t hf c3
      refine lv_aload_n C.x C.b dX10_isLaw_49 rfl (lv_at hl 0 rfl) ?_
      refine lv_iconst (v := (-1 : Int32)) C.x C.b dX10_isLaw_50 (by decide) ?_
      refine r_puti C hR hS t_r0 fl_X10_45 fp_X10_10_21 rfl dX10_isLaw_51 (fun H locs hR hS => ?_)
      obtain ⟨h4, e_h4⟩ : ∃ y, y = upI h r0 21 (-1 : Int32) := ⟨_, rfl⟩
      rw [← e_h4] at hR
      have hf := lt_e hf e_h4
      have hE := eI e_h4 hE
      have t_r0 := tI e_h4 t_r0
      refine lv_iconst (v := (1 : Int32)) C.x C.b dX10_isLaw_54 (by decide) ?_
      refine lv_istore_n (lv' := [(2, .int (1 : Int32)), (0, .ref (G.2.2 + r0)), (1, .int x1)]) C.x C.b dX10_isLaw_55 rfl hl (by decide) rfl (fun ls hl => ?_)
      refine lv_iconst (v := (0 : Int32)) C.x C.b dX10_isLaw_56 (by decide) ?_
      refine lv_istore_n (lv' := [(3, .int (0 : Int32)), (2, .int (1 : Int32)), (0, .ref (G.2.2 + r0)), (1, .int x1)]) C.x C.b dX10_isLaw_57 rfl hl (by decide) rfl (fun ls hl => ?_)
      exact w_X10_isLaw_58 C hr hlk FU _ _ _ _ _ _ hf hE hR hS t_r0 z_1 (lv_sub hl [2, 3, 1, 0] rfl)
    · have hf := it_f hf c3
      refine lv_aload_n C.x C.b dX10_isLaw_17 rfl (lv_at hl 0 rfl) ?_
      obtain ⟨g5, hf⟩ := gd_e hf
      refine r_getr C hR t_r0 fl_X10_75 (by decide) (nz_e g5) dX10_isLaw_18 (fun tq6 => ?_)
      have tg5 := okA tq6 rfl
      refine lv_iload_n C.x C.b dX10_isLaw_21 rfl (lv_at hl 1 rfl) ?_
      refine lv_bipush (v := (31 : Int32)) C.x C.b dX10_isLaw_22 (by decide) ?_
      refine lv_imul C.x C.b dX10_isLaw_24 ?_
      refine lv_iload_n C.x C.b dX10_isLaw_25 rfl (lv_at hl 2 rfl) ?_
      refine lv_iadd C.x C.b dX10_isLaw_26 ?_
      refine lv_aload_n C.x C.b dX10_isLaw_27 rfl (lv_at hl 0 rfl) ?_
      obtain ⟨g7, hf⟩ := gd_e hf
      refine r_getr C hR t_r0 fl_X10_24 (by decide) (nz_e g7) dX10_isLaw_28 (fun tq8 => ?_)
      have tg7 := okA tq8 rfl
      obtain ⟨q9, h_q9, hf⟩ := bd_e hf
      refine r_callS (As := [.ref (G.2.2 + (hpR h r0 7))]) (rest := [.int ((x1 * (31 : Int32)) + x2), .ref (G.2.2 + (hpR h r0 35))]) C hR hS mk_X10_on cl_X10_311 (k_X10_on tg7 h_q9) ⟨⟨Nat.le_of_ble_eq_true rfl, Nat.le_of_ble_eq_true rfl⟩, ⟨rfl, rfl⟩, Nat.le_of_ble_eq_true rfl, Nat.le_of_ble_eq_true rfl⟩ rfl hl.1 rfl (Nat.le_of_ble_eq_true rfl) dX10_isLaw_31 (fun H locs hR hS hE1 z_q9 => ?_)
      obtain ⟨g10, hf⟩ := gd_e hf
      refine r_iast C hR hS tg5 g10 dX10_isLaw_34 (fun H locs hR hS => ?_)
      obtain ⟨h11, e_h11⟩ : ∃ y, y = upI h (hpR h r0 35) (ix ((x1 * (31 : Int32)) + x2)) q9 := ⟨_, rfl⟩
      rw [← e_h11] at hR
      have hf := lt_e hf e_h11
      have hE := eI e_h11 hE
      have t_r0 := tI e_h11 t_r0
      refine lv_aload_n C.x C.b dX10_isLaw_35 rfl (lv_at hl 0 rfl) ?_
      refine lv_aload_n C.x C.b dX10_isLaw_36 rfl (lv_at hl 0 rfl) ?_
      obtain ⟨g12, hf⟩ := gd_e hf
      refine r_getr C hR t_r0 fl_X10_24 (by decide) (nz_e g12) dX10_isLaw_37 (fun tq13 => ?_)
      have tg12 := okA tq13 rfl
      obtain ⟨q14, h_q14, hf⟩ := bd_e hf
      refine r_callV (As := [.ref (G.2.2 + (hpR h11 r0 7))]) (rest := []) C hR hS t_r0 rfl mk_X10_yearGoes cl_X10_318 (k_X10_yearGoes t_r0 tg12 h_q14) ⟨⟨Nat.le_of_ble_eq_true rfl, Nat.le_of_ble_eq_true rfl⟩, ⟨rfl, rfl⟩, Nat.le_of_ble_eq_true rfl, Nat.le_of_ble_eq_true rfl⟩ rfl hl.1 rfl (Nat.le_of_ble_eq_true rfl) dX10_isLaw_40 (fun H locs hR hS hE1 z_q14 => ?_)
      have hE := hE.tr hE1
      have t_r0 := hE1.at t_r0 (by decide)
      obtain ⟨v15, e_v15⟩ : ∃ y : Int32, y = x2 + (1 : Int32) := ⟨_, rfl⟩
      have hf := lt_e hf e_v15
      refine lv_iinc (v := v15) (lv' := [(2, .int v15), (0, .ref (G.2.2 + r0)), (1, .int x1)]) C.x C.b dX10_isLaw_43 hl (k := 2) rfl (by rw [e_v15]; rfl) (by decide) rfl (fun ls hl => ?_)
      refine lv_goto (tgt := 11) C.x C.b dX10_isLaw_46 (by decide) ?_
      exact hk11 _ _ _ _ _ hf hE hR hS t_r0 (lv_sub hl [1, 2, 0] rfl)
set_option maxRecDepth 100000 in
set_option maxHeartbeats 4000000 in
theorem k_X10_isLaw {G : Gt} {l : Launch} {h : Hp} {r0 : Nat} {x1 : Int32} {out : (Int32 × Hp)} (t_r0 : hpT h r0 = (1, 10))  (hf : f_X10_isLaw h r0 x1 = some out) : Mt G l yX10_isLaw cX10_isLaw 4 (some .boolean) rm_X10_isLaw [.ref (G.2.2 + r0), .int x1] h (some (.int out.1)) out.2 1 0 0 := by
  refine r_met (by decide +kernel) (Nat.le_of_ble_eq_true rfl) ?_
  intro p e s m args below meth c ls C hr hlk hnm hR hS hl
  have hE : Ext h h := Ext.rf
  have hl : lv_has ls 4 [(0, .ref (G.2.2 + r0)), (1, .int x1)] := hl
  rw [f_X10_isLaw] at hf
  refine lv_aload_n C.x C.b dX10_isLaw_0 rfl (lv_at hl 0 rfl) ?_
  obtain ⟨q1, h_q1, hf⟩ := bd_e hf
  refine r_callV (As := []) (rest := []) C hR hS t_r0 rfl mk_X10_copies cl_X10_379 (k_X10_copies t_r0 h_q1) ⟨⟨Nat.le_of_ble_eq_true rfl, Nat.le_of_ble_eq_true rfl⟩, ⟨rfl, rfl⟩, Nat.le_of_ble_eq_true rfl, Nat.le_of_ble_eq_true rfl⟩ rfl hl.1 rfl (Nat.le_of_ble_eq_true rfl) dX10_isLaw_1 (fun H locs hR hS hE1 z_q1 => ?_)
  have hE := hE.tr hE1
  have t_r0 := hE1.at t_r0 (by decide)
  refine lv_aload_n C.x C.b dX10_isLaw_4 rfl (lv_at hl 0 rfl) ?_
  refine lv_iload_n C.x C.b dX10_isLaw_5 rfl (lv_at hl 1 rfl) ?_
  refine r_puti C hR hS t_r0 fl_X10_45 fp_X10_10_21 rfl dX10_isLaw_6 (fun H locs hR hS => ?_)
  obtain ⟨h2, e_h2⟩ : ∃ y, y = upI q1 r0 21 x1 := ⟨_, rfl⟩
  rw [← e_h2] at hR
  have hf := lt_e hf e_h2
  have hE := eI e_h2 hE
  have t_r0 := tI e_h2 t_r0
  refine lv_iconst (v := (0 : Int32)) C.x C.b dX10_isLaw_9 (by decide) ?_
  refine lv_istore_n (lv' := [(2, .int (0 : Int32)), (0, .ref (G.2.2 + r0)), (1, .int x1)]) C.x C.b dX10_isLaw_10 rfl hl (by decide) rfl (fun ls hl => ?_)
  exact w_X10_isLaw_11 C hr hlk FU _ _ _ _ _ hf hE hR hS t_r0 (lv_sub hl [1, 2, 0] rfl)

def rm_X10_laws : Room := { frames := 8, cells := 0, slots := 0, locals := 194 }
def P_X10_laws_50 (G : Gt) (l : Launch) (p : Program) (e : Env) (s : State) (m : MethodId) (args : Array Value) (below : List Frame) (meth : Method) (c : Code) (h0 : Hp) (out : (Int32 × Hp)) (r0 : Nat) (k : Hp → Int32 → Int32 → Int32 → Option (Int32 × Hp)) : Prop := ∀ (H : Heap) (locs : List Loc) (ls : Array Slot) (h : Hp) (x1 : Int32) (x2 : Int32) (x3 : Int32), k h x1 x2 x3 = some out → Ext h0 h → Rel G h H → va_S (AA G.2.2) s.heap H locs → hpT h r0 = (1, 10) → narrow .boolean (.int x3) = .int x3 → lv_has ls 4 [(0, .ref (G.2.2 + r0)), (1, .int x1), (2, .int x2), (3, .int x3)] → W p l e rm_X10_laws s m args below meth c H locs 0 0 (MQ below (Qm G h0 out.2 (some (.int out.1)) 0) args s 0 0 (AA G.2.2)) (F0 m 50 ls [])
def P_X10_laws_14 (G : Gt) (l : Launch) (p : Program) (e : Env) (s : State) (m : MethodId) (args : Array Value) (below : List Frame) (meth : Method) (c : Code) (h0 : Hp) (out : (Int32 × Hp)) (r0 : Nat) (k : Hp → Int32 → Int32 → Option (Int32 × Hp)) : Prop := ∀ (H : Heap) (locs : List Loc) (ls : Array Slot) (h : Hp) (x1 : Int32) (x2 : Int32), k h x1 x2 = some out → Ext h0 h → Rel G h H → va_S (AA G.2.2) s.heap H locs → hpT h r0 = (1, 10) → lv_has ls 4 [(0, .ref (G.2.2 + r0)), (1, .int x1), (2, .int x2)] → W p l e rm_X10_laws s m args below meth c H locs 0 0 (MQ below (Qm G h0 out.2 (some (.int out.1)) 0) args s 0 0 (AA G.2.2)) (F0 m 14 ls [])
set_option maxRecDepth 100000 in
set_option maxHeartbeats 4000000 in
theorem w_X10_laws_50 {G : Gt} {l : Launch} {p : Program} {e : Env} {s : State} {m : MethodId} {args : Array Value} {below : List Frame} {meth : Method} {c : Code} {h0 : Hp} {out : (Int32 × Hp)} {r0 : Nat} {k14 : Hp → Int32 → Int32 → Option (Int32 × Hp)} (C : Cx G p m c cX10_laws 4 s args RX10) (hr : meth.sig.returnType = some .int) (hlk : meth.locks = false) (hk14 : P_X10_laws_14 G l p e s m args below meth c h0 out r0 k14) : P_X10_laws_50 G l p e s m args below meth c h0 out r0 (f_X10_laws_50 r0 k14) := by
  intro H locs ls h x1 x2 x3 hf hE hR hS t_r0 z_x3 hl
  rw [f_X10_laws_50] at hf
  refine lv_iload_n C.x C.b dX10_laws_50 rfl (lv_at hl 1 rfl) ?_
  refine lv_iload_n C.x C.b dX10_laws_51 rfl (lv_at hl 3 rfl) ?_
  obtain ⟨q10, h_q10, hf⟩ := bd_e hf
  refine r_callS (As := [.int x3]) (rest := [.int x1]) C hR hS mk_X10_flag cl_X10_163 (k_X10_flag h_q10) ⟨⟨Nat.le_of_ble_eq_true rfl, Nat.le_of_ble_eq_true rfl⟩, ⟨rfl, rfl⟩, Nat.le_of_ble_eq_true rfl, Nat.le_of_ble_eq_true rfl⟩ rfl hl.1 rfl (Nat.le_of_ble_eq_true rfl) dX10_laws_52 (fun H locs hR hS hE1 z_q10 => ?_)
  refine lv_iadd C.x C.b dX10_laws_55 ?_
  refine lv_topi (fun v11 e_v11 => ?_)
  have hf := lt_e hf e_v11
  refine lv_istore_n (lv' := [(1, .int v11), (0, .ref (G.2.2 + r0)), (2, .int x2), (3, .int x3)]) C.x C.b dX10_laws_56 rfl hl (by decide) rfl (fun ls hl => ?_)
  obtain ⟨v12, e_v12⟩ : ∃ y : Int32, y = x2 + (1 : Int32) := ⟨_, rfl⟩
  have hf := lt_e hf e_v12
  refine lv_iinc (v := v12) (lv' := [(2, .int v12), (1, .int v11), (0, .ref (G.2.2 + r0)), (3, .int x3)]) C.x C.b dX10_laws_57 hl (k := 2) rfl (by rw [e_v12]; rfl) (by decide) rfl (fun ls hl => ?_)
  refine lv_goto (tgt := 14) C.x C.b dX10_laws_60 (by decide) ?_
  exact hk14 _ _ _ _ _ _ hf hE hR hS t_r0 (lv_sub hl [2, 1, 0] rfl)
set_option maxRecDepth 100000 in
set_option maxHeartbeats 4000000 in
theorem w_X10_laws_14 {G : Gt} {l : Launch} {p : Program} {e : Env} {s : State} {m : MethodId} {args : Array Value} {below : List Frame} {meth : Method} {c : Code} {h0 : Hp} {out : (Int32 × Hp)} {r0 : Nat}  (C : Cx G p m c cX10_laws 4 s args RX10) (hr : meth.sig.returnType = some .int) (hlk : meth.locks = false)  (n : Nat) : P_X10_laws_14 G l p e s m args below meth c h0 out r0 (f_X10_laws_14 r0 n) := by
  induction n with
  | zero => intro H locs ls h x1 x2 hf hE hR hS t_r0 hl; cases hf
  | succ n hk14 =>
    intro H locs ls h x1 x2 hf hE hR hS t_r0 hl
    rw [f_X10_laws_14] at hf
    obtain ⟨k14, e_k14⟩ : ∃ y, y = f_X10_laws_14 r0 n := ⟨_, rfl⟩
    have hf := lt_e hf e_k14
    rw [← e_k14] at hk14
    refine lv_iload_n C.x C.b dX10_laws_14 rfl (lv_at hl 2 rfl) ?_
    refine lv_bipush (v := (16 : Int32)) C.x C.b dX10_laws_15 (by decide) ?_
    refine lv_icmp_ge (tgt := 63) C.x C.b dX10_laws_17 (by decide) (fun c3 => ?_) (fun c3 => ?_)
    · have hf := it_t hf c3
      refine lv_iload_n C.x C.b dX10_laws_63 rfl (lv_at hl 1 rfl) ?_
      have hf := so_e hf
      subst hf
      exact r_iret C hr hlk hR hE hS dX10_laws_64
    · have hf := it_f hf c3
      refine lv_aload_n C.x C.b dX10_laws_20 rfl (lv_at hl 0 rfl) ?_
      refine lv_iload_n C.x C.b dX10_laws_21 rfl (lv_at hl 2 rfl) ?_
      obtain ⟨q4, h_q4, hf⟩ := bd_e hf
      refine r_callV (As := [.int x2]) (rest := []) C hR hS t_r0 rfl mk_X10_isLaw cl_X10_417 (k_X10_isLaw t_r0 h_q4) ⟨⟨Nat.le_of_ble_eq_true rfl, Nat.le_of_ble_eq_true rfl⟩, ⟨rfl, rfl⟩, Nat.le_of_ble_eq_true rfl, Nat.le_of_ble_eq_true rfl⟩ rfl hl.1 rfl (Nat.le_of_ble_eq_true rfl) dX10_laws_22 (fun H locs hR hS hE1 z_q4 => ?_)
      have hE := hE.tr hE1
      have t_r0 := hE1.at t_r0 (by decide)
      have z_q4 := z_q4 _ rfl
      refine lv_istore_n (lv' := [(3, .int q4.1), (0, .ref (G.2.2 + r0)), (1, .int x1), (2, .int x2)]) C.x C.b dX10_laws_25 rfl hl (by decide) rfl (fun ls hl => ?_)
      refine lv_iload_n C.x C.b dX10_laws_26 rfl (lv_at hl 0 rfl) ?_
      refine lv_if_eq (tgt := 50) C.x C.b dX10_laws_27 (by decide) (fun c5 => ?_) (fun c5 => ?_)
      · have hf := it_t hf c5
        exact w_X10_laws_50 C hr hlk hk14 _ _ _ _ _ _ _ hf hE hR hS t_r0 z_q4 (lv_sub hl [1, 2, 3, 0] rfl)
      · have hf := it_f hf c5
        refine lv_iload_n C.x C.b dX10_laws_30 rfl (lv_at hl 2 rfl) ?_
        refine lv_if_ne (tgt := 50) C.x C.b dX10_laws_31 (by decide) (fun c6 => ?_) (fun c6 => ?_)
        · have hf := it_f hf c6
          exact w_X10_laws_50 C hr hlk hk14 _ _ _ _ _ _ _ hf hE hR hS t_r0 z_q4 (lv_sub hl [1, 2, 3, 0] rfl)
        · have hf := it_t hf c6
          refine lv_aload_n C.x C.b dX10_laws_34 rfl (lv_at hl 1 rfl) ?_
          refine lv_iload_n C.x C.b dX10_laws_35 rfl (lv_at hl 3 rfl) ?_
          refine lv_iconst (v := (4 : Int32)) C.x C.b dX10_laws_36 (by decide) ?_
          refine lv_idiv C.x C.b dX10_laws_37 (by decide) ?_
          refine lv_i2l C.x C.b dX10_laws_38 rfl ?_
          obtain ⟨q7, h_q7, hf⟩ := bd_e hf
          refine r_callV (As := [.long ((x2 / (4 : Int32)).toInt64)]) (rest := []) C hR hS t_r0 rfl mk_X10_enters cl_X10_339 (k_X10_enters t_r0 h_q7) ⟨⟨Nat.le_of_ble_eq_true rfl, Nat.le_of_ble_eq_true rfl⟩, ⟨rfl, rfl⟩, Nat.le_of_ble_eq_true rfl, Nat.le_of_ble_eq_true rfl⟩ rfl hl.1 rfl (Nat.le_of_ble_eq_true rfl) dX10_laws_39 (fun H locs hR hS hE1 z_q7 => ?_)
          have hE := hE.tr hE1
          have t_r0 := hE1.at t_r0 (by decide)
          refine lv_aload_n C.x C.b dX10_laws_42 rfl (lv_at hl 1 rfl) ?_
          refine lv_iload_n C.x C.b dX10_laws_43 rfl (lv_at hl 3 rfl) ?_
          refine lv_iconst (v := (4 : Int32)) C.x C.b dX10_laws_44 (by decide) ?_
          refine lv_irem C.x C.b dX10_laws_45 (by decide) ?_
          refine lv_topi (fun v8 e_v8 => ?_)
          have hf := lt_e hf e_v8
          refine lv_i2l C.x C.b dX10_laws_46 rfl ?_
          obtain ⟨q9, h_q9, hf⟩ := bd_e hf
          refine r_callV (As := [.long (v8.toInt64)]) (rest := []) C hR hS t_r0 rfl mk_X10_enters cl_X10_339 (k_X10_enters t_r0 h_q9) ⟨⟨Nat.le_of_ble_eq_true rfl, Nat.le_of_ble_eq_true rfl⟩, ⟨rfl, rfl⟩, Nat.le_of_ble_eq_true rfl, Nat.le_of_ble_eq_true rfl⟩ rfl hl.1 rfl (Nat.le_of_ble_eq_true rfl) dX10_laws_47 (fun H locs hR hS hE1 z_q9 => ?_)
          have hE := hE.tr hE1
          have t_r0 := hE1.at t_r0 (by decide)
          exact w_X10_laws_50 C hr hlk hk14 _ _ _ _ _ _ _ hf hE hR hS t_r0 z_q4 (lv_sub hl [1, 2, 3, 0] rfl)
set_option maxRecDepth 100000 in
set_option maxHeartbeats 4000000 in
theorem k_X10_laws {G : Gt} {l : Launch} {h : Hp} {r0 : Nat} {out : (Int32 × Hp)} (t_r0 : hpT h r0 = (1, 10))  (hf : f_X10_laws h r0 = some out) : Mt G l yX10_laws cX10_laws 4 (some .int) rm_X10_laws [.ref (G.2.2 + r0)] h (some (.int out.1)) out.2 0 0 0 := by
  refine r_met (by decide +kernel) (Nat.le_of_ble_eq_true rfl) ?_
  intro p e s m args below meth c ls C hr hlk hnm hR hS hl
  have hE : Ext h h := Ext.rf
  have hl : lv_has ls 4 [(0, .ref (G.2.2 + r0))] := hl
  rw [f_X10_laws] at hf
  refine lv_aload_n C.x C.b dX10_laws_0 rfl (lv_at hl 0 rfl) ?_
  refine lv_iconst (v := (0 : Int32)) C.x C.b dX10_laws_1 (by decide) ?_
  refine r_puti C hR hS t_r0 fl_X10_103 fp_X10_10_0 rfl dX10_laws_2 (fun H locs hR hS => ?_)
  obtain ⟨h1, e_h1⟩ : ∃ y, y = upI h r0 0 (0 : Int32) := ⟨_, rfl⟩
  rw [← e_h1] at hR
  have hf := lt_e hf e_h1
  have hE := eI e_h1 hE
  have t_r0 := tI e_h1 t_r0
  refine lv_iconst (v := (0 : Int32)) C.x C.b dX10_laws_5 (by decide) ?_
  refine lv_istore_n (lv' := [(1, .int (0 : Int32)), (0, .ref (G.2.2 + r0))]) C.x C.b dX10_laws_6 rfl hl (by decide) rfl (fun ls hl => ?_)
  refine lv_aload_n C.x C.b dX10_laws_7 rfl (lv_at hl 1 rfl) ?_
  refine lv_iconst (v := (0 : Int32)) C.x C.b dX10_laws_8 (by decide) ?_
  refine r_puti C hR hS t_r0 fl_X10_110 fp_X10_10_1 rfl dX10_laws_9 (fun H locs hR hS => ?_)
  obtain ⟨h2, e_h2⟩ : ∃ y, y = upI h1 r0 1 (0 : Int32) := ⟨_, rfl⟩
  rw [← e_h2] at hR
  have hf := lt_e hf e_h2
  have hE := eI e_h2 hE
  have t_r0 := tI e_h2 t_r0
  refine lv_iconst (v := (0 : Int32)) C.x C.b dX10_laws_12 (by decide) ?_
  refine lv_istore_n (lv' := [(2, .int (0 : Int32)), (1, .int (0 : Int32)), (0, .ref (G.2.2 + r0))]) C.x C.b dX10_laws_13 rfl hl (by decide) rfl (fun ls hl => ?_)
  exact w_X10_laws_14 C hr hlk FU _ _ _ _ _ _ hf hE hR hS t_r0 (lv_sub hl [2, 1, 0] rfl)

def rm_X10_watch : Room := { frames := 8, cells := 0, slots := 0, locals := 194 }
def P_X10_watch_31 (G : Gt) (l : Launch) (p : Program) (e : Env) (s : State) (m : MethodId) (args : Array Value) (below : List Frame) (meth : Method) (c : Code) (h0 : Hp) (out : (Int32 × Hp)) (r0 : Nat) (k : Hp → Int32 → Int32 → Int32 → Option (Int32 × Hp)) : Prop := ∀ (H : Heap) (locs : List Loc) (ls : Array Slot) (h : Hp) (s0 : Int32) (s1 : Int32) (x2 : Int32), k h s0 s1 x2 = some out → Ext h0 h → Rel G h H → va_S (AA G.2.2) s.heap H locs → hpT h r0 = (1, 10) → lv_has ls 8 [(0, .ref (G.2.2 + r0)), (2, .int x2)] → W p l e rm_X10_watch s m args below meth c H locs 0 0 (MQ below (Qm G h0 out.2 (some (.int out.1)) 0) args s 0 0 (AA G.2.2)) (F0 m 31 ls [.int s1, .int s0])
def P_X10_watch_191 (G : Gt) (l : Launch) (p : Program) (e : Env) (s : State) (m : MethodId) (args : Array Value) (below : List Frame) (meth : Method) (c : Code) (h0 : Hp) (out : (Int32 × Hp)) (r0 : Nat) (k : Hp → Int32 → Int32 → Option (Int32 × Hp)) : Prop := ∀ (H : Heap) (locs : List Loc) (ls : Array Slot) (h : Hp) (x2 : Int32) (x3 : Int32), k h x2 x3 = some out → Ext h0 h → Rel G h H → va_S (AA G.2.2) s.heap H locs → hpT h r0 = (1, 10) → lv_has ls 8 [(0, .ref (G.2.2 + r0)), (2, .int x2), (3, .int x3)] → W p l e rm_X10_watch s m args below meth c H locs 0 0 (MQ below (Qm G h0 out.2 (some (.int out.1)) 0) args s 0 0 (AA G.2.2)) (F0 m 191 ls [])
def P_X10_watch_127 (G : Gt) (l : Launch) (p : Program) (e : Env) (s : State) (m : MethodId) (args : Array Value) (below : List Frame) (meth : Method) (c : Code) (h0 : Hp) (out : (Int32 × Hp)) (r0 : Nat) (k : Hp → Int32 → Int32 → Int32 → Int32 → Int32 → Int32 → Int32 → Int32 → Option (Int32 × Hp)) : Prop := ∀ (H : Heap) (locs : List Loc) (ls : Array Slot) (h : Hp) (s0 : Int32) (s1 : Int32) (x1 : Int32) (x2 : Int32) (x3 : Int32) (x4 : Int32) (x5 : Int32) (x7 : Int32), k h s0 s1 x1 x2 x3 x4 x5 x7 = some out → Ext h0 h → Rel G h H → va_S (AA G.2.2) s.heap H locs → hpT h r0 = (1, 10) → narrow .boolean (.int s1) = .int s1 → lv_has ls 8 [(0, .ref (G.2.2 + r0)), (1, .int x1), (2, .int x2), (3, .int x3), (4, .int x4), (5, .int x5), (7, .int x7)] → W p l e rm_X10_watch s m args below meth c H locs 0 0 (MQ below (Qm G h0 out.2 (some (.int out.1)) 0) args s 0 0 (AA G.2.2)) (F0 m 127 ls [.int s1, .int s0])
def P_X10_watch_126 (G : Gt) (l : Launch) (p : Program) (e : Env) (s : State) (m : MethodId) (args : Array Value) (below : List Frame) (meth : Method) (c : Code) (h0 : Hp) (out : (Int32 × Hp)) (r0 : Nat) (k : Hp → Int32 → Int32 → Int32 → Int32 → Int32 → Int32 → Int32 → Option (Int32 × Hp)) : Prop := ∀ (H : Heap) (locs : List Loc) (ls : Array Slot) (h : Hp) (s0 : Int32) (x1 : Int32) (x2 : Int32) (x3 : Int32) (x4 : Int32) (x5 : Int32) (x7 : Int32), k h s0 x1 x2 x3 x4 x5 x7 = some out → Ext h0 h → Rel G h H → va_S (AA G.2.2) s.heap H locs → hpT h r0 = (1, 10) → lv_has ls 8 [(0, .ref (G.2.2 + r0)), (1, .int x1), (2, .int x2), (3, .int x3), (4, .int x4), (5, .int x5), (7, .int x7)] → W p l e rm_X10_watch s m args below meth c H locs 0 0 (MQ below (Qm G h0 out.2 (some (.int out.1)) 0) args s 0 0 (AA G.2.2)) (F0 m 126 ls [.int s0])
def P_X10_watch_171 (G : Gt) (l : Launch) (p : Program) (e : Env) (s : State) (m : MethodId) (args : Array Value) (below : List Frame) (meth : Method) (c : Code) (h0 : Hp) (out : (Int32 × Hp)) (r0 : Nat) (k : Hp → Int32 → Int32 → Int32 → Int32 → Int32 → Int32 → Option (Int32 × Hp)) : Prop := ∀ (H : Heap) (locs : List Loc) (ls : Array Slot) (h : Hp) (s0 : Int32) (x1 : Int32) (x3 : Int32) (x4 : Int32) (x5 : Int32) (x7 : Int32), k h s0 x1 x3 x4 x5 x7 = some out → Ext h0 h → Rel G h H → va_S (AA G.2.2) s.heap H locs → hpT h r0 = (1, 10) → lv_has ls 8 [(0, .ref (G.2.2 + r0)), (1, .int x1), (3, .int x3), (4, .int x4), (5, .int x5), (7, .int x7)] → W p l e rm_X10_watch s m args below meth c H locs 0 0 (MQ below (Qm G h0 out.2 (some (.int out.1)) 0) args s 0 0 (AA G.2.2)) (F0 m 171 ls [.int s0])
def P_X10_watch_81 (G : Gt) (l : Launch) (p : Program) (e : Env) (s : State) (m : MethodId) (args : Array Value) (below : List Frame) (meth : Method) (c : Code) (h0 : Hp) (out : (Int32 × Hp)) (r0 : Nat) (k : Hp → Int32 → Int32 → Int32 → Int32 → Int32 → Int32 → Int32 → Option (Int32 × Hp)) : Prop := ∀ (H : Heap) (locs : List Loc) (ls : Array Slot) (h : Hp) (x1 : Int32) (x2 : Int32) (x3 : Int32) (x4 : Int32) (x5 : Int32) (x6 : Int32) (x7 : Int32), k h x1 x2 x3 x4 x5 x6 x7 = some out → Ext h0 h → Rel G h H → va_S (AA G.2.2) s.heap H locs → hpT h r0 = (1, 10) → lv_has ls 8 [(0, .ref (G.2.2 + r0)), (1, .int x1), (2, .int x2), (3, .int x3), (4, .int x4), (5, .int x5), (6, .int x6), (7, .int x7)] → W p l e rm_X10_watch s m args below meth c H locs 0 0 (MQ below (Qm G h0 out.2 (some (.int out.1)) 0) args s 0 0 (AA G.2.2)) (F0 m 81 ls [])
def P_X10_watch_68 (G : Gt) (l : Launch) (p : Program) (e : Env) (s : State) (m : MethodId) (args : Array Value) (below : List Frame) (meth : Method) (c : Code) (h0 : Hp) (out : (Int32 × Hp)) (r0 : Nat) (k : Hp → Int32 → Int32 → Int32 → Int32 → Int32 → Option (Int32 × Hp)) : Prop := ∀ (H : Heap) (locs : List Loc) (ls : Array Slot) (h : Hp) (x1 : Int32) (x2 : Int32) (x3 : Int32) (x4 : Int32) (x5 : Int32), k h x1 x2 x3 x4 x5 = some out → Ext h0 h → Rel G h H → va_S (AA G.2.2) s.heap H locs → hpT h r0 = (1, 10) → lv_has ls 8 [(0, .ref (G.2.2 + r0)), (1, .int x1), (2, .int x2), (3, .int x3), (4, .int x4), (5, .int x5)] → W p l e rm_X10_watch s m args below meth c H locs 0 0 (MQ below (Qm G h0 out.2 (some (.int out.1)) 0) args s 0 0 (AA G.2.2)) (F0 m 68 ls [])
def P_X10_watch_49 (G : Gt) (l : Launch) (p : Program) (e : Env) (s : State) (m : MethodId) (args : Array Value) (below : List Frame) (meth : Method) (c : Code) (h0 : Hp) (out : (Int32 × Hp)) (r0 : Nat) (k : Hp → Int32 → Int32 → Int32 → Int32 → Option (Int32 × Hp)) : Prop := ∀ (H : Heap) (locs : List Loc) (ls : Array Slot) (h : Hp) (x1 : Int32) (x2 : Int32) (x3 : Int32) (x4 : Int32), k h x1 x2 x3 x4 = some out → Ext h0 h → Rel G h H → va_S (AA G.2.2) s.heap H locs → hpT h r0 = (1, 10) → lv_has ls 8 [(0, .ref (G.2.2 + r0)), (1, .int x1), (2, .int x2), (3, .int x3), (4, .int x4)] → W p l e rm_X10_watch s m args below meth c H locs 0 0 (MQ below (Qm G h0 out.2 (some (.int out.1)) 0) args s 0 0 (AA G.2.2)) (F0 m 49 ls [])
def P_X10_watch_9 (G : Gt) (l : Launch) (p : Program) (e : Env) (s : State) (m : MethodId) (args : Array Value) (below : List Frame) (meth : Method) (c : Code) (h0 : Hp) (out : (Int32 × Hp)) (r0 : Nat) (k : Hp → Int32 → Int32 → Option (Int32 × Hp)) : Prop := ∀ (H : Heap) (locs : List Loc) (ls : Array Slot) (h : Hp) (x1 : Int32) (x2 : Int32), k h x1 x2 = some out → Ext h0 h → Rel G h H → va_S (AA G.2.2) s.heap H locs → hpT h r0 = (1, 10) → lv_has ls 8 [(0, .ref (G.2.2 + r0)), (1, .int x1), (2, .int x2)] → W p l e rm_X10_watch s m args below meth c H locs 0 0 (MQ below (Qm G h0 out.2 (some (.int out.1)) 0) args s 0 0 (AA G.2.2)) (F0 m 9 ls [])
set_option maxRecDepth 100000 in
set_option maxHeartbeats 4000000 in
theorem w_X10_watch_31 {G : Gt} {l : Launch} {p : Program} {e : Env} {s : State} {m : MethodId} {args : Array Value} {below : List Frame} {meth : Method} {c : Code} {h0 : Hp} {out : (Int32 × Hp)} {r0 : Nat} {k9 : Hp → Int32 → Int32 → Option (Int32 × Hp)} (C : Cx G p m c cX10_watch 8 s args RX10) (hr : meth.sig.returnType = some .int) (hlk : meth.locks = false) (hk9 : P_X10_watch_9 G l p e s m args below meth c h0 out r0 k9) : P_X10_watch_31 G l p e s m args below meth c h0 out r0 (f_X10_watch_31 r0 k9) := by
  intro H locs ls h s0 s1 x2 hf hE hR hS t_r0 hl
  rw [f_X10_watch_31] at hf
  refine lv_ior C.x C.b dX10_watch_31 ?_
  refine lv_topi (fun v6 e_v6 => ?_)
  have hf := lt_e hf e_v6
  refine lv_istore_n (lv' := [(1, .int v6), (0, .ref (G.2.2 + r0)), (2, .int x2)]) C.x C.b dX10_watch_32 rfl hl (by decide) rfl (fun ls hl => ?_)
  obtain ⟨v7, e_v7⟩ : ∃ y : Int32, y = x2 + (1 : Int32) := ⟨_, rfl⟩
  have hf := lt_e hf e_v7
  refine lv_iinc (v := v7) (lv' := [(2, .int v7), (1, .int v6), (0, .ref (G.2.2 + r0))]) C.x C.b dX10_watch_33 hl (k := 2) rfl (by rw [e_v7]; rfl) (by decide) rfl (fun ls hl => ?_)
  refine lv_goto (tgt := 9) C.x C.b dX10_watch_36 (by decide) ?_
  exact hk9 _ _ _ _ _ _ hf hE hR hS t_r0 (lv_sub hl [2, 1, 0] rfl)
set_option maxRecDepth 100000 in
set_option maxHeartbeats 4000000 in
theorem w_X10_watch_191 {G : Gt} {l : Launch} {p : Program} {e : Env} {s : State} {m : MethodId} {args : Array Value} {below : List Frame} {meth : Method} {c : Code} {h0 : Hp} {out : (Int32 × Hp)} {r0 : Nat}  (C : Cx G p m c cX10_watch 8 s args RX10) (hr : meth.sig.returnType = some .int) (hlk : meth.locks = false)  : P_X10_watch_191 G l p e s m args below meth c h0 out r0 (f_X10_watch_191 r0) := by
  intro H locs ls h x2 x3 hf hE hR hS t_r0 hl
  rw [f_X10_watch_191] at hf
  refine lv_iload_n C.x C.b dX10_watch_191 rfl (lv_at hl 1 rfl) ?_
  refine lv_if_lt (tgt := 206) C.x C.b dX10_watch_192 (by decide) (fun c31 => ?_) (fun c31 => ?_)
  · have hf := it_t hf c31
    refine lv_iload_n C.x C.b dX10_watch_206 rfl (lv_at hl 1 rfl) ?_
    have hf := so_e hf
    subst hf
    exact r_iret C hr hlk hR hE hS dX10_watch_207
  · have hf := it_f hf c31
    refine lv_aload_n C.x C.b dX10_watch_195 rfl (lv_at hl 0 rfl) ?_
    refine lv_iconst (v := (0 : Int32)) C.x C.b dX10_watch_196 (by decide) ?_
    refine r_puti C hR hS t_r0 fl_X10_110 fp_X10_10_1 rfl dX10_watch_197 (fun H locs hR hS => ?_)
    obtain ⟨h32, e_h32⟩ : ∃ y, y = upI h r0 1 (0 : Int32) := ⟨_, rfl⟩
    rw [← e_h32] at hR
    have hf := lt_e hf e_h32
    have hE := eI e_h32 hE
    have t_r0 := tI e_h32 t_r0
    refine lv_aload_n C.x C.b dX10_watch_200 rfl (lv_at hl 0 rfl) ?_
    refine lv_iload_n C.x C.b dX10_watch_201 rfl (lv_at hl 2 rfl) ?_
    refine lv_i2l C.x C.b dX10_watch_202 rfl ?_
    obtain ⟨q33, h_q33, hf⟩ := bd_e hf
    refine r_callV (As := [.long (x3.toInt64)]) (rest := []) C hR hS t_r0 rfl mk_X10_enters cl_X10_339 (k_X10_enters t_r0 h_q33) ⟨⟨Nat.le_of_ble_eq_true rfl, Nat.le_of_ble_eq_true rfl⟩, ⟨rfl, rfl⟩, Nat.le_of_ble_eq_true rfl, Nat.le_of_ble_eq_true rfl⟩ rfl hl.1 rfl (Nat.le_of_ble_eq_true rfl) dX10_watch_203 (fun H locs hR hS hE1 z_q33 => ?_)
    have hE := hE.tr hE1
    have t_r0 := hE1.at t_r0 (by decide)
    refine lv_iload_n C.x C.b dX10_watch_206 rfl (lv_at hl 1 rfl) ?_
    have hf := so_e hf
    subst hf
    exact r_iret C hr hlk hR hE hS dX10_watch_207
set_option maxRecDepth 100000 in
set_option maxHeartbeats 4000000 in
theorem w_X10_watch_127 {G : Gt} {l : Launch} {p : Program} {e : Env} {s : State} {m : MethodId} {args : Array Value} {below : List Frame} {meth : Method} {c : Code} {h0 : Hp} {out : (Int32 × Hp)} {r0 : Nat} {k49 : Hp → Int32 → Int32 → Int32 → Int32 → Option (Int32 × Hp)} {k68 : Hp → Int32 → Int32 → Int32 → Int32 → Int32 → Option (Int32 × Hp)} {k81 : Hp → Int32 → Int32 → Int32 → Int32 → Int32 → Int32 → Int32 → Option (Int32 × Hp)} (C : Cx G p m c cX10_watch 8 s args RX10) (hr : meth.sig.returnType = some .int) (hlk : meth.locks = false) (hk49 : P_X10_watch_49 G l p e s m args below meth c h0 out r0 k49) (hk68 : P_X10_watch_68 G l p e s m args below meth c h0 out r0 k68) (hk81 : P_X10_watch_81 G l p e s m args below meth c h0 out r0 k81) : P_X10_watch_127 G l p e s m args below meth c h0 out r0 (f_X10_watch_127 r0 k49 k68 k81) := by
  intro H locs ls h s0 s1 x1 x2 x3 x4 x5 x7 hf hE hR hS t_r0 z_s1 hl
  rw [f_X10_watch_127] at hf
  obtain ⟨q26, h_q26, hf⟩ := bd_e hf
  refine r_callS (As := [.int s1]) (rest := [.int s0]) C hR hS mk_X10_flag cl_X10_163 (k_X10_flag h_q26) ⟨⟨Nat.le_of_ble_eq_true rfl, Nat.le_of_ble_eq_true rfl⟩, ⟨rfl, rfl⟩, Nat.le_of_ble_eq_true rfl, Nat.le_of_ble_eq_true rfl⟩ rfl hl.1 rfl (Nat.le_of_ble_eq_true rfl) dX10_watch_127 (fun H locs hR hS hE1 z_q26 => ?_)
  refine lv_iadd C.x C.b dX10_watch_130 ?_
  refine lv_topi (fun v27 e_v27 => ?_)
  have hf := lt_e hf e_v27
  refine lv_istore (lv' := [(6, .int v27), (0, .ref (G.2.2 + r0)), (1, .int x1), (2, .int x2), (3, .int x3), (4, .int x4), (5, .int x5), (7, .int x7)]) C.x C.b dX10_watch_131 hl (by decide) rfl (fun ls hl => ?_)
  obtain ⟨v28, e_v28⟩ : ∃ y : Int32, y = x7 + (1 : Int32) := ⟨_, rfl⟩
  have hf := lt_e hf e_v28
  refine lv_iinc (v := v28) (lv' := [(7, .int v28), (6, .int v27), (0, .ref (G.2.2 + r0)), (1, .int x1), (2, .int x2), (3, .int x3), (4, .int x4), (5, .int x5)]) C.x C.b dX10_watch_133 hl (k := 7) rfl (by rw [e_v28]; rfl) (by decide) rfl (fun ls hl => ?_)
  refine lv_goto (tgt := 81) C.x C.b dX10_watch_136 (by decide) ?_
  exact hk81 _ _ _ _ _ _ _ _ _ _ _ hf hE hR hS t_r0 (lv_sub hl [2, 3, 4, 5, 6, 7, 1, 0] rfl)
set_option maxRecDepth 100000 in
set_option maxHeartbeats 4000000 in
theorem w_X10_watch_126 {G : Gt} {l : Launch} {p : Program} {e : Env} {s : State} {m : MethodId} {args : Array Value} {below : List Frame} {meth : Method} {c : Code} {h0 : Hp} {out : (Int32 × Hp)} {r0 : Nat} {k49 : Hp → Int32 → Int32 → Int32 → Int32 → Option (Int32 × Hp)} {k68 : Hp → Int32 → Int32 → Int32 → Int32 → Int32 → Option (Int32 × Hp)} {k81 : Hp → Int32 → Int32 → Int32 → Int32 → Int32 → Int32 → Int32 → Option (Int32 × Hp)} (C : Cx G p m c cX10_watch 8 s args RX10) (hr : meth.sig.returnType = some .int) (hlk : meth.locks = false) (hk49 : P_X10_watch_49 G l p e s m args below meth c h0 out r0 k49) (hk68 : P_X10_watch_68 G l p e s m args below meth c h0 out r0 k68) (hk81 : P_X10_watch_81 G l p e s m args below meth c h0 out r0 k81) : P_X10_watch_126 G l p e s m args below meth c h0 out r0 (f_X10_watch_126 r0 k49 k68 k81) := by
  intro H locs ls h s0 x1 x2 x3 x4 x5 x7 hf hE hR hS t_r0 hl
  rw [f_X10_watch_126] at hf
  refine lv_iconst (v := (0 : Int32)) C.x C.b dX10_watch_126 (by decide) ?_
  exact w_X10_watch_127 C hr hlk hk49 hk68 hk81 _ _ _ _ _ _ _ _ _ _ _ _ hf hE hR hS t_r0 z_0 (lv_sub hl [0, 1, 2, 3, 4, 5, 6] rfl)
set_option maxRecDepth 100000 in
set_option maxHeartbeats 4000000 in
theorem w_X10_watch_171 {G : Gt} {l : Launch} {p : Program} {e : Env} {s : State} {m : MethodId} {args : Array Value} {below : List Frame} {meth : Method} {c : Code} {h0 : Hp} {out : (Int32 × Hp)} {r0 : Nat} {k49 : Hp → Int32 → Int32 → Int32 → Int32 → Option (Int32 × Hp)} {k68 : Hp → Int32 → Int32 → Int32 → Int32 → Int32 → Option (Int32 × Hp)} (C : Cx G p m c cX10_watch 8 s args RX10) (hr : meth.sig.returnType = some .int) (hlk : meth.locks = false) (hk49 : P_X10_watch_49 G l p e s m args below meth c h0 out r0 k49) (hk68 : P_X10_watch_68 G l p e s m args below meth c h0 out r0 k68) : P_X10_watch_171 G l p e s m args below meth c h0 out r0 (f_X10_watch_171 r0 k49 k68) := by
  intro H locs ls h s0 x1 x3 x4 x5 x7 hf hE hR hS t_r0 hl
  rw [f_X10_watch_171] at hf
  refine lv_istore_n (lv' := [(2, .int s0), (0, .ref (G.2.2 + r0)), (1, .int x1), (3, .int x3), (4, .int x4), (5, .int x5), (7, .int x7)]) C.x C.b dX10_watch_171 rfl hl (by decide) rfl (fun ls hl => ?_)
  refine lv_iload_n C.x C.b dX10_watch_172 rfl (lv_at hl 3 rfl) ?_
  refine lv_iload C.x C.b dX10_watch_173 (lv_at hl 6 rfl) ?_
  refine va_mmin C.x C.b (C.ml.trans hl.1.symm) C.ow (C.ts _ lk_X10_154) (C.ts _ lk_Mmin_s) (C.ts _ lk_Math) (C.ts _ lk_Mmin_c) (Nat.le_of_ble_eq_true rfl) (Nat.le_of_ble_eq_true rfl) (Nat.le_of_ble_eq_true rfl) (Nat.le_of_ble_eq_true rfl) dX10_watch_175 ?_
  refine lv_topi (fun v29 e_v29 => ?_)
  have hf := lt_e hf e_v29
  refine lv_istore_n (lv' := [(3, .int v29), (2, .int s0), (0, .ref (G.2.2 + r0)), (1, .int x1), (4, .int x4), (5, .int x5), (7, .int x7)]) C.x C.b dX10_watch_178 rfl hl (by decide) rfl (fun ls hl => ?_)
  obtain ⟨v30, e_v30⟩ : ∃ y : Int32, y = x5 + (1 : Int32) := ⟨_, rfl⟩
  have hf := lt_e hf e_v30
  refine lv_iinc (v := v30) (lv' := [(5, .int v30), (3, .int v29), (2, .int s0), (0, .ref (G.2.2 + r0)), (1, .int x1), (4, .int x4), (7, .int x7)]) C.x C.b dX10_watch_179 hl (k := 5) rfl (by rw [e_v30]; rfl) (by decide) rfl (fun ls hl => ?_)
  refine lv_goto (tgt := 68) C.x C.b dX10_watch_182 (by decide) ?_
  exact hk68 _ _ _ _ _ _ _ _ _ hf hE hR hS t_r0 (lv_sub hl [3, 4, 2, 1, 5, 0] rfl)
set_option maxRecDepth 100000 in
set_option maxHeartbeats 4000000 in
theorem w_X10_watch_81 {G : Gt} {l : Launch} {p : Program} {e : Env} {s : State} {m : MethodId} {args : Array Value} {below : List Frame} {meth : Method} {c : Code} {h0 : Hp} {out : (Int32 × Hp)} {r0 : Nat} {k49 : Hp → Int32 → Int32 → Int32 → Int32 → Option (Int32 × Hp)} {k68 : Hp → Int32 → Int32 → Int32 → Int32 → Int32 → Option (Int32 × Hp)} (C : Cx G p m c cX10_watch 8 s args RX10) (hr : meth.sig.returnType = some .int) (hlk : meth.locks = false) (hk49 : P_X10_watch_49 G l p e s m args below meth c h0 out r0 k49) (hk68 : P_X10_watch_68 G l p e s m args below meth c h0 out r0 k68) (n : Nat) : P_X10_watch_81 G l p e s m args below meth c h0 out r0 (f_X10_watch_81 r0 k49 k68 n) := by
  induction n with
  | zero => intro H locs ls h x1 x2 x3 x4 x5 x6 x7 hf hE hR hS t_r0 hl; cases hf
  | succ n hk81 =>
    intro H locs ls h x1 x2 x3 x4 x5 x6 x7 hf hE hR hS t_r0 hl
    rw [f_X10_watch_81] at hf
    obtain ⟨k81, e_k81⟩ : ∃ y, y = f_X10_watch_81 r0 k49 k68 n := ⟨_, rfl⟩
    have hf := lt_e hf e_k81
    rw [← e_k81] at hk81
    refine lv_iload C.x C.b dX10_watch_81 (lv_at hl 7 rfl) ?_
    refine lv_bipush (v := (16 : Int32)) C.x C.b dX10_watch_83 (by decide) ?_
    refine lv_icmp_ge (tgt := 139) C.x C.b dX10_watch_85 (by decide) (fun c15 => ?_) (fun c15 => ?_)
    · have hf := it_t hf c15
      refine lv_iload C.x C.b dX10_watch_139 (lv_at hl 6 rfl) ?_
      refine lv_iload_n C.x C.b dX10_watch_141 rfl (lv_at hl 1 rfl) ?_
      obtain ⟨q16, h_q16, hf⟩ := bd_e hf
      refine r_callS (As := [.int x1]) (rest := [.int x6]) C hR hS mk_J6_bitCount_0f7a4 cl_X10_264 (k_J6_bitCount_0f7a4 h_q16) ⟨⟨Nat.le_of_ble_eq_true rfl, Nat.le_of_ble_eq_true rfl⟩, ⟨rfl, rfl⟩, Nat.le_of_ble_eq_true rfl, Nat.le_of_ble_eq_true rfl⟩ rfl hl.1 rfl (Nat.le_of_ble_eq_true rfl) dX10_watch_142 (fun H locs hR hS hE1 z_q16 => ?_)
      refine lv_iload C.x C.b dX10_watch_145 (lv_at hl 6 rfl) ?_
      refine lv_isub C.x C.b dX10_watch_147 ?_
      refine va_mmax C.x C.b (C.ml.trans hl.1.symm) C.ow (C.ts _ lk_X10_272) (C.ts _ lk_Mmax_s) (C.ts _ lk_Math) (C.ts _ lk_Mmax_c) (Nat.le_of_ble_eq_true rfl) (Nat.le_of_ble_eq_true rfl) (Nat.le_of_ble_eq_true rfl) (Nat.le_of_ble_eq_true rfl) dX10_watch_148 ?_
      refine lv_topi (fun v17 e_v17 => ?_)
      have hf := lt_e hf e_v17
      refine lv_istore (lv' := [(7, .int v17), (0, .ref (G.2.2 + r0)), (1, .int x1), (2, .int x2), (3, .int x3), (4, .int x4), (5, .int x5), (6, .int x6)]) C.x C.b dX10_watch_151 hl (by decide) rfl (fun ls hl => ?_)
      refine lv_iload C.x C.b dX10_watch_153 (lv_at hl 0 rfl) ?_
      refine lv_iload_n C.x C.b dX10_watch_155 rfl (lv_at hl 4 rfl) ?_
      refine lv_icmp_ge (tgt := 170) C.x C.b dX10_watch_156 (by decide) (fun c18 => ?_) (fun c18 => ?_)
      · simp only [if_pos c18] at hf
        refine lv_iload_n C.x C.b dX10_watch_170 rfl (lv_at hl 3 rfl) ?_
        exact w_X10_watch_171 C hr hlk hk49 hk68 _ _ _ _ _ _ _ _ _ _ hf hE hR hS t_r0 (lv_sub hl [1, 2, 4, 5, 6, 0] rfl)
      · simp only [if_neg c18] at hf
        refine lv_bipush (v := (31 : Int32)) C.x C.b dX10_watch_159 (by decide) ?_
        refine lv_iload C.x C.b dX10_watch_161 (lv_at hl 5 rfl) ?_
        refine lv_imul C.x C.b dX10_watch_163 ?_
        refine lv_iload C.x C.b dX10_watch_164 (lv_at hl 6 rfl) ?_
        refine lv_iadd C.x C.b dX10_watch_166 ?_
        refine lv_goto (tgt := 171) C.x C.b dX10_watch_167 (by decide) ?_
        exact w_X10_watch_171 C hr hlk hk49 hk68 _ _ _ _ _ _ _ _ _ _ hf hE hR hS t_r0 (lv_sub hl [1, 2, 4, 5, 6, 0] rfl)
    · have hf := it_f hf c15
      refine lv_iload C.x C.b dX10_watch_88 (lv_at hl 6 rfl) ?_
      refine lv_iload_n C.x C.b dX10_watch_90 rfl (lv_at hl 1 rfl) ?_
      refine lv_i2l C.x C.b dX10_watch_91 rfl ?_
      refine lv_iload C.x C.b dX10_watch_92 (lv_at hl 7 rfl) ?_
      obtain ⟨q19, h_q19, hf⟩ := bd_e hf
      refine r_callS (As := [.long (x1.toInt64), .int x7]) (rest := [.int x6]) C hR hS mk_X10_has cl_X10_137 (k_X10_has h_q19) ⟨⟨Nat.le_of_ble_eq_true rfl, Nat.le_of_ble_eq_true rfl⟩, ⟨rfl, rfl⟩, Nat.le_of_ble_eq_true rfl, Nat.le_of_ble_eq_true rfl⟩ rfl hl.1 rfl (Nat.le_of_ble_eq_true rfl) dX10_watch_94 (fun H locs hR hS hE1 z_q19 => ?_)
      have z_q19 := z_q19 _ rfl
      refine lv_if_eq (tgt := 126) C.x C.b dX10_watch_97 (by decide) (fun c20 => ?_) (fun c20 => ?_)
      · have hf := it_t hf c20
        exact w_X10_watch_126 C hr hlk hk49 hk68 hk81 _ _ _ _ _ _ _ _ _ _ _ hf hE hR hS t_r0 (lv_sub hl [0, 1, 2, 3, 4, 5, 7] rfl)
      · have hf := it_f hf c20
        refine lv_aload_n C.x C.b dX10_watch_100 rfl (lv_at hl 0 rfl) ?_
        obtain ⟨g21, hf⟩ := gd_e hf
        refine r_getr C hR t_r0 fl_X10_75 (by decide) (nz_e g21) dX10_watch_101 (fun tq22 => ?_)
        have tg21 := okA tq22 rfl
        refine lv_iload C.x C.b dX10_watch_104 (lv_at hl 7 rfl) ?_
        refine lv_bipush (v := (31 : Int32)) C.x C.b dX10_watch_106 (by decide) ?_
        refine lv_imul C.x C.b dX10_watch_108 ?_
        refine lv_iload C.x C.b dX10_watch_109 (lv_at hl 5 rfl) ?_
        refine lv_iadd C.x C.b dX10_watch_111 ?_
        obtain ⟨g23, hf⟩ := gd_e hf
        refine r_iald C hR tg21 g23 dX10_watch_112 ?_
        refine lv_i2l C.x C.b dX10_watch_113 rfl ?_
        refine lv_iload C.x C.b dX10_watch_114 (lv_at hl 4 rfl) ?_
        obtain ⟨q24, h_q24, hf⟩ := bd_e hf
        refine r_callS (As := [.long ((hpI h (hpR h r0 35) (ix ((x7 * (31 : Int32)) + x5))).toInt64), .int x4]) (rest := [.int x6]) C hR hS mk_X10_has cl_X10_137 (k_X10_has h_q24) ⟨⟨Nat.le_of_ble_eq_true rfl, Nat.le_of_ble_eq_true rfl⟩, ⟨rfl, rfl⟩, Nat.le_of_ble_eq_true rfl, Nat.le_of_ble_eq_true rfl⟩ rfl hl.1 rfl (Nat.le_of_ble_eq_true rfl) dX10_watch_116 (fun H locs hR hS hE1 z_q24 => ?_)
        have z_q24 := z_q24 _ rfl
        refine lv_if_eq (tgt := 126) C.x C.b dX10_watch_119 (by decide) (fun c25 => ?_) (fun c25 => ?_)
        · have hf := it_t hf c25
          exact w_X10_watch_126 C hr hlk hk49 hk68 hk81 _ _ _ _ _ _ _ _ _ _ _ hf hE hR hS t_r0 (lv_sub hl [0, 1, 2, 3, 4, 5, 7] rfl)
        · have hf := it_f hf c25
          refine lv_iconst (v := (1 : Int32)) C.x C.b dX10_watch_122 (by decide) ?_
          refine lv_goto (tgt := 127) C.x C.b dX10_watch_123 (by decide) ?_
          exact w_X10_watch_127 C hr hlk hk49 hk68 hk81 _ _ _ _ _ _ _ _ _ _ _ _ hf hE hR hS t_r0 z_1 (lv_sub hl [0, 1, 2, 3, 4, 5, 7] rfl)
set_option maxRecDepth 100000 in
set_option maxHeartbeats 4000000 in
theorem w_X10_watch_68 {G : Gt} {l : Launch} {p : Program} {e : Env} {s : State} {m : MethodId} {args : Array Value} {below : List Frame} {meth : Method} {c : Code} {h0 : Hp} {out : (Int32 × Hp)} {r0 : Nat} {k49 : Hp → Int32 → Int32 → Int32 → Int32 → Option (Int32 × Hp)} (C : Cx G p m c cX10_watch 8 s args RX10) (hr : meth.sig.returnType = some .int) (hlk : meth.locks = false) (hk49 : P_X10_watch_49 G l p e s m args below meth c h0 out r0 k49) (n : Nat) : P_X10_watch_68 G l p e s m args below meth c h0 out r0 (f_X10_watch_68 r0 k49 n) := by
  induction n with
  | zero => intro H locs ls h x1 x2 x3 x4 x5 hf hE hR hS t_r0 hl; cases hf
  | succ n hk68 =>
    intro H locs ls h x1 x2 x3 x4 x5 hf hE hR hS t_r0 hl
    rw [f_X10_watch_68] at hf
    obtain ⟨k68, e_k68⟩ : ∃ y, y = f_X10_watch_68 r0 k49 n := ⟨_, rfl⟩
    have hf := lt_e hf e_k68
    rw [← e_k68] at hk68
    refine lv_iload C.x C.b dX10_watch_68 (lv_at hl 5 rfl) ?_
    refine lv_bipush (v := (30 : Int32)) C.x C.b dX10_watch_70 (by decide) ?_
    refine lv_icmp_gt (tgt := 185) C.x C.b dX10_watch_72 (by decide) (fun c13 => ?_) (fun c13 => ?_)
    · have hf := it_t hf c13
      obtain ⟨v14, e_v14⟩ : ∃ y : Int32, y = x4 + (1 : Int32) := ⟨_, rfl⟩
      have hf := lt_e hf e_v14
      refine lv_iinc (v := v14) (lv' := [(4, .int v14), (0, .ref (G.2.2 + r0)), (1, .int x1), (2, .int x2), (3, .int x3), (5, .int x5)]) C.x C.b dX10_watch_185 hl (k := 4) rfl (by rw [e_v14]; rfl) (by decide) rfl (fun ls hl => ?_)
      refine lv_goto (tgt := 49) C.x C.b dX10_watch_188 (by decide) ?_
      exact hk49 _ _ _ _ _ _ _ _ hf hE hR hS t_r0 (lv_sub hl [1, 2, 3, 4, 0] rfl)
    · have hf := it_f hf c13
      refine lv_iconst (v := (0 : Int32)) C.x C.b dX10_watch_75 (by decide) ?_
      refine lv_istore (lv' := [(6, .int (0 : Int32)), (0, .ref (G.2.2 + r0)), (1, .int x1), (2, .int x2), (3, .int x3), (4, .int x4), (5, .int x5)]) C.x C.b dX10_watch_76 hl (by decide) rfl (fun ls hl => ?_)
      refine lv_iconst (v := (0 : Int32)) C.x C.b dX10_watch_78 (by decide) ?_
      refine lv_istore (lv' := [(7, .int (0 : Int32)), (6, .int (0 : Int32)), (0, .ref (G.2.2 + r0)), (1, .int x1), (2, .int x2), (3, .int x3), (4, .int x4), (5, .int x5)]) C.x C.b dX10_watch_79 hl (by decide) rfl (fun ls hl => ?_)
      exact w_X10_watch_81 C hr hlk hk49 hk68 FU _ _ _ _ _ _ _ _ _ _ _ hf hE hR hS t_r0 (lv_sub hl [2, 3, 4, 5, 6, 7, 1, 0] rfl)
set_option maxRecDepth 100000 in
set_option maxHeartbeats 4000000 in
theorem w_X10_watch_49 {G : Gt} {l : Launch} {p : Program} {e : Env} {s : State} {m : MethodId} {args : Array Value} {below : List Frame} {meth : Method} {c : Code} {h0 : Hp} {out : (Int32 × Hp)} {r0 : Nat}  (C : Cx G p m c cX10_watch 8 s args RX10) (hr : meth.sig.returnType = some .int) (hlk : meth.locks = false)  (n : Nat) : P_X10_watch_49 G l p e s m args below meth c h0 out r0 (f_X10_watch_49 r0 n) := by
  induction n with
  | zero => intro H locs ls h x1 x2 x3 x4 hf hE hR hS t_r0 hl; cases hf
  | succ n hk49 =>
    intro H locs ls h x1 x2 x3 x4 hf hE hR hS t_r0 hl
    rw [f_X10_watch_49] at hf
    obtain ⟨k49, e_k49⟩ : ∃ y, y = f_X10_watch_49 r0 n := ⟨_, rfl⟩
    have hf := lt_e hf e_k49
    rw [← e_k49] at hk49
    refine lv_iload C.x C.b dX10_watch_49 (lv_at hl 4 rfl) ?_
    refine lv_aload_n C.x C.b dX10_watch_51 rfl (lv_at hl 0 rfl) ?_
    obtain ⟨g8, hf⟩ := gd_e hf
    refine r_getr C hR t_r0 fl_X10_20 (by decide) (nz_e g8) dX10_watch_52 (fun tq9 => ?_)
    have tg8 := okA tq9 rfl
    refine lv_bipush (v := (48 : Int32)) C.x C.b dX10_watch_55 (by decide) ?_
    obtain ⟨g10, hf⟩ := gd_e hf
    refine r_iald C hR tg8 g10 dX10_watch_57 ?_
    refine lv_icmp_ge (tgt := 191) C.x C.b dX10_watch_58 (by decide) (fun c11 => ?_) (fun c11 => ?_)
    · have hf := it_t hf c11
      exact w_X10_watch_191 C hr hlk _ _ _ _ _ _ hf hE hR hS t_r0 (lv_sub hl [0, 2, 3] rfl)
    · have hf := it_f hf c11
      refine lv_iload_n C.x C.b dX10_watch_61 rfl (lv_at hl 1 rfl) ?_
      refine lv_if_eq (tgt := 191) C.x C.b dX10_watch_62 (by decide) (fun c12 => ?_) (fun c12 => ?_)
      · have hf := it_t hf c12
        exact w_X10_watch_191 C hr hlk _ _ _ _ _ _ hf hE hR hS t_r0 (lv_sub hl [0, 2, 3] rfl)
      · have hf := it_f hf c12
        refine lv_iconst (v := (0 : Int32)) C.x C.b dX10_watch_65 (by decide) ?_
        refine lv_istore (lv' := [(5, .int (0 : Int32)), (0, .ref (G.2.2 + r0)), (1, .int x1), (2, .int x2), (3, .int x3), (4, .int x4)]) C.x C.b dX10_watch_66 hl (by decide) rfl (fun ls hl => ?_)
        exact w_X10_watch_68 C hr hlk hk49 FU _ _ _ _ _ _ _ _ _ hf hE hR hS t_r0 (lv_sub hl [1, 2, 3, 4, 5, 0] rfl)
set_option maxRecDepth 100000 in
set_option maxHeartbeats 4000000 in
theorem w_X10_watch_9 {G : Gt} {l : Launch} {p : Program} {e : Env} {s : State} {m : MethodId} {args : Array Value} {below : List Frame} {meth : Method} {c : Code} {h0 : Hp} {out : (Int32 × Hp)} {r0 : Nat}  (C : Cx G p m c cX10_watch 8 s args RX10) (hr : meth.sig.returnType = some .int) (hlk : meth.locks = false)  (n : Nat) : P_X10_watch_9 G l p e s m args below meth c h0 out r0 (f_X10_watch_9 r0 n) := by
  induction n with
  | zero => intro H locs ls h x1 x2 hf hE hR hS t_r0 hl; cases hf
  | succ n hk9 =>
    intro H locs ls h x1 x2 hf hE hR hS t_r0 hl
    rw [f_X10_watch_9] at hf
    obtain ⟨k9, e_k9⟩ : ∃ y, y = f_X10_watch_9 r0 n := ⟨_, rfl⟩
    have hf := lt_e hf e_k9
    rw [← e_k9] at hk9
    refine lv_iload_n C.x C.b dX10_watch_9 rfl (lv_at hl 2 rfl) ?_
    refine lv_bipush (v := (16 : Int32)) C.x C.b dX10_watch_10 (by decide) ?_
    refine lv_icmp_ge (tgt := 39) C.x C.b dX10_watch_12 (by decide) (fun c2 => ?_) (fun c2 => ?_)
    · have hf := it_t hf c2
      refine lv_bipush (v := (-2 : Int32)) C.x C.b dX10_watch_39 (by decide) ?_
      refine lv_istore_n (lv' := [(2, .int (-2 : Int32)), (0, .ref (G.2.2 + r0)), (1, .int x1)]) C.x C.b dX10_watch_41 rfl hl (by decide) rfl (fun ls hl => ?_)
      refine lv_ldcw C.x C.b C.ow (C.ts _ lk_X10_392) dX10_watch_42 ?_
      refine lv_istore_n (lv' := [(3, .int (1000000 : Int32)), (2, .int (-2 : Int32)), (0, .ref (G.2.2 + r0)), (1, .int x1)]) C.x C.b dX10_watch_45 rfl hl (by decide) rfl (fun ls hl => ?_)
      refine lv_iconst (v := (0 : Int32)) C.x C.b dX10_watch_46 (by decide) ?_
      refine lv_istore (lv' := [(4, .int (0 : Int32)), (3, .int (1000000 : Int32)), (2, .int (-2 : Int32)), (0, .ref (G.2.2 + r0)), (1, .int x1)]) C.x C.b dX10_watch_47 hl (by decide) rfl (fun ls hl => ?_)
      exact w_X10_watch_49 C hr hlk FU _ _ _ _ _ _ _ _ hf hE hR hS t_r0 (lv_sub hl [3, 4, 2, 1, 0] rfl)
    · have hf := it_f hf c2
      refine lv_iload_n C.x C.b dX10_watch_15 rfl (lv_at hl 1 rfl) ?_
      refine lv_aload_n C.x C.b dX10_watch_16 rfl (lv_at hl 0 rfl) ?_
      refine lv_iload_n C.x C.b dX10_watch_17 rfl (lv_at hl 2 rfl) ?_
      obtain ⟨q3, h_q3, hf⟩ := bd_e hf
      refine r_callV (As := [.int x2]) (rest := [.int x1]) C hR hS t_r0 rfl mk_X10_isLaw cl_X10_417 (k_X10_isLaw t_r0 h_q3) ⟨⟨Nat.le_of_ble_eq_true rfl, Nat.le_of_ble_eq_true rfl⟩, ⟨rfl, rfl⟩, Nat.le_of_ble_eq_true rfl, Nat.le_of_ble_eq_true rfl⟩ rfl hl.1 rfl (Nat.le_of_ble_eq_true rfl) dX10_watch_18 (fun H locs hR hS hE1 z_q3 => ?_)
      have hE := hE.tr hE1
      have t_r0 := hE1.at t_r0 (by decide)
      have z_q3 := z_q3 _ rfl
      refine lv_if_eq (tgt := 30) C.x C.b dX10_watch_21 (by decide) (fun c4 => ?_) (fun c4 => ?_)
      · have hf := it_t hf c4
        refine lv_iconst (v := (0 : Int32)) C.x C.b dX10_watch_30 (by decide) ?_
        exact w_X10_watch_31 C hr hlk hk9 _ _ _ _ _ _ _ hf hE hR hS t_r0 (lv_sub hl [0, 2] rfl)
      · have hf := it_f hf c4
        refine lv_iconst (v := (1 : Int32)) C.x C.b dX10_watch_24 (by decide) ?_
        refine lv_iload_n C.x C.b dX10_watch_25 rfl (lv_at hl 2 rfl) ?_
        refine lv_ishl C.x C.b dX10_watch_26 ?_
        refine lv_topi (fun v5 e_v5 => ?_)
        have hf := lt_e hf e_v5
        refine lv_goto (tgt := 31) C.x C.b dX10_watch_27 (by decide) ?_
        exact w_X10_watch_31 C hr hlk hk9 _ _ _ _ _ _ _ hf hE hR hS t_r0 (lv_sub hl [0, 2] rfl)
set_option maxRecDepth 100000 in
set_option maxHeartbeats 4000000 in
theorem k_X10_watch {G : Gt} {l : Launch} {h : Hp} {r0 : Nat} {out : (Int32 × Hp)} (t_r0 : hpT h r0 = (1, 10))  (hf : f_X10_watch h r0 = some out) : Mt G l yX10_watch cX10_watch 8 (some .int) rm_X10_watch [.ref (G.2.2 + r0)] h (some (.int out.1)) out.2 0 0 0 := by
  refine r_met (by decide +kernel) (Nat.le_of_ble_eq_true rfl) ?_
  intro p e s m args below meth c ls C hr hlk hnm hR hS hl
  have hE : Ext h h := Ext.rf
  have hl : lv_has ls 8 [(0, .ref (G.2.2 + r0))] := hl
  rw [f_X10_watch] at hf
  refine lv_aload_n C.x C.b dX10_watch_0 rfl (lv_at hl 0 rfl) ?_
  refine lv_iconst (v := (0 : Int32)) C.x C.b dX10_watch_1 (by decide) ?_
  refine r_puti C hR hS t_r0 fl_X10_103 fp_X10_10_0 rfl dX10_watch_2 (fun H locs hR hS => ?_)
  obtain ⟨h1, e_h1⟩ : ∃ y, y = upI h r0 0 (0 : Int32) := ⟨_, rfl⟩
  rw [← e_h1] at hR
  have hf := lt_e hf e_h1
  have hE := eI e_h1 hE
  have t_r0 := tI e_h1 t_r0
  refine lv_iconst (v := (0 : Int32)) C.x C.b dX10_watch_5 (by decide) ?_
  refine lv_istore_n (lv' := [(1, .int (0 : Int32)), (0, .ref (G.2.2 + r0))]) C.x C.b dX10_watch_6 rfl hl (by decide) rfl (fun ls hl => ?_)
  refine lv_iconst (v := (0 : Int32)) C.x C.b dX10_watch_7 (by decide) ?_
  refine lv_istore_n (lv' := [(2, .int (0 : Int32)), (1, .int (0 : Int32)), (0, .ref (G.2.2 + r0))]) C.x C.b dX10_watch_8 rfl hl (by decide) rfl (fun ls hl => ?_)
  exact w_X10_watch_9 C hr hlk FU _ _ _ _ _ _ hf hE hR hS t_r0 (lv_sub hl [2, 1, 0] rfl)

