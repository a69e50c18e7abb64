def rm_X10_quiet : Room := { frames := 5, cells := 0, slots := 0, locals := 126 }
def P_X10_quiet_62 (G : Gt) (l : Launch) (p : Program) (e : Env) (s : State) (m : MethodId) (args : Array Value) (below : List Frame) (meth : Method) (c : Code) (h0 : Hp) (out : (Int32 × Hp)) (r0 : Nat) (x1 : Int32) (x2 : Int32) (k : Hp → Nat → Int32 → Int32 → Int32 → Option (Int32 × Hp)) : Prop := ∀ (H : Heap) (locs : List Loc) (ls : Array Slot) (h : Hp) (s0 : Nat) (s1 : Int32) (s2 : Int32) (x3 : Int32), k h s0 s1 s2 x3 = some out → Ext h0 h → Rel G h H → va_S (AA G.2.2) s.heap H locs → hpT h r0 = (1, 10) → (hpT h s0).1 = 2 → lv_has ls 4 [(0, .ref (G.2.2 + r0)), (1, .int x1), (2, .int x2), (3, .int x3)] → W p l e rm_X10_quiet s m args below meth c H locs 0 0 (MQ below (Qm G h0 out.2 (some (.int out.1)) false) args s 0 0 (AA G.2.2)) (F0 m 62 ls [.int s2, .int s1, .ref (G.2.2 + s0)])
def P_X10_quiet_61 (G : Gt) (l : Launch) (p : Program) (e : Env) (s : State) (m : MethodId) (args : Array Value) (below : List Frame) (meth : Method) (c : Code) (h0 : Hp) (out : (Int32 × Hp)) (r0 : Nat) (x1 : Int32) (x2 : Int32) (k : Hp → Nat → Int32 → Int32 → Option (Int32 × Hp)) : Prop := ∀ (H : Heap) (locs : List Loc) (ls : Array Slot) (h : Hp) (s0 : Nat) (s1 : Int32) (x3 : Int32), k h s0 s1 x3 = some out → Ext h0 h → Rel G h H → va_S (AA G.2.2) s.heap H locs → hpT h r0 = (1, 10) → (hpT h s0).1 = 2 → lv_has ls 4 [(0, .ref (G.2.2 + r0)), (1, .int x1), (2, .int x2), (3, .int x3)] → W p l e rm_X10_quiet s m args below meth c H locs 0 0 (MQ below (Qm G h0 out.2 (some (.int out.1)) false) args s 0 0 (AA G.2.2)) (F0 m 61 ls [.int s1, .ref (G.2.2 + s0)])
def P_X10_quiet_25 (G : Gt) (l : Launch) (p : Program) (e : Env) (s : State) (m : MethodId) (args : Array Value) (below : List Frame) (meth : Method) (c : Code) (h0 : Hp) (out : (Int32 × Hp)) (r0 : Nat) (x1 : Int32) (x2 : Int32) (k : Hp → Int32 → Option (Int32 × Hp)) : Prop := ∀ (H : Heap) (locs : List Loc) (ls : Array Slot) (h : Hp) (x3 : Int32), k h x3 = some out → Ext h0 h → Rel G h H → va_S (AA G.2.2) s.heap H locs → hpT h r0 = (1, 10) → lv_has ls 4 [(0, .ref (G.2.2 + r0)), (1, .int x1), (2, .int x2), (3, .int x3)] → W p l e rm_X10_quiet s m args below meth c H locs 0 0 (MQ below (Qm G h0 out.2 (some (.int out.1)) false) args s 0 0 (AA G.2.2)) (F0 m 25 ls [])
set_option maxRecDepth 100000 in
set_option maxHeartbeats 4000000 in
theorem w_X10_quiet_62 {G : Gt} {l : Launch} {p : Program} {e : Env} {s : State} {m : MethodId} {args : Array Value} {below : List Frame} {meth : Method} {c : Code} {h0 : Hp} {out : (Int32 × Hp)} {r0 : Nat} {x1 : Int32} {x2 : Int32} {k25 : Hp → Int32 → Option (Int32 × Hp)} (C : Cx G p m c cX10_quiet 4 s args RX10) (hr : meth.sig.returnType = some .int) (hlk : meth.locks = false) (hk25 : P_X10_quiet_25 G l p e s m args below meth c h0 out r0 x1 x2 k25) : P_X10_quiet_62 G l p e s m args below meth c h0 out r0 x1 x2 (f_X10_quiet_62 r0 x1 x2 k25) := by
  intro H locs ls h s0 s1 s2 x3 hf hE hR hS t_r0 t_s0 hl
  rw [f_X10_quiet_62] at hf
  obtain ⟨g22, hf⟩ := gd_e hf
  refine r_iast C hR hS t_s0 g22 dX10_quiet_62 (fun H locs hR hS => ?_)
  obtain ⟨h23, e_h23⟩ : ∃ y, y = upI h s0 (ix s1) s2 := ⟨_, rfl⟩
  rw [← e_h23] at hR
  have hf := lt_e hf e_h23
  have hE := eI e_h23 hE
  have t_r0 := tI e_h23 t_r0
  obtain ⟨v24, e_v24⟩ : ∃ y : Int32, y = x3 + (1 : Int32) := ⟨_, rfl⟩
  have hf := lt_e hf e_v24
  refine lv_iinc (v := v24) (lv' := [(3, .int v24), (0, .ref (G.2.2 + r0)), (1, .int x1), (2, .int x2)]) C.x C.b dX10_quiet_63 hl (k := 3) rfl (by rw [e_v24]; rfl) (by decide) rfl (fun ls hl => ?_)
  refine lv_goto (tgt := 25) C.x C.b dX10_quiet_66 (by decide) ?_
  exact hk25 _ _ _ _ _ hf hE hR hS t_r0 (lv_sub hl [1, 2, 3, 0] rfl)
set_option maxRecDepth 100000 in
set_option maxHeartbeats 4000000 in
theorem w_X10_quiet_61 {G : Gt} {l : Launch} {p : Program} {e : Env} {s : State} {m : MethodId} {args : Array Value} {below : List Frame} {meth : Method} {c : Code} {h0 : Hp} {out : (Int32 × Hp)} {r0 : Nat} {x1 : Int32} {x2 : Int32} {k25 : Hp → Int32 → Option (Int32 × Hp)} (C : Cx G p m c cX10_quiet 4 s args RX10) (hr : meth.sig.returnType = some .int) (hlk : meth.locks = false) (hk25 : P_X10_quiet_25 G l p e s m args below meth c h0 out r0 x1 x2 k25) : P_X10_quiet_61 G l p e s m args below meth c h0 out r0 x1 x2 (f_X10_quiet_61 r0 x1 x2 k25) := by
  intro H locs ls h s0 s1 x3 hf hE hR hS t_r0 t_s0 hl
  rw [f_X10_quiet_61] at hf
  refine lv_iconst (v := (1 : Int32)) C.x C.b dX10_quiet_61 (by decide) ?_
  exact w_X10_quiet_62 C hr hlk hk25 _ _ _ _ _ _ _ _ hf hE hR hS t_r0 t_s0 (lv_sub hl [0, 1, 2, 3] rfl)
set_option maxRecDepth 100000 in
set_option maxHeartbeats 4000000 in
theorem w_X10_quiet_25 {G : Gt} {l : Launch} {p : Program} {e : Env} {s : State} {m : MethodId} {args : Array Value} {below : List Frame} {meth : Method} {c : Code} {h0 : Hp} {out : (Int32 × Hp)} {r0 : Nat} {x1 : Int32} {x2 : Int32}  (C : Cx G p m c cX10_quiet 4 s args RX10) (hr : meth.sig.returnType = some .int) (hlk : meth.locks = false)  (n : Nat) : P_X10_quiet_25 G l p e s m args below meth c h0 out r0 x1 x2 (f_X10_quiet_25 r0 x1 x2 n) := by
  induction n with
  | zero => intro H locs ls h x3 hf hE hR hS t_r0 hl; cases hf
  | succ n hk25 =>
    intro H locs ls h x3 hf hE hR hS t_r0 hl
    rw [f_X10_quiet_25] at hf
    obtain ⟨k25, e_k25⟩ : ∃ y, y = f_X10_quiet_25 r0 x1 x2 n := ⟨_, rfl⟩
    have hf := lt_e hf e_k25
    rw [← e_k25] at hk25
    refine lv_iload_n C.x C.b dX10_quiet_25 rfl (lv_at hl 3 rfl) ?_
    refine lv_aload_n C.x C.b dX10_quiet_26 rfl (lv_at hl 0 rfl) ?_
    obtain ⟨q6, h_q6, hf⟩ := bd_e hf
    refine r_callV (As := []) (rest := [.int x3]) C hR hS t_r0 rfl mk_X10_cells cl_X10_113 (k_X10_cells t_r0 h_q6) ⟨⟨Nat.le_of_ble_eq_true rfl, Nat.le_of_ble_eq_true rfl⟩, ⟨rfl, rfl⟩, Nat.le_of_ble_eq_true rfl, Nat.le_of_ble_eq_true rfl⟩ rfl hl.1 rfl (Nat.le_of_ble_eq_true rfl) dX10_quiet_27 (fun H locs hR hS hE1 z_q6 => ?_)
    refine lv_icmp_ge (tgt := 69) C.x C.b dX10_quiet_30 (by decide) (fun c7 => ?_) (fun c7 => ?_)
    · have hf := it_t hf c7
      refine lv_aload_n C.x C.b dX10_quiet_69 rfl (lv_at hl 0 rfl) ?_
      refine lv_iload_n C.x C.b dX10_quiet_70 rfl (lv_at hl 2 rfl) ?_
      refine lv_iconst (v := (0 : Int32)) C.x C.b dX10_quiet_71 (by decide) ?_
      obtain ⟨q8, h_q8, hf⟩ := bd_e hf
      refine r_callV (As := [.int x2, .int (0 : Int32)]) (rest := []) C hR hS t_r0 rfl mk_X10_laysYet cl_X10_402 (k_X10_laysYet t_r0 h_q8) ⟨⟨Nat.le_of_ble_eq_true rfl, Nat.le_of_ble_eq_true rfl⟩, ⟨rfl, rfl⟩, Nat.le_of_ble_eq_true rfl, Nat.le_of_ble_eq_true rfl⟩ rfl hl.1 rfl (Nat.le_of_ble_eq_true rfl) dX10_quiet_72 (fun H locs hR hS hE1 z_q8 => ?_)
      have hE := hE.tr hE1
      have t_r0 := hE1.at t_r0 (by decide)
      refine lv_aload_n C.x C.b dX10_quiet_75 rfl (lv_at hl 0 rfl) ?_
      obtain ⟨g9, hf⟩ := gd_e hf
      refine r_getr C hR t_r0 fl_X10_60 (by decide) (nz_e g9) dX10_quiet_76 (fun tq10 => ?_)
      have tg9 := okA tq10 rfl
      refine lv_iload_n C.x C.b dX10_quiet_79 rfl (lv_at hl 1 rfl) ?_
      refine lv_iconst (v := (0 : Int32)) C.x C.b dX10_quiet_80 (by decide) ?_
      obtain ⟨q11, h_q11, hf⟩ := bd_e hf
      refine r_callS (As := [.int x1, .int (0 : Int32)]) (rest := [.ref (G.2.2 + (hpR q8 r0 29))]) C hR hS mk_X10_state cl_X10_396 (k_X10_state h_q11) ⟨⟨Nat.le_of_ble_eq_true rfl, Nat.le_of_ble_eq_true rfl⟩, ⟨rfl, rfl⟩, Nat.le_of_ble_eq_true rfl, Nat.le_of_ble_eq_true rfl⟩ rfl hl.1 rfl (Nat.le_of_ble_eq_true rfl) dX10_quiet_81 (fun H locs hR hS hE1 z_q11 => ?_)
      obtain ⟨g12, hf⟩ := gd_e hf
      refine r_iald C hR tg9 g12 dX10_quiet_84 ?_
      refine lv_ldcw C.x C.b C.ow (C.ts _ lk_X10_392) dX10_quiet_85 ?_
      refine lv_icmp_lt (tgt := 96) C.x C.b dX10_quiet_88 (by decide) (fun c13 => ?_) (fun c13 => ?_)
      · have hf := it_t hf c13
        refine lv_aload_n C.x C.b dX10_quiet_96 rfl (lv_at hl 0 rfl) ?_
        refine lv_iload_n C.x C.b dX10_quiet_97 rfl (lv_at hl 1 rfl) ?_
        refine lv_iconst (v := (0 : Int32)) C.x C.b dX10_quiet_98 (by decide) ?_
        obtain ⟨q14, h_q14, hf⟩ := bd_e hf
        refine r_callV (As := [.int x1, .int (0 : Int32)]) (rest := []) C hR hS t_r0 rfl mk_X10_tellsWay cl_X10_406 (k_X10_tellsWay t_r0 h_q14) ⟨⟨Nat.le_of_ble_eq_true rfl, Nat.le_of_ble_eq_true rfl⟩, ⟨rfl, rfl⟩, Nat.le_of_ble_eq_true rfl, Nat.le_of_ble_eq_true rfl⟩ rfl hl.1 rfl (Nat.le_of_ble_eq_true rfl) dX10_quiet_99 (fun H locs hR hS hE1 z_q14 => ?_)
        have hE := hE.tr hE1
        have t_r0 := hE1.at t_r0 (by decide)
        refine lv_iconst (v := (1 : Int32)) C.x C.b dX10_quiet_102 (by decide) ?_
        refine lv_isub C.x C.b dX10_quiet_103 ?_
        have hf := so_e hf
        subst hf
        exact r_iret C hr hlk hR hE hS dX10_quiet_104
      · have hf := it_f hf c13
        refine lv_bipush (v := (-2 : Int32)) C.x C.b dX10_quiet_91 (by decide) ?_
        refine lv_goto (tgt := 104) C.x C.b dX10_quiet_93 (by decide) ?_
        have hf := so_e hf
        subst hf
        exact r_iret C hr hlk hR hE hS dX10_quiet_104
    · have hf := it_f hf c7
      refine lv_aload_n C.x C.b dX10_quiet_33 rfl (lv_at hl 0 rfl) ?_
      obtain ⟨g15, hf⟩ := gd_e hf
      refine r_getr C hR t_r0 fl_X10_63 (by decide) (nz_e g15) dX10_quiet_34 (fun tq16 => ?_)
      have tg15 := okA tq16 rfl
      refine lv_iload_n C.x C.b dX10_quiet_37 rfl (lv_at hl 3 rfl) ?_
      refine lv_iload_n C.x C.b dX10_quiet_38 rfl (lv_at hl 3 rfl) ?_
      refine lv_iload_n C.x C.b dX10_quiet_39 rfl (lv_at hl 2 rfl) ?_
      refine lv_icmp_eq (tgt := 61) C.x C.b dX10_quiet_40 (by decide) (fun c17 => ?_) (fun c17 => ?_)
      · have hf := it_t hf c17
        exact w_X10_quiet_61 C hr hlk hk25 _ _ _ _ _ _ _ hf hE hR hS t_r0 tg15 (lv_sub hl [0, 1, 2, 3] rfl)
      · have hf := it_f hf c17
        refine lv_aload_n C.x C.b dX10_quiet_43 rfl (lv_at hl 0 rfl) ?_
        refine lv_aload_n C.x C.b dX10_quiet_44 rfl (lv_at hl 0 rfl) ?_
        obtain ⟨g18, hf⟩ := gd_e hf
        refine r_getr C hR t_r0 fl_X10_20 (by decide) (nz_e g18) dX10_quiet_45 (fun tq19 => ?_)
        have tg18 := okA tq19 rfl
        refine lv_iload_n C.x C.b dX10_quiet_48 rfl (lv_at hl 3 rfl) ?_
        obtain ⟨q20, h_q20, hf⟩ := bd_e hf
        refine r_callV (As := [.ref (G.2.2 + (hpR h r0 6)), .int x3]) (rest := [.int x3, .ref (G.2.2 + (hpR h r0 30))]) C hR hS t_r0 rfl mk_X10_campsOver cl_X10_294 (k_X10_campsOver t_r0 tg18 h_q20) ⟨⟨Nat.le_of_ble_eq_true rfl, Nat.le_of_ble_eq_true rfl⟩, ⟨rfl, rfl⟩, Nat.le_of_ble_eq_true rfl, Nat.le_of_ble_eq_true rfl⟩ rfl hl.1 rfl (Nat.le_of_ble_eq_true rfl) dX10_quiet_49 (fun H locs hR hS hE1 z_q20 => ?_)
        refine lv_if_eq (tgt := 61) C.x C.b dX10_quiet_52 (by decide) (fun c21 => ?_) (fun c21 => ?_)
        · have hf := it_t hf c21
          exact w_X10_quiet_61 C hr hlk hk25 _ _ _ _ _ _ _ hf hE hR hS t_r0 tg15 (lv_sub hl [0, 1, 2, 3] rfl)
        · have hf := it_f hf c21
          refine lv_ldcw C.x C.b C.ow (C.ts _ lk_X10_392) dX10_quiet_55 ?_
          refine lv_goto (tgt := 62) C.x C.b dX10_quiet_58 (by decide) ?_
          exact w_X10_quiet_62 C hr hlk hk25 _ _ _ _ _ _ _ _ hf hE hR hS t_r0 tg15 (lv_sub hl [0, 1, 2, 3] rfl)
set_option maxRecDepth 100000 in
set_option maxHeartbeats 4000000 in
theorem k_X10_quiet {G : Gt} {l : Launch} {h : Hp} {r0 : Nat} {x1 : Int32} {x2 : Int32} {out : (Int32 × Hp)} (t_r0 : hpT h r0 = (1, 10))  (hf : f_X10_quiet h r0 x1 x2 = some out) : Mt G l yX10_quiet cX10_quiet 4 (some .int) rm_X10_quiet [.ref (G.2.2 + r0), .int x1, .int x2] h (some (.int out.1)) out.2 false 0 0 := by
  refine r_met (by decide +kernel) (Nat.le_of_ble_eq_true rfl) ?_
  intro p e s m args below meth c ls C hr hlk hnm hR hS hl
  have hE : Ext h h := Ext.rf
  have hl : lv_has ls 4 [(0, .ref (G.2.2 + r0)), (1, .int x1), (2, .int x2)] := hl
  rw [f_X10_quiet] at hf
  refine lv_aload_n C.x C.b dX10_quiet_0 rfl (lv_at hl 0 rfl) ?_
  refine lv_iconst (v := (0 : Int32)) C.x C.b dX10_quiet_1 (by decide) ?_
  refine r_puti C hR hS t_r0 fl_X10_103 fp_X10_10_0 rfl dX10_quiet_2 (fun H locs hR hS => ?_)
  obtain ⟨h1, e_h1⟩ : ∃ y, y = upI h r0 0 (0 : Int32) := ⟨_, rfl⟩
  rw [← e_h1] at hR
  have hf := lt_e hf e_h1
  have hE := eI e_h1 hE
  have t_r0 := tI e_h1 t_r0
  refine lv_aload_n C.x C.b dX10_quiet_5 rfl (lv_at hl 0 rfl) ?_
  refine lv_iload_n C.x C.b dX10_quiet_6 rfl (lv_at hl 1 rfl) ?_
  obtain ⟨q2, h_q2, hf⟩ := bd_e hf
  refine r_callV (As := [.int x1]) (rest := []) C hR hS t_r0 rfl mk_X10_isCell cl_X10_289 (k_X10_isCell t_r0 h_q2) ⟨⟨Nat.le_of_ble_eq_true rfl, Nat.le_of_ble_eq_true rfl⟩, ⟨rfl, rfl⟩, Nat.le_of_ble_eq_true rfl, Nat.le_of_ble_eq_true rfl⟩ rfl hl.1 rfl (Nat.le_of_ble_eq_true rfl) dX10_quiet_7 (fun H locs hR hS hE1 z_q2 => ?_)
  have z_q2 := z_q2 rfl _ rfl
  refine lv_if_eq (tgt := 21) C.x C.b dX10_quiet_10 (by decide) (fun c3 => ?_) (fun c3 => ?_)
  · have hf := it_t hf c3
    refine lv_iconst (v := (-1 : Int32)) C.x C.b dX10_quiet_21 (by decide) ?_
    have hf := so_e hf
    subst hf
    exact r_iret C hr hlk hR hE hS dX10_quiet_22
  · have hf := it_f hf c3
    refine lv_aload_n C.x C.b dX10_quiet_13 rfl (lv_at hl 0 rfl) ?_
    refine lv_iload_n C.x C.b dX10_quiet_14 rfl (lv_at hl 2 rfl) ?_
    obtain ⟨q4, h_q4, hf⟩ := bd_e hf
    refine r_callV (As := [.int x2]) (rest := []) C hR hS t_r0 rfl mk_X10_isCell cl_X10_289 (k_X10_isCell t_r0 h_q4) ⟨⟨Nat.le_of_ble_eq_true rfl, Nat.le_of_ble_eq_true rfl⟩, ⟨rfl, rfl⟩, Nat.le_of_ble_eq_true rfl, Nat.le_of_ble_eq_true rfl⟩ rfl hl.1 rfl (Nat.le_of_ble_eq_true rfl) dX10_quiet_15 (fun H locs hR hS hE1 z_q4 => ?_)
    have z_q4 := z_q4 rfl _ rfl
    refine lv_if_ne (tgt := 23) C.x C.b dX10_quiet_18 (by decide) (fun c5 => ?_) (fun c5 => ?_)
    · have hf := it_f hf c5
      refine lv_iconst (v := (0 : Int32)) C.x C.b dX10_quiet_23 (by decide) ?_
      refine lv_istore_n (lv' := [(3, .int (0 : Int32)), (0, .ref (G.2.2 + r0)), (1, .int x1), (2, .int x2)]) C.x C.b dX10_quiet_24 rfl hl (by decide) rfl (fun ls hl => ?_)
      exact w_X10_quiet_25 C hr hlk FU _ _ _ _ _ hf hE hR hS t_r0 (lv_sub hl [1, 2, 3, 0] rfl)
    · have hf := it_t hf c5
      refine lv_iconst (v := (-1 : Int32)) C.x C.b dX10_quiet_21 (by decide) ?_
      have hf := so_e hf
      subst hf
      exact r_iret C hr hlk hR hE hS dX10_quiet_22

def rm_X10_soft : Room := { frames := 5, cells := 0, slots := 0, locals := 126 }
def P_X10_soft_25 (G : Gt) (l : Launch) (p : Program) (e : Env) (s : State) (m : MethodId) (args : Array Value) (below : List Frame) (meth : Method) (c : Code) (h0 : Hp) (out : (Int32 × Hp)) (r0 : Nat) (x1 : Int32) (x2 : Int32) (k : Hp → Int32 → Option (Int32 × Hp)) : Prop := ∀ (H : Heap) (locs : List Loc) (ls : Array Slot) (h : Hp) (x3 : Int32), k h x3 = some out → Ext h0 h → Rel G h H → va_S (AA G.2.2) s.heap H locs → hpT h r0 = (1, 10) → lv_has ls 4 [(0, .ref (G.2.2 + r0)), (1, .int x1), (2, .int x2), (3, .int x3)] → W p l e rm_X10_soft s m args below meth c H locs 0 0 (MQ below (Qm G h0 out.2 (some (.int out.1)) false) args s 0 0 (AA G.2.2)) (F0 m 25 ls [])
set_option maxRecDepth 100000 in
set_option maxHeartbeats 4000000 in
theorem w_X10_soft_25 {G : Gt} {l : Launch} {p : Program} {e : Env} {s : State} {m : MethodId} {args : Array Value} {below : List Frame} {meth : Method} {c : Code} {h0 : Hp} {out : (Int32 × Hp)} {r0 : Nat} {x1 : Int32} {x2 : Int32}  (C : Cx G p m c cX10_soft 4 s args RX10) (hr : meth.sig.returnType = some .int) (hlk : meth.locks = false)  (n : Nat) : P_X10_soft_25 G l p e s m args below meth c h0 out r0 x1 x2 (f_X10_soft_25 r0 x1 x2 n) := by
  induction n with
  | zero => intro H locs ls h x3 hf hE hR hS t_r0 hl; cases hf
  | succ n hk25 =>
    intro H locs ls h x3 hf hE hR hS t_r0 hl
    rw [f_X10_soft_25] at hf
    obtain ⟨k25, e_k25⟩ : ∃ y, y = f_X10_soft_25 r0 x1 x2 n := ⟨_, rfl⟩
    have hf := lt_e hf e_k25
    rw [← e_k25] at hk25
    refine lv_iload_n C.x C.b dX10_soft_25 rfl (lv_at hl 3 rfl) ?_
    refine lv_aload_n C.x C.b dX10_soft_26 rfl (lv_at hl 0 rfl) ?_
    obtain ⟨q6, h_q6, hf⟩ := bd_e hf
    refine r_callV (As := []) (rest := [.int x3]) C hR hS t_r0 rfl mk_X10_cells cl_X10_113 (k_X10_cells t_r0 h_q6) ⟨⟨Nat.le_of_ble_eq_true rfl, Nat.le_of_ble_eq_true rfl⟩, ⟨rfl, rfl⟩, Nat.le_of_ble_eq_true rfl, Nat.le_of_ble_eq_true rfl⟩ rfl hl.1 rfl (Nat.le_of_ble_eq_true rfl) dX10_soft_27 (fun H locs hR hS hE1 z_q6 => ?_)
    refine lv_icmp_ge (tgt := 59) C.x C.b dX10_soft_30 (by decide) (fun c7 => ?_) (fun c7 => ?_)
    · have hf := it_t hf c7
      refine lv_aload_n C.x C.b dX10_soft_59 rfl (lv_at hl 0 rfl) ?_
      refine lv_iload_n C.x C.b dX10_soft_60 rfl (lv_at hl 2 rfl) ?_
      refine lv_iconst (v := (0 : Int32)) C.x C.b dX10_soft_61 (by decide) ?_
      obtain ⟨q8, h_q8, hf⟩ := bd_e hf
      refine r_callV (As := [.int x2, .int (0 : Int32)]) (rest := []) C hR hS t_r0 rfl mk_X10_laysYet cl_X10_402 (k_X10_laysYet t_r0 h_q8) ⟨⟨Nat.le_of_ble_eq_true rfl, Nat.le_of_ble_eq_true rfl⟩, ⟨rfl, rfl⟩, Nat.le_of_ble_eq_true rfl, Nat.le_of_ble_eq_true rfl⟩ rfl hl.1 rfl (Nat.le_of_ble_eq_true rfl) dX10_soft_62 (fun H locs hR hS hE1 z_q8 => ?_)
      have hE := hE.tr hE1
      have t_r0 := hE1.at t_r0 (by decide)
      refine lv_aload_n C.x C.b dX10_soft_65 rfl (lv_at hl 0 rfl) ?_
      refine lv_aload_n C.x C.b dX10_soft_66 rfl (lv_at hl 0 rfl) ?_
      obtain ⟨g9, hf⟩ := gd_e hf
      refine r_getr C hR t_r0 fl_X10_20 (by decide) (nz_e g9) dX10_soft_67 (fun tq10 => ?_)
      have tg9 := okA tq10 rfl
      refine lv_iload_n C.x C.b dX10_soft_70 rfl (lv_at hl 1 rfl) ?_
      obtain ⟨q11, h_q11, hf⟩ := bd_e hf
      refine r_callV (As := [.ref (G.2.2 + (hpR q8 r0 6)), .int x1]) (rest := []) C hR hS t_r0 rfl mk_X10_strengthOn cl_X10_297 (k_X10_strengthOn t_r0 tg9 h_q11) ⟨⟨Nat.le_of_ble_eq_true rfl, Nat.le_of_ble_eq_true rfl⟩, ⟨rfl, rfl⟩, Nat.le_of_ble_eq_true rfl, Nat.le_of_ble_eq_true rfl⟩ rfl hl.1 rfl (Nat.le_of_ble_eq_true rfl) dX10_soft_71 (fun H locs hR hS hE1 z_q11 => ?_)
      refine lv_aload_n C.x C.b dX10_soft_74 rfl (lv_at hl 0 rfl) ?_
      obtain ⟨g12, hf⟩ := gd_e hf
      refine r_getr C hR t_r0 fl_X10_60 (by decide) (nz_e g12) dX10_soft_75 (fun tq13 => ?_)
      have tg12 := okA tq13 rfl
      refine lv_iload_n C.x C.b dX10_soft_78 rfl (lv_at hl 1 rfl) ?_
      refine lv_iconst (v := (0 : Int32)) C.x C.b dX10_soft_79 (by decide) ?_
      obtain ⟨q14, h_q14, hf⟩ := bd_e hf
      refine r_callS (As := [.int x1, .int (0 : Int32)]) (rest := [.ref (G.2.2 + (hpR q8 r0 29)), .int q11]) C hR hS mk_X10_state cl_X10_396 (k_X10_state h_q14) ⟨⟨Nat.le_of_ble_eq_true rfl, Nat.le_of_ble_eq_true rfl⟩, ⟨rfl, rfl⟩, Nat.le_of_ble_eq_true rfl, Nat.le_of_ble_eq_true rfl⟩ rfl hl.1 rfl (Nat.le_of_ble_eq_true rfl) dX10_soft_80 (fun H locs hR hS hE1 z_q14 => ?_)
      obtain ⟨g15, hf⟩ := gd_e hf
      refine r_iald C hR tg12 g15 dX10_soft_83 ?_
      refine lv_bipush (v := (100 : Int32)) C.x C.b dX10_soft_84 (by decide) ?_
      refine lv_idiv C.x C.b dX10_soft_86 (by decide) ?_
      refine lv_iadd C.x C.b dX10_soft_87 ?_
      refine lv_topi (fun v16 e_v16 => ?_)
      have hf := lt_e hf e_v16
      refine lv_istore_n (lv' := [(3, .int v16), (0, .ref (G.2.2 + r0)), (1, .int x1), (2, .int x2)]) C.x C.b dX10_soft_88 rfl hl (by decide) rfl (fun ls hl => ?_)
      refine lv_aload_n C.x C.b dX10_soft_89 rfl (lv_at hl 1 rfl) ?_
      refine lv_iload_n C.x C.b dX10_soft_90 rfl (lv_at hl 2 rfl) ?_
      refine lv_iconst (v := (0 : Int32)) C.x C.b dX10_soft_91 (by decide) ?_
      obtain ⟨q17, h_q17, hf⟩ := bd_e hf
      refine r_callV (As := [.int x1, .int (0 : Int32)]) (rest := []) C hR hS t_r0 rfl mk_X10_tellsWay cl_X10_406 (k_X10_tellsWay t_r0 h_q17) ⟨⟨Nat.le_of_ble_eq_true rfl, Nat.le_of_ble_eq_true rfl⟩, ⟨rfl, rfl⟩, Nat.le_of_ble_eq_true rfl, Nat.le_of_ble_eq_true rfl⟩ rfl hl.1 rfl (Nat.le_of_ble_eq_true rfl) dX10_soft_92 (fun H locs hR hS hE1 z_q17 => ?_)
      have hE := hE.tr hE1
      have t_r0 := hE1.at t_r0 (by decide)
      refine lv_pop C.x C.b dX10_soft_95 rfl ?_
      refine lv_iload_n C.x C.b dX10_soft_96 rfl (lv_at hl 0 rfl) ?_
      have hf := so_e hf
      subst hf
      exact r_iret C hr hlk hR hE hS dX10_soft_97
    · have hf := it_f hf c7
      refine lv_aload_n C.x C.b dX10_soft_33 rfl (lv_at hl 0 rfl) ?_
      obtain ⟨g18, hf⟩ := gd_e hf
      refine r_getr C hR t_r0 fl_X10_63 (by decide) (nz_e g18) dX10_soft_34 (fun tq19 => ?_)
      have tg18 := okA tq19 rfl
      refine lv_iload_n C.x C.b dX10_soft_37 rfl (lv_at hl 3 rfl) ?_
      refine lv_bipush (v := (100 : Int32)) C.x C.b dX10_soft_38 (by decide) ?_
      refine lv_aload_n C.x C.b dX10_soft_40 rfl (lv_at hl 0 rfl) ?_
      refine lv_aload_n C.x C.b dX10_soft_41 rfl (lv_at hl 0 rfl) ?_
      obtain ⟨g20, hf⟩ := gd_e hf
      refine r_getr C hR t_r0 fl_X10_20 (by decide) (nz_e g20) dX10_soft_42 (fun tq21 => ?_)
      have tg20 := okA tq21 rfl
      refine lv_iload_n C.x C.b dX10_soft_45 rfl (lv_at hl 3 rfl) ?_
      obtain ⟨q22, h_q22, hf⟩ := bd_e hf
      refine r_callV (As := [.ref (G.2.2 + (hpR h r0 6)), .int x3]) (rest := [.int (100 : Int32), .int x3, .ref (G.2.2 + (hpR h r0 30))]) C hR hS t_r0 rfl mk_X10_strengthOn cl_X10_297 (k_X10_strengthOn t_r0 tg20 h_q22) ⟨⟨Nat.le_of_ble_eq_true rfl, Nat.le_of_ble_eq_true rfl⟩, ⟨rfl, rfl⟩, Nat.le_of_ble_eq_true rfl, Nat.le_of_ble_eq_true rfl⟩ rfl hl.1 rfl (Nat.le_of_ble_eq_true rfl) dX10_soft_46 (fun H locs hR hS hE1 z_q22 => ?_)
      refine lv_imul C.x C.b dX10_soft_49 ?_
      refine lv_iconst (v := (1 : Int32)) C.x C.b dX10_soft_50 (by decide) ?_
      refine lv_iadd C.x C.b dX10_soft_51 ?_
      obtain ⟨g23, hf⟩ := gd_e hf
      refine r_iast C hR hS tg18 g23 dX10_soft_52 (fun H locs hR hS => ?_)
      obtain ⟨h24, e_h24⟩ : ∃ y, y = upI h (hpR h r0 30) (ix x3) (((100 : Int32) * q22) + (1 : Int32)) := ⟨_, rfl⟩
      rw [← e_h24] at hR
      have hf := lt_e hf e_h24
      have hE := eI e_h24 hE
      have t_r0 := tI e_h24 t_r0
      obtain ⟨v25, e_v25⟩ : ∃ y : Int32, y = x3 + (1 : Int32) := ⟨_, rfl⟩
      have hf := lt_e hf e_v25
      refine lv_iinc (v := v25) (lv' := [(3, .int v25), (0, .ref (G.2.2 + r0)), (1, .int x1), (2, .int x2)]) C.x C.b dX10_soft_53 hl (k := 3) rfl (by rw [e_v25]; rfl) (by decide) rfl (fun ls hl => ?_)
      refine lv_goto (tgt := 25) C.x C.b dX10_soft_56 (by decide) ?_
      exact hk25 _ _ _ _ _ hf hE hR hS t_r0 (lv_sub hl [1, 2, 3, 0] rfl)
set_option maxRecDepth 100000 in
set_option maxHeartbeats 4000000 in
theorem k_X10_soft {G : Gt} {l : Launch} {h : Hp} {r0 : Nat} {x1 : Int32} {x2 : Int32} {out : (Int32 × Hp)} (t_r0 : hpT h r0 = (1, 10))  (hf : f_X10_soft h r0 x1 x2 = some out) : Mt G l yX10_soft cX10_soft 4 (some .int) rm_X10_soft [.ref (G.2.2 + r0), .int x1, .int x2] h (some (.int out.1)) out.2 false 0 0 := by
  refine r_met (by decide +kernel) (Nat.le_of_ble_eq_true rfl) ?_
  intro p e s m args below meth c ls C hr hlk hnm hR hS hl
  have hE : Ext h h := Ext.rf
  have hl : lv_has ls 4 [(0, .ref (G.2.2 + r0)), (1, .int x1), (2, .int x2)] := hl
  rw [f_X10_soft] at hf
  refine lv_aload_n C.x C.b dX10_soft_0 rfl (lv_at hl 0 rfl) ?_
  refine lv_iconst (v := (0 : Int32)) C.x C.b dX10_soft_1 (by decide) ?_
  refine r_puti C hR hS t_r0 fl_X10_103 fp_X10_10_0 rfl dX10_soft_2 (fun H locs hR hS => ?_)
  obtain ⟨h1, e_h1⟩ : ∃ y, y = upI h r0 0 (0 : Int32) := ⟨_, rfl⟩
  rw [← e_h1] at hR
  have hf := lt_e hf e_h1
  have hE := eI e_h1 hE
  have t_r0 := tI e_h1 t_r0
  refine lv_aload_n C.x C.b dX10_soft_5 rfl (lv_at hl 0 rfl) ?_
  refine lv_iload_n C.x C.b dX10_soft_6 rfl (lv_at hl 1 rfl) ?_
  obtain ⟨q2, h_q2, hf⟩ := bd_e hf
  refine r_callV (As := [.int x1]) (rest := []) C hR hS t_r0 rfl mk_X10_isCell cl_X10_289 (k_X10_isCell t_r0 h_q2) ⟨⟨Nat.le_of_ble_eq_true rfl, Nat.le_of_ble_eq_true rfl⟩, ⟨rfl, rfl⟩, Nat.le_of_ble_eq_true rfl, Nat.le_of_ble_eq_true rfl⟩ rfl hl.1 rfl (Nat.le_of_ble_eq_true rfl) dX10_soft_7 (fun H locs hR hS hE1 z_q2 => ?_)
  have z_q2 := z_q2 rfl _ rfl
  refine lv_if_eq (tgt := 21) C.x C.b dX10_soft_10 (by decide) (fun c3 => ?_) (fun c3 => ?_)
  · have hf := it_t hf c3
    refine lv_iconst (v := (-1 : Int32)) C.x C.b dX10_soft_21 (by decide) ?_
    have hf := so_e hf
    subst hf
    exact r_iret C hr hlk hR hE hS dX10_soft_22
  · have hf := it_f hf c3
    refine lv_aload_n C.x C.b dX10_soft_13 rfl (lv_at hl 0 rfl) ?_
    refine lv_iload_n C.x C.b dX10_soft_14 rfl (lv_at hl 2 rfl) ?_
    obtain ⟨q4, h_q4, hf⟩ := bd_e hf
    refine r_callV (As := [.int x2]) (rest := []) C hR hS t_r0 rfl mk_X10_isCell cl_X10_289 (k_X10_isCell t_r0 h_q4) ⟨⟨Nat.le_of_ble_eq_true rfl, Nat.le_of_ble_eq_true rfl⟩, ⟨rfl, rfl⟩, Nat.le_of_ble_eq_true rfl, Nat.le_of_ble_eq_true rfl⟩ rfl hl.1 rfl (Nat.le_of_ble_eq_true rfl) dX10_soft_15 (fun H locs hR hS hE1 z_q4 => ?_)
    have z_q4 := z_q4 rfl _ rfl
    refine lv_if_ne (tgt := 23) C.x C.b dX10_soft_18 (by decide) (fun c5 => ?_) (fun c5 => ?_)
    · have hf := it_f hf c5
      refine lv_iconst (v := (0 : Int32)) C.x C.b dX10_soft_23 (by decide) ?_
      refine lv_istore_n (lv' := [(3, .int (0 : Int32)), (0, .ref (G.2.2 + r0)), (1, .int x1), (2, .int x2)]) C.x C.b dX10_soft_24 rfl hl (by decide) rfl (fun ls hl => ?_)
      exact w_X10_soft_25 C hr hlk FU _ _ _ _ _ hf hE hR hS t_r0 (lv_sub hl [1, 2, 3, 0] rfl)
    · have hf := it_t hf c5
      refine lv_iconst (v := (-1 : Int32)) C.x C.b dX10_soft_21 (by decide) ?_
      have hf := so_e hf
      subst hf
      exact r_iret C hr hlk hR hE hS dX10_soft_22

def rm_X10_seenFrom : Room := { frames := 4, cells := 0, slots := 0, locals := 98 }
def P_X10_seenFrom_116 (G : Gt) (l : Launch) (p : Program) (e : Env) (s : State) (m : MethodId) (args : Array Value) (below : List Frame) (meth : Method) (c : Code) (h : Hp) (out : Int32) (r0 : Nat) (x1 : Int32) (k : Int32 → Int32 → Int32 → Int32 → Int32 → Int32 → Int32 → Option Int32) : Prop := ∀ (H : Heap) (locs : List Loc) (ls : Array Slot) (s0 : Int32) (s1 : Int32) (x2 : Int32) (x3 : Int32) (x4 : Int32) (x5 : Int32) (x7 : Int32), k s0 s1 x2 x3 x4 x5 x7 = some out → Rel G h H → va_S (AA G.2.2) s.heap H locs → hpT h r0 = (1, 10) → lv_has ls 8 [(0, .ref (G.2.2 + r0)), (1, .int x1), (2, .int x2), (3, .int x3), (4, .int x4), (5, .int x5), (7, .int x7)] → W p l e rm_X10_seenFrom s m args below meth c H locs 0 0 (MQ below (Qm G h h (some (.int out)) false) args s 0 0 (AA G.2.2)) (F0 m 116 ls [.int s1, .int s0])
def P_X10_seenFrom_87 (G : Gt) (l : Launch) (p : Program) (e : Env) (s : State) (m : MethodId) (args : Array Value) (below : List Frame) (meth : Method) (c : Code) (h : Hp) (out : Int32) (r0 : Nat) (x1 : Int32) (k : Int32 → Int32 → Int32 → Int32 → Int32 → Int32 → Int32 → Option Int32) : Prop := ∀ (H : Heap) (locs : List Loc) (ls : Array Slot) (s0 : Int32) (s1 : Int32) (x3 : Int32) (x4 : Int32) (x5 : Int32) (x6 : Int32) (x7 : Int32), k s0 s1 x3 x4 x5 x6 x7 = some out → Rel G h H → va_S (AA G.2.2) s.heap H locs → hpT h r0 = (1, 10) → lv_has ls 8 [(0, .ref (G.2.2 + r0)), (1, .int x1), (3, .int x3), (4, .int x4), (5, .int x5), (6, .int x6), (7, .int x7)] → W p l e rm_X10_seenFrom s m args below meth c H locs 0 0 (MQ below (Qm G h h (some (.int out)) false) args s 0 0 (AA G.2.2)) (F0 m 87 ls [.int s1, .int s0])
def P_X10_seenFrom_86 (G : Gt) (l : Launch) (p : Program) (e : Env) (s : State) (m : MethodId) (args : Array Value) (below : List Frame) (meth : Method) (c : Code) (h : Hp) (out : Int32) (r0 : Nat) (x1 : Int32) (k : Int32 → Int32 → Int32 → Int32 → Int32 → Int32 → Option Int32) : Prop := ∀ (H : Heap) (locs : List Loc) (ls : Array Slot) (s0 : Int32) (x3 : Int32) (x4 : Int32) (x5 : Int32) (x6 : Int32) (x7 : Int32), k s0 x3 x4 x5 x6 x7 = some out → Rel G h H → va_S (AA G.2.2) s.heap H locs → hpT h r0 = (1, 10) → lv_has ls 8 [(0, .ref (G.2.2 + r0)), (1, .int x1), (3, .int x3), (4, .int x4), (5, .int x5), (6, .int x6), (7, .int x7)] → W p l e rm_X10_seenFrom s m args below meth c H locs 0 0 (MQ below (Qm G h h (some (.int out)) false) args s 0 0 (AA G.2.2)) (F0 m 86 ls [.int s0])
def P_X10_seenFrom_41 (G : Gt) (l : Launch) (p : Program) (e : Env) (s : State) (m : MethodId) (args : Array Value) (below : List Frame) (meth : Method) (c : Code) (h : Hp) (out : Int32) (r0 : Nat) (x1 : Int32) (k : Int32 → Int32 → Int32 → Int32 → Int32 → Int32 → Option Int32) : Prop := ∀ (H : Heap) (locs : List Loc) (ls : Array Slot) (x2 : Int32) (x3 : Int32) (x4 : Int32) (x5 : Int32) (x6 : Int32) (x7 : Int32), k x2 x3 x4 x5 x6 x7 = some out → Rel G h H → va_S (AA G.2.2) s.heap H locs → hpT h r0 = (1, 10) → lv_has ls 8 [(0, .ref (G.2.2 + r0)), (1, .int x1), (2, .int x2), (3, .int x3), (4, .int x4), (5, .int x5), (6, .int x6), (7, .int x7)] → W p l e rm_X10_seenFrom s m args below meth c H locs 0 0 (MQ below (Qm G h h (some (.int out)) false) args s 0 0 (AA G.2.2)) (F0 m 41 ls [])
def P_X10_seenFrom_7 (G : Gt) (l : Launch) (p : Program) (e : Env) (s : State) (m : MethodId) (args : Array Value) (below : List Frame) (meth : Method) (c : Code) (h : Hp) (out : Int32) (r0 : Nat) (x1 : Int32) (k : Int32 → Int32 → Int32 → Option Int32) : Prop := ∀ (H : Heap) (locs : List Loc) (ls : Array Slot) (x2 : Int32) (x3 : Int32) (x4 : Int32), k x2 x3 x4 = some out → Rel G h H → va_S (AA G.2.2) s.heap H locs → hpT h r0 = (1, 10) → lv_has ls 8 [(0, .ref (G.2.2 + r0)), (1, .int x1), (2, .int x2), (3, .int x3), (4, .int x4)] → W p l e rm_X10_seenFrom s m args below meth c H locs 0 0 (MQ below (Qm G h h (some (.int out)) false) args s 0 0 (AA G.2.2)) (F0 m 7 ls [])
set_option maxRecDepth 100000 in
set_option maxHeartbeats 4000000 in
theorem w_X10_seenFrom_116 {G : Gt} {l : Launch} {p : Program} {e : Env} {s : State} {m : MethodId} {args : Array Value} {below : List Frame} {meth : Method} {c : Code} {h : Hp} {out : Int32} {r0 : Nat} {x1 : Int32} {k7 : Int32 → Int32 → Int32 → Option Int32} {k41 : Int32 → Int32 → Int32 → Int32 → Int32 → Int32 → Option Int32} (C : Cx G p m c cX10_seenFrom 8 s args RX10) (hr : meth.sig.returnType = some .int) (hlk : meth.locks = false) (hk7 : P_X10_seenFrom_7 G l p e s m args below meth c h out r0 x1 k7) (hk41 : P_X10_seenFrom_41 G l p e s m args below meth c h out r0 x1 k41) : P_X10_seenFrom_116 G l p e s m args below meth c h out r0 x1 (f_X10_seenFrom_116 h r0 x1 k7 k41) := by
  intro H locs ls s0 s1 x2 x3 x4 x5 x7 hf hR hS t_r0 hl
  rw [f_X10_seenFrom_116] at hf
  refine va_mmax C.x C.b (C.ml.trans hl.1.symm) C.ow (C.ts _ lk_X10_272) (C.ts _ lk_Mmax_s) (C.ts _ lk_Math) (C.ts _ lk_Mmax_c) (Nat.le_of_ble_eq_true rfl) (Nat.le_of_ble_eq_true rfl) (Nat.le_of_ble_eq_true rfl) (Nat.le_of_ble_eq_true rfl) dX10_seenFrom_116 ?_
  refine lv_topi (fun v23 e_v23 => ?_)
  have hf := lt_e hf e_v23
  refine lv_istore (lv' := [(6, .int v23), (0, .ref (G.2.2 + r0)), (1, .int x1), (2, .int x2), (3, .int x3), (4, .int x4), (5, .int x5), (7, .int x7)]) C.x C.b dX10_seenFrom_119 hl (by decide) rfl (fun ls hl => ?_)
  obtain ⟨v24, e_v24⟩ : ∃ y : Int32, y = x7 + (1 : Int32) := ⟨_, rfl⟩
  have hf := lt_e hf e_v24
  refine lv_iinc (v := v24) (lv' := [(7, .int v24), (6, .int v23), (0, .ref (G.2.2 + r0)), (1, .int x1), (2, .int x2), (3, .int x3), (4, .int x4), (5, .int x5)]) C.x C.b dX10_seenFrom_121 hl (k := 7) rfl (by rw [e_v24]; rfl) (by decide) rfl (fun ls hl => ?_)
  refine lv_goto (tgt := 41) C.x C.b dX10_seenFrom_124 (by decide) ?_
  exact hk41 _ _ _ _ _ _ _ _ _ hf hR hS t_r0 (lv_sub hl [2, 3, 4, 5, 6, 7, 1, 0] rfl)
set_option maxRecDepth 100000 in
set_option maxHeartbeats 4000000 in
theorem w_X10_seenFrom_87 {G : Gt} {l : Launch} {p : Program} {e : Env} {s : State} {m : MethodId} {args : Array Value} {below : List Frame} {meth : Method} {c : Code} {h : Hp} {out : Int32} {r0 : Nat} {x1 : Int32} {k7 : Int32 → Int32 → Int32 → Option Int32} {k41 : Int32 → Int32 → Int32 → Int32 → Int32 → Int32 → Option Int32} (C : Cx G p m c cX10_seenFrom 8 s args RX10) (hr : meth.sig.returnType = some .int) (hlk : meth.locks = false) (hk7 : P_X10_seenFrom_7 G l p e s m args below meth c h out r0 x1 k7) (hk41 : P_X10_seenFrom_41 G l p e s m args below meth c h out r0 x1 k41) : P_X10_seenFrom_87 G l p e s m args below meth c h out r0 x1 (f_X10_seenFrom_87 h r0 x1 k7 k41) := by
  intro H locs ls s0 s1 x3 x4 x5 x6 x7 hf hR hS t_r0 hl
  rw [f_X10_seenFrom_87] at hf
  refine lv_ior C.x C.b dX10_seenFrom_87 ?_
  refine lv_topi (fun v17 e_v17 => ?_)
  have hf := lt_e hf e_v17
  refine lv_istore_n (lv' := [(2, .int v17), (0, .ref (G.2.2 + r0)), (1, .int x1), (3, .int x3), (4, .int x4), (5, .int x5), (6, .int x6), (7, .int x7)]) C.x C.b dX10_seenFrom_88 rfl hl (by decide) rfl (fun ls hl => ?_)
  refine lv_iload C.x C.b dX10_seenFrom_89 (lv_at hl 6 rfl) ?_
  refine lv_iload C.x C.b dX10_seenFrom_91 (lv_at hl 5 rfl) ?_
  refine lv_i2l C.x C.b dX10_seenFrom_93 rfl ?_
  refine lv_iload C.x C.b dX10_seenFrom_94 (lv_at hl 7 rfl) ?_
  obtain ⟨q18, h_q18, hf⟩ := bd_e hf
  refine r_callS (As := [.long (x5.toInt64), .int x7]) (rest := [.int x6]) C hR hS mk_X10_has cl_X10_137 (k_X10_has h_q18) ⟨⟨Nat.le_of_ble_eq_true rfl, Nat.le_of_ble_eq_true rfl⟩, ⟨rfl, rfl⟩, Nat.le_of_ble_eq_true rfl, Nat.le_of_ble_eq_true rfl⟩ rfl hl.1 rfl (Nat.le_of_ble_eq_true rfl) dX10_seenFrom_96 (fun H locs hR hS hE1 z_q18 => ?_)
  have z_q18 := z_q18 rfl _ rfl
  refine lv_if_eq (tgt := 115) C.x C.b dX10_seenFrom_99 (by decide) (fun c19 => ?_) (fun c19 => ?_)
  · have hf := it_t hf c19
    refine lv_iconst (v := (0 : Int32)) C.x C.b dX10_seenFrom_115 (by decide) ?_
    exact w_X10_seenFrom_116 C hr hlk hk7 hk41 _ _ _ _ _ _ _ _ _ _ hf hR hS t_r0 (lv_sub hl [1, 2, 0, 3, 4, 5, 7] rfl)
  · have hf := it_f hf c19
    refine lv_aload_n C.x C.b dX10_seenFrom_102 rfl (lv_at hl 1 rfl) ?_
    obtain ⟨g20, hf⟩ := gd_e hf
    refine r_getr C hR t_r0 fl_X10_20 (by decide) (nz_e g20) dX10_seenFrom_103 (fun tq21 => ?_)
    have tg20 := okA tq21 rfl
    refine lv_bipush (v := (24 : Int32)) C.x C.b dX10_seenFrom_106 (by decide) ?_
    refine lv_iload C.x C.b dX10_seenFrom_108 (lv_at hl 7 rfl) ?_
    refine lv_iadd C.x C.b dX10_seenFrom_110 ?_
    obtain ⟨g22, hf⟩ := gd_e hf
    refine r_iald C hR tg20 g22 dX10_seenFrom_111 ?_
    refine lv_goto (tgt := 116) C.x C.b dX10_seenFrom_112 (by decide) ?_
    exact w_X10_seenFrom_116 C hr hlk hk7 hk41 _ _ _ _ _ _ _ _ _ _ hf hR hS t_r0 (lv_sub hl [1, 2, 0, 3, 4, 5, 7] rfl)
set_option maxRecDepth 100000 in
set_option maxHeartbeats 4000000 in
theorem w_X10_seenFrom_86 {G : Gt} {l : Launch} {p : Program} {e : Env} {s : State} {m : MethodId} {args : Array Value} {below : List Frame} {meth : Method} {c : Code} {h : Hp} {out : Int32} {r0 : Nat} {x1 : Int32} {k7 : Int32 → Int32 → Int32 → Option Int32} {k41 : Int32 → Int32 → Int32 → Int32 → Int32 → Int32 → Option Int32} (C : Cx G p m c cX10_seenFrom 8 s args RX10) (hr : meth.sig.returnType = some .int) (hlk : meth.locks = false) (hk7 : P_X10_seenFrom_7 G l p e s m args below meth c h out r0 x1 k7) (hk41 : P_X10_seenFrom_41 G l p e s m args below meth c h out r0 x1 k41) : P_X10_seenFrom_86 G l p e s m args below meth c h out r0 x1 (f_X10_seenFrom_86 h r0 x1 k7 k41) := by
  intro H locs ls s0 x3 x4 x5 x6 x7 hf hR hS t_r0 hl
  rw [f_X10_seenFrom_86] at hf
  refine lv_iconst (v := (0 : Int32)) C.x C.b dX10_seenFrom_86 (by decide) ?_
  exact w_X10_seenFrom_87 C hr hlk hk7 hk41 _ _ _ _ _ _ _ _ _ _ hf hR hS t_r0 (lv_sub hl [0, 1, 2, 3, 4, 5, 6] rfl)
set_option maxRecDepth 100000 in
set_option maxHeartbeats 4000000 in
theorem w_X10_seenFrom_41 {G : Gt} {l : Launch} {p : Program} {e : Env} {s : State} {m : MethodId} {args : Array Value} {below : List Frame} {meth : Method} {c : Code} {h : Hp} {out : Int32} {r0 : Nat} {x1 : Int32} {k7 : Int32 → Int32 → Int32 → Option Int32} (C : Cx G p m c cX10_seenFrom 8 s args RX10) (hr : meth.sig.returnType = some .int) (hlk : meth.locks = false) (hk7 : P_X10_seenFrom_7 G l p e s m args below meth c h out r0 x1 k7) (n : Nat) : P_X10_seenFrom_41 G l p e s m args below meth c h out r0 x1 (f_X10_seenFrom_41 h r0 x1 k7 n) := by
  induction n with
  | zero => intro H locs ls x2 x3 x4 x5 x6 x7 hf hR hS t_r0 hl; cases hf
  | succ n hk41 =>
    intro H locs ls x2 x3 x4 x5 x6 x7 hf hR hS t_r0 hl
    rw [f_X10_seenFrom_41] at hf
    obtain ⟨k41, e_k41⟩ : ∃ y, y = f_X10_seenFrom_41 h r0 x1 k7 n := ⟨_, rfl⟩
    have hf := lt_e hf e_k41
    rw [← e_k41] at hk41
    refine lv_iload C.x C.b dX10_seenFrom_41 (lv_at hl 7 rfl) ?_
    refine lv_aload_n C.x C.b dX10_seenFrom_43 rfl (lv_at hl 0 rfl) ?_
    obtain ⟨g5, hf⟩ := gd_e hf
    refine r_getr C hR t_r0 fl_X10_20 (by decide) (nz_e g5) dX10_seenFrom_44 (fun tq6 => ?_)
    have tg5 := okA tq6 rfl
    refine lv_bipush (v := (48 : Int32)) C.x C.b dX10_seenFrom_47 (by decide) ?_
    obtain ⟨g7, hf⟩ := gd_e hf
    refine r_iald C hR tg5 g7 dX10_seenFrom_49 ?_
    refine lv_icmp_ge (tgt := 127) C.x C.b dX10_seenFrom_50 (by decide) (fun c8 => ?_) (fun c8 => ?_)
    · have hf := it_t hf c8
      refine lv_iload_n C.x C.b dX10_seenFrom_127 rfl (lv_at hl 3 rfl) ?_
      refine lv_iload C.x C.b dX10_seenFrom_128 (lv_at hl 6 rfl) ?_
      refine va_mmax C.x C.b (C.ml.trans hl.1.symm) C.ow (C.ts _ lk_X10_272) (C.ts _ lk_Mmax_s) (C.ts _ lk_Math) (C.ts _ lk_Mmax_c) (Nat.le_of_ble_eq_true rfl) (Nat.le_of_ble_eq_true rfl) (Nat.le_of_ble_eq_true rfl) (Nat.le_of_ble_eq_true rfl) dX10_seenFrom_130 ?_
      refine lv_topi (fun v9 e_v9 => ?_)
      have hf := lt_e hf e_v9
      refine lv_istore_n (lv' := [(3, .int v9), (0, .ref (G.2.2 + r0)), (1, .int x1), (2, .int x2), (4, .int x4), (5, .int x5), (6, .int x6), (7, .int x7)]) C.x C.b dX10_seenFrom_133 rfl hl (by decide) rfl (fun ls hl => ?_)
      obtain ⟨v10, e_v10⟩ : ∃ y : Int32, y = x4 + (1 : Int32) := ⟨_, rfl⟩
      have hf := lt_e hf e_v10
      refine lv_iinc (v := v10) (lv' := [(4, .int v10), (3, .int v9), (0, .ref (G.2.2 + r0)), (1, .int x1), (2, .int x2), (5, .int x5), (6, .int x6), (7, .int x7)]) C.x C.b dX10_seenFrom_134 hl (k := 4) rfl (by rw [e_v10]; rfl) (by decide) rfl (fun ls hl => ?_)
      refine lv_goto (tgt := 7) C.x C.b dX10_seenFrom_137 (by decide) ?_
      exact hk7 _ _ _ _ _ _ hf hR hS t_r0 (lv_sub hl [2, 3, 4, 1, 0] rfl)
    · have hf := it_f hf c8
      refine lv_iload_n C.x C.b dX10_seenFrom_53 rfl (lv_at hl 2 rfl) ?_
      refine lv_iload C.x C.b dX10_seenFrom_54 (lv_at hl 5 rfl) ?_
      refine lv_i2l C.x C.b dX10_seenFrom_56 rfl ?_
      refine lv_iload C.x C.b dX10_seenFrom_57 (lv_at hl 7 rfl) ?_
      obtain ⟨q11, h_q11, hf⟩ := bd_e hf
      refine r_callS (As := [.long (x5.toInt64), .int x7]) (rest := [.int x2]) C hR hS mk_X10_has cl_X10_137 (k_X10_has h_q11) ⟨⟨Nat.le_of_ble_eq_true rfl, Nat.le_of_ble_eq_true rfl⟩, ⟨rfl, rfl⟩, Nat.le_of_ble_eq_true rfl, Nat.le_of_ble_eq_true rfl⟩ rfl hl.1 rfl (Nat.le_of_ble_eq_true rfl) dX10_seenFrom_59 (fun H locs hR hS hE1 z_q11 => ?_)
      have z_q11 := z_q11 rfl _ rfl
      refine lv_if_eq (tgt := 86) C.x C.b dX10_seenFrom_62 (by decide) (fun c12 => ?_) (fun c12 => ?_)
      · have hf := it_t hf c12
        exact w_X10_seenFrom_86 C hr hlk hk7 hk41 _ _ _ _ _ _ _ _ _ hf hR hS t_r0 (lv_sub hl [0, 1, 3, 4, 5, 6, 7] rfl)
      · have hf := it_f hf c12
        refine lv_aload_n C.x C.b dX10_seenFrom_65 rfl (lv_at hl 0 rfl) ?_
        refine r_getr C hR t_r0 fl_X10_20 (by decide) (nz_e g5) dX10_seenFrom_66 (fun tq13 => ?_)
        refine lv_bipush (v := (24 : Int32)) C.x C.b dX10_seenFrom_69 (by decide) ?_
        refine lv_iload C.x C.b dX10_seenFrom_71 (lv_at hl 7 rfl) ?_
        refine lv_iadd C.x C.b dX10_seenFrom_73 ?_
        obtain ⟨g14, hf⟩ := gd_e hf
        refine r_iald C hR tg5 g14 dX10_seenFrom_74 ?_
        refine lv_iload_n C.x C.b dX10_seenFrom_75 rfl (lv_at hl 3 rfl) ?_
        refine lv_icmp_lt (tgt := 86) C.x C.b dX10_seenFrom_76 (by decide) (fun c15 => ?_) (fun c15 => ?_)
        · have hf := it_t hf c15
          exact w_X10_seenFrom_86 C hr hlk hk7 hk41 _ _ _ _ _ _ _ _ _ hf hR hS t_r0 (lv_sub hl [0, 1, 3, 4, 5, 6, 7] rfl)
        · have hf := it_f hf c15
          refine lv_iconst (v := (1 : Int32)) C.x C.b dX10_seenFrom_79 (by decide) ?_
          refine lv_iload C.x C.b dX10_seenFrom_80 (lv_at hl 7 rfl) ?_
          refine lv_ishl C.x C.b dX10_seenFrom_82 ?_
          refine lv_topi (fun v16 e_v16 => ?_)
          have hf := lt_e hf e_v16
          refine lv_goto (tgt := 87) C.x C.b dX10_seenFrom_83 (by decide) ?_
          exact w_X10_seenFrom_87 C hr hlk hk7 hk41 _ _ _ _ _ _ _ _ _ _ hf hR hS t_r0 (lv_sub hl [0, 1, 3, 4, 5, 6, 7] rfl)
set_option maxRecDepth 100000 in
set_option maxHeartbeats 4000000 in
theorem w_X10_seenFrom_7 {G : Gt} {l : Launch} {p : Program} {e : Env} {s : State} {m : MethodId} {args : Array Value} {below : List Frame} {meth : Method} {c : Code} {h : Hp} {out : Int32} {r0 : Nat} {x1 : Int32}  (C : Cx G p m c cX10_seenFrom 8 s args RX10) (hr : meth.sig.returnType = some .int) (hlk : meth.locks = false)  (n : Nat) : P_X10_seenFrom_7 G l p e s m args below meth c h out r0 x1 (f_X10_seenFrom_7 h r0 x1 n) := by
  induction n with
  | zero => intro H locs ls x2 x3 x4 hf hR hS t_r0 hl; cases hf
  | succ n hk7 =>
    intro H locs ls x2 x3 x4 hf hR hS t_r0 hl
    rw [f_X10_seenFrom_7] at hf
    obtain ⟨k7, e_k7⟩ : ∃ y, y = f_X10_seenFrom_7 h r0 x1 n := ⟨_, rfl⟩
    have hf := lt_e hf e_k7
    rw [← e_k7] at hk7
    refine lv_iload C.x C.b dX10_seenFrom_7 (lv_at hl 4 rfl) ?_
    refine lv_aload_n C.x C.b dX10_seenFrom_9 rfl (lv_at hl 0 rfl) ?_
    refine r_geti C hR t_r0 fl_X10_17 rfl dX10_seenFrom_10 ?_
    refine lv_icmp_ge (tgt := 140) C.x C.b dX10_seenFrom_13 (by decide) (fun c1 => ?_) (fun c1 => ?_)
    · have hf := it_t hf c1
      refine lv_iload_n C.x C.b dX10_seenFrom_140 rfl (lv_at hl 2 rfl) ?_
      have hf := so_e hf
      subst hf
      exact r_iret C hr hlk hR Ext.rf hS dX10_seenFrom_141
    · have hf := it_f hf c1
      refine lv_aload_n C.x C.b dX10_seenFrom_16 rfl (lv_at hl 0 rfl) ?_
      refine lv_aload_n C.x C.b dX10_seenFrom_17 rfl (lv_at hl 0 rfl) ?_
      obtain ⟨g2, hf⟩ := gd_e hf
      refine r_getr C hR t_r0 fl_X10_20 (by decide) (nz_e g2) dX10_seenFrom_18 (fun tq3 => ?_)
      have tg2 := okA tq3 rfl
      refine lv_aload_n C.x C.b dX10_seenFrom_21 rfl (lv_at hl 0 rfl) ?_
      refine r_geti C hR t_r0 fl_X10_17 rfl dX10_seenFrom_22 ?_
      refine lv_iload_n C.x C.b dX10_seenFrom_25 rfl (lv_at hl 1 rfl) ?_
      refine lv_imul C.x C.b dX10_seenFrom_26 ?_
      refine lv_iload C.x C.b dX10_seenFrom_27 (lv_at hl 4 rfl) ?_
      refine lv_iadd C.x C.b dX10_seenFrom_29 ?_
      obtain ⟨q4, h_q4, hf⟩ := bd_e hf
      refine r_callV (As := [.ref (G.2.2 + (hpR h r0 6)), .int (((hpI h r0 4) * x1) + x4)]) (rest := []) C hR hS t_r0 rfl mk_X10_campsOver cl_X10_294 (k_X10_campsOver t_r0 tg2 h_q4) ⟨⟨Nat.le_of_ble_eq_true rfl, Nat.le_of_ble_eq_true rfl⟩, ⟨rfl, rfl⟩, Nat.le_of_ble_eq_true rfl, Nat.le_of_ble_eq_true rfl⟩ rfl hl.1 rfl (Nat.le_of_ble_eq_true rfl) dX10_seenFrom_30 (fun H locs hR hS hE1 z_q4 => ?_)
      refine lv_istore (lv' := [(5, .int q4), (0, .ref (G.2.2 + r0)), (1, .int x1), (2, .int x2), (3, .int x3), (4, .int x4)]) C.x C.b dX10_seenFrom_33 hl (by decide) rfl (fun ls hl => ?_)
      refine lv_iconst (v := (0 : Int32)) C.x C.b dX10_seenFrom_35 (by decide) ?_
      refine lv_istore (lv' := [(6, .int (0 : Int32)), (5, .int q4), (0, .ref (G.2.2 + r0)), (1, .int x1), (2, .int x2), (3, .int x3), (4, .int x4)]) C.x C.b dX10_seenFrom_36 hl (by decide) rfl (fun ls hl => ?_)
      refine lv_iconst (v := (0 : Int32)) C.x C.b dX10_seenFrom_38 (by decide) ?_
      refine lv_istore (lv' := [(7, .int (0 : Int32)), (6, .int (0 : Int32)), (5, .int q4), (0, .ref (G.2.2 + r0)), (1, .int x1), (2, .int x2), (3, .int x3), (4, .int x4)]) C.x C.b dX10_seenFrom_39 hl (by decide) rfl (fun ls hl => ?_)
      exact w_X10_seenFrom_41 C hr hlk hk7 FU _ _ _ _ _ _ _ _ _ hf hR hS t_r0 (lv_sub hl [3, 4, 5, 6, 7, 2, 1, 0] rfl)
set_option maxRecDepth 100000 in
set_option maxHeartbeats 4000000 in
theorem k_X10_seenFrom {G : Gt} {l : Launch} {h : Hp} {r0 : Nat} {x1 : Int32} {out : Int32} (t_r0 : hpT h r0 = (1, 10))  (hf : f_X10_seenFrom h r0 x1 = some out) : Mt G l yX10_seenFrom cX10_seenFrom 8 (some .int) rm_X10_seenFrom [.ref (G.2.2 + r0), .int x1] h (some (.int out)) h false 0 0 := by
  refine r_met (by decide +kernel) (Nat.le_of_ble_eq_true rfl) ?_
  intro p e s m args below meth c ls C hr hlk hnm hR hS hl
  have hl : lv_has ls 8 [(0, .ref (G.2.2 + r0)), (1, .int x1)] := hl
  rw [f_X10_seenFrom] at hf
  refine lv_iconst (v := (0 : Int32)) C.x C.b dX10_seenFrom_0 (by decide) ?_
  refine lv_istore_n (lv' := [(2, .int (0 : Int32)), (0, .ref (G.2.2 + r0)), (1, .int x1)]) C.x C.b dX10_seenFrom_1 rfl hl (by decide) rfl (fun ls hl => ?_)
  refine lv_iconst (v := (0 : Int32)) C.x C.b dX10_seenFrom_2 (by decide) ?_
  refine lv_istore_n (lv' := [(3, .int (0 : Int32)), (2, .int (0 : Int32)), (0, .ref (G.2.2 + r0)), (1, .int x1)]) C.x C.b dX10_seenFrom_3 rfl hl (by decide) rfl (fun ls hl => ?_)
  refine lv_iconst (v := (0 : Int32)) C.x C.b dX10_seenFrom_4 (by decide) ?_
  refine lv_istore (lv' := [(4, .int (0 : Int32)), (3, .int (0 : Int32)), (2, .int (0 : Int32)), (0, .ref (G.2.2 + r0)), (1, .int x1)]) C.x C.b dX10_seenFrom_5 hl (by decide) rfl (fun ls hl => ?_)
  exact w_X10_seenFrom_7 C hr hlk FU _ _ _ _ _ _ hf hR hS t_r0 (lv_sub hl [3, 4, 2, 1, 0] rfl)

def rm_X10_seen : Room := { frames := 5, cells := 0, slots := 0, locals := 125 }
set_option maxRecDepth 100000 in
set_option maxHeartbeats 4000000 in
theorem k_X10_seen {G : Gt} {l : Launch} {h : Hp} {r0 : Nat} {x1 : Int32} {out : (Int32 × Hp)} (t_r0 : hpT h r0 = (1, 10))  (hf : f_X10_seen h r0 x1 = some out) : Mt G l yX10_seen cX10_seen 3 (some .int) rm_X10_seen [.ref (G.2.2 + r0), .int x1] h (some (.int out.1)) out.2 false 0 0 := by
  refine r_met (by decide +kernel) (Nat.le_of_ble_eq_true rfl) ?_
  intro p e s m args below meth c ls C hr hlk hnm hR hS hl
  have hE : Ext h h := Ext.rf
  have hl : lv_has ls 3 [(0, .ref (G.2.2 + r0)), (1, .int x1)] := hl
  rw [f_X10_seen] at hf
  refine lv_aload_n C.x C.b dX10_seen_0 rfl (lv_at hl 0 rfl) ?_
  refine lv_iconst (v := (0 : Int32)) C.x C.b dX10_seen_1 (by decide) ?_
  refine r_puti C hR hS t_r0 fl_X10_103 fp_X10_10_0 rfl dX10_seen_2 (fun H locs hR hS => ?_)
  obtain ⟨h1, e_h1⟩ : ∃ y, y = upI h r0 0 (0 : Int32) := ⟨_, rfl⟩
  rw [← e_h1] at hR
  have hf := lt_e hf e_h1
  have hE := eI e_h1 hE
  have t_r0 := tI e_h1 t_r0
  refine lv_iload_n C.x C.b dX10_seen_5 rfl (lv_at hl 1 rfl) ?_
  refine lv_i2l C.x C.b dX10_seen_6 rfl ?_
  refine lv_lconst (v := (0 : Int64)) C.x C.b dX10_seen_7 (by decide) ?_
  refine lv_aload_n C.x C.b dX10_seen_8 rfl (lv_at hl 0 rfl) ?_
  refine r_geti C hR t_r0 fl_X10_13 rfl dX10_seen_9 ?_
  refine lv_iconst (v := (1 : Int32)) C.x C.b dX10_seen_12 (by decide) ?_
  refine lv_isub C.x C.b dX10_seen_13 ?_
  refine lv_i2l C.x C.b dX10_seen_14 rfl ?_
  obtain ⟨q2, h_q2, hf⟩ := bd_e hf
  refine r_callS (As := [.long (x1.toInt64), .long (0 : Int64), .long (((hpI h1 r0 3) - (1 : Int32)).toInt64)]) (rest := []) C hR hS mk_X10_in cl_X10_117 (k_X10_in h_q2) ⟨⟨Nat.le_of_ble_eq_true rfl, Nat.le_of_ble_eq_true rfl⟩, ⟨rfl, rfl⟩, Nat.le_of_ble_eq_true rfl, Nat.le_of_ble_eq_true rfl⟩ rfl hl.1 rfl (Nat.le_of_ble_eq_true rfl) dX10_seen_15 (fun H locs hR hS hE1 z_q2 => ?_)
  have z_q2 := z_q2 rfl _ rfl
  refine lv_if_ne (tgt := 23) C.x C.b dX10_seen_18 (by decide) (fun c3 => ?_) (fun c3 => ?_)
  · have hf := it_f hf c3
    refine lv_aload_n C.x C.b dX10_seen_23 rfl (lv_at hl 0 rfl) ?_
    refine lv_iload_n C.x C.b dX10_seen_24 rfl (lv_at hl 1 rfl) ?_
    obtain ⟨q4, h_q4, hf⟩ := bd_e hf
    refine r_callV (As := [.int x1]) (rest := []) C hR hS t_r0 rfl mk_X10_seenFrom cl_X10_409 (k_X10_seenFrom t_r0 h_q4) ⟨⟨Nat.le_of_ble_eq_true rfl, Nat.le_of_ble_eq_true rfl⟩, ⟨rfl, rfl⟩, Nat.le_of_ble_eq_true rfl, Nat.le_of_ble_eq_true rfl⟩ rfl hl.1 rfl (Nat.le_of_ble_eq_true rfl) dX10_seen_25 (fun H locs hR hS hE1 z_q4 => ?_)
    refine lv_istore_n (lv' := [(2, .int q4), (0, .ref (G.2.2 + r0)), (1, .int x1)]) C.x C.b dX10_seen_28 rfl hl (by decide) rfl (fun ls hl => ?_)
    refine lv_aload_n C.x C.b dX10_seen_29 rfl (lv_at hl 1 rfl) ?_
    refine lv_iconst (v := (0 : Int32)) C.x C.b dX10_seen_30 (by decide) ?_
    refine r_puti C hR hS t_r0 fl_X10_110 fp_X10_10_1 rfl dX10_seen_31 (fun H locs hR hS => ?_)
    obtain ⟨h5, e_h5⟩ : ∃ y, y = upI h1 r0 1 (0 : Int32) := ⟨_, rfl⟩
    rw [← e_h5] at hR
    have hf := lt_e hf e_h5
    have hE := eI e_h5 hE
    have t_r0 := tI e_h5 t_r0
    refine lv_aload_n C.x C.b dX10_seen_34 rfl (lv_at hl 1 rfl) ?_
    refine lv_iload_n C.x C.b dX10_seen_35 rfl (lv_at hl 0 rfl) ?_
    obtain ⟨q6, h_q6, hf⟩ := bd_e hf
    refine r_callS (As := [.int q4]) (rest := [.ref (G.2.2 + r0)]) C hR hS mk_J6_bitCount_0f7a4 cl_X10_264 (k_J6_bitCount_0f7a4 h_q6) ⟨⟨Nat.le_of_ble_eq_true rfl, Nat.le_of_ble_eq_true rfl⟩, ⟨rfl, rfl⟩, Nat.le_of_ble_eq_true rfl, Nat.le_of_ble_eq_true rfl⟩ rfl hl.1 rfl (Nat.le_of_ble_eq_true rfl) dX10_seen_36 (fun H locs hR hS hE1 z_q6 => ?_)
    refine lv_i2l C.x C.b dX10_seen_39 rfl ?_
    obtain ⟨q7, h_q7, hf⟩ := bd_e hf
    refine r_callV (As := [.long (q6.toInt64)]) (rest := []) C hR hS t_r0 rfl mk_X10_enters cl_X10_339 (k_X10_enters t_r0 h_q7) ⟨⟨Nat.le_of_ble_eq_true rfl, Nat.le_of_ble_eq_true rfl⟩, ⟨rfl, rfl⟩, Nat.le_of_ble_eq_true rfl, Nat.le_of_ble_eq_true rfl⟩ rfl hl.1 rfl (Nat.le_of_ble_eq_true rfl) dX10_seen_40 (fun H locs hR hS hE1 z_q7 => ?_)
    have hE := hE.tr hE1
    have t_r0 := hE1.at t_r0 (by decide)
    refine lv_iload_n C.x C.b dX10_seen_43 rfl (lv_at hl 0 rfl) ?_
    have hf := so_e hf
    subst hf
    exact r_iret C hr hlk hR hE hS dX10_seen_44
  · have hf := it_t hf c3
    refine lv_iconst (v := (-1 : Int32)) C.x C.b dX10_seen_21 (by decide) ?_
    have hf := so_e hf
    subst hf
    exact r_iret C hr hlk hR hE hS dX10_seen_22

def rm_X10_seenBy : Room := { frames := 5, cells := 0, slots := 0, locals := 125 }
def P_X10_seenBy_31 (G : Gt) (l : Launch) (p : Program) (e : Env) (s : State) (m : MethodId) (args : Array Value) (below : List Frame) (meth : Method) (c : Code) (h : Hp) (out : Int32) (r0 : Nat) (x1 : Int32) (k : Int32 → Int32 → Int32 → Option Int32) : Prop := ∀ (H : Heap) (locs : List Loc) (ls : Array Slot) (s0 : Int32) (s1 : Int32) (x3 : Int32), k s0 s1 x3 = some out → Rel G h H → va_S (AA G.2.2) s.heap H locs → hpT h r0 = (1, 10) → lv_has ls 4 [(0, .ref (G.2.2 + r0)), (1, .int x1), (3, .int x3)] → W p l e rm_X10_seenBy s m args below meth c H locs 0 0 (MQ below (Qm G h h (some (.int out)) false) args s 0 0 (AA G.2.2)) (F0 m 31 ls [.int s1, .int s0])
def P_X10_seenBy_4 (G : Gt) (l : Launch) (p : Program) (e : Env) (s : State) (m : MethodId) (args : Array Value) (below : List Frame) (meth : Method) (c : Code) (h : Hp) (out : Int32) (r0 : Nat) (x1 : Int32) (k : Int32 → Int32 → Option Int32) : Prop := ∀ (H : Heap) (locs : List Loc) (ls : Array Slot) (x2 : Int32) (x3 : Int32), k x2 x3 = some out → Rel G h H → va_S (AA G.2.2) s.heap H locs → hpT h r0 = (1, 10) → lv_has ls 4 [(0, .ref (G.2.2 + r0)), (1, .int x1), (2, .int x2), (3, .int x3)] → W p l e rm_X10_seenBy s m args below meth c H locs 0 0 (MQ below (Qm G h h (some (.int out)) false) args s 0 0 (AA G.2.2)) (F0 m 4 ls [])
set_option maxRecDepth 100000 in
set_option maxHeartbeats 4000000 in
theorem w_X10_seenBy_31 {G : Gt} {l : Launch} {p : Program} {e : Env} {s : State} {m : MethodId} {args : Array Value} {below : List Frame} {meth : Method} {c : Code} {h : Hp} {out : Int32} {r0 : Nat} {x1 : Int32} {k4 : Int32 → Int32 → Option Int32} (C : Cx G p m c cX10_seenBy 4 s args RX10) (hr : meth.sig.returnType = some .int) (hlk : meth.locks = false) (hk4 : P_X10_seenBy_4 G l p e s m args below meth c h out r0 x1 k4) : P_X10_seenBy_31 G l p e s m args below meth c h out r0 x1 (f_X10_seenBy_31 h r0 x1 k4) := by
  intro H locs ls s0 s1 x3 hf hR hS t_r0 hl
  rw [f_X10_seenBy_31] at hf
  refine lv_ior C.x C.b dX10_seenBy_31 ?_
  refine lv_topi (fun v5 e_v5 => ?_)
  have hf := lt_e hf e_v5
  refine lv_istore_n (lv' := [(2, .int v5), (0, .ref (G.2.2 + r0)), (1, .int x1), (3, .int x3)]) C.x C.b dX10_seenBy_32 rfl hl (by decide) rfl (fun ls hl => ?_)
  obtain ⟨v6, e_v6⟩ : ∃ y : Int32, y = x3 + (1 : Int32) := ⟨_, rfl⟩
  have hf := lt_e hf e_v6
  refine lv_iinc (v := v6) (lv' := [(3, .int v6), (2, .int v5), (0, .ref (G.2.2 + r0)), (1, .int x1)]) C.x C.b dX10_seenBy_33 hl (k := 3) rfl (by rw [e_v6]; rfl) (by decide) rfl (fun ls hl => ?_)
  refine lv_goto (tgt := 4) C.x C.b dX10_seenBy_36 (by decide) ?_
  exact hk4 _ _ _ _ _ hf hR hS t_r0 (lv_sub hl [2, 3, 1, 0] rfl)
set_option maxRecDepth 100000 in
set_option maxHeartbeats 4000000 in
theorem w_X10_seenBy_4 {G : Gt} {l : Launch} {p : Program} {e : Env} {s : State} {m : MethodId} {args : Array Value} {below : List Frame} {meth : Method} {c : Code} {h : Hp} {out : Int32} {r0 : Nat} {x1 : Int32}  (C : Cx G p m c cX10_seenBy 4 s args RX10) (hr : meth.sig.returnType = some .int) (hlk : meth.locks = false)  (n : Nat) : P_X10_seenBy_4 G l p e s m args below meth c h out r0 x1 (f_X10_seenBy_4 h r0 x1 n) := by
  induction n with
  | zero => intro H locs ls x2 x3 hf hR hS t_r0 hl; cases hf
  | succ n hk4 =>
    intro H locs ls x2 x3 hf hR hS t_r0 hl
    rw [f_X10_seenBy_4] at hf
    obtain ⟨k4, e_k4⟩ : ∃ y, y = f_X10_seenBy_4 h r0 x1 n := ⟨_, rfl⟩
    have hf := lt_e hf e_k4
    rw [← e_k4] at hk4
    refine lv_iload_n C.x C.b dX10_seenBy_4 rfl (lv_at hl 3 rfl) ?_
    refine lv_aload_n C.x C.b dX10_seenBy_5 rfl (lv_at hl 0 rfl) ?_
    refine r_geti C hR t_r0 fl_X10_13 rfl dX10_seenBy_6 ?_
    refine lv_icmp_ge (tgt := 39) C.x C.b dX10_seenBy_9 (by decide) (fun c1 => ?_) (fun c1 => ?_)
    · have hf := it_t hf c1
      refine lv_iload_n C.x C.b dX10_seenBy_39 rfl (lv_at hl 2 rfl) ?_
      have hf := so_e hf
      subst hf
      exact r_iret C hr hlk hR Ext.rf hS dX10_seenBy_40
    · have hf := it_f hf c1
      refine lv_iload_n C.x C.b dX10_seenBy_12 rfl (lv_at hl 2 rfl) ?_
      refine lv_iload_n C.x C.b dX10_seenBy_13 rfl (lv_at hl 1 rfl) ?_
      refine lv_i2l C.x C.b dX10_seenBy_14 rfl ?_
      refine lv_iload_n C.x C.b dX10_seenBy_15 rfl (lv_at hl 3 rfl) ?_
      obtain ⟨q2, h_q2, hf⟩ := bd_e hf
      refine r_callS (As := [.long (x1.toInt64), .int x3]) (rest := [.int x2]) C hR hS mk_X10_has cl_X10_137 (k_X10_has h_q2) ⟨⟨Nat.le_of_ble_eq_true rfl, Nat.le_of_ble_eq_true rfl⟩, ⟨rfl, rfl⟩, Nat.le_of_ble_eq_true rfl, Nat.le_of_ble_eq_true rfl⟩ rfl hl.1 rfl (Nat.le_of_ble_eq_true rfl) dX10_seenBy_16 (fun H locs hR hS hE1 z_q2 => ?_)
      have z_q2 := z_q2 rfl _ rfl
      refine lv_if_eq (tgt := 30) C.x C.b dX10_seenBy_19 (by decide) (fun c3 => ?_) (fun c3 => ?_)
      · have hf := it_t hf c3
        refine lv_iconst (v := (0 : Int32)) C.x C.b dX10_seenBy_30 (by decide) ?_
        exact w_X10_seenBy_31 C hr hlk hk4 _ _ _ _ _ _ hf hR hS t_r0 (lv_sub hl [0, 1, 3] rfl)
      · have hf := it_f hf c3
        refine lv_aload_n C.x C.b dX10_seenBy_22 rfl (lv_at hl 0 rfl) ?_
        refine lv_iload_n C.x C.b dX10_seenBy_23 rfl (lv_at hl 3 rfl) ?_
        obtain ⟨q4, h_q4, hf⟩ := bd_e hf
        refine r_callV (As := [.int x3]) (rest := [.int x2]) C hR hS t_r0 rfl mk_X10_seenFrom cl_X10_409 (k_X10_seenFrom t_r0 h_q4) ⟨⟨Nat.le_of_ble_eq_true rfl, Nat.le_of_ble_eq_true rfl⟩, ⟨rfl, rfl⟩, Nat.le_of_ble_eq_true rfl, Nat.le_of_ble_eq_true rfl⟩ rfl hl.1 rfl (Nat.le_of_ble_eq_true rfl) dX10_seenBy_24 (fun H locs hR hS hE1 z_q4 => ?_)
        refine lv_goto (tgt := 31) C.x C.b dX10_seenBy_27 (by decide) ?_
        exact w_X10_seenBy_31 C hr hlk hk4 _ _ _ _ _ _ hf hR hS t_r0 (lv_sub hl [0, 1, 3] rfl)
set_option maxRecDepth 100000 in
set_option maxHeartbeats 4000000 in
theorem k_X10_seenBy {G : Gt} {l : Launch} {h : Hp} {r0 : Nat} {x1 : Int32} {out : Int32} (t_r0 : hpT h r0 = (1, 10))  (hf : f_X10_seenBy h r0 x1 = some out) : Mt G l yX10_seenBy cX10_seenBy 4 (some .int) rm_X10_seenBy [.ref (G.2.2 + r0), .int x1] h (some (.int out)) h false 0 0 := by
  refine r_met (by decide +kernel) (Nat.le_of_ble_eq_true rfl) ?_
  intro p e s m args below meth c ls C hr hlk hnm hR hS hl
  have hl : lv_has ls 4 [(0, .ref (G.2.2 + r0)), (1, .int x1)] := hl
  rw [f_X10_seenBy] at hf
  refine lv_iconst (v := (0 : Int32)) C.x C.b dX10_seenBy_0 (by decide) ?_
  refine lv_istore_n (lv' := [(2, .int (0 : Int32)), (0, .ref (G.2.2 + r0)), (1, .int x1)]) C.x C.b dX10_seenBy_1 rfl hl (by decide) rfl (fun ls hl => ?_)
  refine lv_iconst (v := (0 : Int32)) C.x C.b dX10_seenBy_2 (by decide) ?_
  refine lv_istore_n (lv' := [(3, .int (0 : Int32)), (2, .int (0 : Int32)), (0, .ref (G.2.2 + r0)), (1, .int x1)]) C.x C.b dX10_seenBy_3 rfl hl (by decide) rfl (fun ls hl => ?_)
  exact w_X10_seenBy_4 C hr hlk FU _ _ _ _ _ hf hR hS t_r0 (lv_sub hl [2, 3, 1, 0] rfl)

def rm_X10_seats : Room := { frames := 6, cells := 0, slots := 0, locals := 148 }
def P_X10_seats_54 (G : Gt) (l : Launch) (p : Program) (e : Env) (s : State) (m : MethodId) (args : Array Value) (below : List Frame) (meth : Method) (c : Code) (h0 : Hp) (out : (Int32 × Hp)) (r0 : Nat) (k : Hp → Int32 → Int32 → Int32 → Option (Int32 × Hp)) : Prop := ∀ (H : Heap) (locs : List Loc) (ls : Array Slot) (h : Hp) (s0 : Int32) (x1 : Int32) (x3 : Int32), k h s0 x1 x3 = some out → Ext h0 h → Rel G h H → va_S (AA G.2.2) s.heap H locs → hpT h r0 = (1, 10) → lv_has ls 4 [(0, .ref (G.2.2 + r0)), (1, .int x1), (3, .int x3)] → W p l e rm_X10_seats s m args below meth c H locs 0 0 (MQ below (Qm G h0 out.2 (some (.int out.1)) false) args s 0 0 (AA G.2.2)) (F0 m 54 ls [.int s0])
def P_X10_seats_53 (G : Gt) (l : Launch) (p : Program) (e : Env) (s : State) (m : MethodId) (args : Array Value) (below : List Frame) (meth : Method) (c : Code) (h0 : Hp) (out : (Int32 × Hp)) (r0 : Nat) (k : Hp → Int32 → Int32 → Int32 → Option (Int32 × Hp)) : Prop := ∀ (H : Heap) (locs : List Loc) (ls : Array Slot) (h : Hp) (x1 : Int32) (x2 : Int32) (x3 : Int32), k h x1 x2 x3 = some out → Ext h0 h → Rel G h H → va_S (AA G.2.2) s.heap H locs → hpT h r0 = (1, 10) → lv_has ls 4 [(0, .ref (G.2.2 + r0)), (1, .int x1), (2, .int x2), (3, .int x3)] → W p l e rm_X10_seats s m args below meth c H locs 0 0 (MQ below (Qm G h0 out.2 (some (.int out.1)) false) args s 0 0 (AA G.2.2)) (F0 m 53 ls [])
def P_X10_seats_22 (G : Gt) (l : Launch) (p : Program) (e : Env) (s : State) (m : MethodId) (args : Array Value) (below : List Frame) (meth : Method) (c : Code) (h0 : Hp) (out : (Int32 × Hp)) (r0 : Nat) (k : Hp → Int32 → Int32 → Int32 → Option (Int32 × Hp)) : Prop := ∀ (H : Heap) (locs : List Loc) (ls : Array Slot) (h : Hp) (x1 : Int32) (x2 : Int32) (x3 : Int32), k h x1 x2 x3 = some out → Ext h0 h → Rel G h H → va_S (AA G.2.2) s.heap H locs → hpT h r0 = (1, 10) → lv_has ls 4 [(0, .ref (G.2.2 + r0)), (1, .int x1), (2, .int x2), (3, .int x3)] → W p l e rm_X10_seats s m args below meth c H locs 0 0 (MQ below (Qm G h0 out.2 (some (.int out.1)) false) args s 0 0 (AA G.2.2)) (F0 m 22 ls [])
set_option maxRecDepth 100000 in
set_option maxHeartbeats 4000000 in
theorem w_X10_seats_54 {G : Gt} {l : Launch} {p : Program} {e : Env} {s : State} {m : MethodId} {args : Array Value} {below : List Frame} {meth : Method} {c : Code} {h0 : Hp} {out : (Int32 × Hp)} {r0 : Nat} {k22 : Hp → Int32 → Int32 → Int32 → Option (Int32 × Hp)} (C : Cx G p m c cX10_seats 4 s args RX10) (hr : meth.sig.returnType = some .int) (hlk : meth.locks = false) (hk22 : P_X10_seats_22 G l p e s m args below meth c h0 out r0 k22) : P_X10_seats_54 G l p e s m args below meth c h0 out r0 (f_X10_seats_54 r0 k22) := by
  intro H locs ls h s0 x1 x3 hf hE hR hS t_r0 hl
  rw [f_X10_seats_54] at hf
  refine lv_istore_n (lv' := [(2, .int s0), (0, .ref (G.2.2 + r0)), (1, .int x1), (3, .int x3)]) C.x C.b dX10_seats_54 rfl hl (by decide) rfl (fun ls hl => ?_)
  obtain ⟨v17, e_v17⟩ : ∃ y : Int32, y = x3 + (1 : Int32) := ⟨_, rfl⟩
  have hf := lt_e hf e_v17
  refine lv_iinc (v := v17) (lv' := [(3, .int v17), (2, .int s0), (0, .ref (G.2.2 + r0)), (1, .int x1)]) C.x C.b dX10_seats_55 hl (k := 3) rfl (by rw [e_v17]; rfl) (by decide) rfl (fun ls hl => ?_)
  refine lv_goto (tgt := 22) C.x C.b dX10_seats_58 (by decide) ?_
  exact hk22 _ _ _ _ _ _ _ hf hE hR hS t_r0 (lv_sub hl [2, 3, 1, 0] rfl)
set_option maxRecDepth 100000 in
set_option maxHeartbeats 4000000 in
theorem w_X10_seats_53 {G : Gt} {l : Launch} {p : Program} {e : Env} {s : State} {m : MethodId} {args : Array Value} {below : List Frame} {meth : Method} {c : Code} {h0 : Hp} {out : (Int32 × Hp)} {r0 : Nat} {k22 : Hp → Int32 → Int32 → Int32 → Option (Int32 × Hp)} (C : Cx G p m c cX10_seats 4 s args RX10) (hr : meth.sig.returnType = some .int) (hlk : meth.locks = false) (hk22 : P_X10_seats_22 G l p e s m args below meth c h0 out r0 k22) : P_X10_seats_53 G l p e s m args below meth c h0 out r0 (f_X10_seats_53 r0 k22) := by
  intro H locs ls h x1 x2 x3 hf hE hR hS t_r0 hl
  rw [f_X10_seats_53] at hf
  refine lv_iload_n C.x C.b dX10_seats_53 rfl (lv_at hl 2 rfl) ?_
  exact w_X10_seats_54 C hr hlk hk22 _ _ _ _ _ _ _ hf hE hR hS t_r0 (lv_sub hl [0, 1, 3] rfl)
set_option maxRecDepth 100000 in
set_option maxHeartbeats 4000000 in
theorem w_X10_seats_22 {G : Gt} {l : Launch} {p : Program} {e : Env} {s : State} {m : MethodId} {args : Array Value} {below : List Frame} {meth : Method} {c : Code} {h0 : Hp} {out : (Int32 × Hp)} {r0 : Nat}  (C : Cx G p m c cX10_seats 4 s args RX10) (hr : meth.sig.returnType = some .int) (hlk : meth.locks = false)  (n : Nat) : P_X10_seats_22 G l p e s m args below meth c h0 out r0 (f_X10_seats_22 r0 n) := by
  induction n with
  | zero => intro H locs ls h x1 x2 x3 hf hE hR hS t_r0 hl; cases hf
  | succ n hk22 =>
    intro H locs ls h x1 x2 x3 hf hE hR hS t_r0 hl
    rw [f_X10_seats_22] at hf
    obtain ⟨k22, e_k22⟩ : ∃ y, y = f_X10_seats_22 r0 n := ⟨_, rfl⟩
    have hf := lt_e hf e_k22
    rw [← e_k22] at hk22
    refine lv_iload_n C.x C.b dX10_seats_22 rfl (lv_at hl 3 rfl) ?_
    refine lv_iconst (v := (1 : Int32)) C.x C.b dX10_seats_23 (by decide) ?_
    refine lv_aload_n C.x C.b dX10_seats_24 rfl (lv_at hl 0 rfl) ?_
    refine r_geti C hR t_r0 fl_X10_13 rfl dX10_seats_25 ?_
    refine lv_ishl C.x C.b dX10_seats_28 ?_
    refine lv_topi (fun v4 e_v4 => ?_)
    have hf := lt_e hf e_v4
    refine lv_icmp_ge (tgt := 61) C.x C.b dX10_seats_29 (by decide) (fun c5 => ?_) (fun c5 => ?_)
    · have hf := it_t hf c5
      refine lv_aload_n C.x C.b dX10_seats_61 rfl (lv_at hl 0 rfl) ?_
      refine lv_iconst (v := (0 : Int32)) C.x C.b dX10_seats_62 (by decide) ?_
      refine r_puti C hR hS t_r0 fl_X10_110 fp_X10_10_1 rfl dX10_seats_63 (fun H locs hR hS => ?_)
      obtain ⟨h6, e_h6⟩ : ∃ y, y = upI h r0 1 (0 : Int32) := ⟨_, rfl⟩
      rw [← e_h6] at hR
      have hf := lt_e hf e_h6
      have hE := eI e_h6 hE
      have t_r0 := tI e_h6 t_r0
      refine lv_aload_n C.x C.b dX10_seats_66 rfl (lv_at hl 0 rfl) ?_
      refine lv_iload_n C.x C.b dX10_seats_67 rfl (lv_at hl 2 rfl) ?_
      refine lv_i2l C.x C.b dX10_seats_68 rfl ?_
      obtain ⟨q7, h_q7, hf⟩ := bd_e hf
      refine r_callV (As := [.long (x2.toInt64)]) (rest := []) C hR hS t_r0 rfl mk_X10_enters cl_X10_339 (k_X10_enters t_r0 h_q7) ⟨⟨Nat.le_of_ble_eq_true rfl, Nat.le_of_ble_eq_true rfl⟩, ⟨rfl, rfl⟩, Nat.le_of_ble_eq_true rfl, Nat.le_of_ble_eq_true rfl⟩ rfl hl.1 rfl (Nat.le_of_ble_eq_true rfl) dX10_seats_69 (fun H locs hR hS hE1 z_q7 => ?_)
      have hE := hE.tr hE1
      have t_r0 := hE1.at t_r0 (by decide)
      refine lv_aload_n C.x C.b dX10_seats_72 rfl (lv_at hl 0 rfl) ?_
      refine lv_aload_n C.x C.b dX10_seats_73 rfl (lv_at hl 0 rfl) ?_
      obtain ⟨g8, hf⟩ := gd_e hf
      refine r_getr C hR t_r0 fl_X10_20 (by decide) (nz_e g8) dX10_seats_74 (fun tq9 => ?_)
      have tg8 := okA tq9 rfl
      obtain ⟨q10, h_q10, hf⟩ := bd_e hf
      refine r_callS (As := [.ref (G.2.2 + (hpR q7 r0 6))]) (rest := [.ref (G.2.2 + r0)]) C hR hS mk_X10_on cl_X10_311 (k_X10_on tg8 h_q10) ⟨⟨Nat.le_of_ble_eq_true rfl, Nat.le_of_ble_eq_true rfl⟩, ⟨rfl, rfl⟩, Nat.le_of_ble_eq_true rfl, Nat.le_of_ble_eq_true rfl⟩ rfl hl.1 rfl (Nat.le_of_ble_eq_true rfl) dX10_seats_77 (fun H locs hR hS hE1 z_q10 => ?_)
      refine lv_iload_n C.x C.b dX10_seats_80 rfl (lv_at hl 1 rfl) ?_
      refine lv_iconst (v := (-1 : Int32)) C.x C.b dX10_seats_81 (by decide) ?_
      refine lv_ixor C.x C.b dX10_seats_82 ?_
      refine lv_iand C.x C.b dX10_seats_83 ?_
      refine lv_i2l C.x C.b dX10_seats_84 rfl ?_
      obtain ⟨q11, h_q11, hf⟩ := bd_e hf
      refine r_callV (As := [.long ((q10 &&& (x1 ^^^ (-1 : Int32))).toInt64)]) (rest := []) C hR hS t_r0 rfl mk_X10_enters cl_X10_339 (k_X10_enters t_r0 h_q11) ⟨⟨Nat.le_of_ble_eq_true rfl, Nat.le_of_ble_eq_true rfl⟩, ⟨rfl, rfl⟩, Nat.le_of_ble_eq_true rfl, Nat.le_of_ble_eq_true rfl⟩ rfl hl.1 rfl (Nat.le_of_ble_eq_true rfl) dX10_seats_85 (fun H locs hR hS hE1 z_q11 => ?_)
      have hE := hE.tr hE1
      have t_r0 := hE1.at t_r0 (by decide)
      refine lv_iload_n C.x C.b dX10_seats_88 rfl (lv_at hl 2 rfl) ?_
      obtain ⟨q12, h_q12, hf⟩ := bd_e hf
      refine r_callS (As := [.int x2]) (rest := []) C hR hS mk_J6_bitCount_0f7a4 cl_X10_264 (k_J6_bitCount_0f7a4 h_q12) ⟨⟨Nat.le_of_ble_eq_true rfl, Nat.le_of_ble_eq_true rfl⟩, ⟨rfl, rfl⟩, Nat.le_of_ble_eq_true rfl, Nat.le_of_ble_eq_true rfl⟩ rfl hl.1 rfl (Nat.le_of_ble_eq_true rfl) dX10_seats_89 (fun H locs hR hS hE1 z_q12 => ?_)
      have hf := so_e hf
      subst hf
      exact r_iret C hr hlk hR hE hS dX10_seats_92
    · have hf := it_f hf c5
      refine lv_iload_n C.x C.b dX10_seats_32 rfl (lv_at hl 3 rfl) ?_
      refine lv_iload_n C.x C.b dX10_seats_33 rfl (lv_at hl 2 rfl) ?_
      obtain ⟨q13, h_q13, hf⟩ := bd_e hf
      refine r_callS (As := [.int x3, .int x2]) (rest := []) C hR hS mk_X10_isFewer cl_X10_393 (k_X10_isFewer h_q13) ⟨⟨Nat.le_of_ble_eq_true rfl, Nat.le_of_ble_eq_true rfl⟩, ⟨rfl, rfl⟩, Nat.le_of_ble_eq_true rfl, Nat.le_of_ble_eq_true rfl⟩ rfl hl.1 rfl (Nat.le_of_ble_eq_true rfl) dX10_seats_34 (fun H locs hR hS hE1 z_q13 => ?_)
      have z_q13 := z_q13 rfl _ rfl
      refine lv_if_eq (tgt := 53) C.x C.b dX10_seats_37 (by decide) (fun c14 => ?_) (fun c14 => ?_)
      · have hf := it_t hf c14
        exact w_X10_seats_53 C hr hlk hk22 _ _ _ _ _ _ _ hf hE hR hS t_r0 (lv_sub hl [0, 1, 2, 3] rfl)
      · have hf := it_f hf c14
        refine lv_aload_n C.x C.b dX10_seats_40 rfl (lv_at hl 0 rfl) ?_
        refine lv_iload_n C.x C.b dX10_seats_41 rfl (lv_at hl 3 rfl) ?_
        obtain ⟨q15, h_q15, hf⟩ := bd_e hf
        refine r_callV (As := [.int x3]) (rest := []) C hR hS t_r0 rfl mk_X10_seenBy cl_X10_412 (k_X10_seenBy t_r0 h_q15) ⟨⟨Nat.le_of_ble_eq_true rfl, Nat.le_of_ble_eq_true rfl⟩, ⟨rfl, rfl⟩, Nat.le_of_ble_eq_true rfl, Nat.le_of_ble_eq_true rfl⟩ rfl hl.1 rfl (Nat.le_of_ble_eq_true rfl) dX10_seats_42 (fun H locs hR hS hE1 z_q15 => ?_)
        refine lv_iload_n C.x C.b dX10_seats_45 rfl (lv_at hl 1 rfl) ?_
        refine lv_icmp_ne (tgt := 53) C.x C.b dX10_seats_46 (by decide) (fun c16 => ?_) (fun c16 => ?_)
        · have hf := it_f hf c16
          exact w_X10_seats_53 C hr hlk hk22 _ _ _ _ _ _ _ hf hE hR hS t_r0 (lv_sub hl [0, 1, 2, 3] rfl)
        · have hf := it_t hf c16
          refine lv_iload_n C.x C.b dX10_seats_49 rfl (lv_at hl 3 rfl) ?_
          refine lv_goto (tgt := 54) C.x C.b dX10_seats_50 (by decide) ?_
          exact w_X10_seats_54 C hr hlk hk22 _ _ _ _ _ _ _ hf hE hR hS t_r0 (lv_sub hl [0, 1, 3] rfl)
set_option maxRecDepth 100000 in
set_option maxHeartbeats 4000000 in
theorem k_X10_seats {G : Gt} {l : Launch} {h : Hp} {r0 : Nat} {out : (Int32 × Hp)} (t_r0 : hpT h r0 = (1, 10))  (hf : f_X10_seats h r0 = some out) : Mt G l yX10_seats cX10_seats 4 (some .int) rm_X10_seats [.ref (G.2.2 + r0)] h (some (.int out.1)) out.2 false 0 0 := by
  refine r_met (by decide +kernel) (Nat.le_of_ble_eq_true rfl) ?_
  intro p e s m args below meth c ls C hr hlk hnm hR hS hl
  have hE : Ext h h := Ext.rf
  have hl : lv_has ls 4 [(0, .ref (G.2.2 + r0))] := hl
  rw [f_X10_seats] at hf
  refine lv_aload_n C.x C.b dX10_seats_0 rfl (lv_at hl 0 rfl) ?_
  refine lv_iconst (v := (0 : Int32)) C.x C.b dX10_seats_1 (by decide) ?_
  refine r_puti C hR hS t_r0 fl_X10_103 fp_X10_10_0 rfl dX10_seats_2 (fun H locs hR hS => ?_)
  obtain ⟨h1, e_h1⟩ : ∃ y, y = upI h r0 0 (0 : Int32) := ⟨_, rfl⟩
  rw [← e_h1] at hR
  have hf := lt_e hf e_h1
  have hE := eI e_h1 hE
  have t_r0 := tI e_h1 t_r0
  refine lv_aload_n C.x C.b dX10_seats_5 rfl (lv_at hl 0 rfl) ?_
  refine lv_iconst (v := (1 : Int32)) C.x C.b dX10_seats_6 (by decide) ?_
  refine lv_aload_n C.x C.b dX10_seats_7 rfl (lv_at hl 0 rfl) ?_
  refine r_geti C hR t_r0 fl_X10_13 rfl dX10_seats_8 ?_
  refine lv_ishl C.x C.b dX10_seats_11 ?_
  refine lv_topi (fun v2 e_v2 => ?_)
  have hf := lt_e hf e_v2
  refine lv_iconst (v := (1 : Int32)) C.x C.b dX10_seats_12 (by decide) ?_
  refine lv_isub C.x C.b dX10_seats_13 ?_
  obtain ⟨q3, h_q3, hf⟩ := bd_e hf
  refine r_callV (As := [.int (v2 - (1 : Int32))]) (rest := []) C hR hS t_r0 rfl mk_X10_seenBy cl_X10_412 (k_X10_seenBy t_r0 h_q3) ⟨⟨Nat.le_of_ble_eq_true rfl, Nat.le_of_ble_eq_true rfl⟩, ⟨rfl, rfl⟩, Nat.le_of_ble_eq_true rfl, Nat.le_of_ble_eq_true rfl⟩ rfl hl.1 rfl (Nat.le_of_ble_eq_true rfl) dX10_seats_14 (fun H locs hR hS hE1 z_q3 => ?_)
  refine lv_istore_n (lv' := [(1, .int q3), (0, .ref (G.2.2 + r0))]) C.x C.b dX10_seats_17 rfl hl (by decide) rfl (fun ls hl => ?_)
  refine lv_iconst (v := (-1 : Int32)) C.x C.b dX10_seats_18 (by decide) ?_
  refine lv_istore_n (lv' := [(2, .int (-1 : Int32)), (1, .int q3), (0, .ref (G.2.2 + r0))]) C.x C.b dX10_seats_19 rfl hl (by decide) rfl (fun ls hl => ?_)
  refine lv_iconst (v := (0 : Int32)) C.x C.b dX10_seats_20 (by decide) ?_
  refine lv_istore_n (lv' := [(3, .int (0 : Int32)), (2, .int (-1 : Int32)), (1, .int q3), (0, .ref (G.2.2 + r0))]) C.x C.b dX10_seats_21 rfl hl (by decide) rfl (fun ls hl => ?_)
  exact w_X10_seats_22 C hr hlk FU _ _ _ _ _ _ _ hf hE hR hS t_r0 (lv_sub hl [3, 2, 1, 0] rfl)

def rm_X10_marked : Room := { frames := 2, cells := 0, slots := 0, locals := 46 }
set_option maxRecDepth 100000 in
set_option maxHeartbeats 4000000 in
theorem k_X10_marked {G : Gt} {l : Launch} {h : Hp} {r0 : Nat} {x1 : Int32} {x2 : Int32} {x3 : Int32} {out : (Int32 × Hp)} (t_r0 : hpT h r0 = (1, 10))  (hf : f_X10_marked h r0 x1 x2 x3 = some out) : Mt G l yX10_marked cX10_marked 4 (some .int) rm_X10_marked [.ref (G.2.2 + r0), .int x1, .int x2, .int x3] h (some (.int out.1)) out.2 false 0 0 := by
  refine r_met (by decide +kernel) (Nat.le_of_ble_eq_true rfl) ?_
  intro p e s m args below meth c ls C hr hlk hnm hR hS hl
  have hE : Ext h h := Ext.rf
  have hl : lv_has ls 4 [(0, .ref (G.2.2 + r0)), (1, .int x1), (2, .int x2), (3, .int x3)] := hl
  rw [f_X10_marked] at hf
  refine lv_aload_n C.x C.b dX10_marked_0 rfl (lv_at hl 0 rfl) ?_
  refine lv_iconst (v := (0 : Int32)) C.x C.b dX10_marked_1 (by decide) ?_
  refine r_puti C hR hS t_r0 fl_X10_103 fp_X10_10_0 rfl dX10_marked_2 (fun H locs hR hS => ?_)
  obtain ⟨h1, e_h1⟩ : ∃ y, y = upI h r0 0 (0 : Int32) := ⟨_, rfl⟩
  rw [← e_h1] at hR
  have hf := lt_e hf e_h1
  have hE := eI e_h1 hE
  have t_r0 := tI e_h1 t_r0
  refine lv_aload_n C.x C.b dX10_marked_5 rfl (lv_at hl 0 rfl) ?_
  refine lv_iload_n C.x C.b dX10_marked_6 rfl (lv_at hl 1 rfl) ?_
  obtain ⟨q2, h_q2, hf⟩ := bd_e hf
  refine r_callV (As := [.int x1]) (rest := []) C hR hS t_r0 rfl mk_X10_isCamp cl_X10_278 (k_X10_isCamp t_r0 h_q2) ⟨⟨Nat.le_of_ble_eq_true rfl, Nat.le_of_ble_eq_true rfl⟩, ⟨rfl, rfl⟩, Nat.le_of_ble_eq_true rfl, Nat.le_of_ble_eq_true rfl⟩ rfl hl.1 rfl (Nat.le_of_ble_eq_true rfl) dX10_marked_7 (fun H locs hR hS hE1 z_q2 => ?_)
  have z_q2 := z_q2 rfl _ rfl
  refine lv_if_eq (tgt := 44) C.x C.b dX10_marked_10 (by decide) (fun c3 => ?_) (fun c3 => ?_)
  · have hf := it_t hf c3
    refine lv_iconst (v := (-1 : Int32)) C.x C.b dX10_marked_44 (by decide) ?_
    have hf := so_e hf
    subst hf
    exact r_iret C hr hlk hR hE hS dX10_marked_45
  · have hf := it_f hf c3
    refine lv_iload_n C.x C.b dX10_marked_13 rfl (lv_at hl 2 rfl) ?_
    refine lv_i2l C.x C.b dX10_marked_14 rfl ?_
    refine lv_lconst (v := (0 : Int64)) C.x C.b dX10_marked_15 (by decide) ?_
    refine lv_ldc2 C.x C.b C.ow (C.ts _ lk_X10_415) dX10_marked_16 ?_
    obtain ⟨q4, h_q4, hf⟩ := bd_e hf
    refine r_callS (As := [.long (x2.toInt64), .long (0 : Int64), .long (30 : Int64)]) (rest := []) C hR hS mk_X10_in cl_X10_117 (k_X10_in h_q4) ⟨⟨Nat.le_of_ble_eq_true rfl, Nat.le_of_ble_eq_true rfl⟩, ⟨rfl, rfl⟩, Nat.le_of_ble_eq_true rfl, Nat.le_of_ble_eq_true rfl⟩ rfl hl.1 rfl (Nat.le_of_ble_eq_true rfl) dX10_marked_19 (fun H locs hR hS hE1 z_q4 => ?_)
    have z_q4 := z_q4 rfl _ rfl
    refine lv_if_eq (tgt := 44) C.x C.b dX10_marked_22 (by decide) (fun c5 => ?_) (fun c5 => ?_)
    · have hf := it_t hf c5
      refine lv_iconst (v := (-1 : Int32)) C.x C.b dX10_marked_44 (by decide) ?_
      have hf := so_e hf
      subst hf
      exact r_iret C hr hlk hR hE hS dX10_marked_45
    · have hf := it_f hf c5
      refine lv_iload_n C.x C.b dX10_marked_25 rfl (lv_at hl 3 rfl) ?_
      refine lv_i2l C.x C.b dX10_marked_26 rfl ?_
      refine lv_lconst (v := (0 : Int64)) C.x C.b dX10_marked_27 (by decide) ?_
      refine lv_lconst (v := (1 : Int64)) C.x C.b dX10_marked_28 (by decide) ?_
      obtain ⟨q6, h_q6, hf⟩ := bd_e hf
      refine r_callS (As := [.long (x3.toInt64), .long (0 : Int64), .long (1 : Int64)]) (rest := []) C hR hS mk_X10_in cl_X10_117 (k_X10_in h_q6) ⟨⟨Nat.le_of_ble_eq_true rfl, Nat.le_of_ble_eq_true rfl⟩, ⟨rfl, rfl⟩, Nat.le_of_ble_eq_true rfl, Nat.le_of_ble_eq_true rfl⟩ rfl hl.1 rfl (Nat.le_of_ble_eq_true rfl) dX10_marked_29 (fun H locs hR hS hE1 z_q6 => ?_)
      have z_q6 := z_q6 rfl _ rfl
      refine lv_if_eq (tgt := 44) C.x C.b dX10_marked_32 (by decide) (fun c7 => ?_) (fun c7 => ?_)
      · have hf := it_t hf c7
        refine lv_iconst (v := (-1 : Int32)) C.x C.b dX10_marked_44 (by decide) ?_
        have hf := so_e hf
        subst hf
        exact r_iret C hr hlk hR hE hS dX10_marked_45
      · have hf := it_f hf c7
        refine lv_aload_n C.x C.b dX10_marked_35 rfl (lv_at hl 0 rfl) ?_
        refine r_geti C hR t_r0 fl_X10_197 rfl dX10_marked_36 ?_
        refine lv_bipush (v := (10 : Int32)) C.x C.b dX10_marked_39 (by decide) ?_
        refine lv_icmp_ne (tgt := 46) C.x C.b dX10_marked_41 (by decide) (fun c8 => ?_) (fun c8 => ?_)
        · have hf := it_f hf c8
          refine lv_aload_n C.x C.b dX10_marked_46 rfl (lv_at hl 0 rfl) ?_
          obtain ⟨g9, hf⟩ := gd_e hf
          refine r_getr C hR t_r0 fl_X10_66 (by decide) (nz_e g9) dX10_marked_47 (fun tq10 => ?_)
          have tg9 := okA tq10 rfl
          refine lv_aload_n C.x C.b dX10_marked_50 rfl (lv_at hl 0 rfl) ?_
          refine r_geti C hR t_r0 fl_X10_197 rfl dX10_marked_51 ?_
          refine lv_iload_n C.x C.b dX10_marked_54 rfl (lv_at hl 1 rfl) ?_
          obtain ⟨g11, hf⟩ := gd_e hf
          refine r_iast C hR hS tg9 g11 dX10_marked_55 (fun H locs hR hS => ?_)
          obtain ⟨h12, e_h12⟩ : ∃ y, y = upI h1 (hpR h1 r0 32) (ix (hpI h1 r0 31)) x1 := ⟨_, rfl⟩
          rw [← e_h12] at hR
          have hf := lt_e hf e_h12
          have hE := eI e_h12 hE
          have t_r0 := tI e_h12 t_r0
          refine lv_aload_n C.x C.b dX10_marked_56 rfl (lv_at hl 0 rfl) ?_
          obtain ⟨g13, hf⟩ := gd_e hf
          refine r_getr C hR t_r0 fl_X10_69 (by decide) (nz_e g13) dX10_marked_57 (fun tq14 => ?_)
          have tg13 := okA tq14 rfl
          refine lv_aload_n C.x C.b dX10_marked_60 rfl (lv_at hl 0 rfl) ?_
          refine r_geti C hR t_r0 fl_X10_197 rfl dX10_marked_61 ?_
          refine lv_iload_n C.x C.b dX10_marked_64 rfl (lv_at hl 2 rfl) ?_
          obtain ⟨g15, hf⟩ := gd_e hf
          refine r_iast C hR hS tg13 g15 dX10_marked_65 (fun H locs hR hS => ?_)
          obtain ⟨h16, e_h16⟩ : ∃ y, y = upI h12 (hpR h12 r0 33) (ix (hpI h12 r0 31)) x2 := ⟨_, rfl⟩
          rw [← e_h16] at hR
          have hf := lt_e hf e_h16
          have hE := eI e_h16 hE
          have t_r0 := tI e_h16 t_r0
          refine lv_aload_n C.x C.b dX10_marked_66 rfl (lv_at hl 0 rfl) ?_
          obtain ⟨g17, hf⟩ := gd_e hf
          refine r_getr C hR t_r0 fl_X10_72 (by decide) (nz_e g17) dX10_marked_67 (fun tq18 => ?_)
          have tg17 := okA tq18 rfl
          refine lv_aload_n C.x C.b dX10_marked_70 rfl (lv_at hl 0 rfl) ?_
          refine r_geti C hR t_r0 fl_X10_197 rfl dX10_marked_71 ?_
          refine lv_iload_n C.x C.b dX10_marked_74 rfl (lv_at hl 3 rfl) ?_
          obtain ⟨g19, hf⟩ := gd_e hf
          refine r_iast C hR hS tg17 g19 dX10_marked_75 (fun H locs hR hS => ?_)
          obtain ⟨h20, e_h20⟩ : ∃ y, y = upI h16 (hpR h16 r0 34) (ix (hpI h16 r0 31)) x3 := ⟨_, rfl⟩
          rw [← e_h20] at hR
          have hf := lt_e hf e_h20
          have hE := eI e_h20 hE
          have t_r0 := tI e_h20 t_r0
          refine lv_aload_n C.x C.b dX10_marked_76 rfl (lv_at hl 0 rfl) ?_
          refine lv_dup C.x C.b dX10_marked_77 rfl ?_
          refine r_geti C hR t_r0 fl_X10_197 rfl dX10_marked_78 ?_
          refine lv_iconst (v := (1 : Int32)) C.x C.b dX10_marked_81 (by decide) ?_
          refine lv_iadd C.x C.b dX10_marked_82 ?_
          refine r_puti C hR hS t_r0 fl_X10_197 fp_X10_10_31 rfl dX10_marked_83 (fun H locs hR hS => ?_)
          obtain ⟨h21, e_h21⟩ : ∃ y, y = upI h20 r0 31 ((hpI h20 r0 31) + (1 : Int32)) := ⟨_, rfl⟩
          rw [← e_h21] at hR
          have hf := lt_e hf e_h21
          have hE := eI e_h21 hE
          have t_r0 := tI e_h21 t_r0
          refine lv_aload_n C.x C.b dX10_marked_86 rfl (lv_at hl 0 rfl) ?_
          refine r_geti C hR t_r0 fl_X10_197 rfl dX10_marked_87 ?_
          have hf := so_e hf
          subst hf
          exact r_iret C hr hlk hR hE hS dX10_marked_90
        · have hf := it_t hf c8
          refine lv_iconst (v := (-1 : Int32)) C.x C.b dX10_marked_44 (by decide) ?_
          have hf := so_e hf
          subst hf
          exact r_iret C hr hlk hR hE hS dX10_marked_45

def rm_X10_wiped : Room := { frames := 0, cells := 0, slots := 0, locals := 0 }
set_option maxRecDepth 100000 in
set_option maxHeartbeats 4000000 in
theorem k_X10_wiped {G : Gt} {l : Launch} {h : Hp} {r0 : Nat} {out : (Int32 × Hp)} (t_r0 : hpT h r0 = (1, 10))  (hf : f_X10_wiped h r0 = some out) : Mt G l yX10_wiped cX10_wiped 2 (some .int) rm_X10_wiped [.ref (G.2.2 + r0)] h (some (.int out.1)) out.2 false 0 0 := by
  refine r_met (by decide +kernel) (Nat.le_of_ble_eq_true rfl) ?_
  intro p e s m args below meth c ls C hr hlk hnm hR hS hl
  have hE : Ext h h := Ext.rf
  have hl : lv_has ls 2 [(0, .ref (G.2.2 + r0))] := hl
  rw [f_X10_wiped] at hf
  refine lv_aload_n C.x C.b dX10_wiped_0 rfl (lv_at hl 0 rfl) ?_
  refine lv_iconst (v := (0 : Int32)) C.x C.b dX10_wiped_1 (by decide) ?_
  refine r_puti C hR hS t_r0 fl_X10_103 fp_X10_10_0 rfl dX10_wiped_2 (fun H locs hR hS => ?_)
  obtain ⟨h1, e_h1⟩ : ∃ y, y = upI h r0 0 (0 : Int32) := ⟨_, rfl⟩
  rw [← e_h1] at hR
  have hf := lt_e hf e_h1
  have hE := eI e_h1 hE
  have t_r0 := tI e_h1 t_r0
  refine lv_aload_n C.x C.b dX10_wiped_5 rfl (lv_at hl 0 rfl) ?_
  refine r_geti C hR t_r0 fl_X10_197 rfl dX10_wiped_6 ?_
  refine lv_topi (fun v2 e_v2 => ?_)
  have hf := lt_e hf e_v2
  refine lv_istore_n (lv' := [(1, .int v2), (0, .ref (G.2.2 + r0))]) C.x C.b dX10_wiped_9 rfl hl (by decide) rfl (fun ls hl => ?_)
  refine lv_aload_n C.x C.b dX10_wiped_10 rfl (lv_at hl 1 rfl) ?_
  refine lv_iconst (v := (0 : Int32)) C.x C.b dX10_wiped_11 (by decide) ?_
  refine r_puti C hR hS t_r0 fl_X10_197 fp_X10_10_31 rfl dX10_wiped_12 (fun H locs hR hS => ?_)
  obtain ⟨h3, e_h3⟩ : ∃ y, y = upI h1 r0 31 (0 : Int32) := ⟨_, rfl⟩
  rw [← e_h3] at hR
  have hf := lt_e hf e_h3
  have hE := eI e_h3 hE
  have t_r0 := tI e_h3 t_r0
  refine lv_iload_n C.x C.b dX10_wiped_15 rfl (lv_at hl 0 rfl) ?_
  have hf := so_e hf
  subst hf
  exact r_iret C hr hlk hR hE hS dX10_wiped_16

def rm_X10_heard : Room := { frames := 1, cells := 0, slots := 0, locals := 25 }
def P_X10_heard_35 (G : Gt) (l : Launch) (p : Program) (e : Env) (s : State) (m : MethodId) (args : Array Value) (below : List Frame) (meth : Method) (c : Code) (h0 : Hp) (out : (Int32 × Hp)) (r0 : Nat) (x1 : Int32) (x2 : Int32) (k : Hp → Int32 → Option (Int32 × Hp)) : Prop := ∀ (H : Heap) (locs : List Loc) (ls : Array Slot) (h : Hp) (s0 : Int32), k h s0 = some out → Ext h0 h → Rel G h H → va_S (AA G.2.2) s.heap H locs → hpT h r0 = (1, 10) → lv_has ls 4 [(0, .ref (G.2.2 + r0)), (1, .int x1), (2, .int x2)] → W p l e rm_X10_heard s m args below meth c H locs 0 0 (MQ below (Qm G h0 out.2 (some (.int out.1)) false) args s 0 0 (AA G.2.2)) (F0 m 35 ls [.int s0])
set_option maxRecDepth 100000 in
set_option maxHeartbeats 4000000 in
theorem w_X10_heard_35 {G : Gt} {l : Launch} {p : Program} {e : Env} {s : State} {m : MethodId} {args : Array Value} {below : List Frame} {meth : Method} {c : Code} {h0 : Hp} {out : (Int32 × Hp)} {r0 : Nat} {x1 : Int32} {x2 : Int32}  (C : Cx G p m c cX10_heard 4 s args RX10) (hr : meth.sig.returnType = some .int) (hlk : meth.locks = false)  : P_X10_heard_35 G l p e s m args below meth c h0 out r0 x1 x2 (f_X10_heard_35 r0 x1 x2) := by
  intro H locs ls h s0 hf hE hR hS t_r0 hl
  rw [f_X10_heard_35] at hf
  refine lv_istore_n (lv' := [(3, .int s0), (0, .ref (G.2.2 + r0)), (1, .int x1), (2, .int x2)]) C.x C.b dX10_heard_35 rfl hl (by decide) rfl (fun ls hl => ?_)
  refine lv_iload_n C.x C.b dX10_heard_36 rfl (lv_at hl 2 rfl) ?_
  refine lv_i2l C.x C.b dX10_heard_37 rfl ?_
  refine lv_lconst (v := (0 : Int64)) C.x C.b dX10_heard_38 (by decide) ?_
  refine lv_ldc2 C.x C.b C.ow (C.ts _ lk_X10_420) dX10_heard_39 ?_
  obtain ⟨q5, h_q5, hf⟩ := bd_e hf
  refine r_callS (As := [.long (x1.toInt64), .long (0 : Int64), .long (4 : Int64)]) (rest := []) C hR hS mk_X10_in cl_X10_117 (k_X10_in h_q5) ⟨⟨Nat.le_of_ble_eq_true rfl, Nat.le_of_ble_eq_true rfl⟩, ⟨rfl, rfl⟩, Nat.le_of_ble_eq_true rfl, Nat.le_of_ble_eq_true rfl⟩ rfl hl.1 rfl (Nat.le_of_ble_eq_true rfl) dX10_heard_42 (fun H locs hR hS hE1 z_q5 => ?_)
  have z_q5 := z_q5 rfl _ rfl
  refine lv_if_eq (tgt := 68) C.x C.b dX10_heard_45 (by decide) (fun c6 => ?_) (fun c6 => ?_)
  · have hf := it_t hf c6
    refine lv_iconst (v := (-1 : Int32)) C.x C.b dX10_heard_68 (by decide) ?_
    have hf := so_e hf
    subst hf
    exact r_iret C hr hlk hR hE hS dX10_heard_69
  · have hf := it_f hf c6
    refine lv_iload_n C.x C.b dX10_heard_48 rfl (lv_at hl 3 rfl) ?_
    refine lv_i2l C.x C.b dX10_heard_49 rfl ?_
    refine lv_lconst (v := (0 : Int64)) C.x C.b dX10_heard_50 (by decide) ?_
    refine lv_iload_n C.x C.b dX10_heard_51 rfl (lv_at hl 0 rfl) ?_
    refine lv_i2l C.x C.b dX10_heard_52 rfl ?_
    obtain ⟨q7, h_q7, hf⟩ := bd_e hf
    refine r_callS (As := [.long (x2.toInt64), .long (0 : Int64), .long (s0.toInt64)]) (rest := []) C hR hS mk_X10_in cl_X10_117 (k_X10_in h_q7) ⟨⟨Nat.le_of_ble_eq_true rfl, Nat.le_of_ble_eq_true rfl⟩, ⟨rfl, rfl⟩, Nat.le_of_ble_eq_true rfl, Nat.le_of_ble_eq_true rfl⟩ rfl hl.1 rfl (Nat.le_of_ble_eq_true rfl) dX10_heard_53 (fun H locs hR hS hE1 z_q7 => ?_)
    have z_q7 := z_q7 rfl _ rfl
    refine lv_if_eq (tgt := 68) C.x C.b dX10_heard_56 (by decide) (fun c8 => ?_) (fun c8 => ?_)
    · have hf := it_t hf c8
      refine lv_iconst (v := (-1 : Int32)) C.x C.b dX10_heard_68 (by decide) ?_
      have hf := so_e hf
      subst hf
      exact r_iret C hr hlk hR hE hS dX10_heard_69
    · have hf := it_f hf c8
      refine lv_aload_n C.x C.b dX10_heard_59 rfl (lv_at hl 1 rfl) ?_
      refine r_geti C hR t_r0 fl_X10_422 rfl dX10_heard_60 ?_
      refine lv_bipush (v := (12 : Int32)) C.x C.b dX10_heard_63 (by decide) ?_
      refine lv_icmp_ne (tgt := 70) C.x C.b dX10_heard_65 (by decide) (fun c9 => ?_) (fun c9 => ?_)
      · have hf := it_f hf c9
        refine lv_aload_n C.x C.b dX10_heard_70 rfl (lv_at hl 1 rfl) ?_
        obtain ⟨g10, hf⟩ := gd_e hf
        refine r_getr C hR t_r0 fl_X10_78 (by decide) (nz_e g10) dX10_heard_71 (fun tq11 => ?_)
        have tg10 := okA tq11 rfl
        refine lv_aload_n C.x C.b dX10_heard_74 rfl (lv_at hl 1 rfl) ?_
        refine r_geti C hR t_r0 fl_X10_422 rfl dX10_heard_75 ?_
        refine lv_iload_n C.x C.b dX10_heard_78 rfl (lv_at hl 2 rfl) ?_
        obtain ⟨g12, hf⟩ := gd_e hf
        refine r_iast C hR hS tg10 g12 dX10_heard_79 (fun H locs hR hS => ?_)
        obtain ⟨h13, e_h13⟩ : ∃ y, y = upI h (hpR h r0 37) (ix (hpI h r0 36)) x1 := ⟨_, rfl⟩
        rw [← e_h13] at hR
        have hf := lt_e hf e_h13
        have hE := eI e_h13 hE
        have t_r0 := tI e_h13 t_r0
        refine lv_aload_n C.x C.b dX10_heard_80 rfl (lv_at hl 1 rfl) ?_
        obtain ⟨g14, hf⟩ := gd_e hf
        refine r_getr C hR t_r0 fl_X10_81 (by decide) (nz_e g14) dX10_heard_81 (fun tq15 => ?_)
        have tg14 := okA tq15 rfl
        refine lv_aload_n C.x C.b dX10_heard_84 rfl (lv_at hl 1 rfl) ?_
        refine r_geti C hR t_r0 fl_X10_422 rfl dX10_heard_85 ?_
        refine lv_iload_n C.x C.b dX10_heard_88 rfl (lv_at hl 3 rfl) ?_
        obtain ⟨g16, hf⟩ := gd_e hf
        refine r_iast C hR hS tg14 g16 dX10_heard_89 (fun H locs hR hS => ?_)
        obtain ⟨h17, e_h17⟩ : ∃ y, y = upI h13 (hpR h13 r0 38) (ix (hpI h13 r0 36)) x2 := ⟨_, rfl⟩
        rw [← e_h17] at hR
        have hf := lt_e hf e_h17
        have hE := eI e_h17 hE
        have t_r0 := tI e_h17 t_r0
        refine lv_aload_n C.x C.b dX10_heard_90 rfl (lv_at hl 1 rfl) ?_
        refine lv_dup C.x C.b dX10_heard_91 rfl ?_
        refine r_geti C hR t_r0 fl_X10_422 rfl dX10_heard_92 ?_
        refine lv_iconst (v := (1 : Int32)) C.x C.b dX10_heard_95 (by decide) ?_
        refine lv_iadd C.x C.b dX10_heard_96 ?_
        refine r_puti C hR hS t_r0 fl_X10_422 fp_X10_10_36 rfl dX10_heard_97 (fun H locs hR hS => ?_)
        obtain ⟨h18, e_h18⟩ : ∃ y, y = upI h17 r0 36 ((hpI h17 r0 36) + (1 : Int32)) := ⟨_, rfl⟩
        rw [← e_h18] at hR
        have hf := lt_e hf e_h18
        have hE := eI e_h18 hE
        have t_r0 := tI e_h18 t_r0
        refine lv_aload_n C.x C.b dX10_heard_100 rfl (lv_at hl 1 rfl) ?_
        refine r_geti C hR t_r0 fl_X10_422 rfl dX10_heard_101 ?_
        have hf := so_e hf
        subst hf
        exact r_iret C hr hlk hR hE hS dX10_heard_104
      · have hf := it_t hf c9
        refine lv_iconst (v := (-1 : Int32)) C.x C.b dX10_heard_68 (by decide) ?_
        have hf := so_e hf
        subst hf
        exact r_iret C hr hlk hR hE hS dX10_heard_69
set_option maxRecDepth 100000 in
set_option maxHeartbeats 4000000 in
theorem k_X10_heard {G : Gt} {l : Launch} {h : Hp} {r0 : Nat} {x1 : Int32} {x2 : Int32} {out : (Int32 × Hp)} (t_r0 : hpT h r0 = (1, 10))  (hf : f_X10_heard h r0 x1 x2 = some out) : Mt G l yX10_heard cX10_heard 4 (some .int) rm_X10_heard [.ref (G.2.2 + r0), .int x1, .int x2] h (some (.int out.1)) out.2 false 0 0 := by
  refine r_met (by decide +kernel) (Nat.le_of_ble_eq_true rfl) ?_
  intro p e s m args below meth c ls C hr hlk hnm hR hS hl
  have hE : Ext h h := Ext.rf
  have hl : lv_has ls 4 [(0, .ref (G.2.2 + r0)), (1, .int x1), (2, .int x2)] := hl
  rw [f_X10_heard] at hf
  refine lv_aload_n C.x C.b dX10_heard_0 rfl (lv_at hl 0 rfl) ?_
  refine lv_iconst (v := (0 : Int32)) C.x C.b dX10_heard_1 (by decide) ?_
  refine r_puti C hR hS t_r0 fl_X10_103 fp_X10_10_0 rfl dX10_heard_2 (fun H locs hR hS => ?_)
  obtain ⟨h1, e_h1⟩ : ∃ y, y = upI h r0 0 (0 : Int32) := ⟨_, rfl⟩
  rw [← e_h1] at hR
  have hf := lt_e hf e_h1
  have hE := eI e_h1 hE
  have t_r0 := tI e_h1 t_r0
  refine lv_iload_n C.x C.b dX10_heard_5 rfl (lv_at hl 1 rfl) ?_
  refine lv_if_ne (tgt := 14) C.x C.b dX10_heard_6 (by decide) (fun c2 => ?_) (fun c2 => ?_)
  · simp only [if_neg c2] at hf
    refine lv_iload_n C.x C.b dX10_heard_14 rfl (lv_at hl 1 rfl) ?_
    refine lv_iconst (v := (3 : Int32)) C.x C.b dX10_heard_15 (by decide) ?_
    refine lv_icmp_ne (tgt := 24) C.x C.b dX10_heard_16 (by decide) (fun c3 => ?_) (fun c3 => ?_)
    · simp only [if_neg c3] at hf
      refine lv_iload_n C.x C.b dX10_heard_24 rfl (lv_at hl 1 rfl) ?_
      refine lv_iconst (v := (4 : Int32)) C.x C.b dX10_heard_25 (by decide) ?_
      refine lv_icmp_ne (tgt := 34) C.x C.b dX10_heard_26 (by decide) (fun c4 => ?_) (fun c4 => ?_)
      · simp only [if_neg c4] at hf
        refine lv_iconst (v := (5 : Int32)) C.x C.b dX10_heard_34 (by decide) ?_
        exact w_X10_heard_35 C hr hlk _ _ _ _ _ hf hE hR hS t_r0 (lv_sub hl [0, 1, 2] rfl)
      · simp only [if_pos c4] at hf
        refine lv_bipush (v := (7 : Int32)) C.x C.b dX10_heard_29 (by decide) ?_
        refine lv_goto (tgt := 35) C.x C.b dX10_heard_31 (by decide) ?_
        exact w_X10_heard_35 C hr hlk _ _ _ _ _ hf hE hR hS t_r0 (lv_sub hl [0, 1, 2] rfl)
    · simp only [if_pos c3] at hf
      refine lv_bipush (v := (99 : Int32)) C.x C.b dX10_heard_19 (by decide) ?_
      refine lv_goto (tgt := 35) C.x C.b dX10_heard_21 (by decide) ?_
      exact w_X10_heard_35 C hr hlk _ _ _ _ _ hf hE hR hS t_r0 (lv_sub hl [0, 1, 2] rfl)
  · simp only [if_pos c2] at hf
    refine lv_bipush (v := (9 : Int32)) C.x C.b dX10_heard_9 (by decide) ?_
    refine lv_goto (tgt := 35) C.x C.b dX10_heard_11 (by decide) ?_
    exact w_X10_heard_35 C hr hlk _ _ _ _ _ hf hE hR hS t_r0 (lv_sub hl [0, 1, 2] rfl)

def rm_X10_forget : Room := { frames := 0, cells := 0, slots := 0, locals := 0 }
set_option maxRecDepth 100000 in
set_option maxHeartbeats 4000000 in
theorem k_X10_forget {G : Gt} {l : Launch} {h : Hp} {r0 : Nat} {out : (Int32 × Hp)} (t_r0 : hpT h r0 = (1, 10))  (hf : f_X10_forget h r0 = some out) : Mt G l yX10_forget cX10_forget 2 (some .int) rm_X10_forget [.ref (G.2.2 + r0)] h (some (.int out.1)) out.2 false 0 0 := by
  refine r_met (by decide +kernel) (Nat.le_of_ble_eq_true rfl) ?_
  intro p e s m args below meth c ls C hr hlk hnm hR hS hl
  have hE : Ext h h := Ext.rf
  have hl : lv_has ls 2 [(0, .ref (G.2.2 + r0))] := hl
  rw [f_X10_forget] at hf
  refine lv_aload_n C.x C.b dX10_forget_0 rfl (lv_at hl 0 rfl) ?_
  refine lv_iconst (v := (0 : Int32)) C.x C.b dX10_forget_1 (by decide) ?_
  refine r_puti C hR hS t_r0 fl_X10_103 fp_X10_10_0 rfl dX10_forget_2 (fun H locs hR hS => ?_)
  obtain ⟨h1, e_h1⟩ : ∃ y, y = upI h r0 0 (0 : Int32) := ⟨_, rfl⟩
  rw [← e_h1] at hR
  have hf := lt_e hf e_h1
  have hE := eI e_h1 hE
  have t_r0 := tI e_h1 t_r0
  refine lv_aload_n C.x C.b dX10_forget_5 rfl (lv_at hl 0 rfl) ?_
  refine r_geti C hR t_r0 fl_X10_422 rfl dX10_forget_6 ?_
  refine lv_topi (fun v2 e_v2 => ?_)
  have hf := lt_e hf e_v2
  refine lv_istore_n (lv' := [(1, .int v2), (0, .ref (G.2.2 + r0))]) C.x C.b dX10_forget_9 rfl hl (by decide) rfl (fun ls hl => ?_)
  refine lv_aload_n C.x C.b dX10_forget_10 rfl (lv_at hl 1 rfl) ?_
  refine lv_iconst (v := (0 : Int32)) C.x C.b dX10_forget_11 (by decide) ?_
  refine r_puti C hR hS t_r0 fl_X10_422 fp_X10_10_36 rfl dX10_forget_12 (fun H locs hR hS => ?_)
  obtain ⟨h3, e_h3⟩ : ∃ y, y = upI h1 r0 36 (0 : Int32) := ⟨_, rfl⟩
  rw [← e_h3] at hR
  have hf := lt_e hf e_h3
  have hE := eI e_h3 hE
  have t_r0 := tI e_h3 t_r0
  refine lv_iload_n C.x C.b dX10_forget_15 rfl (lv_at hl 0 rfl) ?_
  have hf := so_e hf
  subst hf
  exact r_iret C hr hlk hR hE hS dX10_forget_16

def rm_X10_isSo : Room := { frames := 5, cells := 0, slots := 0, locals := 124 }
set_option maxRecDepth 100000 in
set_option maxHeartbeats 4000000 in
theorem k_X10_isSo {G : Gt} {l : Launch} {h : Hp} {r0 : Nat} {x1 : Int32} {x2 : Int32} {x3 : Int32} {out : Int32} (t_r0 : hpT h r0 = (1, 10))  (hf : f_X10_isSo h r0 x1 x2 x3 = some out) : Mt G l yX10_isSo cX10_isSo 4 (some .boolean) rm_X10_isSo [.ref (G.2.2 + r0), .int x1, .int x2, .int x3] h (some (.int out)) h true 0 0 := by
  refine r_met (by decide +kernel) (Nat.le_of_ble_eq_true rfl) ?_
  intro p e s m args below meth c ls C hr hlk hnm hR hS hl
  have hl : lv_has ls 4 [(0, .ref (G.2.2 + r0)), (1, .int x1), (2, .int x2), (3, .int x3)] := hl
  rw [f_X10_isSo] at hf
  refine lv_iload_n C.x C.b dX10_isSo_0 rfl (lv_at hl 2 rfl) ?_
  by_cases c29_0 : x2 = (0 : Int32)
  · have hf := it_t hf c29_0
    refine lv_tableIn (tgt := 32) C.x C.b dX10_isSo_1 (by rw [c29_0]; decide) (by rw [c29_0]; decide) (by rw [c29_0]; rfl) (by decide) ?_
    refine lv_aload_n C.x C.b dX10_isSo_32 rfl (lv_at hl 0 rfl) ?_
    obtain ⟨g1, hf⟩ := gd_e hf
    refine r_getr C hR t_r0 fl_X10_20 (by decide) (nz_e g1) dX10_isSo_33 (fun tq2 => ?_)
    have tg1 := okA tq2 rfl
    refine lv_bipush (v := (24 : Int32)) C.x C.b dX10_isSo_36 (by decide) ?_
    refine lv_iload_n C.x C.b dX10_isSo_38 rfl (lv_at hl 1 rfl) ?_
    refine lv_iadd C.x C.b dX10_isSo_39 ?_
    obtain ⟨g3, hf⟩ := gd_e hf
    refine r_iald C hR tg1 g3 dX10_isSo_40 ?_
    refine lv_iload_n C.x C.b dX10_isSo_41 rfl (lv_at hl 3 rfl) ?_
    refine lv_icmp_gt (tgt := 49) C.x C.b dX10_isSo_42 (by decide) (fun c4 => ?_) (fun c4 => ?_)
    · have hf := it_t hf c4
      refine lv_iconst (v := (0 : Int32)) C.x C.b dX10_isSo_49 (by decide) ?_
      have hf := so_e hf
      subst hf
      exact r_zret C hr hlk hR Ext.rf hS z_0 dX10_isSo_50
    · have hf := it_f hf c4
      refine lv_iconst (v := (1 : Int32)) C.x C.b dX10_isSo_45 (by decide) ?_
      refine lv_goto (tgt := 50) C.x C.b dX10_isSo_46 (by decide) ?_
      have hf := so_e hf
      subst hf
      exact r_zret C hr hlk hR Ext.rf hS z_1 dX10_isSo_50
  have hf := it_f hf c29_0
  by_cases c29_1 : x2 = (1 : Int32)
  · have hf := it_t hf c29_1
    refine lv_tableIn (tgt := 51) C.x C.b dX10_isSo_1 (by rw [c29_1]; decide) (by rw [c29_1]; decide) (by rw [c29_1]; rfl) (by decide) ?_
    refine lv_iload_n C.x C.b dX10_isSo_51 rfl (lv_at hl 3 rfl) ?_
    refine lv_aload_n C.x C.b dX10_isSo_52 rfl (lv_at hl 0 rfl) ?_
    obtain ⟨g5, hf⟩ := gd_e hf
    refine r_getr C hR t_r0 fl_X10_20 (by decide) (nz_e g5) dX10_isSo_53 (fun tq6 => ?_)
    have tg5 := okA tq6 rfl
    refine lv_iload_n C.x C.b dX10_isSo_56 rfl (lv_at hl 1 rfl) ?_
    obtain ⟨g7, hf⟩ := gd_e hf
    refine r_iald C hR tg5 g7 dX10_isSo_57 ?_
    refine lv_aload_n C.x C.b dX10_isSo_58 rfl (lv_at hl 0 rfl) ?_
    refine r_geti C hR t_r0 fl_X10_17 rfl dX10_isSo_59 ?_
    obtain ⟨g8, hf⟩ := gd_e hf
    refine lv_idiv C.x C.b dX10_isSo_62 (nz32_e g8) ?_
    refine lv_isub C.x C.b dX10_isSo_63 ?_
    refine lv_i2l C.x C.b dX10_isSo_64 rfl ?_
    refine lv_lconst (v := (0 : Int64)) C.x C.b dX10_isSo_65 (by decide) ?_
    refine lv_aload_n C.x C.b dX10_isSo_66 rfl (lv_at hl 0 rfl) ?_
    refine r_getr C hR t_r0 fl_X10_20 (by decide) (nz_e g5) dX10_isSo_67 (fun tq9 => ?_)
    refine lv_bipush (v := (8 : Int32)) C.x C.b dX10_isSo_70 (by decide) ?_
    refine lv_iload_n C.x C.b dX10_isSo_72 rfl (lv_at hl 1 rfl) ?_
    refine lv_iadd C.x C.b dX10_isSo_73 ?_
    obtain ⟨g10, hf⟩ := gd_e hf
    refine r_iald C hR tg5 g10 dX10_isSo_74 ?_
    refine lv_iconst (v := (1 : Int32)) C.x C.b dX10_isSo_75 (by decide) ?_
    refine lv_isub C.x C.b dX10_isSo_76 ?_
    refine lv_i2l C.x C.b dX10_isSo_77 rfl ?_
    obtain ⟨q11, h_q11, hf⟩ := bd_e hf
    refine r_callS (As := [.long ((x3 - ((hpI h (hpR h r0 6) (ix x1)) / (hpI h r0 4))).toInt64), .long (0 : Int64), .long (((hpI h (hpR h r0 6) (ix ((8 : Int32) + x1))) - (1 : Int32)).toInt64)]) (rest := []) C hR hS mk_X10_in cl_X10_117 (k_X10_in h_q11) ⟨⟨Nat.le_of_ble_eq_true rfl, Nat.le_of_ble_eq_true rfl⟩, ⟨rfl, rfl⟩, Nat.le_of_ble_eq_true rfl, Nat.le_of_ble_eq_true rfl⟩ rfl hl.1 rfl (Nat.le_of_ble_eq_true rfl) dX10_isSo_78 (fun H locs hR hS hE1 z_q11 => ?_)
    have z_q11 := z_q11 rfl _ rfl
    have hf := so_e hf
    subst hf
    exact r_zret C hr hlk hR Ext.rf hS z_q11 dX10_isSo_81
  have hf := it_f hf c29_1
  by_cases c29_2 : x2 = (2 : Int32)
  · have hf := it_t hf c29_2
    refine lv_tableIn (tgt := 82) C.x C.b dX10_isSo_1 (by rw [c29_2]; decide) (by rw [c29_2]; decide) (by rw [c29_2]; rfl) (by decide) ?_
    refine lv_iload_n C.x C.b dX10_isSo_82 rfl (lv_at hl 3 rfl) ?_
    refine lv_aload_n C.x C.b dX10_isSo_83 rfl (lv_at hl 0 rfl) ?_
    obtain ⟨g12, hf⟩ := gd_e hf
    refine r_getr C hR t_r0 fl_X10_20 (by decide) (nz_e g12) dX10_isSo_84 (fun tq13 => ?_)
    have tg12 := okA tq13 rfl
    refine lv_iload_n C.x C.b dX10_isSo_87 rfl (lv_at hl 1 rfl) ?_
    obtain ⟨g14, hf⟩ := gd_e hf
    refine r_iald C hR tg12 g14 dX10_isSo_88 ?_
    refine lv_aload_n C.x C.b dX10_isSo_89 rfl (lv_at hl 0 rfl) ?_
    refine r_geti C hR t_r0 fl_X10_17 rfl dX10_isSo_90 ?_
    obtain ⟨g15, hf⟩ := gd_e hf
    refine lv_irem C.x C.b dX10_isSo_93 (nz32_e g15) ?_
    refine lv_topi (fun v16 e_v16 => ?_)
    have hf := lt_e hf e_v16
    refine lv_isub C.x C.b dX10_isSo_94 ?_
    refine lv_i2l C.x C.b dX10_isSo_95 rfl ?_
    refine lv_lconst (v := (0 : Int64)) C.x C.b dX10_isSo_96 (by decide) ?_
    refine lv_aload_n C.x C.b dX10_isSo_97 rfl (lv_at hl 0 rfl) ?_
    refine r_getr C hR t_r0 fl_X10_20 (by decide) (nz_e g12) dX10_isSo_98 (fun tq17 => ?_)
    refine lv_bipush (v := (16 : Int32)) C.x C.b dX10_isSo_101 (by decide) ?_
    refine lv_iload_n C.x C.b dX10_isSo_103 rfl (lv_at hl 1 rfl) ?_
    refine lv_iadd C.x C.b dX10_isSo_104 ?_
    obtain ⟨g18, hf⟩ := gd_e hf
    refine r_iald C hR tg12 g18 dX10_isSo_105 ?_
    refine lv_iconst (v := (1 : Int32)) C.x C.b dX10_isSo_106 (by decide) ?_
    refine lv_isub C.x C.b dX10_isSo_107 ?_
    refine lv_i2l C.x C.b dX10_isSo_108 rfl ?_
    obtain ⟨q19, h_q19, hf⟩ := bd_e hf
    refine r_callS (As := [.long ((x3 - v16).toInt64), .long (0 : Int64), .long (((hpI h (hpR h r0 6) (ix ((16 : Int32) + x1))) - (1 : Int32)).toInt64)]) (rest := []) C hR hS mk_X10_in cl_X10_117 (k_X10_in h_q19) ⟨⟨Nat.le_of_ble_eq_true rfl, Nat.le_of_ble_eq_true rfl⟩, ⟨rfl, rfl⟩, Nat.le_of_ble_eq_true rfl, Nat.le_of_ble_eq_true rfl⟩ rfl hl.1 rfl (Nat.le_of_ble_eq_true rfl) dX10_isSo_109 (fun H locs hR hS hE1 z_q19 => ?_)
    have z_q19 := z_q19 rfl _ rfl
    have hf := so_e hf
    subst hf
    exact r_zret C hr hlk hR Ext.rf hS z_q19 dX10_isSo_112
  have hf := it_f hf c29_2
  by_cases c29_3 : x2 = (3 : Int32)
  · have hf := it_t hf c29_3
    refine lv_tableIn (tgt := 113) C.x C.b dX10_isSo_1 (by rw [c29_3]; decide) (by rw [c29_3]; decide) (by rw [c29_3]; rfl) (by decide) ?_
    refine lv_aload_n C.x C.b dX10_isSo_113 rfl (lv_at hl 0 rfl) ?_
    obtain ⟨g20, hf⟩ := gd_e hf
    refine r_getr C hR t_r0 fl_X10_20 (by decide) (nz_e g20) dX10_isSo_114 (fun tq21 => ?_)
    have tg20 := okA tq21 rfl
    refine lv_bipush (v := (40 : Int32)) C.x C.b dX10_isSo_117 (by decide) ?_
    refine lv_iload_n C.x C.b dX10_isSo_119 rfl (lv_at hl 1 rfl) ?_
    refine lv_iadd C.x C.b dX10_isSo_120 ?_
    obtain ⟨g22, hf⟩ := gd_e hf
    refine r_iald C hR tg20 g22 dX10_isSo_121 ?_
    refine lv_iload_n C.x C.b dX10_isSo_122 rfl (lv_at hl 3 rfl) ?_
    refine lv_icmp_lt (tgt := 130) C.x C.b dX10_isSo_123 (by decide) (fun c23 => ?_) (fun c23 => ?_)
    · have hf := it_t hf c23
      refine lv_iconst (v := (0 : Int32)) C.x C.b dX10_isSo_130 (by decide) ?_
      have hf := so_e hf
      subst hf
      exact r_zret C hr hlk hR Ext.rf hS z_0 dX10_isSo_131
    · have hf := it_f hf c23
      refine lv_iconst (v := (1 : Int32)) C.x C.b dX10_isSo_126 (by decide) ?_
      refine lv_goto (tgt := 131) C.x C.b dX10_isSo_127 (by decide) ?_
      have hf := so_e hf
      subst hf
      exact r_zret C hr hlk hR Ext.rf hS z_1 dX10_isSo_131
  have hf := it_f hf c29_3
  refine lv_tableOut (tgt := 132) C.x C.b dX10_isSo_1 (tb_out 4 (by decide) (fun j hj => match j, hj with | 0, _ => fun q => c29_0 (q.trans (by decide)) | 1, _ => fun q => c29_1 (q.trans (by decide)) | 2, _ => fun q => c29_2 (q.trans (by decide)) | 3, _ => fun q => c29_3 (q.trans (by decide)) | n + 4, hn => absurd hn (by omega))) (by decide) ?_
  refine lv_aload_n C.x C.b dX10_isSo_132 rfl (lv_at hl 0 rfl) ?_
  refine lv_aload_n C.x C.b dX10_isSo_133 rfl (lv_at hl 0 rfl) ?_
  obtain ⟨g24, hf⟩ := gd_e hf
  refine r_getr C hR t_r0 fl_X10_20 (by decide) (nz_e g24) dX10_isSo_134 (fun tq25 => ?_)
  have tg24 := okA tq25 rfl
  refine lv_iload_n C.x C.b dX10_isSo_137 rfl (lv_at hl 1 rfl) ?_
  obtain ⟨q26, h_q26, hf⟩ := bd_e hf
  refine r_callV (As := [.ref (G.2.2 + (hpR h r0 6)), .int x1]) (rest := []) C hR hS t_r0 rfl mk_X10_crossing cl_X10_260 (k_X10_crossing t_r0 tg24 h_q26) ⟨⟨Nat.le_of_ble_eq_true rfl, Nat.le_of_ble_eq_true rfl⟩, ⟨rfl, rfl⟩, Nat.le_of_ble_eq_true rfl, Nat.le_of_ble_eq_true rfl⟩ rfl hl.1 rfl (Nat.le_of_ble_eq_true rfl) dX10_isSo_138 (fun H locs hR hS hE1 z_q26 => ?_)
  obtain ⟨q27, h_q27, hf⟩ := bd_e hf
  refine r_callS (As := [.int q26]) (rest := []) C hR hS mk_J6_bitCount_0f7a4 cl_X10_264 (k_J6_bitCount_0f7a4 h_q27) ⟨⟨Nat.le_of_ble_eq_true rfl, Nat.le_of_ble_eq_true rfl⟩, ⟨rfl, rfl⟩, Nat.le_of_ble_eq_true rfl, Nat.le_of_ble_eq_true rfl⟩ rfl hl.1 rfl (Nat.le_of_ble_eq_true rfl) dX10_isSo_141 (fun H locs hR hS hE1 z_q27 => ?_)
  refine lv_iload_n C.x C.b dX10_isSo_144 rfl (lv_at hl 3 rfl) ?_
  refine lv_icmp_lt (tgt := 152) C.x C.b dX10_isSo_145 (by decide) (fun c28 => ?_) (fun c28 => ?_)
  · have hf := it_t hf c28
    refine lv_iconst (v := (0 : Int32)) C.x C.b dX10_isSo_152 (by decide) ?_
    have hf := so_e hf
    subst hf
    exact r_zret C hr hlk hR Ext.rf hS z_0 dX10_isSo_153
  · have hf := it_f hf c28
    refine lv_iconst (v := (1 : Int32)) C.x C.b dX10_isSo_148 (by decide) ?_
    refine lv_goto (tgt := 153) C.x C.b dX10_isSo_149 (by decide) ?_
    have hf := so_e hf
    subst hf
    exact r_zret C hr hlk hR Ext.rf hS z_1 dX10_isSo_153

def rm_X10_fits : Room := { frames := 6, cells := 0, slots := 0, locals := 147 }
def P_X10_fits_72 (G : Gt) (l : Launch) (p : Program) (e : Env) (s : State) (m : MethodId) (args : Array Value) (below : List Frame) (meth : Method) (c : Code) (h0 : Hp) (out : (Int32 × Hp)) (r0 : Nat) (k : Hp → Int32 → Int32 → Int32 → Int32 → Option (Int32 × Hp)) : Prop := ∀ (H : Heap) (locs : List Loc) (ls : Array Slot) (h : Hp) (s0 : Int32) (x1 : Int32) (x2 : Int32) (x4 : Int32), k h s0 x1 x2 x4 = some out → Ext h0 h → Rel G h H → va_S (AA G.2.2) s.heap H locs → hpT h r0 = (1, 10) → narrow .boolean (.int s0) = .int s0 → lv_has ls 5 [(0, .ref (G.2.2 + r0)), (1, .int x1), (2, .int x2), (4, .int x4)] → W p l e rm_X10_fits s m args below meth c H locs 0 0 (MQ below (Qm G h0 out.2 (some (.int out.1)) false) args s 0 0 (AA G.2.2)) (F0 m 72 ls [.int s0])
def P_X10_fits_71 (G : Gt) (l : Launch) (p : Program) (e : Env) (s : State) (m : MethodId) (args : Array Value) (below : List Frame) (meth : Method) (c : Code) (h0 : Hp) (out : (Int32 × Hp)) (r0 : Nat) (k : Hp → Int32 → Int32 → Int32 → Option (Int32 × Hp)) : Prop := ∀ (H : Heap) (locs : List Loc) (ls : Array Slot) (h : Hp) (x1 : Int32) (x2 : Int32) (x4 : Int32), k h x1 x2 x4 = some out → Ext h0 h → Rel G h H → va_S (AA G.2.2) s.heap H locs → hpT h r0 = (1, 10) → lv_has ls 5 [(0, .ref (G.2.2 + r0)), (1, .int x1), (2, .int x2), (4, .int x4)] → W p l e rm_X10_fits s m args below meth c H locs 0 0 (MQ below (Qm G h0 out.2 (some (.int out.1)) false) args s 0 0 (AA G.2.2)) (F0 m 71 ls [])
def P_X10_fits_91 (G : Gt) (l : Launch) (p : Program) (e : Env) (s : State) (m : MethodId) (args : Array Value) (below : List Frame) (meth : Method) (c : Code) (h0 : Hp) (out : (Int32 × Hp)) (r0 : Nat) (k : Hp → Int32 → Int32 → Int32 → Option (Int32 × Hp)) : Prop := ∀ (H : Heap) (locs : List Loc) (ls : Array Slot) (h : Hp) (s0 : Int32) (s1 : Int32) (x2 : Int32), k h s0 s1 x2 = some out → Ext h0 h → Rel G h H → va_S (AA G.2.2) s.heap H locs → hpT h r0 = (1, 10) → lv_has ls 5 [(0, .ref (G.2.2 + r0)), (2, .int x2)] → W p l e rm_X10_fits s m args below meth c H locs 0 0 (MQ below (Qm G h0 out.2 (some (.int out.1)) false) args s 0 0 (AA G.2.2)) (F0 m 91 ls [.int s1, .int s0])
def P_X10_fits_32 (G : Gt) (l : Launch) (p : Program) (e : Env) (s : State) (m : MethodId) (args : Array Value) (below : List Frame) (meth : Method) (c : Code) (h0 : Hp) (out : (Int32 × Hp)) (r0 : Nat) (k : Hp → Int32 → Int32 → Int32 → Int32 → Option (Int32 × Hp)) : Prop := ∀ (H : Heap) (locs : List Loc) (ls : Array Slot) (h : Hp) (x1 : Int32) (x2 : Int32) (x3 : Int32) (x4 : Int32), k h x1 x2 x3 x4 = some out → Ext h0 h → Rel G h H → va_S (AA G.2.2) s.heap H locs → hpT h r0 = (1, 10) → narrow .boolean (.int x3) = .int x3 → lv_has ls 5 [(0, .ref (G.2.2 + r0)), (1, .int x1), (2, .int x2), (3, .int x3), (4, .int x4)] → W p l e rm_X10_fits s m args below meth c H locs 0 0 (MQ below (Qm G h0 out.2 (some (.int out.1)) false) args s 0 0 (AA G.2.2)) (F0 m 32 ls [])
def P_X10_fits_9 (G : Gt) (l : Launch) (p : Program) (e : Env) (s : State) (m : MethodId) (args : Array Value) (below : List Frame) (meth : Method) (c : Code) (h0 : Hp) (out : (Int32 × Hp)) (r0 : Nat) (k : Hp → Int32 → Int32 → Option (Int32 × Hp)) : Prop := ∀ (H : Heap) (locs : List Loc) (ls : Array Slot) (h : Hp) (x1 : Int32) (x2 : Int32), k h x1 x2 = some out → Ext h0 h → Rel G h H → va_S (AA G.2.2) s.heap H locs → hpT h r0 = (1, 10) → lv_has ls 5 [(0, .ref (G.2.2 + r0)), (1, .int x1), (2, .int x2)] → W p l e rm_X10_fits s m args below meth c H locs 0 0 (MQ below (Qm G h0 out.2 (some (.int out.1)) false) args s 0 0 (AA G.2.2)) (F0 m 9 ls [])
set_option maxRecDepth 100000 in
set_option maxHeartbeats 4000000 in
theorem w_X10_fits_72 {G : Gt} {l : Launch} {p : Program} {e : Env} {s : State} {m : MethodId} {args : Array Value} {below : List Frame} {meth : Method} {c : Code} {h0 : Hp} {out : (Int32 × Hp)} {r0 : Nat} {k9 : Hp → Int32 → Int32 → Option (Int32 × Hp)} {k32 : Hp → Int32 → Int32 → Int32 → Int32 → Option (Int32 × Hp)} (C : Cx G p m c cX10_fits 5 s args RX10) (hr : meth.sig.returnType = some .int) (hlk : meth.locks = false) (hk9 : P_X10_fits_9 G l p e s m args below meth c h0 out r0 k9) (hk32 : P_X10_fits_32 G l p e s m args below meth c h0 out r0 k32) : P_X10_fits_72 G l p e s m args below meth c h0 out r0 (f_X10_fits_72 r0 k9 k32) := by
  intro H locs ls h s0 x1 x2 x4 hf hE hR hS t_r0 z_s0 hl
  rw [f_X10_fits_72] at hf
  refine lv_istore_n (lv' := [(3, .int s0), (0, .ref (G.2.2 + r0)), (1, .int x1), (2, .int x2), (4, .int x4)]) C.x C.b dX10_fits_72 rfl hl (by decide) rfl (fun ls hl => ?_)
  obtain ⟨v23, e_v23⟩ : ∃ y : Int32, y = x4 + (1 : Int32) := ⟨_, rfl⟩
  have hf := lt_e hf e_v23
  refine lv_iinc (v := v23) (lv' := [(4, .int v23), (3, .int s0), (0, .ref (G.2.2 + r0)), (1, .int x1), (2, .int x2)]) C.x C.b dX10_fits_73 hl (k := 4) rfl (by rw [e_v23]; rfl) (by decide) rfl (fun ls hl => ?_)
  refine lv_goto (tgt := 32) C.x C.b dX10_fits_76 (by decide) ?_
  exact hk32 _ _ _ _ _ _ _ _ hf hE hR hS t_r0 z_s0 (lv_sub hl [2, 3, 4, 1, 0] rfl)
set_option maxRecDepth 100000 in
set_option maxHeartbeats 4000000 in
theorem w_X10_fits_71 {G : Gt} {l : Launch} {p : Program} {e : Env} {s : State} {m : MethodId} {args : Array Value} {below : List Frame} {meth : Method} {c : Code} {h0 : Hp} {out : (Int32 × Hp)} {r0 : Nat} {k9 : Hp → Int32 → Int32 → Option (Int32 × Hp)} {k32 : Hp → Int32 → Int32 → Int32 → Int32 → Option (Int32 × Hp)} (C : Cx G p m c cX10_fits 5 s args RX10) (hr : meth.sig.returnType = some .int) (hlk : meth.locks = false) (hk9 : P_X10_fits_9 G l p e s m args below meth c h0 out r0 k9) (hk32 : P_X10_fits_32 G l p e s m args below meth c h0 out r0 k32) : P_X10_fits_71 G l p e s m args below meth c h0 out r0 (f_X10_fits_71 r0 k9 k32) := by
  intro H locs ls h x1 x2 x4 hf hE hR hS t_r0 hl
  rw [f_X10_fits_71] at hf
  refine lv_iconst (v := (0 : Int32)) C.x C.b dX10_fits_71 (by decide) ?_
  exact w_X10_fits_72 C hr hlk hk9 hk32 _ _ _ _ _ _ _ _ hf hE hR hS t_r0 z_0 (lv_sub hl [0, 1, 2, 3] rfl)
set_option maxRecDepth 100000 in
set_option maxHeartbeats 4000000 in
theorem w_X10_fits_91 {G : Gt} {l : Launch} {p : Program} {e : Env} {s : State} {m : MethodId} {args : Array Value} {below : List Frame} {meth : Method} {c : Code} {h0 : Hp} {out : (Int32 × Hp)} {r0 : Nat} {k9 : Hp → Int32 → Int32 → Option (Int32 × Hp)} (C : Cx G p m c cX10_fits 5 s args RX10) (hr : meth.sig.returnType = some .int) (hlk : meth.locks = false) (hk9 : P_X10_fits_9 G l p e s m args below meth c h0 out r0 k9) : P_X10_fits_91 G l p e s m args below meth c h0 out r0 (f_X10_fits_91 r0 k9) := by
  intro H locs ls h s0 s1 x2 hf hE hR hS t_r0 hl
  rw [f_X10_fits_91] at hf
  refine lv_ior C.x C.b dX10_fits_91 ?_
  refine lv_topi (fun v24 e_v24 => ?_)
  have hf := lt_e hf e_v24
  refine lv_istore_n (lv' := [(1, .int v24), (0, .ref (G.2.2 + r0)), (2, .int x2)]) C.x C.b dX10_fits_92 rfl hl (by decide) rfl (fun ls hl => ?_)
  obtain ⟨v25, e_v25⟩ : ∃ y : Int32, y = x2 + (1 : Int32) := ⟨_, rfl⟩
  have hf := lt_e hf e_v25
  refine lv_iinc (v := v25) (lv' := [(2, .int v25), (1, .int v24), (0, .ref (G.2.2 + r0))]) C.x C.b dX10_fits_93 hl (k := 2) rfl (by rw [e_v25]; rfl) (by decide) rfl (fun ls hl => ?_)
  refine lv_goto (tgt := 9) C.x C.b dX10_fits_96 (by decide) ?_
  exact hk9 _ _ _ _ _ _ hf hE hR hS t_r0 (lv_sub hl [2, 1, 0] rfl)
set_option maxRecDepth 100000 in
set_option maxHeartbeats 4000000 in
theorem w_X10_fits_32 {G : Gt} {l : Launch} {p : Program} {e : Env} {s : State} {m : MethodId} {args : Array Value} {below : List Frame} {meth : Method} {c : Code} {h0 : Hp} {out : (Int32 × Hp)} {r0 : Nat} {k9 : Hp → Int32 → Int32 → Option (Int32 × Hp)} (C : Cx G p m c cX10_fits 5 s args RX10) (hr : meth.sig.returnType = some .int) (hlk : meth.locks = false) (hk9 : P_X10_fits_9 G l p e s m args below meth c h0 out r0 k9) (n : Nat) : P_X10_fits_32 G l p e s m args below meth c h0 out r0 (f_X10_fits_32 r0 k9 n) := by
  induction n with
  | zero => intro H locs ls h x1 x2 x3 x4 hf hE hR hS t_r0 z_x3 hl; cases hf
  | succ n hk32 =>
    intro H locs ls h x1 x2 x3 x4 hf hE hR hS t_r0 z_x3 hl
    rw [f_X10_fits_32] at hf
    obtain ⟨k32, e_k32⟩ : ∃ y, y = f_X10_fits_32 r0 k9 n := ⟨_, rfl⟩
    have hf := lt_e hf e_k32
    rw [← e_k32] at hk32
    refine lv_iload C.x C.b dX10_fits_32 (lv_at hl 4 rfl) ?_
    refine lv_aload_n C.x C.b dX10_fits_34 rfl (lv_at hl 0 rfl) ?_
    refine r_geti C hR t_r0 fl_X10_422 rfl dX10_fits_35 ?_
    refine lv_icmp_ge (tgt := 79) C.x C.b dX10_fits_38 (by decide) (fun c11 => ?_) (fun c11 => ?_)
    · have hf := it_t hf c11
      refine lv_iload_n C.x C.b dX10_fits_79 rfl (lv_at hl 1 rfl) ?_
      refine lv_iload_n C.x C.b dX10_fits_80 rfl (lv_at hl 3 rfl) ?_
      refine lv_if_eq (tgt := 90) C.x C.b dX10_fits_81 (by decide) (fun c12 => ?_) (fun c12 => ?_)
      · have hf := it_t hf c12
        refine lv_iconst (v := (0 : Int32)) C.x C.b dX10_fits_90 (by decide) ?_
        exact w_X10_fits_91 C hr hlk hk9 _ _ _ _ _ _ _ hf hE hR hS t_r0 (lv_sub hl [0, 2] rfl)
      · have hf := it_f hf c12
        refine lv_iconst (v := (1 : Int32)) C.x C.b dX10_fits_84 (by decide) ?_
        refine lv_iload_n C.x C.b dX10_fits_85 rfl (lv_at hl 2 rfl) ?_
        refine lv_ishl C.x C.b dX10_fits_86 ?_
        refine lv_topi (fun v13 e_v13 => ?_)
        have hf := lt_e hf e_v13
        refine lv_goto (tgt := 91) C.x C.b dX10_fits_87 (by decide) ?_
        exact w_X10_fits_91 C hr hlk hk9 _ _ _ _ _ _ _ hf hE hR hS t_r0 (lv_sub hl [0, 2] rfl)
    · have hf := it_f hf c11
      refine lv_iload_n C.x C.b dX10_fits_41 rfl (lv_at hl 3 rfl) ?_
      refine lv_if_eq (tgt := 71) C.x C.b dX10_fits_42 (by decide) (fun c14 => ?_) (fun c14 => ?_)
      · have hf := it_t hf c14
        exact w_X10_fits_71 C hr hlk hk9 hk32 _ _ _ _ _ _ _ hf hE hR hS t_r0 (lv_sub hl [0, 1, 2, 4] rfl)
      · have hf := it_f hf c14
        refine lv_aload_n C.x C.b dX10_fits_45 rfl (lv_at hl 0 rfl) ?_
        refine lv_iload_n C.x C.b dX10_fits_46 rfl (lv_at hl 2 rfl) ?_
        refine lv_aload_n C.x C.b dX10_fits_47 rfl (lv_at hl 0 rfl) ?_
        obtain ⟨g15, hf⟩ := gd_e hf
        refine r_getr C hR t_r0 fl_X10_78 (by decide) (nz_e g15) dX10_fits_48 (fun tq16 => ?_)
        have tg15 := okA tq16 rfl
        refine lv_iload C.x C.b dX10_fits_51 (lv_at hl 4 rfl) ?_
        obtain ⟨g17, hf⟩ := gd_e hf
        refine r_iald C hR tg15 g17 dX10_fits_53 ?_
        refine lv_aload_n C.x C.b dX10_fits_54 rfl (lv_at hl 0 rfl) ?_
        obtain ⟨g18, hf⟩ := gd_e hf
        refine r_getr C hR t_r0 fl_X10_81 (by decide) (nz_e g18) dX10_fits_55 (fun tq19 => ?_)
        have tg18 := okA tq19 rfl
        refine lv_iload C.x C.b dX10_fits_58 (lv_at hl 4 rfl) ?_
        obtain ⟨g20, hf⟩ := gd_e hf
        refine r_iald C hR tg18 g20 dX10_fits_60 ?_
        obtain ⟨q21, h_q21, hf⟩ := bd_e hf
        refine r_callV (As := [.int x2, .int (hpI h (hpR h r0 37) (ix x4)), .int (hpI h (hpR h r0 38) (ix x4))]) (rest := []) C hR hS t_r0 rfl mk_X10_isSo cl_X10_425 (k_X10_isSo t_r0 h_q21) ⟨⟨Nat.le_of_ble_eq_true rfl, Nat.le_of_ble_eq_true rfl⟩, ⟨rfl, rfl⟩, Nat.le_of_ble_eq_true rfl, Nat.le_of_ble_eq_true rfl⟩ rfl hl.1 rfl (Nat.le_of_ble_eq_true rfl) dX10_fits_61 (fun H locs hR hS hE1 z_q21 => ?_)
        have z_q21 := z_q21 rfl _ rfl
        refine lv_if_eq (tgt := 71) C.x C.b dX10_fits_64 (by decide) (fun c22 => ?_) (fun c22 => ?_)
        · have hf := it_t hf c22
          exact w_X10_fits_71 C hr hlk hk9 hk32 _ _ _ _ _ _ _ hf hE hR hS t_r0 (lv_sub hl [0, 1, 2, 4] rfl)
        · have hf := it_f hf c22
          refine lv_iconst (v := (1 : Int32)) C.x C.b dX10_fits_67 (by decide) ?_
          refine lv_goto (tgt := 72) C.x C.b dX10_fits_68 (by decide) ?_
          exact w_X10_fits_72 C hr hlk hk9 hk32 _ _ _ _ _ _ _ _ hf hE hR hS t_r0 z_1 (lv_sub hl [0, 1, 2, 4] rfl)
set_option maxRecDepth 100000 in
set_option maxHeartbeats 4000000 in
theorem w_X10_fits_9 {G : Gt} {l : Launch} {p : Program} {e : Env} {s : State} {m : MethodId} {args : Array Value} {below : List Frame} {meth : Method} {c : Code} {h0 : Hp} {out : (Int32 × Hp)} {r0 : Nat}  (C : Cx G p m c cX10_fits 5 s args RX10) (hr : meth.sig.returnType = some .int) (hlk : meth.locks = false)  (n : Nat) : P_X10_fits_9 G l p e s m args below meth c h0 out r0 (f_X10_fits_9 r0 n) := by
  induction n with
  | zero => intro H locs ls h x1 x2 hf hE hR hS t_r0 hl; cases hf
  | succ n hk9 =>
    intro H locs ls h x1 x2 hf hE hR hS t_r0 hl
    rw [f_X10_fits_9] at hf
    obtain ⟨k9, e_k9⟩ : ∃ y, y = f_X10_fits_9 r0 n := ⟨_, rfl⟩
    have hf := lt_e hf e_k9
    rw [← e_k9] at hk9
    refine lv_iload_n C.x C.b dX10_fits_9 rfl (lv_at hl 2 rfl) ?_
    refine lv_aload_n C.x C.b dX10_fits_10 rfl (lv_at hl 0 rfl) ?_
    obtain ⟨g2, hf⟩ := gd_e hf
    refine r_getr C hR t_r0 fl_X10_20 (by decide) (nz_e g2) dX10_fits_11 (fun tq3 => ?_)
    have tg2 := okA tq3 rfl
    refine lv_bipush (v := (48 : Int32)) C.x C.b dX10_fits_14 (by decide) ?_
    obtain ⟨g4, hf⟩ := gd_e hf
    refine r_iald C hR tg2 g4 dX10_fits_16 ?_
    refine lv_icmp_ge (tgt := 99) C.x C.b dX10_fits_17 (by decide) (fun c5 => ?_) (fun c5 => ?_)
    · have hf := it_t hf c5
      refine lv_aload_n C.x C.b dX10_fits_99 rfl (lv_at hl 0 rfl) ?_
      refine lv_iconst (v := (0 : Int32)) C.x C.b dX10_fits_100 (by decide) ?_
      refine r_puti C hR hS t_r0 fl_X10_110 fp_X10_10_1 rfl dX10_fits_101 (fun H locs hR hS => ?_)
      obtain ⟨h6, e_h6⟩ : ∃ y, y = upI h r0 1 (0 : Int32) := ⟨_, rfl⟩
      rw [← e_h6] at hR
      have hf := lt_e hf e_h6
      have hE := eI e_h6 hE
      have t_r0 := tI e_h6 t_r0
      refine lv_aload_n C.x C.b dX10_fits_104 rfl (lv_at hl 0 rfl) ?_
      refine lv_iload_n C.x C.b dX10_fits_105 rfl (lv_at hl 1 rfl) ?_
      obtain ⟨q7, h_q7, hf⟩ := bd_e hf
      refine r_callS (As := [.int x1]) (rest := [.ref (G.2.2 + r0)]) C hR hS mk_J6_bitCount_0f7a4 cl_X10_264 (k_J6_bitCount_0f7a4 h_q7) ⟨⟨Nat.le_of_ble_eq_true rfl, Nat.le_of_ble_eq_true rfl⟩, ⟨rfl, rfl⟩, Nat.le_of_ble_eq_true rfl, Nat.le_of_ble_eq_true rfl⟩ rfl hl.1 rfl (Nat.le_of_ble_eq_true rfl) dX10_fits_106 (fun H locs hR hS hE1 z_q7 => ?_)
      refine lv_i2l C.x C.b dX10_fits_109 rfl ?_
      obtain ⟨q8, h_q8, hf⟩ := bd_e hf
      refine r_callV (As := [.long (q7.toInt64)]) (rest := []) C hR hS t_r0 rfl mk_X10_enters cl_X10_339 (k_X10_enters t_r0 h_q8) ⟨⟨Nat.le_of_ble_eq_true rfl, Nat.le_of_ble_eq_true rfl⟩, ⟨rfl, rfl⟩, Nat.le_of_ble_eq_true rfl, Nat.le_of_ble_eq_true rfl⟩ rfl hl.1 rfl (Nat.le_of_ble_eq_true rfl) dX10_fits_110 (fun H locs hR hS hE1 z_q8 => ?_)
      have hE := hE.tr hE1
      have t_r0 := hE1.at t_r0 (by decide)
      refine lv_iload_n C.x C.b dX10_fits_113 rfl (lv_at hl 1 rfl) ?_
      have hf := so_e hf
      subst hf
      exact r_iret C hr hlk hR hE hS dX10_fits_114
    · have hf := it_f hf c5
      refine lv_aload_n C.x C.b dX10_fits_20 rfl (lv_at hl 0 rfl) ?_
      refine r_getr C hR t_r0 fl_X10_20 (by decide) (nz_e g2) dX10_fits_21 (fun tq9 => ?_)
      refine lv_iload_n C.x C.b dX10_fits_24 rfl (lv_at hl 2 rfl) ?_
      obtain ⟨q10, h_q10, hf⟩ := bd_e hf
      refine r_callS (As := [.ref (G.2.2 + (hpR h r0 6)), .int x2]) (rest := []) C hR hS mk_X10_isOn cl_X10_129 (k_X10_isOn tg2 h_q10) ⟨⟨Nat.le_of_ble_eq_true rfl, Nat.le_of_ble_eq_true rfl⟩, ⟨rfl, rfl⟩, Nat.le_of_ble_eq_true rfl, Nat.le_of_ble_eq_true rfl⟩ rfl hl.1 rfl (Nat.le_of_ble_eq_true rfl) dX10_fits_25 (fun H locs hR hS hE1 z_q10 => ?_)
      have z_q10 := z_q10 rfl _ rfl
      refine lv_istore_n (lv' := [(3, .int q10), (0, .ref (G.2.2 + r0)), (1, .int x1), (2, .int x2)]) C.x C.b dX10_fits_28 rfl hl (by decide) rfl (fun ls hl => ?_)
      refine lv_iconst (v := (0 : Int32)) C.x C.b dX10_fits_29 (by decide) ?_
      refine lv_istore (lv' := [(4, .int (0 : Int32)), (3, .int q10), (0, .ref (G.2.2 + r0)), (1, .int x1), (2, .int x2)]) C.x C.b dX10_fits_30 hl (by decide) rfl (fun ls hl => ?_)
      exact w_X10_fits_32 C hr hlk hk9 FU _ _ _ _ _ _ _ _ hf hE hR hS t_r0 z_q10 (lv_sub hl [2, 3, 4, 1, 0] rfl)
set_option maxRecDepth 100000 in
set_option maxHeartbeats 4000000 in
theorem k_X10_fits {G : Gt} {l : Launch} {h : Hp} {r0 : Nat} {out : (Int32 × Hp)} (t_r0 : hpT h r0 = (1, 10))  (hf : f_X10_fits h r0 = some out) : Mt G l yX10_fits cX10_fits 5 (some .int) rm_X10_fits [.ref (G.2.2 + r0)] h (some (.int out.1)) out.2 false 0 0 := by
  refine r_met (by decide +kernel) (Nat.le_of_ble_eq_true rfl) ?_
  intro p e s m args below meth c ls C hr hlk hnm hR hS hl
  have hE : Ext h h := Ext.rf
  have hl : lv_has ls 5 [(0, .ref (G.2.2 + r0))] := hl
  rw [f_X10_fits] at hf
  refine lv_aload_n C.x C.b dX10_fits_0 rfl (lv_at hl 0 rfl) ?_
  refine lv_iconst (v := (0 : Int32)) C.x C.b dX10_fits_1 (by decide) ?_
  refine r_puti C hR hS t_r0 fl_X10_103 fp_X10_10_0 rfl dX10_fits_2 (fun H locs hR hS => ?_)
  obtain ⟨h1, e_h1⟩ : ∃ y, y = upI h r0 0 (0 : Int32) := ⟨_, rfl⟩
  rw [← e_h1] at hR
  have hf := lt_e hf e_h1
  have hE := eI e_h1 hE
  have t_r0 := tI e_h1 t_r0
  refine lv_iconst (v := (0 : Int32)) C.x C.b dX10_fits_5 (by decide) ?_
  refine lv_istore_n (lv' := [(1, .int (0 : Int32)), (0, .ref (G.2.2 + r0))]) C.x C.b dX10_fits_6 rfl hl (by decide) rfl (fun ls hl => ?_)
  refine lv_iconst (v := (0 : Int32)) C.x C.b dX10_fits_7 (by decide) ?_
  refine lv_istore_n (lv' := [(2, .int (0 : Int32)), (1, .int (0 : Int32)), (0, .ref (G.2.2 + r0))]) C.x C.b dX10_fits_8 rfl hl (by decide) rfl (fun ls hl => ?_)
  exact w_X10_fits_9 C hr hlk FU _ _ _ _ _ _ hf hE hR hS t_r0 (lv_sub hl [2, 1, 0] rfl)

